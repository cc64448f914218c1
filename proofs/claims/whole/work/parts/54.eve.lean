-- ===== evenings: rows by numbers, what they are worth =====
def RW_ (s : Sg_) (m : Nat) (r : List Nat) : Prop := r.length = m ∧ wok_ (may_ s) r
/-- a row by its number -/
def rr_ (s : Sg_) : Nat → Nat → List Nat
  | 0, _ => []
  | m + 1, x => (MA_ s).getD (x / (MA_ s).length ^ m) 0 :: rr_ s m (x % (MA_ s).length ^ m)
theorem MA_get {s : Sg_} {i : Nat} (hi : i < (MA_ s).length) : (MA_ s)[i]? = some ((MA_ s).getD i 0) := by
  rw [List.getD_eq_getElem?_getD, List.getElem?_eq_getElem hi]
  rfl
theorem MA_ok {s : Sg_} {i : Nat} (hi : i < (MA_ s).length) : (MA_ s).getD i 0 < 6 ∧ may_ s ((MA_ s).getD i 0) = true := MA_mem.mp (List.mem_of_getElem? (MA_get hi))
theorem MA_sort (s : Sg_) : (MA_ s).Pairwise (fun a b => a < b) := List.Pairwise.filter _ List.pairwise_lt_range
theorem MA_mono {s : Sg_} {i j : Nat} (hij : i < j) (hj : j < (MA_ s).length) : (MA_ s).getD i 0 < (MA_ s).getD j 0 := by
  have h := List.pairwise_iff_getElem.mp (MA_sort s) i j (by omega) hj hij
  have e1 := MA_get (s := s) (show i < (MA_ s).length by omega)
  have e2 := MA_get hj
  rw [List.getElem?_eq_getElem (by omega)] at e1
  rw [List.getElem?_eq_getElem hj] at e2
  rw [← Option.some.inj e1, ← Option.some.inj e2]
  exact h
theorem rr_dig {b m x : Nat} (hx : x < b ^ (m + 1)) : x / b ^ m < b ∧ 0 < b ^ m := by
  have h0 : 0 < b ^ m := by
    rcases Nat.eq_zero_or_pos (b ^ m) with z | z
    · rw [Nat.pow_succ, z, Nat.zero_mul] at hx
      omega
    · exact z
  refine ⟨Nat.div_lt_of_lt_mul ?_, h0⟩
  rw [Nat.pow_succ] at hx
  exact hx
theorem rr_ok {s : Sg_} : ∀ m x, x < (MA_ s).length ^ m → RW_ s m (rr_ s m x)
  | 0, _, _ => ⟨rfl, wok_nil _⟩
  | m + 1, x, hx => by
    obtain ⟨h1, h2⟩ := rr_dig hx
    have ih := rr_ok m (x % (MA_ s).length ^ m) (Nat.mod_lt _ h2)
    refine ⟨congrArg (· + 1) ih.1, fun f hf => ?_⟩
    rcases List.mem_cons.mp hf with z | z
    · rw [z]; exact MA_ok h1
    · exact ih.2 f z
theorem va_near : ∀ u v : List Nat, u.length = v.length → (∀ f ∈ u, f < 6) → va_w u < 6 ^ u.length + va_w v
  | [], [], _, _ => by decide
  | [], _ :: _, h, _ => by cases h
  | _ :: _, [], h, _ => by cases h
  | f :: u, g :: v, h, hu => by
    have hl : u.length = v.length := Nat.succ.inj h
    have ih := va_near u v hl (fun x hx => hu x (List.mem_cons_of_mem _ hx))
    have hf := hu f List.mem_cons_self
    show (f + 1) * 6 ^ u.length + va_w u < 6 ^ (u.length + 1) + ((g + 1) * 6 ^ v.length + va_w v)
    rw [← hl, Nat.pow_succ]
    have h1 : (f + 1) * 6 ^ u.length ≤ 6 * 6 ^ u.length := Nat.mul_le_mul_right _ (by omega)
    have h2 : 1 * 6 ^ u.length ≤ (g + 1) * 6 ^ u.length := Nat.mul_le_mul_right _ (by omega)
    omega
theorem rr_mono {s : Sg_} : ∀ m x y, x < y → y < (MA_ s).length ^ m → va_w (rr_ s m x) < va_w (rr_ s m y)
  | 0, x, y, h, hy => by
    have : y < 1 := hy
    omega
  | m + 1, x, y, h, hy => by
    have hx : x < (MA_ s).length ^ (m + 1) := by omega
    obtain ⟨x1, x2⟩ := rr_dig hx
    obtain ⟨y1, _⟩ := rr_dig hy
    have rx := rr_ok (s := s) m (x % (MA_ s).length ^ m) (Nat.mod_lt _ x2)
    have ry := rr_ok (s := s) m (y % (MA_ s).length ^ m) (Nat.mod_lt _ x2)
    show ((MA_ s).getD (x / (MA_ s).length ^ m) 0 + 1) * 6 ^ (rr_ s m (x % (MA_ s).length ^ m)).length + va_w (rr_ s m (x % (MA_ s).length ^ m)) < ((MA_ s).getD (y / (MA_ s).length ^ m) 0 + 1) * 6 ^ (rr_ s m (y % (MA_ s).length ^ m)).length + va_w (rr_ s m (y % (MA_ s).length ^ m))
    have hn := va_near (rr_ s m (x % (MA_ s).length ^ m)) (rr_ s m (y % (MA_ s).length ^ m)) (rx.1.trans ry.1.symm) (fun f hf => (rx.2 f hf).1)
    rw [rx.1] at hn
    rw [rx.1, ry.1]
    rcases Nat.lt_trichotomy (x / (MA_ s).length ^ m) (y / (MA_ s).length ^ m) with z | z | z
    · have hm := MA_mono z y1
      have h1 : ((MA_ s).getD (x / (MA_ s).length ^ m) 0 + 1 + 1) * 6 ^ m ≤ ((MA_ s).getD (y / (MA_ s).length ^ m) 0 + 1) * 6 ^ m := Nat.mul_le_mul_right _ (by omega)
      rw [Nat.add_mul _ 1, Nat.one_mul] at h1
      omega
    · rw [z]
      have hxy : x % (MA_ s).length ^ m < y % (MA_ s).length ^ m := by
        have e1 := Nat.div_add_mod x ((MA_ s).length ^ m)
        have e2 := Nat.div_add_mod y ((MA_ s).length ^ m)
        rw [z] at e1
        omega
      have := rr_mono m _ _ hxy (Nat.mod_lt y x2)
      omega
    · have := Nat.div_le_div_right (c := (MA_ s).length ^ m) (Nat.le_of_lt h)
      omega
theorem rr_surj {s : Sg_} : ∀ m r, RW_ s m r → ∃ x, x < (MA_ s).length ^ m ∧ rr_ s m x = r
  | 0, r, h => ⟨0, Nat.one_pos, (List.length_eq_zero_iff.mp h.1).symm⟩
  | m + 1, [], h => by have := h.1; cases this
  | m + 1, f :: r, h => by
    obtain ⟨x, h1, h2⟩ := rr_surj m r ⟨Nat.succ.inj h.1, fun g hg => h.2 g (List.mem_cons_of_mem _ hg)⟩
    obtain ⟨i, hi⟩ := List.getElem?_of_mem (MA_mem.mpr (h.2 f List.mem_cons_self))
    have hil := (List.getElem?_eq_some_iff.mp hi).1
    have hg := MA_get hil
    rw [hi] at hg
    have hlt : i * (MA_ s).length ^ m + x < (MA_ s).length ^ (m + 1) := by
      have a1 : (i + 1) * (MA_ s).length ^ m ≤ (MA_ s).length * (MA_ s).length ^ m := Nat.mul_le_mul_right _ (by omega)
      rw [Nat.pow_succ, Nat.mul_comm _ (MA_ s).length]
      rw [Nat.add_mul, Nat.one_mul] at a1
      omega
    refine ⟨i * (MA_ s).length ^ m + x, hlt, ?_⟩
    have p0 : 0 < (MA_ s).length ^ m := by omega
    show (MA_ s).getD ((i * (MA_ s).length ^ m + x) / (MA_ s).length ^ m) 0 :: rr_ s m ((i * (MA_ s).length ^ m + x) % (MA_ s).length ^ m) = f :: r
    rw [Nat.mul_comm i, Nat.mul_add_div p0, Nat.div_eq_of_lt h1, Nat.add_zero, Nat.mul_add_mod, Nat.mod_eq_of_lt h1, h2, ← Option.some.inj hg]
/-- the i-th figure of a row, by the number -/
theorem rr_get {s : Sg_} : ∀ m x i, x < (MA_ s).length ^ m → i < m → (rr_ s m x).getD i 0 = (MA_ s).getD (x / (MA_ s).length ^ (m - 1 - i) % (MA_ s).length) 0
  | 0, _, i, _, h => absurd h (Nat.not_lt_zero i)
  | m + 1, x, 0, hx, _ => by
    obtain ⟨x1, x2⟩ := rr_dig hx
    show (MA_ s).getD (x / (MA_ s).length ^ m) 0 = _
    rw [show m + 1 - 1 - 0 = m by omega, Nat.mod_eq_of_lt x1]
  | m + 1, x, i + 1, hx, hi => by
    obtain ⟨x1, x2⟩ := rr_dig hx
    have ih := rr_get (s := s) m (x % (MA_ s).length ^ m) i (Nat.mod_lt _ x2) (by omega)
    show (rr_ s m (x % (MA_ s).length ^ m)).getD i 0 = _
    rw [ih, show m + 1 - 1 - (i + 1) = m - 1 - i by omega]
    refine congrArg (fun z => (MA_ s).getD z 0) ?_
    obtain ⟨k, hk⟩ : ∃ k, m = k + 1 + (m - 1 - i) := ⟨i, by omega⟩
    have e : (MA_ s).length ^ m = (MA_ s).length ^ (m - 1 - i) * ((MA_ s).length * (MA_ s).length ^ k) := by
      rw [show (MA_ s).length * (MA_ s).length ^ k = (MA_ s).length ^ (k + 1) by rw [Nat.pow_succ, Nat.mul_comm], ← Nat.pow_add]
      exact congrArg (fun z => (MA_ s).length ^ z) (by omega)
    rw [e, Nat.mod_mul_right_div_self, Nat.mod_mul_right_mod]
-- what a row is worth
def wi_ (s : Sg_) (k : Nat) : Nat × Nat × Nat := (sg_wi s).getD k (0, 0, 0)
theorem wi_get {s : Sg_} {k : Nat} (hk : k < (sg_wi s).length) : (sg_wi s)[k]? = some (wi_ s k) := by
  unfold wi_
  rw [List.getD_eq_getElem?_getD, List.getElem?_eq_getElem hk]
  rfl
/-- which of the first k wishes hold, as bits -/
def hk_ (s : Sg_) (u : Nat → Nat) : Nat → Nat
  | 0 => 0
  | k + 1 => hk_ s u k ||| (if u (wi_ s k).2.1 = (wi_ s k).2.2 then 2 ^ k else 0)
theorem hk_lt (s : Sg_) (u : Nat → Nat) : ∀ k, hk_ s u k < 2 ^ k
  | 0 => Nat.one_pos
  | k + 1 => by
    have ih := hk_lt s u k
    unfold hk_
    refine Nat.or_lt_two_pow (Nat.lt_of_lt_of_le ih (Nat.pow_le_pow_right (by decide) (by omega))) ?_
    split
    · exact Nat.pow_lt_pow_right (by decide) (by omega)
    · exact Nat.two_pow_pos _
def hb_ (s : Sg_) (u : Nat → Nat) : Nat := hk_ s u (sg_wi s).length
theorem hb_64 {s : Sg_} (w : sg_wf s) (u : Nat → Nat) : hb_ s u < 64 := Nat.lt_of_lt_of_le (hk_lt s u _) (show 2 ^ (sg_wi s).length ≤ 2 ^ 6 from Nat.pow_le_pow_right (by decide) (wi_len w))
/-- the bits at a row's end -/
def hr_ (s : Sg_) : (Nat → Nat) → Nat → List Nat → Nat
  | _, b, [] => b
  | u, b, f :: r => hr_ s (fun g => mv_ s f (u g)) (b ||| hb_ s (fun g => mv_ s f (u g))) r
theorem hr_64 {s : Sg_} (w : sg_wf s) : ∀ r u b, b < 64 → hr_ s u b r < 64
  | [], _, _, h => h
  | f :: r, u, b, h => hr_64 w r _ _ (Nat.or_lt_two_pow (n := 6) h (hb_64 w _))
/-- the worth of bits, of the first k wishes -/
def wk_ (s : Sg_) (b : Nat) : Nat → Nat
  | 0 => 0
  | k + 1 => wk_ s b k + (if b.testBit k then (wi_ s k).1 else 0)
theorem wk_le {s : Sg_} (w : sg_wf s) (b : Nat) : ∀ k, k ≤ (sg_wi s).length → wk_ s b k ≤ 99 * k
  | 0, _ => Nat.zero_le _
  | k + 1, hk => by
    have ih := wk_le w b k (by omega)
    have := (w.2.2.2.2.2.2.2.2.2.2.2.2 _ (List.mem_of_getElem? (wi_get (s := s) (k := k) (by omega)))).1.2
    unfold wk_
    split <;> omega
/-- what a row is worth -/
def wo_ (s : Sg_) (r : List Nat) : Nat := wk_ s (hr_ s (sg_pos s) (hb_ s (sg_pos s)) r) (sg_wi s).length
/-- the row that serves most -/
def SV_ (s : Sg_) (m : Nat) (o : Option (Nat × List Nat)) : Prop := match o with
  | none => ∀ r, ¬ RW_ s m r
  | some (b, r) => RW_ s m r ∧ wo_ s r = b ∧ ∀ r2, RW_ s m r2 → wo_ s r2 ≤ b ∧ (wo_ s r2 = b → va_w r ≤ va_w r2)
theorem SV_uniq {s : Sg_} {m : Nat} {o o2 : Option (Nat × List Nat)} (h : SV_ s m o) (h2 : SV_ s m o2) : o = o2 := by
  cases o with
  | none =>
    cases o2 with
    | none => rfl
    | some e => exact absurd h2.1 (h e.2)
  | some e =>
    cases o2 with
    | none => exact absurd h.1 (h2 e.2)
    | some e2 =>
      obtain ⟨b, r⟩ := e
      obtain ⟨b2, r2⟩ := e2
      obtain ⟨a1, a2, a3⟩ := h
      obtain ⟨c1, c2, c3⟩ := h2
      have d1 := a3 r2 c1
      have d2 := c3 r a1
      have eb : b = b2 := by omega
      have er : r = r2 := va_inj r (fun f hf => (a1.2 f hf).1) r2 (fun f hf => (c1.2 f hf).1) (by have := d1.2 (by omega); have := d2.2 (by omega); omega)
      rw [eb, er]
def sv_ (o : Option (Nat × List Nat)) (m : Nat) (i : Int32) : Int32 := match o with
  | none => -6
  | some (b, r) => if i = -1 then nI b else if 0 ≤ i.toInt ∧ i.toInt < m then nI (65 + r.getD i.toNatClampNeg 0) else -6
