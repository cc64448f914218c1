-- ===== standings: which good is at a place; their ranks; fewest figures, how many standings =====
theorem wq_while {X : Type} {d pc : Nat} {tab : Tab_} {sc : Sc_} {Q : Option Value → Hp_ → Prop} (L : Nat → X → Lc_) (I : Nat → X → Hp_ → Prop) (M i0 : Nat) (x0 : X) {h : Hp_} (h0 : I i0 x0 h) (hM : ∀ i x h, I i x h → i ≤ M) (step : ∀ i x h, I i x h → (i < M → ∀ x' h', I (i + 1) x' h' → wq d tab sc pc (L (i + 1) x') [] h' Q) → wq d tab sc pc (L i x) [] h Q) : wq d tab sc pc (L i0 x0) [] h Q := by
  have key : ∀ k i x h, M - i = k → I i x h → wq d tab sc pc (L i x) [] h Q := by
    intro k
    induction k with
    | zero =>
      intro i x h hk hI
      exact step i x h hI (fun hi => by omega)
    | succ k ih =>
      intro i x h hk hI
      exact step i x h hI (fun hi x' h' hI' => ih (i + 1) x' h' (by omega) hI')
  exact key (M - i0) i0 x0 h rfl h0
/-- a figure danced: what was at p is at m p then -/
def tr_ (n : Nat) (m w : Nat → Nat) : Nat → Nat := fun q => if q < n then w (in_ m q) else 0
/-- which good is at a place, out of where the goods are -/
def ar_ (n : Nat) (u : Nat → Nat) : Nat → Nat := fun p => if p < n then in_ u p else 0
theorem ar_Lz {n : Nat} {u : Nat → Nat} (hn : n ≤ 8) (hu : IsP n u) : Lz_ n n (ar_ n u) := by
  have hP := in_Pn hn hu
  refine ⟨⟨fun i hi => ?_, fun i j hi hj e => ?_⟩, fun i hi => if_neg (by omega)⟩
  · unfold ar_
    rw [if_pos hi]
    exact hP.1 i hi
  · unfold ar_ at e
    rw [if_pos hi, if_pos hj] at e
    exact hP.2.1 i j hi hj e
theorem tr_Lz {n : Nat} {m w : Nat → Nat} (hn : n ≤ 8) (hm : IsP n m) (W : Lz_ n n w) : Lz_ n n (tr_ n m w) := by
  have hP := in_Pn hn hm
  refine ⟨⟨fun i hi => ?_, fun i j hi hj e => ?_⟩, fun i hi => if_neg (by omega)⟩
  · unfold tr_
    rw [if_pos hi]
    exact W.1.1 _ (hP.1 i hi)
  · unfold tr_ at e
    rw [if_pos hi, if_pos hj] at e
    exact hP.2.1 i j hi hj (W.1.2 _ _ (hP.1 i hi) (hP.1 j hj) e)
theorem tr_ar {n : Nat} {m u : Nat → Nat} (hn : n ≤ 8) (hm : IsP n m) (hu : IsP n u) : tr_ n m (ar_ n u) = ar_ n (fun g => m (u g)) := funext fun q => by
  unfold tr_ ar_
  by_cases z : q < n
  · rw [if_pos z, if_pos z, if_pos ((in_Pn hn hm).1 q z), in_comp (hm.mono hn) (hu.mono hn)]
  · rw [if_neg z, if_neg z]
theorem in_in {u : Nat → Nat} (hu : IsP 8 u) : in_ (in_ u) = u := funext fun q => by
  have h := in_right (in_P hu) q
  have h2 := congrArg u h
  rw [in_right hu] at h2
  exact h2
theorem ar_inj {n : Nat} {u v : Nat → Nat} (hn : n ≤ 8) (hu : IsP n u) (hv : IsP n v) (e : ar_ n u = ar_ n v) : u = v := by
  have h : in_ u = in_ v := funext fun q => by
    rcases Nat.lt_or_ge q n with z | z
    · have := congrFun e q
      unfold ar_ at this
      rw [if_pos z, if_pos z] at this
      exact this
    · rw [(in_Pn hn hu).2.2 q z, (in_Pn hn hv).2.2 q z]
  rw [← in_in (hu.mono hn), h, in_in (hv.mono hn)]
theorem ar_rn {n : Nat} {mv : Nat → Nat → Nat} {p : Nat → Nat} (hn : n ≤ 8) (hm : ∀ f, IsP n (mv f)) (hp : IsP n p) : ∀ u, rn_ (fun w f => tr_ n (mv f) w) (ar_ n p) u = ar_ n (fun g => ac_ mv u (p g)) := by
  refine snoc_ind rfl ?_
  intro u f ih
  rw [rn_snoc, ih]
  show tr_ n (mv f) (ar_ n (fun g => ac_ mv u (p g))) = _
  rw [tr_ar hn (hm f) (hp.then (ac_P hm u))]
  refine congrArg (ar_ n) (funext fun g => ?_)
  rw [ac_snoc]
-- ranks backwards
theorem ub_find (u d : Nat) : ∀ n, d < ub_ u n → ∃ g, g < n ∧ u.testBit g = false ∧ ub_ u g = d := by
  intro n
  induction n with
  | zero => intro h; exact absurd h (Nat.not_lt_zero _)
  | succ n ih =>
    intro h
    rcases Nat.lt_or_ge d (ub_ u n) with q | q
    · obtain ⟨g, h1, h2⟩ := ih q
      exact ⟨g, by omega, h2⟩
    · rw [ub_succ] at h
      cases e : u.testBit n with
      | true => rw [e] at h; rw [if_pos rfl] at h; omega
      | false =>
        rw [e] at h
        rw [if_neg Bool.false_ne_true] at h
        exact ⟨n, by omega, e, by omega⟩
theorem rk_cong {n : Nat} {w v : Nat → Nat} : ∀ i, (∀ j, j < i → w j = v j) → rk_ n w i = rk_ n v i
  | 0, _ => rfl
  | i + 1, h => by
    show rk_ n w i * (n - i) + dg_ w i = rk_ n v i * (n - i) + dg_ v i
    unfold dg_
    rw [rk_cong i (fun j hj => h j (by omega)), us_cong i (fun j hj => h j (by omega)), h i (by omega)]
/-- what is left of a number, i digits on from the last -/
def lr_ (num : Nat) : Nat → Nat
  | 0 => num
  | i + 1 => lr_ num i / (i + 1)
theorem lr_lt {n num : Nat} (h : num < ce_ n n) : ∀ i, i ≤ n → lr_ num i < ce_ n (n - i)
  | 0, _ => h
  | i + 1, hi => by
    have ih := lr_lt h i (by omega)
    show lr_ num i / (i + 1) < _
    refine Nat.div_lt_of_lt_mul ?_
    have e : ce_ n (n - i) = ce_ n (n - (i + 1)) * (i + 1) := by
      rw [show n - i = (n - (i + 1)) + 1 by omega]
      show ce_ n (n - (i + 1)) * (n - (n - (i + 1))) = _
      rw [show n - (n - (i + 1)) = i + 1 by omega]
    rw [e, Nat.mul_comm] at ih
    exact ih
theorem lr_0 {n num : Nat} (h : num < ce_ n n) : lr_ num n = 0 := by
  have := lr_lt h n (Nat.le_refl n)
  rw [Nat.sub_self] at this
  have h1 : lr_ num n < 1 := this
  omega
theorem lr_le (num : Nat) : ∀ i, lr_ num i ≤ num
  | 0 => Nat.le_refl _
  | i + 1 => Nat.le_trans (Nat.div_le_self _ _) (lr_le num i)
/-- one good more in a rank -/
theorem rk_more {n p g num : Nat} {w : Nat → Nat} (W : Ly_ n p w) (hp : p < n) (hg : g < n) (hb : (us_ w p).testBit g = false) (hd : ub_ (us_ w p) g = lr_ num (n - p - 1) % (n - p)) (hr : rk_ n w p = lr_ num (n - p)) : Ly_ n (p + 1) (va_up w p g) ∧ rk_ n (va_up w p g) (p + 1) = lr_ num (n - (p + 1)) ∧ us_ (va_up w p g) (p + 1) = us_ w p ||| 2 ^ g := by
  have hc : ∀ j, j < p → va_up w p g j = w j := fun j hj => by rw [vu_at, if_neg (by omega)]
  have hp' : va_up w p g p = g := by rw [vu_at, if_pos rfl]
  have hne : ∀ j, j < p → w j ≠ g := fun j hj e => by
    rw [(us_bit w g p).mpr ⟨j, hj, e⟩] at hb
    cases hb
  refine ⟨⟨fun i hi => ?_, fun i j hi hj e => ?_⟩, ?_, ?_⟩
  · rw [vu_at]
    split
    · exact hg
    · exact W.1 i (by omega)
  · rw [vu_at, vu_at] at e
    by_cases a : i = p
    · by_cases b : j = p
      · omega
      · rw [if_pos a, if_neg b] at e
        exact absurd e.symm (hne j (by omega))
    · by_cases b : j = p
      · rw [if_neg a, if_pos b] at e
        exact absurd e (hne i (by omega))
      · rw [if_neg a, if_neg b] at e
        exact W.2 i j (by omega) (by omega) e
  · show rk_ n (va_up w p g) p * (n - p) + ub_ (us_ (va_up w p g) p) (va_up w p g p) = _
    rw [rk_cong p hc, us_cong p hc, hp', hd, hr]
    have e : lr_ num (n - p) = lr_ num (n - p - 1) / (n - p) := by
      obtain ⟨k, hk⟩ : ∃ k, n - p = k + 1 := ⟨n - p - 1, by omega⟩
      rw [hk]
      show lr_ num k / (k + 1) = lr_ num (k + 1 - 1) / (k + 1)
      rw [Nat.add_sub_cancel]
    rw [e, Nat.div_add_mod']
    rfl
  · show us_ (va_up w p g) p ||| 2 ^ va_up w p g p = _
    rw [us_cong p hc, hp']
-- the answers
/-- all that are wanted are there behind u -/
def WT_ (s : Sg_) (u : List Nat) : Prop := ∀ g, g < sg_n s → sg_wa s g ≠ 8 → ac_ (mv_ s) u (sg_pos s g) = sg_wa s g
/-- the first row of the fewest -/
def FW_ (s : Sg_) (o : Option (List Nat)) : Prop := match o with
  | none => ∀ u, wok_ (may_ s) u → ¬ WT_ s u
  | some u => wok_ (may_ s) u ∧ WT_ s u ∧ ∀ v, wok_ (may_ s) v → WT_ s v → va_w u ≤ va_w v
theorem FW_uniq {s : Sg_} {o o2 : Option (List Nat)} (h : FW_ s o) (h2 : FW_ s o2) : o = o2 := by
  cases o with
  | none =>
    cases o2 with
    | none => rfl
    | some u => exact absurd h2.2.1 (h u h2.1)
  | some u =>
    cases o2 with
    | none => exact absurd h.2.1 (h2 u h.1)
    | some v =>
      have h3 := h.2.2 v h2.1 h2.2.1
      have h4 := h2.2.2 u h.1 h.2.1
      rw [va_inj u (fun f hf => (h.1 f hf).1) v (fun f hf => (h2.1 f hf).1) (by omega)]
def fv_ (o : Option (List Nat)) (i : Int32) : Int32 := match o with
  | none => -6
  | some u => if i = -1 then nI u.length else if 0 ≤ i.toInt ∧ i.toInt < u.length then nI (65 + u.getD i.toNatClampNeg 0) else -6
/-- how many standings -/
def ST_ (s : Sg_) (N : Nat) : Prop := ∃ l : List (Nat → Nat), l.Nodup ∧ (∀ m, m ∈ l ↔ GG_ (mv_ s) (may_ s) m) ∧ N = l.length
theorem nodup_le {α : Type} {l l2 : List α} (hn : l.Nodup) (hs : ∀ x ∈ l, x ∈ l2) : l.length ≤ l2.length := pig_rel (R := fun i x => ∃ a, l[i]? = some a ∧ l2[x]? = some a) (fun i hi => by
  obtain ⟨x, hx⟩ := List.getElem?_of_mem (hs _ (List.getElem_mem hi))
  exact ⟨x, (List.getElem?_eq_some_iff.mp hx).1, _, List.getElem?_eq_getElem hi, hx⟩) (fun i j x => by
  rintro ⟨a, h1, h2⟩ ⟨b, h3, h4⟩
  rw [h2] at h4
  cases h4
  have hi := (List.getElem?_eq_some_iff.mp h1)
  have hj := (List.getElem?_eq_some_iff.mp h3)
  rcases Nat.lt_trichotomy i j with q | q | q
  · exact absurd (hi.2.trans hj.2.symm) (List.pairwise_iff_getElem.mp hn i j hi.1 hj.1 q)
  · exact q
  · exact absurd (hj.2.trans hi.2.symm) (List.pairwise_iff_getElem.mp hn j i hj.1 hi.1 q))
theorem ST_uniq {s : Sg_} {N M : Nat} (a : ST_ s N) (b : ST_ s M) : N = M := by
  obtain ⟨l, h1, h2, rfl⟩ := a
  obtain ⟨l2, h3, h4, rfl⟩ := b
  exact Nat.le_antisymm (nodup_le h1 (fun x hx => (h4 x).mpr ((h2 x).mp hx))) (nodup_le h3 (fun x hx => (h2 x).mpr ((h4 x).mp hx)))
/-- whether a told standing can be come to -/
def CB_ (s : Sg_) (w : Nat → Nat) (b : Bool) : Prop := b = true ↔ GG_ (mv_ s) (may_ s) (fun p => in_ w (in_ (sg_pos s) p))
theorem CB_uniq {s : Sg_} {w : Nat → Nat} {a b : Bool} (h : CB_ s w a) (h2 : CB_ s w b) : a = b := by
  cases a with
  | true => exact (h2.mpr (h.mp rfl)).symm
  | false =>
    cases b with
    | false => rfl
    | true => exact absurd (h.mpr (h2.mp rfl)) Bool.false_ne_true
theorem CB_ar {s : Sg_} {m w : Nat → Nat} (ws : sg_wf s) (hm : IsP (sg_n s) m) (hw : IsP (sg_n s) w) : ar_ (sg_n s) (fun g => m (sg_pos s g)) = ar_ (sg_n s) (in_ w) ↔ m = fun p => in_ w (in_ (sg_pos s) p) := by
  have n8 := ws.1.2
  constructor
  · intro e
    have h := ar_inj n8 (ws.2.1.then hm) (in_Pn n8 hw) e
    funext p
    have := congrFun h (in_ (sg_pos s) p)
    (try dsimp only at this)
    rw [in_right (ws.2.1.mono n8)] at this
    exact this
  · intro e
    refine congrArg (ar_ (sg_n s)) (funext fun g => ?_)
    rw [e]
    (try dsimp only)
    rw [in_left (ws.2.1.mono n8)]
