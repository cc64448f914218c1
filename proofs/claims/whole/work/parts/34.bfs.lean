-- ===== one after another: breadth first, each state with the first word to it =====
/-- a word's place among all words, the shorter first, then in the order of figures -/
def va_w : List Nat → Nat
  | [] => 0
  | f :: u => (f + 1) * 6 ^ u.length + va_w u
theorem va_snoc (u : List Nat) (f : Nat) : va_w (u ++ [f]) = 6 * va_w u + f + 1 := by
  induction u with
  | nil => show (f + 1) * 6 ^ 0 + 0 = 6 * 0 + f + 1; omega
  | cons g u ih =>
    show (g + 1) * 6 ^ (u ++ [f]).length + va_w (u ++ [f]) = 6 * ((g + 1) * 6 ^ u.length + va_w u) + f + 1
    have e : (u ++ [f]).length = u.length + 1 := List.length_append
    rw [ih, e, Nat.pow_succ, ← Nat.mul_assoc]
    omega
theorem snoc_ind {P : List Nat → Prop} (h0 : P []) (h1 : ∀ u f, P u → P (u ++ [f])) : ∀ u, P u := by
  have key : ∀ (v u : List Nat), P u → P (u ++ v) := by
    intro v
    induction v with
    | nil => intro u hu; rw [List.append_nil]; exact hu
    | cons f v ih =>
      intro u hu
      have := ih (u ++ [f]) (h1 u f hu)
      rw [List.append_assoc] at this
      exact this
  intro u
  exact key u [] h0
theorem va_inj : ∀ u : List Nat, (∀ f ∈ u, f < 6) → ∀ v : List Nat, (∀ f ∈ v, f < 6) → va_w u = va_w v → u = v := by
  refine snoc_ind ?_ ?_
  · intro _
    refine snoc_ind (fun _ _ => rfl) ?_
    intro v g _ _ e
    rw [va_snoc] at e
    have : va_w [] = 0 := rfl
    omega
  · intro u f ih hu
    refine snoc_ind ?_ ?_
    · intro _ e
      rw [va_snoc] at e
      have : va_w [] = 0 := rfl
      omega
    · intro v g _ hv e
      rw [va_snoc, va_snoc] at e
      have hf := hu f (List.mem_append.mpr (Or.inr (List.mem_singleton.mpr rfl)))
      have hg := hv g (List.mem_append.mpr (Or.inr (List.mem_singleton.mpr rfl)))
      have e1 : f = g := by omega
      have e2 : va_w u = va_w v := by omega
      rw [e1, ih (fun x hx => hu x (List.mem_append.mpr (Or.inl hx))) v (fun x hx => hv x (List.mem_append.mpr (Or.inl hx))) e2]
/-- a state, what it was met from, the word to it -/
abbrev Bq_ (α : Type) : Type := List (α × Nat × List Nat)
/-- one letter tried -/
noncomputable def bs_ {α : Type} (st : α → Nat → α) (ok : Nat → Bool) (t : Nat) (q : Bq_ α) : Bq_ α := match q[t / 6]? with
  | none => q
  | some e => @ite _ (ok (t % 6) = true ∧ ¬ st e.1 (t % 6) ∈ q.map (·.1)) (Classical.propDecidable _) (q ++ [(st e.1 (t % 6), t, e.2.2 ++ [t % 6])]) q
noncomputable def bf_ {α : Type} (st : α → Nat → α) (ok : Nat → Bool) (s0 : α) : Nat → Bq_ α
  | 0 => [(s0, 0, [])]
  | t + 1 => bs_ st ok t (bf_ st ok s0 t)
def rn_ {α : Type} (st : α → Nat → α) (s0 : α) (u : List Nat) : α := u.foldl st s0
theorem rn_snoc {α : Type} (st : α → Nat → α) (s0 : α) (u : List Nat) (f : Nat) : rn_ st s0 (u ++ [f]) = st (rn_ st s0 u) f := by
  unfold rn_
  rw [List.foldl_append]
  rfl
theorem bs_cases {α : Type} {st : α → Nat → α} {ok : Nat → Bool} (t : Nat) (q : Bq_ α) : (bs_ st ok t q = q ∧ ∀ e, q[t / 6]? = some e → ok (t % 6) = true → st e.1 (t % 6) ∈ q.map (·.1)) ∨ ∃ e, q[t / 6]? = some e ∧ ok (t % 6) = true ∧ ¬ st e.1 (t % 6) ∈ q.map (·.1) ∧ bs_ st ok t q = q ++ [(st e.1 (t % 6), t, e.2.2 ++ [t % 6])] := by
  cases z : q[t / 6]? with
  | none =>
    refine Or.inl ⟨?_, fun e he => by cases he⟩
    unfold bs_
    rw [z]
  | some e =>
    by_cases c : ok (t % 6) = true ∧ ¬ st e.1 (t % 6) ∈ q.map (·.1)
    · refine Or.inr ⟨e, rfl, c.1, c.2, ?_⟩
      unfold bs_
      rw [z]
      exact if_pos c
    · refine Or.inl ⟨?_, fun e2 he2 ho => ?_⟩
      · unfold bs_
        rw [z]
        exact if_neg c
      · cases he2
        exact Classical.byContradiction fun w => c ⟨ho, w⟩
theorem bf_get {α : Type} {st : α → Nat → α} {ok : Nat → Bool} {s0 : α} (t : Nat) : ∀ (d i : Nat) (e : α × Nat × List Nat), (bf_ st ok s0 t)[i]? = some e → (bf_ st ok s0 (t + d))[i]? = some e := by
  intro d
  induction d with
  | zero => intro i e h; exact h
  | succ d ih =>
    intro i e h
    have h1 := ih i e h
    show (bs_ st ok (t + d) (bf_ st ok s0 (t + d)))[i]? = some e
    rcases bs_cases (st := st) (ok := ok) (t + d) (bf_ st ok s0 (t + d)) with ⟨z, _⟩ | ⟨e2, _, _, _, z⟩
    · rw [z]; exact h1
    · rw [z, List.getElem?_append_left (List.getElem?_eq_some_iff.mp h1).1]; exact h1
theorem bf_len {α : Type} {st : α → Nat → α} {ok : Nat → Bool} {s0 : α} (t : Nat) : 1 ≤ (bf_ st ok s0 t).length := by
  have := bf_get (st := st) (ok := ok) (s0 := s0) 0 t 0 (s0, 0, []) rfl
  rw [Nat.zero_add] at this
  exact (List.getElem?_eq_some_iff.mp this).1
/-- what holds of the list -/
def BI_ {α : Type} (st : α → Nat → α) (ok : Nat → Bool) (s0 : α) (t : Nat) (q : Bq_ α) : Prop := (q[0]? = some (s0, 0, [])) ∧ (∀ e ∈ q, e.1 = rn_ st s0 e.2.2 ∧ ∀ f ∈ e.2.2, f < 6 ∧ ok f = true) ∧ ((q.map (·.1)).Nodup) ∧ (∀ (i j : Nat) (e e2 : α × Nat × List Nat), q[i]? = some e → q[j]? = some e2 → i < j → va_w e.2.2 < va_w e2.2.2) ∧ (∀ (j : Nat) (e : α × Nat × List Nat), q[j]? = some e → 0 < j → e.2.1 < t ∧ e.2.1 / 6 < j ∧ ∃ e2, q[e.2.1 / 6]? = some e2 ∧ e.2.2 = e2.2.2 ++ [e.2.1 % 6]) ∧ (∀ (i f : Nat) (e : α × Nat × List Nat), 6 * i + f < t → f < 6 → q[i]? = some e → ok f = true → ∃ e2 ∈ q, e2.1 = st e.1 f ∧ va_w e2.2.2 ≤ 6 * va_w e.2.2 + f + 1) ∧ (∀ (e e2 : α × Nat × List Nat), q[t / 6]? = some e → e2 ∈ q → va_w e2.2.2 < 6 * va_w e.2.2 + t % 6 + 1)
theorem BI_.zero {α : Type} {st : α → Nat → α} {ok : Nat → Bool} {s0 : α} {t : Nat} {q : Bq_ α} (I : BI_ st ok s0 t q) : q[0]? = some (s0, 0, []) := I.1
theorem BI_.word {α : Type} {st : α → Nat → α} {ok : Nat → Bool} {s0 : α} {t : Nat} {q : Bq_ α} (I : BI_ st ok s0 t q) : ∀ e ∈ q, e.1 = rn_ st s0 e.2.2 ∧ ∀ f ∈ e.2.2, f < 6 ∧ ok f = true := I.2.1
theorem BI_.nod {α : Type} {st : α → Nat → α} {ok : Nat → Bool} {s0 : α} {t : Nat} {q : Bq_ α} (I : BI_ st ok s0 t q) : (q.map (·.1)).Nodup := I.2.2.1
theorem BI_.inc {α : Type} {st : α → Nat → α} {ok : Nat → Bool} {s0 : α} {t : Nat} {q : Bq_ α} (I : BI_ st ok s0 t q) : ∀ (i j : Nat) (e e2 : α × Nat × List Nat), q[i]? = some e → q[j]? = some e2 → i < j → va_w e.2.2 < va_w e2.2.2 := I.2.2.2.1
theorem BI_.orig {α : Type} {st : α → Nat → α} {ok : Nat → Bool} {s0 : α} {t : Nat} {q : Bq_ α} (I : BI_ st ok s0 t q) : ∀ (j : Nat) (e : α × Nat × List Nat), q[j]? = some e → 0 < j → e.2.1 < t ∧ e.2.1 / 6 < j ∧ ∃ e2, q[e.2.1 / 6]? = some e2 ∧ e.2.2 = e2.2.2 ++ [e.2.1 % 6] := I.2.2.2.2.1
theorem BI_.done {α : Type} {st : α → Nat → α} {ok : Nat → Bool} {s0 : α} {t : Nat} {q : Bq_ α} (I : BI_ st ok s0 t q) : ∀ (i f : Nat) (e : α × Nat × List Nat), 6 * i + f < t → f < 6 → q[i]? = some e → ok f = true → ∃ e2 ∈ q, e2.1 = st e.1 f ∧ va_w e2.2.2 ≤ 6 * va_w e.2.2 + f + 1 := I.2.2.2.2.2.1
theorem BI_.top {α : Type} {st : α → Nat → α} {ok : Nat → Bool} {s0 : α} {t : Nat} {q : Bq_ α} (I : BI_ st ok s0 t q) : ∀ (e e2 : α × Nat × List Nat), q[t / 6]? = some e → e2 ∈ q → va_w e2.2.2 < 6 * va_w e.2.2 + t % 6 + 1 := I.2.2.2.2.2.2
theorem bf_inv {α : Type} {st : α → Nat → α} {ok : Nat → Bool} {s0 : α} (t : Nat) : BI_ st ok s0 t (bf_ st ok s0 t) := by
  induction t with
  | zero =>
    refine ⟨rfl, ?_, ?_, ?_, ?_, ?_, ?_⟩
    · intro e he
      rw [List.mem_singleton.mp he]
      exact ⟨rfl, fun f hf => by cases hf⟩
    · exact List.nodup_cons.mpr ⟨List.not_mem_nil, List.Pairwise.nil⟩
    · intro i j e e2 _ hj hij
      have := (List.getElem?_eq_some_iff.mp hj).1
      have h1 : j < 1 := this
      omega
    · intro j e hj h0
      have h1 : j < 1 := (List.getElem?_eq_some_iff.mp hj).1
      omega
    · intro i f e h; omega
    · intro e e2 he he2
      rw [List.mem_singleton.mp he2]
      show 0 < _
      omega
  | succ t ih =>
    show BI_ st ok s0 (t + 1) (bs_ st ok t (bf_ st ok s0 t))
    revert ih
    generalize bf_ st ok s0 t = q
    intro ih
    have topStep : ∀ (q2 : Bq_ α), (∀ (i j : Nat) (e e2 : α × Nat × List Nat), q2[i]? = some e → q2[j]? = some e2 → i < j → va_w e.2.2 < va_w e2.2.2) → ∀ b : α × Nat × List Nat, q2[t / 6]? = some b → (∀ e2 ∈ q2, va_w e2.2.2 < 6 * va_w b.2.2 + t % 6 + 2) → ∀ (e e2 : α × Nat × List Nat), q2[(t + 1) / 6]? = some e → e2 ∈ q2 → va_w e2.2.2 < 6 * va_w e.2.2 + (t + 1) % 6 + 1 := by
      intro q2 hinc b hb hall e e2 he he2
      have h1 := hall e2 he2
      rcases Nat.lt_or_ge (t % 6) 5 with z | z
      · rw [show (t + 1) / 6 = t / 6 by omega, hb] at he
        cases he
        omega
      · have h2 := hinc (t / 6) ((t + 1) / 6) b e hb he (by omega)
        omega
    rcases bs_cases (st := st) (ok := ok) t q with ⟨z, hin⟩ | ⟨b, hb, hok, hnew, z⟩
    · rw [z]
      refine ⟨ih.zero, ih.word, ih.nod, ih.inc, ?_, ?_, ?_⟩
      · intro j e hj h0
        obtain ⟨h1, h2, h3⟩ := ih.orig j e hj h0
        exact ⟨by omega, h2, h3⟩
      · intro i f e hlt hf he ho
        rcases Nat.lt_or_ge (6 * i + f) t with y | y
        · exact ih.done i f e y hf he ho
        · have e1 : t = 6 * i + f := by omega
          have e2 : t / 6 = i := by omega
          have e3 : t % 6 = f := by omega
          have h1 := hin e (by rw [e2]; exact he) (by rw [e3]; exact ho)
          rw [e3] at h1
          obtain ⟨x, hx, hxe⟩ := List.mem_map.mp h1
          have h2 := ih.top e x (by rw [e2]; exact he) hx
          exact ⟨x, hx, hxe, by omega⟩
      · intro e e2 he he2
        have hlt : t / 6 < q.length := by
          have := (List.getElem?_eq_some_iff.mp he).1
          omega
        exact topStep q ih.inc q[t / 6] (List.getElem?_eq_getElem hlt) (fun x hx => by
          have := ih.top _ x (List.getElem?_eq_getElem hlt) hx
          omega) e e2 he he2
    · rw [z]
      have hbl := (List.getElem?_eq_some_iff.mp hb).1
      have hbm := List.mem_of_getElem? hb
      have hv : va_w (b.2.2 ++ [t % 6]) = 6 * va_w b.2.2 + t % 6 + 1 := va_snoc _ _
      have hget : ∀ (i : Nat) (e : α × Nat × List Nat), (q ++ [(st b.1 (t % 6), t, b.2.2 ++ [t % 6])])[i]? = some e → (i < q.length ∧ q[i]? = some e) ∨ (i = q.length ∧ e = (st b.1 (t % 6), t, b.2.2 ++ [t % 6])) := by
        intro i e he
        rcases Nat.lt_or_ge i q.length with y | y
        · rw [List.getElem?_append_left y] at he
          exact Or.inl ⟨y, he⟩
        · have h1 := (List.getElem?_eq_some_iff.mp he).1
          rw [List.length_append] at h1
          have h2 : i < q.length + 1 := h1
          obtain rfl : i = q.length := by omega
          rw [List.getElem?_concat_length] at he
          cases he
          exact Or.inr ⟨rfl, rfl⟩
      have hinc : ∀ (i j : Nat) (e e2 : α × Nat × List Nat), (q ++ [(st b.1 (t % 6), t, b.2.2 ++ [t % 6])])[i]? = some e → (q ++ [(st b.1 (t % 6), t, b.2.2 ++ [t % 6])])[j]? = some e2 → i < j → va_w e.2.2 < va_w e2.2.2 := by
        intro i j e e2 he he2 hij
        rcases hget j e2 he2 with ⟨y, y2⟩ | ⟨y, y2⟩
        · rcases hget i e he with ⟨x, x2⟩ | ⟨x, x2⟩
          · exact ih.inc i j e e2 x2 y2 hij
          · omega
        · rcases hget i e he with ⟨x, x2⟩ | ⟨x, x2⟩
          · rw [y2]
            have := ih.top b e hb (List.mem_of_getElem? x2)
            show _ < va_w (b.2.2 ++ [t % 6])
            omega
          · omega
      refine ⟨?_, ?_, ?_, hinc, ?_, ?_, ?_⟩
      · rw [List.getElem?_append_left (by omega)]
        exact ih.zero
      · intro e he
        rcases List.mem_append.mp he with y | y
        · exact ih.word e y
        · rw [List.mem_singleton.mp y]
          have h1 := ih.word b hbm
          refine ⟨?_, ?_⟩
          · show st b.1 (t % 6) = rn_ st s0 (b.2.2 ++ [t % 6])
            rw [rn_snoc, ← h1.1]
          · intro f hf
            rcases List.mem_append.mp hf with x | x
            · exact h1.2 f x
            · rw [List.mem_singleton.mp x]
              exact ⟨by omega, hok⟩
      · rw [List.map_append]
        refine List.nodup_append.mpr ⟨ih.nod, List.pairwise_singleton _ _, ?_⟩
        intro x hx y hy hxy
        have : y = st b.1 (t % 6) := List.mem_singleton.mp hy
        rw [hxy, this] at hx
        exact hnew hx
      · intro j e hj h0
        rcases hget j e hj with ⟨y, y2⟩ | ⟨y, y2⟩
        · obtain ⟨h1, h2, e2, h3, h4⟩ := ih.orig j e y2 h0
          exact ⟨by omega, h2, e2, by rw [List.getElem?_append_left (by omega)]; exact h3, h4⟩
        · rw [y2]
          refine ⟨Nat.lt_succ_self t, by show t / 6 < j; omega, b, ?_, rfl⟩
          show (q ++ _)[t / 6]? = some b
          rw [List.getElem?_append_left hbl]
          exact hb
      · intro i f e hlt hf he ho
        rcases hget i e he with ⟨y, y2⟩ | ⟨y, y2⟩
        · rcases Nat.lt_or_ge (6 * i + f) t with x | x
          · obtain ⟨e2, h1, h2⟩ := ih.done i f e x hf y2 ho
            exact ⟨e2, List.mem_append.mpr (Or.inl h1), h2⟩
          · have e1 : t / 6 = i := by omega
            have e3 : t % 6 = f := by omega
            rw [e1, y2] at hb
            cases hb
            refine ⟨_, List.mem_append.mpr (Or.inr (List.mem_singleton.mpr rfl)), by rw [e3], ?_⟩
            show va_w (b.2.2 ++ [t % 6]) ≤ _
            omega
        · omega
      · intro e e2 he he2
        refine topStep _ hinc b (by rw [List.getElem?_append_left hbl]; exact hb) ?_ e e2 he he2
        intro x hx
        rcases List.mem_append.mp hx with y | y
        · have := ih.top b x hb y
          omega
        · rw [List.mem_singleton.mp y]
          show va_w (b.2.2 ++ [t % 6]) < _
          omega
/-- when all is tried, each word's state stands there, by a word no later -/
theorem bf_all {α : Type} {st : α → Nat → α} {ok : Nat → Bool} {s0 : α} {t : Nat} (ht : 6 * (bf_ st ok s0 t).length ≤ t) : ∀ u : List Nat, (∀ f ∈ u, f < 6 ∧ ok f = true) → ∃ e ∈ bf_ st ok s0 t, e.1 = rn_ st s0 u ∧ va_w e.2.2 ≤ va_w u := by
  have I := bf_inv (st := st) (ok := ok) (s0 := s0) t
  refine snoc_ind ?_ ?_
  · intro _
    exact ⟨_, List.mem_of_getElem? I.zero, rfl, Nat.le_refl _⟩
  · intro u f ih hu
    obtain ⟨e, he, h1, h2⟩ := ih (fun x hx => hu x (List.mem_append.mpr (Or.inl hx)))
    have hf := hu f (List.mem_append.mpr (Or.inr (List.mem_singleton.mpr rfl)))
    obtain ⟨i, hi⟩ := List.getElem?_of_mem he
    have hil := (List.getElem?_eq_some_iff.mp hi).1
    obtain ⟨e2, h3, h4, h5⟩ := I.done i f e (by omega) hf.1 hi hf.2
    refine ⟨e2, h3, by rw [h4, h1, rn_snoc], ?_⟩
    rw [va_snoc]
    omega
