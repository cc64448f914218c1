-- ===== maps of eight places: inverses, orders, words =====
theorem IsP.mono {n : Nat} {f : Nat → Nat} (h : IsP n f) (hn : n ≤ 8) : IsP 8 f := ⟨h.lt8 hn, fun i j _ _ z => h.inj8 i j z, fun i hi => h.2.2 i (Nat.le_trans hn hi)⟩
theorem IsP.id (n : Nat) : IsP n (fun p => p) := ⟨fun i h => h, fun i j _ _ z => z, fun i _ => rfl⟩
theorem IsP.then {n : Nat} {f g : Nat → Nat} (hf : IsP n f) (hg : IsP n g) : IsP n (fun p => g (f p)) := ⟨fun i h => hg.1 _ (hf.1 i h), fun i j hi hj z => hf.2.1 i j hi hj (hg.2.1 _ _ (hf.1 i hi) (hf.1 j hj) z), fun i h => by dsimp only; rw [hf.2.2 i h, hg.2.2 i h]⟩
/-- the place that goes to q -/
def in_ (f : Nat → Nat) (q : Nat) : Nat := ((List.range 8).find? (fun p => decide (f p = q))).getD q
theorem in_left {f : Nat → Nat} (hf : IsP 8 f) (i : Nat) : in_ f (f i) = i := by
  unfold in_
  cases h : (List.range 8).find? (fun p => decide (f p = f i)) with
  | none =>
    rcases Nat.lt_or_ge i 8 with q | q
    · have := List.find?_eq_none.mp h i (List.mem_range.mpr q)
      exact absurd (decide_eq_true rfl) this
    · show f i = i
      exact hf.2.2 i q
  | some j =>
    have h1 := List.find?_some h
    show j = i
    exact hf.inj8 j i (of_decide_eq_true h1)
/-- an injective map of eight places to themselves is onto -/
theorem onto8 {f : Nat → Nat} (hf : IsP 8 f) : ∀ q, q < 8 → ∃ p, p < 8 ∧ f p = q := by
  intro q hq
  have key : ∀ n, n ≤ 8 → ∀ (g : Nat → Nat), (∀ i, i < n → g i < 8) → (∀ i j, i < n → j < n → g i = g j → i = j) → (∀ i, i < n → g i ≠ q) → n ≤ 7 := by
    intro n hn g h1 h2 h3
    rcases Nat.lt_or_ge n 8 with z | z
    · omega
    · exfalso
      obtain rfl : n = 8 := by omega
      -- eight different numbers below eight, none of them q: the map that closes the gap is into seven
      have hh : ∀ i, i < 8 → (if g i < q then g i else g i - 1) < 7 := by
        intro i hi
        have := h1 i hi
        have := h3 i hi
        split <;> omega
      have hi : ∀ i j, i < 8 → j < 8 → (if g i < q then g i else g i - 1) = (if g j < q then g j else g j - 1) → i = j := by
        intro i j hi hj e
        refine h2 i j hi hj ?_
        have := h3 i hi
        have := h3 j hj
        split at e <;> split at e <;> omega
      have pig : ∀ (m n : Nat) (f : Nat → Nat), (∀ i, i < n → f i < m) → (∀ i j, i < n → j < n → f i = f j → i = j) → n ≤ m := by
        intro m
        induction m with
        | zero =>
          intro n f h1 _
          rcases Nat.eq_zero_or_pos n with z | z
          · omega
          · exact absurd (h1 0 z) (Nat.not_lt_zero _)
        | succ m ih =>
          intro n f h1 h2
          rcases Nat.eq_zero_or_pos n with z | z
          · omega
          · obtain ⟨n, rfl⟩ : ∃ k, n = k + 1 := ⟨n - 1, by omega⟩
            have := ih n (fun i => if f i < f n then f i else f i - 1) (fun i hi => by
                have a1 := h1 i (by omega)
                have a2 := h1 n (by omega)
                have a3 : f i ≠ f n := fun e => by have := h2 i n (by omega) (by omega) e; omega
                split <;> omega) (fun i j hi hj e => by
                have a3 : f i ≠ f n := fun e => by have := h2 i n (by omega) (by omega) e; omega
                have a4 : f j ≠ f n := fun e => by have := h2 j n (by omega) (by omega) e; omega
                refine h2 i j (by omega) (by omega) ?_
                split at e <;> split at e <;> omega)
            omega
      have := pig 7 8 _ hh hi
      omega
  refine Classical.byContradiction fun hno => ?_
  have := key 8 (Nat.le_refl _) f hf.1 (fun i j _ _ e => hf.inj8 i j e) (fun i hi e => hno ⟨i, hi, e⟩)
  omega
theorem in_right {f : Nat → Nat} (hf : IsP 8 f) (i : Nat) : f (in_ f i) = i := by
  rcases Nat.lt_or_ge i 8 with q | q
  · obtain ⟨p, hp, e⟩ := onto8 hf i q
    rw [← e, in_left hf]
  · have : f i = i := hf.2.2 i q
    have h2 := in_left hf i
    rw [this] at h2
    rw [h2, this]
theorem in_P {f : Nat → Nat} (hf : IsP 8 f) : IsP 8 (in_ f) := by
  refine ⟨fun i hi => ?_, fun i j _ _ e => ?_, fun i hi => ?_⟩
  · obtain ⟨p, hp, e⟩ := onto8 hf i hi
    rw [← e, in_left hf]
    exact hp
  · rw [← in_right hf i, e, in_right hf j]
  · have h2 := in_left hf i
    rw [hf.2.2 i hi] at h2
    exact h2
/-- a map of n places, backwards -/
theorem in_Pn {n : Nat} {f : Nat → Nat} (hn : n ≤ 8) (hf : IsP n f) : IsP n (in_ f) := by
  have hP := in_P (hf.mono hn)
  refine ⟨fun i hi => ?_, fun i j _ _ e => hP.inj8 i j e, fun i hi => ?_⟩
  · rcases Nat.lt_or_ge (in_ f i) n with q | q
    · exact q
    · have h1 := in_right (hf.mono hn) i
      rw [hf.2.2 _ q] at h1
      omega
  · have h2 := in_left (hf.mono hn) i
    rw [hf.2.2 i hi] at h2
    exact h2
-- times
theorem it_add (f : Nat → Nat) (j k p : Nat) : it_ f (j + k) p = it_ f j (it_ f k p) := by
  induction j with
  | zero => rw [Nat.zero_add]; rfl
  | succ j ih => rw [Nat.succ_add]; show f _ = f _; rw [ih]
theorem it_P {n : Nat} {f : Nat → Nat} (hf : IsP n f) : ∀ k, IsP n (it_ f k)
  | 0 => IsP.id n
  | k + 1 => (it_P hf k).then hf
theorem it_mul {f : Nat → Nat} {c p : Nat} (h : it_ f c p = p) : ∀ k, it_ f (c * k) p = p
  | 0 => rfl
  | k + 1 => by rw [Nat.mul_succ, it_add, h]; exact it_mul h k
/-- each place comes back within eight times -/
theorem it_back {f : Nat → Nat} (hf : IsP 8 f) (p : Nat) (hp : p < 8) : ∃ c, 1 ≤ c ∧ c ≤ 8 ∧ it_ f c p = p := by
  refine Classical.byContradiction fun hno => ?_
  -- nine different places below eight
  have hd : ∀ i j, i < j → j < 9 → it_ f i p ≠ it_ f j p := by
    intro i j hij hj e
    refine hno ⟨j - i, by omega, by omega, ?_⟩
    rw [show j = i + (j - i) by omega, it_add] at e
    exact ((it_P hf i).inj8 _ _ e).symm
  have hP : IsP 8 (fun k => if k < 8 then it_ f k p else k) := ⟨fun i hi => by show (if i < 8 then it_ f i p else i) < 8; rw [if_pos hi]; exact (it_P hf i).1 p hp, fun i j hi hj e => by
      change (if i < 8 then it_ f i p else i) = (if j < 8 then it_ f j p else j) at e
      rw [if_pos hi, if_pos hj] at e
      rcases Nat.lt_trichotomy i j with z | z | z
      · exact absurd e (hd i j z (by omega))
      · exact z
      · exact absurd e.symm (hd j i z (by omega)), fun i hi => if_neg (by omega)⟩
  obtain ⟨k, hk, e⟩ := onto8 hP (it_ f 8 p) ((it_P hf 8).1 p hp)
  change (if k < 8 then it_ f k p else k) = _ at e
  rw [if_pos hk] at e
  exact hd k 8 hk (by omega) e
theorem it_840 {f : Nat → Nat} (hf : IsP 8 f) (p : Nat) : it_ f 840 p = p := by
  rcases Nat.lt_or_ge p 8 with q | q
  · obtain ⟨c, h1, h2, e⟩ := it_back hf p q
    have hc : ∀ c, c < 9 → 1 ≤ c → c * (840 / c) = 840 := by decide
    have := it_mul e (840 / c)
    rw [hc c (by omega) h1] at this
    exact this
  · exact (it_P hf 840).2.2 p q
theorem in_it {f : Nat → Nat} (hf : IsP 8 f) : in_ f = it_ f 839 := funext fun p => by
  have h := it_840 hf p
  have h2 : f (it_ f 839 p) = p := h
  have h3 := in_left hf (it_ f 839 p)
  rw [h2] at h3
  exact h3
/-- words: letters that are ok, each a map, the first first -/
def ac_ (mv : Nat → Nat → Nat) : List Nat → Nat → Nat
  | [], p => p
  | f :: w, p => ac_ mv w (mv f p)
theorem ac_app (mv : Nat → Nat → Nat) (u w : List Nat) (p : Nat) : ac_ mv (u ++ w) p = ac_ mv w (ac_ mv u p) := by
  induction u generalizing p with
  | nil => rfl
  | cons f u ih => exact ih (mv f p)
theorem ac_P {n : Nat} {mv : Nat → Nat → Nat} (h : ∀ f, IsP n (mv f)) : ∀ w, IsP n (ac_ mv w)
  | [] => IsP.id n
  | f :: w => (h f).then (ac_P h w)
def wok_ (ok : Nat → Bool) (w : List Nat) : Prop := ∀ f ∈ w, f < 6 ∧ ok f = true
theorem wok_app {ok : Nat → Bool} {u w : List Nat} (hu : wok_ ok u) (hw : wok_ ok w) : wok_ ok (u ++ w) := fun f hf => (List.mem_append.mp hf).elim (hu f) (hw f)
/-- what can be made of the letters -/
def GG_ (mv : Nat → Nat → Nat) (ok : Nat → Bool) (u : Nat → Nat) : Prop := ∃ w, wok_ ok w ∧ ac_ mv w = u
theorem GG_id (mv : Nat → Nat → Nat) (ok : Nat → Bool) : GG_ mv ok (fun p => p) := ⟨[], fun f hf => (by cases hf), funext fun _ => rfl⟩
theorem GG_then {mv : Nat → Nat → Nat} {ok : Nat → Bool} {u v : Nat → Nat} (hu : GG_ mv ok u) (hv : GG_ mv ok v) : GG_ mv ok (fun p => v (u p)) := by
  obtain ⟨w1, h1, rfl⟩ := hu
  obtain ⟨w2, h2, rfl⟩ := hv
  exact ⟨w1 ++ w2, wok_app h1 h2, funext fun p => ac_app mv w1 w2 p⟩
theorem GG_gen {mv : Nat → Nat → Nat} {ok : Nat → Bool} {f : Nat} (hf : f < 6) (ho : ok f = true) : GG_ mv ok (mv f) := ⟨[f], fun g hg => by rw [List.mem_singleton.mp hg]; exact ⟨hf, ho⟩, funext fun _ => rfl⟩
theorem GG_it {mv : Nat → Nat → Nat} {ok : Nat → Bool} {u : Nat → Nat} (hu : GG_ mv ok u) : ∀ k, GG_ mv ok (it_ u k)
  | 0 => GG_id mv ok
  | k + 1 => GG_then (u := it_ u k) (v := u) (GG_it hu k) hu
theorem GG_in {mv : Nat → Nat → Nat} {ok : Nat → Bool} {u : Nat → Nat} (hP : IsP 8 u) (hu : GG_ mv ok u) : GG_ mv ok (in_ u) := by
  rw [in_it hP]
  exact GG_it hu 839
theorem GG_P {mv : Nat → Nat → Nat} {ok : Nat → Bool} {u : Nat → Nat} (h : ∀ f, IsP 8 (mv f)) (hu : GG_ mv ok u) : IsP 8 u := by
  obtain ⟨w, -, rfl⟩ := hu
  exact ac_P h w
-- the danced map: the chain behind a place that is not lame comes to one that is not
theorem fn_it {f : Nat → Nat} {lm : Nat} : ∀ k p, ∃ j, j ≤ k ∧ fn_ f lm k p = it_ f j p ∧ (∀ i, i < j → lm.testBit (it_ f i p) = true) ∧ (j < k → lm.testBit (it_ f j p) = false)
  | 0, p => ⟨0, Nat.le_refl _, rfl, fun i hi => absurd hi (Nat.not_lt_zero _), fun h => absurd h (Nat.not_lt_zero _)⟩
  | k + 1, p => by
    cases hb : lm.testBit p with
    | false => exact ⟨0, Nat.zero_le _, by rw [fn_, if_neg (by rw [hb]; decide)]; rfl, fun i hi => absurd hi (Nat.not_lt_zero _), fun _ => hb⟩
    | true =>
      obtain ⟨j, h1, h2, h3, h4⟩ := fn_it (f := f) (lm := lm) k (f p)
      have sh : ∀ i, it_ f (i + 1) p = it_ f i (f p) := fun i => it_add f i 1 p
      refine ⟨j + 1, by omega, by rw [fn_, if_pos hb, h2, sh], fun i hi => ?_, fun hj => by rw [sh]; exact h4 (by omega)⟩
      cases i with
      | zero => exact hb
      | succ i => rw [sh]; exact h3 i (by omega)
theorem dz_it {f : Nat → Nat} {lm p : Nat} (hf : IsP 8 f) (hp : p < 8) (hb : lm.testBit p = false) : ∃ j, 1 ≤ j ∧ j ≤ 8 ∧ dz_ f lm p = it_ f j p ∧ (∀ i, 1 ≤ i → i < j → lm.testBit (it_ f i p) = true) ∧ lm.testBit (it_ f j p) = false := by
  obtain ⟨c, c1, c2, ce⟩ := it_back hf p hp
  obtain ⟨j, h1, h2, h3, h4⟩ := fn_it (f := f) (lm := lm) 8 (f p)
  have sh : ∀ i, it_ f (i + 1) p = it_ f i (f p) := fun i => it_add f i 1 p
  have hj7 : j ≤ 7 := by
    rcases Nat.lt_or_ge (c - 1) j with z | z
    · have := h3 (c - 1) z
      rw [← sh, show c - 1 + 1 = c by omega, ce, hb] at this
      cases this
    · omega
  refine ⟨j + 1, by omega, by omega, by rw [dz_, if_neg (by rw [hb]; decide), h2, sh], fun i hi hij => ?_, by rw [sh]; exact h4 (by omega)⟩
  have := h3 (i - 1) (by omega)
  rw [← sh, show i - 1 + 1 = i by omega] at this
  exact this
theorem it_low {n : Nat} {f : Nat → Nat} (hf : IsP n f) : ∀ k p, p < n → it_ f k p < n := fun k p hp => (it_P hf k).1 p hp
theorem dz_P {n : Nat} {f : Nat → Nat} {lm : Nat} (hn : n ≤ 8) (hf : IsP n f) : IsP n (dz_ f lm) := by
  have hf8 := hf.mono hn
  refine ⟨fun p hp => ?_, fun p q hp hq e => ?_, fun p hp => ?_⟩
  · cases hb : lm.testBit p with
    | true => rw [dz_, if_pos hb]; exact hp
    | false =>
      obtain ⟨j, -, -, e, -⟩ := dz_it hf8 (by omega : p < 8) hb
      rw [e]
      exact it_low hf j p hp
  · -- injective
    have two : ∀ p q, p < n → q < n → lm.testBit p = false → lm.testBit q = false → dz_ f lm p = dz_ f lm q → p = q := by
      intro p q hp hq hbp hbq e
      obtain ⟨j, j1, j8, je, jl, jb⟩ := dz_it hf8 (by omega : p < 8) hbp
      obtain ⟨k, k1, k8, ke, kl, kb⟩ := dz_it hf8 (by omega : q < 8) hbq
      rw [je, ke] at e
      rcases Nat.lt_trichotomy j k with z | z | z
      · rw [show k = j + (k - j) by omega, it_add] at e
        have := (it_P hf8 j).inj8 _ _ e
        have h2 := kl (k - j) (by omega) (by omega)
        rw [← this, hbp] at h2
        cases h2
      · subst z
        exact (it_P hf8 j).inj8 _ _ e
      · rw [show j = k + (j - k) by omega, it_add] at e
        have := (it_P hf8 k).inj8 _ _ e
        have h2 := jl (j - k) (by omega) (by omega)
        rw [this, hbq] at h2
        cases h2
    cases hbp : lm.testBit p with
    | true =>
      cases hbq : lm.testBit q with
      | true => rw [dz_, if_pos hbp, dz_, if_pos hbq] at e; exact e
      | false =>
        obtain ⟨k, k1, k8, ke, kl, kb⟩ := dz_it hf8 (by omega : q < 8) hbq
        rw [← ke, ← e, dz_, if_pos hbp, hbp] at kb
        cases kb
    | false =>
      cases hbq : lm.testBit q with
      | true =>
        obtain ⟨k, k1, k8, ke, kl, kb⟩ := dz_it hf8 (by omega : p < 8) hbp
        rw [← ke, e, dz_, if_pos hbq, hbq] at kb
        cases kb
      | false => exact two p q hp hq hbp hbq e
  · unfold dz_
    split
    · rfl
    · rw [hf.2.2 p hp]
      have : ∀ k, fn_ f lm k p = p := by
        intro k
        induction k with
        | zero => rfl
        | succ k ih =>
          unfold fn_
          split
          · rw [hf.2.2 p hp]; exact ih
          · rfl
      exact this 8
theorem mv_P {s : Sg_} (w : sg_wf s) (f : Nat) : IsP (sg_n s) (mv_ s f) := dz_P w.1.2 (w.2.2.2.2.2.1 f)
theorem mv_P8 {s : Sg_} (w : sg_wf s) (f : Nat) : IsP 8 (mv_ s f) := (mv_P w f).mono w.1.2
