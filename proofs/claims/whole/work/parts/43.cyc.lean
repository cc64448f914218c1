-- ===== how long till all is as it was; even and odd =====
def LN_ (m : Nat → Nat) (N : Nat) : Prop := 1 ≤ N ∧ (∀ p, p < 8 → it_ m N p = p) ∧ ∀ k, 1 ≤ k → k < N → ∃ p, p < 8 ∧ it_ m k p ≠ p
theorem LN_uniq {m : Nat → Nat} {a b : Nat} (ha : LN_ m a) (hb : LN_ m b) : a = b := by
  rcases Nat.lt_trichotomy a b with q | q | q
  · obtain ⟨p, hp, hn⟩ := hb.2.2 a ha.1 q
    exact absurd (ha.2.1 p hp) hn
  · exact q
  · obtain ⟨p, hp, hn⟩ := ha.2.2 b hb.1 q
    exact absurd (hb.2.1 p hp) hn
theorem LN_ex {m : Nat → Nat} (hm : IsP 8 m) : ∃ N, LN_ m N ∧ N ≤ 840 := by
  obtain ⟨k, hk, hl⟩ := pk_least (fun k => ∀ p, p < 8 → it_ m (k + 1) p = p) ⟨839, fun p _ => it_840 hm p⟩
  refine ⟨k + 1, ⟨by omega, hk, fun j h1 h2 => ?_⟩, ?_⟩
  · have := hl (j - 1) (by omega)
    rw [show j - 1 + 1 = j by omega] at this
    refine Classical.byContradiction fun z => this (fun p hp => ?_)
    exact Classical.byContradiction fun y => z ⟨p, hp, y⟩
  · rcases Nat.lt_or_ge 839 k with q | q
    · exact absurd (fun p _ => it_840 hm p) (hl 839 q)
    · omega
noncomputable def ln_ (m : Nat → Nat) : Nat := @dite Nat (∃ N, LN_ m N) (Classical.propDecidable _) (fun h => Classical.choose h) (fun _ => 0)
theorem ln_eq {m : Nat → Nat} {N : Nat} (h : LN_ m N) : ln_ m = N := by
  have hex : ∃ N, LN_ m N := ⟨N, h⟩
  have h2 := Classical.choose_spec hex
  unfold ln_
  rw [dif_pos hex]
  exact LN_uniq h2 h
/-- out of what divides -/
theorem LN_dvd {m : Nat → Nat} {L n : Nat} (hn : n ≤ 8) (hm : IsP n m) (h1 : 1 ≤ L) (h : ∀ k, L ∣ k ↔ ∀ p, p < n → it_ m k p = p) : LN_ m L := by
  refine ⟨h1, fun p hp => ?_, fun k hk hkl => ?_⟩
  · rcases Nat.lt_or_ge p n with q | q
    · exact (h L).mp (Nat.dvd_refl L) p q
    · exact (it_P hm L).2.2 p q
  · refine Classical.byContradiction fun z => ?_
    have : L ∣ k := (h k).mpr (fun p hp => Classical.byContradiction fun y => z ⟨p, by omega, y⟩)
    have := Nat.le_of_dvd (by omega) this
    omega
/-- one place's period -/
theorem pe_ex {m : Nat → Nat} (hm : IsP 8 m) {p : Nat} (hp : p < 8) : ∃ r, 1 ≤ r ∧ r ≤ 8 ∧ it_ m r p = p ∧ ∀ k, 1 ≤ k → k < r → it_ m k p ≠ p := by
  obtain ⟨c, c1, c8, ce⟩ := it_back hm p hp
  obtain ⟨k, hk, hl⟩ := pk_least (fun k => it_ m (k + 1) p = p) ⟨c - 1, by show it_ m (c - 1 + 1) p = p; rw [show c - 1 + 1 = c by omega]; exact ce⟩
  refine ⟨k + 1, by omega, ?_, hk, fun j h1 h2 z => ?_⟩
  · rcases Nat.lt_or_ge (c - 1) k with q | q
    · have := hl (c - 1) q
      rw [show c - 1 + 1 = c by omega] at this
      exact absurd ce this
    · omega
  · have := hl (j - 1) (by omega)
    rw [show j - 1 + 1 = j by omega] at this
    exact this z
theorem pe_mod {m : Nat → Nat} {p r : Nat} (hr : it_ m r p = p) (k : Nat) : it_ m k p = it_ m (k % r) p := by
  have e : k = k % r + r * (k / r) := by have := Nat.mod_add_div k r; omega
  have h1 : it_ m k p = it_ m (k % r + r * (k / r)) p := by rw [← e]
  rw [h1, it_add, it_mul hr]
theorem pe_dvd {m : Nat → Nat} {p r : Nat} (h1 : 1 ≤ r) (hr : it_ m r p = p) (hl : ∀ k, 1 ≤ k → k < r → it_ m k p ≠ p) (k : Nat) : r ∣ k ↔ it_ m k p = p := by
  rw [pe_mod hr k]
  have hlt := Nat.mod_lt k (show r > 0 by omega)
  constructor
  · intro z
    rw [Nat.mod_eq_zero_of_dvd z]
    rfl
  · intro z
    refine Nat.dvd_of_mod_eq_zero ?_
    rcases Nat.eq_zero_or_pos (k % r) with q | q
    · exact q
    · exact absurd z (hl _ q hlt)
/-- no two alike ahead of the period -/
theorem pe_apart {m : Nat → Nat} (hm : IsP 8 m) {p r : Nat} (hl : ∀ k, 1 ≤ k → k < r → it_ m k p ≠ p) {i j : Nat} (hij : i < j) (hj : j < r) : it_ m i p ≠ it_ m j p := by
  intro e
  rw [show j = i + (j - i) by omega, it_add] at e
  exact hl (j - i) (by omega) (by omega) ((it_P hm i).inj8 _ _ e).symm
/-- how many are the least of their round, of the first n -/
noncomputable def cy_ (m : Nat → Nat) : Nat → Nat
  | 0 => 0
  | p + 1 => cy_ m p + @ite Nat (∀ k, p ≤ it_ m k p) (Classical.propDecidable _) 1 0
theorem cy_le (m : Nat → Nat) : ∀ p, cy_ m p ≤ p
  | 0 => Nat.le_refl _
  | p + 1 => by
    have := cy_le m p
    unfold cy_
    split <;> omega
/-- p is seen ahead of p itself: it is in a round of an earlier one -/
theorem cy_seen {m : Nat → Nat} (hm : IsP 8 m) (p : Nat) : (∃ q k, q < p ∧ it_ m k q = p) ↔ ¬ ∀ k, p ≤ it_ m k p := by
  constructor
  · rintro ⟨q, k, hq, e⟩ z
    have h1 := z (840 * (k + 1) - k)
    rw [← e, ← it_add, show 840 * (k + 1) - k + k = 840 * (k + 1) by omega, it_mul (it_840 hm q), e] at h1
    omega
  · intro z
    obtain ⟨k, hk⟩ := Classical.not_forall.mp z
    refine ⟨it_ m k p, 840 * (k + 1) - k, by omega, ?_⟩
    rw [← it_add, show 840 * (k + 1) - k + k = 840 * (k + 1) by omega, it_mul (it_840 hm p)]
/-- n left out of its round -/
def by_ (m : Nat → Nat) (n : Nat) : Nat → Nat := fun p => if p < n then (if m p = n then m n else m p) else p
theorem by_P {m : Nat → Nat} {n : Nat} (h : IsP (n + 1) m) : IsP n (by_ m n) := by
  have i8 := h.inj8
  refine ⟨fun i hi => ?_, fun i j hi hj e => ?_, fun i hi => if_neg (by omega)⟩
  · unfold by_
    rw [if_pos hi]
    have h1 := h.1 i (by omega)
    have h2 := h.1 n (by omega)
    split
    · rename_i z
      have : m n ≠ n := fun y => by have := i8 i n (by rw [z, y]); omega
      omega
    · omega
  · unfold by_ at e
    rw [if_pos hi, if_pos hj] at e
    by_cases a : m i = n
    · by_cases b : m j = n
      · exact i8 i j (by rw [a, b])
      · rw [if_pos a, if_neg b] at e
        have := i8 n j e
        omega
    · by_cases b : m j = n
      · rw [if_neg a, if_pos b] at e
        have := i8 i n e
        omega
      · rw [if_neg a, if_neg b] at e
        exact i8 i j e
theorem by_orb1 {m : Nat → Nat} {n p : Nat} (h : IsP (n + 1) m) (hp : p < n) : ∀ k, ∃ j, it_ (by_ m n) k p = it_ m j p
  | 0 => ⟨0, rfl⟩
  | k + 1 => by
    obtain ⟨j, e⟩ := by_orb1 h hp k
    have hlt : it_ (by_ m n) k p < n := (it_P (by_P h) k).1 p hp
    show ∃ j, by_ m n (it_ (by_ m n) k p) = it_ m j p
    rw [e] at hlt ⊢
    unfold by_
    rw [if_pos hlt]
    by_cases z : m (it_ m j p) = n
    · rw [if_pos z]
      exact ⟨j + 2, by show m n = m (m (it_ m j p)); rw [z]⟩
    · rw [if_neg z]
      exact ⟨j + 1, rfl⟩
theorem by_orb2 {m : Nat → Nat} {n p : Nat} (h : IsP (n + 1) m) (hp : p < n) : ∀ k, (∃ j, it_ (by_ m n) j p = it_ m k p) ∨ (it_ m k p = n ∧ ∃ j, m (it_ (by_ m n) j p) = n)
  | 0 => Or.inl ⟨0, rfl⟩
  | k + 1 => by
    have hlt : ∀ j, it_ (by_ m n) j p < n := fun j => (it_P (by_P h) j).1 p hp
    rcases by_orb2 h hp k with ⟨j, e⟩ | ⟨e, j, ej⟩
    · by_cases z : m (it_ m k p) = n
      · exact Or.inr ⟨z, j, by rw [e]; exact z⟩
      · refine Or.inl ⟨j + 1, ?_⟩
        show by_ m n (it_ (by_ m n) j p) = m (it_ m k p)
        have := hlt j
        rw [e] at this ⊢
        unfold by_
        rw [if_pos this, if_neg z]
    · refine Or.inl ⟨j + 1, ?_⟩
      show by_ m n (it_ (by_ m n) j p) = m (it_ m k p)
      rw [e]
      show (if it_ (by_ m n) j p < n then (if m (it_ (by_ m n) j p) = n then m n else m (it_ (by_ m n) j p)) else it_ (by_ m n) j p) = m n
      rw [if_pos (hlt j), if_pos ej]
theorem by_least {m : Nat → Nat} {n p : Nat} (h : IsP (n + 1) m) (hp : p < n) : (∀ k, p ≤ it_ m k p) ↔ ∀ k, p ≤ it_ (by_ m n) k p := by
  constructor
  · intro z k
    obtain ⟨j, e⟩ := by_orb1 h hp k
    rw [e]
    exact z j
  · intro z k
    rcases by_orb2 h hp k with ⟨j, e⟩ | ⟨e, -⟩
    · rw [← e]
      exact z j
    · omega
theorem cy_cong {m m2 : Nat → Nat} : ∀ n, (∀ p, p < n → ((∀ k, p ≤ it_ m k p) ↔ ∀ k, p ≤ it_ m2 k p)) → cy_ m n = cy_ m2 n
  | 0, _ => rfl
  | n + 1, h => by
    unfold cy_
    rw [cy_cong n (fun p hp => h p (by omega))]
    by_cases z : ∀ k, n ≤ it_ m k n
    · rw [if_pos z, if_pos ((h n (by omega)).mp z)]
    · rw [if_neg z, if_neg (fun y => z ((h n (by omega)).mpr y))]
theorem cr_cong {f g : Nat → Nat} {p p2 : Nat} : ∀ q, (∀ j, j < q → (f p < f j ↔ g p2 < g j)) → cr_ f p q = cr_ g p2 q
  | 0, _ => rfl
  | q + 1, h => by
    unfold cr_
    rw [cr_cong q (fun j hj => h j (by omega))]
    by_cases z : f p < f q
    · rw [if_pos z, if_pos ((h q (by omega)).mp z)]
    · rw [if_neg z, if_neg (fun y => z ((h q (by omega)).mpr y))]
theorem cr_none {f : Nat → Nat} {p : Nat} : ∀ q, (∀ j, j < q → ¬ f p < f j) → cr_ f p q = 0
  | 0, _ => rfl
  | q + 1, h => by
    unfold cr_
    rw [cr_none q (fun j hj => h j (by omega)), if_neg (h q (by omega))]
theorem iv_cong {f g : Nat → Nat} : ∀ n, (∀ j, j < n → f j = g j) → iv_ f n = iv_ g n
  | 0, _ => rfl
  | n + 1, h => by
    unfold iv_
    rw [iv_cong n (fun j hj => h j (by omega)), cr_cong n (fun j hj => by rw [h n (by omega), h j (by omega)])]
/-- crossings, cycles and places together are even -/
theorem sg_even : ∀ n m, IsP n m → (iv_ m n + cy_ m n + n) % 2 = 0 := by
  intro n
  induction n with
  | zero => intro m _; rfl
  | succ n ih =>
    intro m h
    have i8 := h.inj8
    have hb := ih _ (by_P h)
    have hv : ∀ j, j ≤ n → m j ≤ n := fun j hj => by have := h.1 j (by omega); omega
    have e1 : iv_ m (n + 1) = iv_ m n + cr_ m n n := rfl
    have e2 : cy_ m n = cy_ (by_ m n) n := cy_cong n (fun p hp => by_least h hp)
    by_cases z : m n = n
    · have e3 : cy_ m (n + 1) = cy_ m n + 1 := by
        show cy_ m n + _ = _
        rw [if_pos]
        intro k
        have : it_ m k n = n := by
          induction k with
          | zero => rfl
          | succ k ihk => show m (it_ m k n) = n; rw [ihk, z]
        omega
      have e4 : cr_ m n n = 0 := cr_none n (fun j hj => by have := hv j (by omega); omega)
      have e5 : iv_ m n = iv_ (by_ m n) n := iv_cong n (fun j hj => by
        unfold by_
        rw [if_pos hj, if_neg]
        intro y
        have := i8 j n (by rw [y, z])
        omega)
      rw [e1, e3, e4, e2, e5]
      omega
    · have han : m n < n := by have := hv n (Nat.le_refl n); omega
      have e3 : cy_ m (n + 1) = cy_ m n := by
        show cy_ m n + _ = _
        rw [if_neg (fun y : ∀ k, n ≤ it_ m k n => by have : n ≤ m n := y 1; omega)]
        rfl
      -- the place that goes to n
      obtain ⟨p0, hp0, e0⟩ : ∃ p0, p0 < n ∧ m p0 = n := by
        refine Classical.byContradiction fun y => ?_
        have hlt : ∀ j, j < n + 1 → m j < n := fun j hj => by
          have := hv j (by omega)
          rcases Nat.lt_or_ge j n with q | q
          · have : m j ≠ n := fun w => y ⟨j, q, w⟩
            omega
          · obtain rfl : j = n := by omega
            exact han
        have hp := pig_ n ((List.range (n + 1)).map m) (by
          unfold List.Nodup
          rw [List.pairwise_map]
          exact List.Pairwise.imp (fun {a b} hab w => hab (i8 a b w)) List.nodup_range) (fun x hx => by
          obtain ⟨j, hj, rfl⟩ := List.mem_map.mp hx
          exact hlt j (List.mem_range.mp hj))
        rw [List.length_map, List.length_range] at hp
        omega
      have hb' : ∀ j, j < n → j ≠ p0 → by_ m n j = m j := fun j hj hne => by
        unfold by_
        rw [if_pos hj, if_neg (fun w => hne (i8 j p0 (by rw [w, e0])))]
      have hb0 : by_ m n p0 = m n := by
        unfold by_
        rw [if_pos hp0, if_pos e0]
      have low : ∀ k, k ≤ p0 → iv_ m k = iv_ (by_ m n) k := fun k hk => iv_cong k (fun j hj => (hb' j (by omega) (by omega)).symm)
      have c0 : cr_ m p0 p0 = 0 := cr_none p0 (fun j hj => by have := hv j (by omega); omega)
      have c1 : cr_ (by_ m n) p0 p0 = cr_ m n p0 := cr_cong p0 (fun j hj => by rw [hb0, hb' j (by omega) (by omega)])
      have c2 : cr_ m n (p0 + 1) = cr_ m n p0 + 1 := by
        show cr_ m n p0 + _ = _
        rw [e0, if_pos han]
      have c3 : ∀ p, p0 < p → p < n → ∀ q, p0 < q → q ≤ p → cr_ m p q = cr_ (by_ m n) p q + (if m n < m p then 1 else 0) := by
        intro p h1 h2 q
        have hmp : m p ≠ m n := fun w => by have := i8 p n w; omega
        have hmpn : m p < n := by
          have := hv p (by omega)
          have : m p ≠ n := fun w => by have := i8 p p0 (by rw [w, e0]); omega
          omega
        induction q with
        | zero => intro h3; omega
        | succ q ihq =>
          intro h3 h4
          by_cases w : q = p0
          · subst w
            have d1 : cr_ m p q = cr_ (by_ m n) p q := cr_cong q (fun j hj => by rw [hb' p h2 (by omega), hb' j (by omega) (by omega)])
            show cr_ m p q + _ = cr_ (by_ m n) p q + _ + _
            rw [d1, e0, hb0, hb' p h2 (by omega), if_pos hmpn]
            by_cases y : m n < m p
            · rw [if_pos y, if_neg (by omega)]
            · rw [if_neg y, if_pos (by omega)]
          · have := ihq (by omega) (by omega)
            show cr_ m p q + _ = cr_ (by_ m n) p q + _ + _
            rw [this, hb' p h2 (by omega), hb' q (by omega) w]
            omega
      have high : ∀ k, p0 < k → k ≤ n → iv_ m k + (2 * cr_ m n p0 + 1) = iv_ (by_ m n) k + cr_ m n k := by
        intro k
        induction k with
        | zero => intro h1; omega
        | succ k ihk =>
          intro h1 h2
          by_cases w : k = p0
          · subst w
            show iv_ m k + cr_ m k k + _ = iv_ (by_ m n) k + cr_ (by_ m n) k k + _
            rw [c0, c1, c2, low k (Nat.le_refl k)]
            omega
          · have := ihk (by omega) (by omega)
            have d := c3 k (by omega) (by omega) k (by omega) (Nat.le_refl k)
            show iv_ m k + cr_ m k k + _ = iv_ (by_ m n) k + cr_ (by_ m n) k k + (cr_ m n k + if m n < m k then 1 else 0)
            rw [d]
            omega
      have hn := high n hp0 (Nat.le_refl n)
      rw [e1, e3, e2]
      omega
theorem iv_top {m : Nat → Nat} {n : Nat} (h : IsP n m) : ∀ k, iv_ m (n + k) = iv_ m n
  | 0 => rfl
  | k + 1 => by
    show iv_ m (n + k) + cr_ m (n + k) (n + k) = _
    rw [iv_top h k, cr_none]
    · rfl
    · intro j hj
      rw [h.2.2 (n + k) (by omega)]
      rcases Nat.lt_or_ge j n with q | q
      · have := h.1 j q; omega
      · rw [h.2.2 j q]; omega
theorem sign_eq {m : Nat → Nat} {n : Nat} (hn : n ≤ 8) (h : IsP n m) : iv_ m 8 % 2 = 0 ↔ (n - cy_ m n) % 2 = 0 := by
  have e := iv_top h (8 - n)
  rw [show n + (8 - n) = 8 by omega] at e
  rw [e]
  have h1 := sg_even n m h
  have h2 := cy_le m n
  omega
