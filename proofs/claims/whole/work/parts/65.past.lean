-- ===== Past: countRows =====
/-- the time that goes down -/
def tm_ (m c : Nat) : Int32 := if c ≤ m then nI (m - c) else -1
theorem tm_next {m c : Nat} (hc : c ≤ m) : nI (m - c) + (-1) = tm_ m (c + 1) := by
  unfold tm_
  by_cases z : c + 1 ≤ m
  · rw [if_pos z, show m - c = (m - (c + 1)) + 1 by omega]
    exact pk_m1 _
  · rw [if_neg z, show m - c = 0 by omega]
    rfl
/-- from which times on a lying fits; up to i one more is told -/
def FB_ (h : Hp_) (r : Nat) (s : Sg_) (m t : Nat) (lo : Nat → Nat) : Prop := ∀ (j : Nat) (z : (Nat → Nat) × Nat × List Nat), (qp_ s m t)[j]? = some z → ∃ B : Nat, B < 8192 ∧ hp_I h r j = nI B ∧ ∀ u, B.testBit u = true ↔ lo j ≤ u ∧ u ≤ m ∧ 0 < nw_ s m (m - u) (up_ s z)
theorem nw_fit {s : Sg_} {m k : Nat} {u : Nat → Nat} (h : ft_ s (m - k) u = false) : nw_ s m k u = 0 := by
  cases k with
  | zero => unfold nw_; rw [show ft_ s m u = false from h]; rfl
  | succ k => unfold nw_; rw [h]; rfl
theorem nw_sum {s : Sg_} {m k : Nat} {x0 : (Nat → Nat) × Nat × List Nat} (h : ft_ s (m - (k + 1)) (up_ s x0) = true) : nw_ s m (k + 1) (up_ s x0) = sm_ (gw_ s m k x0) 6 := by
  show (if ft_ s (m - (k + 1)) (up_ s x0) = true then _ else 0) = _
  rw [h, if_pos rfl]
  rfl
theorem FB_put {h h2 : Hp_} {r : Nat} {s : Sg_} {m t i tm : Nat} {lo lo2 : Nat → Nat} {x0 : (Nat → Nat) × Nat × List Nat} (F : FB_ h r s m t lo) (hx : (qp_ s m t)[i]? = some x0) (hm : m ≤ 12) (ht : tm ≤ m) (h1 : lo i = tm + 1) (h3 : lo2 = va_up lo i tm) : (nw_ s m (m - tm) (up_ s x0) = 0 → hp_I h2 r = hp_I h r → FB_ h2 r s m t lo2) ∧ (0 < nw_ s m (m - tm) (up_ s x0) → ∀ B, hp_I h r i = nI B → hp_I h2 r = va_up (hp_I h r) i (nI (B ||| 2 ^ tm)) → B < 8192 → FB_ h2 r s m t lo2) := by
  subst h3
  constructor
  · intro hz hI j z hj
    obtain ⟨B, b1, b2, b3⟩ := F j z hj
    refine ⟨B, b1, by rw [hI]; exact b2, fun u => ?_⟩
    rw [b3 u, vu_at]
    by_cases y : j = i
    · rw [if_pos y, y, h1]
      rw [y, hx] at hj
      cases hj
      constructor
      · rintro ⟨c1, c2, c3⟩; exact ⟨by omega, c2, c3⟩
      · rintro ⟨c1, c2, c3⟩
        refine ⟨?_, c2, c3⟩
        rcases Nat.lt_or_ge tm u with q | q
        · omega
        · obtain rfl : u = tm := by omega
          omega
    · rw [if_neg y]
  · intro hz B hB hI hb j z hj
    obtain ⟨B2, b1, b2, b3⟩ := F j z hj
    by_cases y : j = i
    · subst y
      rw [hx] at hj
      cases hj
      rw [hB] at b2
      obtain rfl := nI_inj (by omega) (by omega) b2
      refine ⟨B ||| 2 ^ tm, Nat.or_lt_two_pow (n := 13) b1 (Nat.pow_lt_pow_right (by decide) (by omega)), by rw [hI, vu_at, if_pos rfl], fun u => ?_⟩
      rw [Nat.testBit_or, Bool.or_eq_true, b3 u, Nat.testBit_two_pow, decide_eq_true_iff, vu_at, if_pos rfl, h1]
      constructor
      · rintro (⟨c1, c2, c3⟩ | rfl)
        · exact ⟨by omega, c2, c3⟩
        · exact ⟨Nat.le_refl _, ht, hz⟩
      · rintro ⟨c1, c2, c3⟩
        rcases Nat.lt_or_ge tm u with q | q
        · exact Or.inl ⟨q, c2, c3⟩
        · exact Or.inr (by omega)
    · refine ⟨B2, b1, by rw [hI, vu_at, if_neg y]; exact b2, fun u => ?_⟩
      rw [b3 u, vu_at, if_neg y]
