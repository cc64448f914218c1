-- ===== Past: countRows =====
/-- the time that goes down -/
def tm_ (m c : Nat) : Int32 := if c ≤ m then nI (m - c) else -1
theorem tm_next {m c : Nat} (hc : c ≤ m) : nI (m - c) + (-1) = tm_ m (c + 1) := by
  unfold tm_
  by_cases z : c + 1 ≤ m
  · rw [if_pos z, show m - c = (m - (c + 1)) + 1 by omega]
    exact pk_m1 _
  · rw [if_neg z, show m - c = 0 by omega]
    rfl
/-- from which times on a lying fits; up to i one more is told -/
def FB_ (h : Hp_) (r : Nat) (s : Sg_) (m t : Nat) (lo : Nat → Nat) : Prop := ∀ (j : Nat) (z : (Nat → Nat) × Nat × List Nat), (qp_ s m t)[j]? = some z → ∃ B : Nat, B < 8192 ∧ hp_I h r j = nI B ∧ ∀ u, B.testBit u = true ↔ lo j ≤ u ∧ u ≤ m ∧ 0 < nw_ s m (m - u) (up_ s z)
theorem nw_fit {s : Sg_} {m k : Nat} {u : Nat → Nat} (h : ft_ s (m - k) u = false) : nw_ s m k u = 0 := by
  cases k with
  | zero => unfold nw_; rw [show ft_ s m u = false from h]; rfl
  | succ k => unfold nw_; rw [h]; rfl
theorem nw_sum {s : Sg_} {m k : Nat} {x0 : (Nat → Nat) × Nat × List Nat} (h : ft_ s (m - (k + 1)) (up_ s x0) = true) : nw_ s m (k + 1) (up_ s x0) = sm_ (gw_ s m k x0) 6 := by
  show (if ft_ s (m - (k + 1)) (up_ s x0) = true then _ else 0) = _
  rw [h, if_pos rfl]
  rfl
theorem FB_put {h h2 : Hp_} {r : Nat} {s : Sg_} {m t i tm : Nat} {lo lo2 : Nat → Nat} {x0 : (Nat → Nat) × Nat × List Nat} (F : FB_ h r s m t lo) (hx : (qp_ s m t)[i]? = some x0) (hm : m ≤ 12) (ht : tm ≤ m) (h1 : lo i = tm + 1) (h3 : lo2 = va_up lo i tm) : (nw_ s m (m - tm) (up_ s x0) = 0 → hp_I h2 r = hp_I h r → FB_ h2 r s m t lo2) ∧ (0 < nw_ s m (m - tm) (up_ s x0) → ∀ B, hp_I h r i = nI B → hp_I h2 r = va_up (hp_I h r) i (nI (B ||| 2 ^ tm)) → B < 8192 → FB_ h2 r s m t lo2) := by
  subst h3
  constructor
  · intro hz hI j z hj
    obtain ⟨B, b1, b2, b3⟩ := F j z hj
    refine ⟨B, b1, by rw [hI]; exact b2, fun u => ?_⟩
    rw [b3 u, vu_at]
    by_cases y : j = i
    · rw [if_pos y, y, h1]
      rw [y, hx] at hj
      cases hj
      constructor
      · rintro ⟨c1, c2, c3⟩; exact ⟨by omega, c2, c3⟩
      · rintro ⟨c1, c2, c3⟩
        refine ⟨?_, c2, c3⟩
        rcases Nat.lt_or_ge tm u with q | q
        · omega
        · obtain rfl : u = tm := by omega
          omega
    · rw [if_neg y]
  · intro hz B hB hI hb j z hj
    obtain ⟨B2, b1, b2, b3⟩ := F j z hj
    by_cases y : j = i
    · subst y
      rw [hx] at hj
      cases hj
      rw [hB] at b2
      obtain rfl := nI_inj (by omega) (by omega) b2
      refine ⟨B ||| 2 ^ tm, Nat.or_lt_two_pow (n := 13) b1 (Nat.pow_lt_pow_right (by decide) (by omega)), by rw [hI, vu_at, if_pos rfl], fun u => ?_⟩
      rw [Nat.testBit_or, Bool.or_eq_true, b3 u, Nat.testBit_two_pow, decide_eq_true_iff, vu_at, if_pos rfl, h1]
      constructor
      · rintro (⟨c1, c2, c3⟩ | rfl)
        · exact ⟨by omega, c2, c3⟩
        · exact ⟨Nat.le_refl _, ht, hz⟩
      · rintro ⟨c1, c2, c3⟩
        rcases Nat.lt_or_ge tm u with q | q
        · exact Or.inl ⟨q, c2, c3⟩
        · exact Or.inr (by omega)
    · refine ⟨B2, b1, by rw [hI, vu_at, if_neg y]; exact b2, fun u => ?_⟩
      rw [b3 u, vu_at, if_neg y]
/-- one time has been counted -/
def cr2_ (h h2 : Hp_) (p r : Nat) (s : Sg_) (m t tm i : Nat) : Prop := fz_ (fun v => v = p ∨ v = r) h h2 ∧ (∀ (j : Nat) (z : (Nat → Nat) × Nat × List Nat), j < i → (qp_ s m t)[j]? = some z → hp_J h2 p j = lN (nw_ s m (m - tm) (up_ s z))) ∧ FB_ h2 r s m t (fun j => if j < i then tm else tm + 1)
set_option maxRecDepth 4000 in
set_option maxHeartbeats 4000000 in
theorem Past_countOne_ok {h : Hp_} {a b c e p q r y m t tm G T : Nat} {s : Sg_} {v3 : Nat} {v5 v6 : Option Value} {Q : Option Value → Hp_ → Prop} (S : S_Past h a b c e p q r y) (w : sg_wf s) (X : PX_ h a b c e p q r y s m t) (F : PF_ h s m G T) (hm : m ≤ 12) (ht : tm ≤ m) (hA : tm < m → ∀ (j : Nat) (z : (Nat → Nat) × Nat × List Nat), (qp_ s m t)[j]? = some z → hp_J h q j = lN (nw_ s m (m - (tm + 1)) (up_ s z))) (hF : FB_ h r s m t (fun _ => tm + 1)) (k : ∀ h2 v5 v6, cr2_ h h2 p r s m t tm (qp_ s m t).length → wq 7 tb_Past_countRows none 122 [some (.ref 43), some (.int (nI m)), some (.int (nI tm)), some (.ref v3), some (.int (nI (qp_ s m t).length)), v5, v6] [] h2 Q) : wq 7 tb_Past_countRows none 27 [some (.ref 43), some (.int (nI m)), some (.int (nI tm)), some (.ref v3), some (.int (nI 0)), v5, v6] [] h Q := by
  have n8 := w.1.2
  have ⟨X1, X2, X3, X4, X5, X6, X7, X8⟩ := X
  have ⟨I1, I2, I3, ⟨Ia, Ib, Ic⟩, Ind, IL, Iat, Ino, Iol, Ios⟩ := X1
  rw [List.length_map] at I3
  have hlen := qp_len w m t
  have hce := ce_6 n8 (kn_6 w m)
  have lns := Past_ln S
  have hq := rx_55 (Past_rx S)
  have rwl := Past_rw S
  have ex := Past_ex S
  have kA : p ≠ a ∧ p ≠ b ∧ p ≠ c ∧ p ≠ e := by
    have k := Past_k8 S
    have o := (Past_s0 S).2.2.1
    refine ⟨fun z => ?_, fun z => ?_, fun z => ?_, fun z => ?_⟩
    · rw [z, o.1] at k; cases k
    · rw [z, o.2.1] at k; cases k
    · rw [z, o.2.2.1] at k; cases k
    · rw [z, o.2.2.2] at k; cases k
  have kQ : q ≠ p ∧ q ≠ r ∧ p ≠ r := by
    have k8 := Past_k8 S
    have k9 := Past_k9 S
    have k10 := Past_k10 S
    refine ⟨Ne.symm (Past_pq S), fun z => ?_, fun z => ?_⟩
    · rw [z, k10] at k9; cases k9
    · rw [z, k10] at k8; cases k8
  refine wq_loop (X := Option Value × Option Value) (fun i x => [some (.ref 43), some (.int (nI m)), some (.int (nI tm)), some (.ref v3), some (.int (nI i)), x.1, x.2]) (fun i x h1 => cr2_ h h1 p r s m t tm i) ((qp_ s m t).length) (0) ((v5, v6)) ?_ ?_ ?_ ?_
  · omega
  · exact ⟨fz_refl _ _, fun j z hj => absurd hj (Nat.not_lt_zero j), hF⟩
  · intro i x h1 hi I go
    show wq _ tb_Past_countRows _ 27 [some (.ref 43), some (.int (nI m)), some (.int (nI tm)), some (.ref v3), some (.int (nI i)), x.1, x.2] [] h1 _
    have ⟨z1, J1, B1⟩ := I
    have hil : i < (qp_ s m t).length := hi
    have hx := List.getElem?_eq_getElem hil
    generalize (qp_ s m t)[i] = x0 at hx
    have hxm := List.mem_of_getElem? hx
    have S1 := Past_fz S z1 (by rw [fz_I z1 (by omega)])
    have F1 := PF_cg F (h' := h1) (by rw [fz_I z1 (by omega)]; exact ⟨rfl, rfl⟩) (by rw [fz_I z1 (by have := Past_rx S; unfold rx_ at this; omega)]) (by rw [fz_I z1 (by have := Past_rx S; unfold rx_ at this; omega)])
    have cnt1 : hp_I h1 44 3 = nI (qp_ s m t).length := by rw [fz_I z1 (by omega)]; exact I3
    have ly1 : hp_I h1 a i = nI (pq_ (ry_ s m (up_ s x0)) 8) := by
      rw [fz_I z1 (by rintro (u | u); exact kA.1 u.symm; exact ex.2.1.1 u.symm), ← (qp_e w hxm).1]
      exact (Iat i x0.1 (by rw [List.getElem?_map, hx]; rfl)).1
    obtain ⟨B0, b1, b2, b3⟩ := B1 i x0 hx
    have hn62 := nw_12 s m (k := m - tm) (by omega) (up_ s x0)
    have X1' : PX_ h1 a b c e p q r y s m t := ⟨OI_cg X1 (by rw [fz_I z1 (by omega)]) ⟨by rw [fz_I z1 (by rintro (u | u); exact kA.1 u.symm; exact ex.2.1.1 u.symm)], by rw [fz_ln z1]⟩ ⟨by rw [fz_I z1 (by rintro (u | u); exact kA.2.1 u.symm; exact ex.2.1.2.1 u.symm)], by rw [fz_ln z1]⟩ ⟨by rw [fz_I z1 (by rintro (u | u); exact kA.2.2.1 u.symm; exact ex.2.1.2.2.1 u.symm)], by rw [fz_ln z1]⟩, (by unfold SP_ at X2 ⊢; rw [fz_I z1 (by rintro (u | u); exact kA.2.2.2 u.symm; exact ex.2.1.2.2.2 u.symm)]; exact X2), X3, by rw [fz_ln z1]; exact X4, by rw [fz_ln z1]; exact X5, by rw [fz_ln z1]; exact X6, by rw [fz_ln z1]; exact X7, by rw [fz_ln z1]; exact X8⟩
    have lnp : hp_ln h1 p = hp_ln h p := by rw [fz_ln z1]
    have lnr : hp_ln h1 r = hp_ln h r := by rw [fz_ln z1]
    have lna : hp_ln h1 a = hp_ln h a := by rw [fz_ln z1]
    have tail : wq 7 tb_Past_countRows none 76 [some (.ref 43), some (.int (nI m)), some (.int (nI tm)), some (.ref v3), some (.int (nI i)), some (.long (lN (nw_ s m (m - tm) (up_ s x0)))), none] [] h1 Q := by
      refine wp_aload0 rfl ?_
      refine wp_getR rfl (Past_kd S1) (Past_R8 S1) (by first | decide | omega) ?_
      refine wp_iload4 rfl ?_
      refine wp_lload5 rfl ?_
      refine wp_callS3V rfl (Nat.le_of_ble_eq_true rfl) (Cells_putLongN_ok (Past_k8 S1) (by omega) rfl (by omega) (by omega)) (Nat.le_of_ble_eq_true rfl) ?_
      intro h2 e2
      have z2 : fz_ (fun v => v = p ∨ v = r) h h2 := by rw [e2]; exact fz_rJ z1 (Or.inl rfl) _
      have J2 : ∀ (j : Nat) (z : (Nat → Nat) × Nat × List Nat), j < i + 1 → (qp_ s m t)[j]? = some z → hp_J h2 p j = lN (nw_ s m (m - tm) (up_ s z)) := by
        intro j z hj hz
        rw [e2, hJ_rJ, if_pos rfl, vu_at]
        by_cases u : j = i
        · rw [if_pos u]
          rw [u, hx] at hz
          cases hz
          rfl
        · rw [if_neg u]; exact J1 j z (by omega) hz
      have I2r : hp_I h2 = hp_I h1 := by rw [e2]; rfl
      have S2 := Past_fz S z2 (by rw [fz_I z2 (by omega)])
      have FP := FB_put (h2 := h2) (lo2 := fun j => if j < i + 1 then tm else tm + 1) B1 hx hm ht (if_neg (Nat.lt_irrefl i)) (funext fun j => by rw [vu_at]; by_cases u : j = i; rw [if_pos u, if_pos (by omega)]; rw [if_neg u]; by_cases u2 : j < i; rw [if_pos u2, if_pos (by omega)]; rw [if_neg u2, if_neg (by omega)])
      refine wp_lload5 rfl ?_
      refine wp_lconst rfl ?_
      refine wp_lcmp rfl ?_
      refine wp_if_le rfl (fun c3 => ?_) (fun c3 => ?_)
      · skip
        refine wp_iinc4N rfl rfl ?_
        refine wp_goto rfl ?_
        exact go (_, _) h2 ⟨z2, J2, FP.1 ((nw_p hn62).mp c3) (by rw [I2r])⟩
      · skip
        refine wp_aload0 rfl ?_
        refine wp_getR rfl (Past_kd S2) (Past_R10 S2) (by first | decide | omega) ?_
        refine wp_iload4 rfl ?_
        refine wp_aload0 rfl ?_
        refine wp_getR rfl (Past_kd S2) (Past_R10 S2) (by first | decide | omega) ?_
        refine wp_iload4 rfl ?_
        refine wp_callS2I rfl (Nat.le_of_ble_eq_true rfl) (Cells_atV_ok (Past_k10 S2) (by omega) (show i < hp_ln h2 r by rw [fz_ln z2]; omega) (by rw [fz_ln z2]; omega) (show hp_I h2 r i = nI B0 by rw [I2r]; exact b2)) (Nat.le_of_ble_eq_true rfl) ?_
        refine pure_ ?_
        refine wp_iconst rfl ?_
        refine wp_iload2 rfl ?_
        refine wp_ishlE (nI (2 ^ tm)) (nn_shl1 _ (by omega)) rfl ?_
        refine wp_iorE (nI (B0 ||| (2 ^ tm))) (nn_or _ _) rfl ?_
        refine wp_callS3V rfl (Nat.le_of_ble_eq_true rfl) (Cells_putN_ok (Past_k10 S2) (by omega) rfl (by rw [fz_ln z2]; omega) (by rw [fz_ln z2]; omega)) (Nat.le_of_ble_eq_true rfl) ?_
        intro h3 e3
        refine wp_iinc4N rfl rfl ?_
        refine wp_goto rfl ?_
        have FQ := FB_put (h2 := h3) (lo2 := fun j => if j < i + 1 then tm else tm + 1) B1 hx hm ht (if_neg (Nat.lt_irrefl i)) (funext fun j => by rw [vu_at]; by_cases u : j = i; rw [if_pos u, if_pos (by omega)]; rw [if_neg u]; by_cases u2 : j < i; rw [if_pos u2, if_pos (by omega)]; rw [if_neg u2, if_neg (by omega)])
        have hW : 0 < nw_ s m (m - tm) (up_ s x0) := by
          rcases Nat.eq_zero_or_pos (nw_ s m (m - tm) (up_ s x0)) with u | u
          · exact absurd ((nw_p hn62).mpr u) c3
          · exact u
        exact go (_, _) h3 ⟨by rw [e3]; exact fz_rI z2 (Or.inr rfl) _, by rw [e3]; exact J2, FQ.2 hW B0 b2 (by rw [e3, sd_rI_eq, I2r]) b1⟩
    refine wp_iload4 rfl ?_
    refine wp_aload0 rfl ?_
    refine wp_getR rfl (Past_kd S1) (Past_R0 S1) (by first | decide | omega) ?_
    refine wp_getIE rfl (Orbit_kd (Past_s0 S1)) (show _ = nI ((qp_ s m t).length) from cnt1) ?_
    refine wp_icmp_geN i ((qp_ s m t).length) (by omega) (by omega) rfl (fun z => absurd z (by omega)) (fun _ => ?_)
    refine wp_lconst rfl ?_
    refine wp_lstore5 rfl rfl ?_
    refine wp_aload0 rfl ?_
    refine wp_iload2 rfl ?_
    refine wp_aload0 rfl ?_
    refine wp_getR rfl (Past_kd S1) (Past_R0 S1) (by first | decide | omega) ?_
    refine wp_iload4 rfl ?_
    refine wp_callV1I rfl (Nat.le_of_ble_eq_true rfl) (Orbit_kd (Past_s0 S1)) (Orbit_lying_ok (Past_s0 S1) (show i < hp_ln h1 a by omega) ly1) (Nat.le_of_ble_eq_true rfl) ?_
    refine pure_ ?_
    refine wp_callV2I rfl (Nat.le_of_ble_eq_true rfl) (Past_kd S1) (Past_fits_ok S1 w F1 (up_P w x0) hm ht) (Nat.le_of_ble_eq_true rfl) ?_
    refine pure_ ?_
    refine wp_if_eqB rfl (fun c1 => ?_) (fun c1 => ?_)
    · skip
      rw [nw_fit (k := m - tm) (by rw [show m - (m - tm) = tm by omega]; exact c1)] at tail
      exact tail
    · skip
      refine wp_iload2 rfl ?_
      refine wp_iload1 rfl ?_
      refine wp_icmp_neN tm m (by omega) (by omega) rfl (fun c2 => ?_) (fun c2 => ?_)
      · skip
        refine wp_aload0 rfl ?_
        refine wp_iload4 rfl ?_
        refine wp_callV1J rfl (Nat.le_of_ble_eq_true rfl) (Past_kd S1) (Past_sumAfter_ok S1 w X1' (show m - (tm + 1) ≤ m by omega) hm hx (fun j z hz => by rw [fz_J z1 (by rintro (u | u); exact kQ.1 u; exact kQ.2.1 u)]; exact hA (by omega) j z hz)) (Nat.le_of_ble_eq_true rfl) ?_
        refine pure_ ?_
        refine wp_lstore5 rfl rfl ?_
        rw [show m - tm = (m - (tm + 1)) + 1 by omega, nw_sum (by rw [show m - (m - (tm + 1) + 1) = tm by omega]; exact c1)] at tail
        exact tail
      · skip
        refine wp_lconst rfl ?_
        refine wp_goto rfl ?_
        refine wp_lstore5 rfl rfl ?_
        rw [show nw_ s m (m - tm) (up_ s x0) = 1 by rw [show m - tm = 0 by omega]; unfold nw_; rw [show ft_ s m (up_ s x0) = true by rw [show m = tm by omega]; rw [show tm = m by omega] at c1 ⊢; exact c1]; rfl] at tail
        exact tail
  · intro x h1 I
    show wq _ tb_Past_countRows _ 27 [some (.ref 43), some (.int (nI m)), some (.int (nI tm)), some (.ref v3), some (.int (nI ((qp_ s m t).length))), x.1, x.2] [] h1 _
    have ⟨z1, J1, B1⟩ := I
    have S1 := Past_fz S z1 (by rw [fz_I z1 (by omega)])
    have cnt1 : hp_I h1 44 3 = nI (qp_ s m t).length := by rw [fz_I z1 (by omega)]; exact I3
    refine wp_iload4 rfl ?_
    refine wp_aload0 rfl ?_
    refine wp_getR rfl (Past_kd S1) (Past_R0 S1) (by first | decide | omega) ?_
    refine wp_getIE rfl (Orbit_kd (Past_s0 S1)) (show _ = nI ((qp_ s m t).length) from cnt1) ?_
    refine wp_icmp_geN ((qp_ s m t).length) ((qp_ s m t).length) (by omega) (by omega) rfl (fun _ => ?_) (fun z => absurd z (by omega))
    exact k _ _ _ I
