-- ===== Past: countRows, the whole =====
/-- the counting has come to c times from the end -/
def cq2_ (h h1 : Hp_) (a b c e p q r y : Nat) (s : Sg_) (m t n : Nat) (p1 q1 : Nat) : Prop := ((p1 = p ∧ q1 = q) ∨ (p1 = q ∧ q1 = p)) ∧ S_Past h1 a b c e p1 q1 r y ∧ PX_ h1 a b c e p1 q1 r y s m t ∧ ag_ (fun v => v = 43 ∨ v = p ∨ v = q ∨ v = r) h h1 ∧ (hp_nx h1 = hp_nx h ∧ hp_sl h1 = hp_sl h ∧ hp_I h1 43 = hp_I h 43 ∧ hp_I h1 51 = hp_I h 51 ∧ hp_I h1 52 = hp_I h 52) ∧ FB_ h1 r s m t (fun _ => m + 1 - n) ∧ (0 < n → ∀ (j : Nat) (z : (Nat → Nat) × Nat × List Nat), (qp_ s m t)[j]? = some z → hp_J h1 p1 j = lN (nw_ s m (n - 1) (up_ s z)))
theorem Past_swap {h : Hp_} {a b c e p q r y m t : Nat} {s : Sg_} (S : S_Past h a b c e p q r y) (X : PX_ h a b c e p q r y s m t) (h2 : Hp_) (e2 : h2 = hp_rR (hp_rR h 43 (va_up (hp_R h 43) 9 p)) 43 (va_up (hp_R (hp_rR h 43 (va_up (hp_R h 43) 9 p)) 43) 8 q)) : S_Past h2 a b c e q p r y ∧ PX_ h2 a b c e q p r y s m t ∧ hp_I h2 = hp_I h ∧ hp_J h2 = hp_J h ∧ (hp_nx h2 = hp_nx h ∧ hp_sl h2 = hp_sl h) ∧ ag_ (fun v => v = 43) h h2 := by
  have A : ag_ (fun v => v = 43) h h2 := by
    rw [e2]
    exact ag_rR (P := fun v => v = 43) (c := 43) (ag_rR (P := fun v => v = 43) (c := 43) (ag_refl (fun v => v = 43) h) (fun _ => rfl) _) (fun _ => rfl) _
  have hR : ∀ k, hp_R h2 43 k = if k = 8 then q else if k = 9 then p else hp_R h 43 k := by
    intro k
    rw [e2]
    show va_up (va_up (hp_R h) 43 (va_up (hp_R h 43) 9 p)) 43 (va_up (va_up (hp_R h) 43 (va_up (hp_R h 43) 9 p) 43) 8 q) 43 k = _
    rw [sd_up_eq, sd_up_eq, vu_at, vu_at]
  have ex := Past_ex S
  have rx := Past_rx S
  obtain ⟨i1, i2, i3, i4⟩ := Past_in S
  obtain ⟨l1, l2, l3, l4⟩ := Past_ln S
  have hkd : hp_kd h2 = hp_kd h := by rw [e2]; rfl
  have hln : hp_ln h2 = hp_ln h := by rw [e2]; rfl
  have hI : hp_I h2 = hp_I h := by rw [e2]; rfl
  have hJ : hp_J h2 = hp_J h := by rw [e2]; rfl
  have hnx : hp_nx h2 = hp_nx h := by rw [e2]; rfl
  refine ⟨Past_new S A ⟨hR 0, hR 1, hR 2, hR 3, hR 4⟩ ⟨hR 8, hR 9, (hR 10).trans (Past_R10 S), (hR 11).trans (Past_R11 S)⟩ (by rw [hkd]; exact ⟨Past_k9 S, Past_k8 S, Past_k10 S, Past_k11 S⟩) (by rw [hln]; exact ⟨l2, l1, l3, l4⟩) ⟨Ne.symm (Past_pq S), ex⟩ ⟨rx.2.1, rx.1, rx.2.2⟩ (by rw [hnx]; exact ⟨i2, i1, i3, i4⟩), ?_, hI, hJ, ⟨hnx, by rw [e2]; rfl⟩, A⟩
  obtain ⟨X1, X2, X3, X4, X5, X6, X7⟩ := X
  unfold PX_ OI_ SP_ at *
  rw [hI, hln]
  exact ⟨X1, X2, X3, X4, X6, X5, X7⟩
theorem Cells_longAtV_ok {h : Hp_} {a j : Nat} {v : Int64} (hk : hp_kd h a = 2) (h0 : a ≠ 0) (hj : j < hp_ln h a) (hl : hp_ln h a < 2 ^ 31) (hv : hp_J h a j = v) : cJ 1 mn_Cells_longAt [.ref a, .int (nI j)] h (fun x h' => x = v ∧ h' = h) := by
  have k := Cells_longAt_ok (i := nI j) hk h0 hl
  rw [ca_in hj (by omega), hv] at k
  exact k
/-- the rows of the Past are all other ones than those of its orbit -/
theorem Past_dis {h : Hp_} {a b c e p q r y : Nat} (S : S_Past h a b c e p q r y) : (∀ x, (x = 44 ∨ x = a ∨ x = b ∨ x = c ∨ x = e) → x ≠ p ∧ x ≠ q ∧ x ≠ r ∧ x ≠ y) ∧ (p ≠ q ∧ p ≠ r ∧ p ≠ y ∧ q ≠ r ∧ q ≠ y ∧ r ≠ y) := by
  have hq := rx_55 (Past_rx S)
  have ex := Past_ex S
  unfold ex_ at ex
  have k8 := Past_k8 S
  have k9 := Past_k9 S
  have k10 := Past_k10 S
  have k11 := Past_k11 S
  have o := (Past_s0 S).2.2.1
  have D : ∀ {x v : Nat}, hp_kd h x = 1 → hp_kd h v = 2 → x ≠ v := by
    intro x v h1 h2 z
    rw [z, h2] at h1
    cases h1
  refine ⟨fun x hx => ?_, Past_pq S, (D k10 k8).symm, (D k11 k8).symm, (D k10 k9).symm, (D k11 k9).symm, ex.1⟩
  rcases hx with u | hx
  · omega
  · have k1 : hp_kd h x = 1 := by
      rcases hx with u | u | u | u
      · rw [u]; exact o.1
      · rw [u]; exact o.2.1
      · rw [u]; exact o.2.2.1
      · rw [u]; exact o.2.2.2
    exact ⟨D k1 k8, D k1 k9, by omega, by omega⟩
theorem PX_fz {h h1 : Hp_} {a b c e p q r y m t : Nat} {s : Sg_} {P : Nat → Prop} (X : PX_ h a b c e p q r y s m t) (z : fz_ P h h1) (n : ∀ x, (x = 44 ∨ x = a ∨ x = b ∨ x = c ∨ x = e) → ¬ P x) : PX_ h1 a b c e p q r y s m t := by
  obtain ⟨X1, X2, X3, X4, X5, X6, X7, X8⟩ := X
  have ka := n a (Or.inr (Or.inl rfl))
  have kb := n b (Or.inr (Or.inr (Or.inl rfl)))
  have kc := n c (Or.inr (Or.inr (Or.inr (Or.inl rfl))))
  have ke := n e (Or.inr (Or.inr (Or.inr (Or.inr rfl))))
  exact ⟨OI_cg X1 (by rw [fz_I z (n 44 (Or.inl rfl))]) ⟨by rw [fz_I z ka], by rw [fz_ln z]⟩ ⟨by rw [fz_I z kb], by rw [fz_ln z]⟩ ⟨by rw [fz_I z kc], by rw [fz_ln z]⟩, (by unfold SP_ at X2 ⊢; rw [fz_I z ke]; exact X2), X3, by rw [fz_ln z]; exact X4, by rw [fz_ln z]; exact X5, by rw [fz_ln z]; exact X6, by rw [fz_ln z]; exact X7, by rw [fz_ln z]; exact X8⟩
theorem FB_lo {h : Hp_} {r : Nat} {s : Sg_} {m t : Nat} {lo lo2 : Nat → Nat} (F : FB_ h r s m t lo) (hl : ∀ j, j < (qp_ s m t).length → lo j = lo2 j) : FB_ h r s m t lo2 := by
  intro j z hj
  obtain ⟨B, b1, b2, b3⟩ := F j z hj
  exact ⟨B, b1, b2, fun u => by rw [b3 u, hl j (List.getElem?_eq_some_iff.mp hj).1]⟩
set_option maxRecDepth 4000 in
set_option maxHeartbeats 4000000 in
theorem Past_countRows_ok {h : Hp_} {a b c e p q r y m t G T : Nat} {s : Sg_} (S : S_Past h a b c e p q r y) (w : sg_wf s) (X : PX_ h a b c e p q r y s m t) (F : PF_ h s m G T) (hm : m ≤ 12) (hz : ∀ i, i < (qp_ s m t).length → hp_I h r i = nI 0) : cV 8 mn_Past_countRows [.ref 43, .int (nI m)] h (fun h' => ∃ p2 q2, ((p2 = p ∧ q2 = q) ∨ (p2 = q ∧ q2 = p)) ∧ S_Past h' a b c e p2 q2 r y ∧ PX_ h' a b c e p2 q2 r y s m t ∧ ag_ (fun v => v = 43 ∨ v = p ∨ v = q ∨ v = r) h h' ∧ (hp_nx h' = hp_nx h ∧ hp_sl h' = hp_sl h ∧ hp_I h' 43 = hp_I h 43 ∧ hp_I h' 51 = hp_I h 51 ∧ hp_I h' 52 = hp_I h 52) ∧ FB_ h' r s m t (fun _ => 0) ∧ hp_J h' 43 5 = lN (nw_ s m m (fun g => g))) := by
  have n8 := w.1.2
  have F0 : FB_ h r s m t (fun _ => m + 1 - 0) := by
    intro j z hj
    refine ⟨0, by decide, hz j (List.getElem?_eq_some_iff.mp hj).1, fun u => ?_⟩
    rw [Nat.zero_testBit]
    exact ⟨fun k => (by cases k), fun k => absurd k.2.1 (by have k1 : m + 1 - 0 ≤ u := k.1; omega)⟩
  refine cq_in (q := mi_Past_countRows) (L := [some (.ref 43), some (.int (nI m)), none, none, none, none, none]) rfl (Nat.le_of_ble_eq_true rfl) rfl ?_
  show wq _ tb_Past_countRows none 0 _ _ _ _
  refine wp_iload1 rfl ?_
  refine wp_istore2 rfl rfl ?_
  refine wq_loop (X := (Nat × Nat) × Option Value × Option Value × Option Value × Option Value) (fun n x => [some (.ref 43), some (.int (nI m)), some (.int (tm_ m n)), x.2.1, x.2.2.1, x.2.2.2.1, x.2.2.2.2]) (fun n x h1 => cq2_ h h1 a b c e p q r y s m t n x.1.1 x.1.2) (m + 1) (0) (((p, q), none, none, none, none)) ?_ ?_ ?_ ?_
  · omega
  · exact ⟨Or.inl ⟨rfl, rfl⟩, S, X, ag_refl _ _, ⟨rfl, rfl, rfl, rfl, rfl⟩, F0, fun k => absurd k (Nat.lt_irrefl 0)⟩
  · intro n x h1 hi I go
    show wq _ tb_Past_countRows _ 2 [some (.ref 43), some (.int (nI m)), some (.int (tm_ m n)), x.2.1, x.2.2.1, x.2.2.2.1, x.2.2.2.2] [] h1 _
    obtain ⟨⟨p1, q1⟩, v3, v4, v5, v6⟩ := x
    have I' : cq2_ h h1 a b c e p q r y s m t n p1 q1 := I
    obtain ⟨D1, S1, X1, A1, ⟨N1, N2, N3, N4, N5⟩, B1, W1⟩ := I'
    have hnm : n < m + 1 := hi
    have hs := rx_55 (Past_rx S1)
    show wq _ tb_Past_countRows _ 2 [some (.ref 43), some (.int (nI m)), some (.int (tm_ m n)), v3, v4, v5, v6] [] h1 _
    rw [show tm_ m n = nI (m - n) from if_pos (by omega)]
    refine wp_iload2 rfl ?_
    refine wp_if_ltN (m - n) 0 (by omega) (by decide) rfl ?_
    refine wp_aload0 rfl ?_
    refine wp_getR rfl (Past_kd S1) (Past_R9 S1) (by first | decide | omega) ?_
    refine wp_astore3 rfl rfl ?_
    refine wp_aload0 rfl ?_
    refine wp_aload0 rfl ?_
    refine wp_getR rfl (Past_kd S1) (Past_R8 S1) (by first | decide | omega) ?_
    refine wp_putR rfl (show hp_kd h1 43 = 18 from Past_kd S1) (show p1 ≠ 0 by omega) ?_
    refine wp_aload0 rfl ?_
    refine wp_aload3 rfl ?_
    refine wp_putR rfl (show hp_kd h1 43 = 18 from Past_kd S1) (show q1 ≠ 0 by omega) ?_
    refine wp_iconst rfl ?_
    refine wp_istore4 rfl rfl ?_
    refine wq_gen (fun h2 e2 => ?_)
    obtain ⟨S2, X2, hI, hJ, ⟨M1, M2⟩, A2⟩ := Past_swap S1 X1 h2 e2
    have F2 : PF_ h2 s m G T := PF_cg F (by rw [hI, N3]; exact ⟨rfl, rfl⟩) (by rw [hI, N4]) (by rw [hI, N5])
    refine Past_countOne_ok (v3 := q1) S2 w X2 F2 hm (tm := m - n) (by omega) (fun hlt j z hj => ?_) ?_ ?_
    · rw [hJ, show m - (m - n + 1) = n - 1 by omega]
      exact W1 (by omega) j z hj
    · unfold FB_ at B1 ⊢
      rw [hI, show m - n + 1 = m + 1 - n by omega]
      exact B1
    · intro h3 u5 u6 ⟨z3, J3, B3⟩
      refine wp_iinc2 rfl rfl ?_
      refine wp_goto rfl ?_
      rw [tm_next (show n ≤ m by omega)]
      have dis := Past_dis S2
      refine go ((q1, p1), some (.ref q1), some (.int (nI (qp_ s m t).length)), u5, u6) h3 ?_
      show cq2_ h h3 a b c e p q r y s m t (n + 1) q1 p1
      refine ⟨D1.elim (fun k => Or.inr ⟨k.2, k.1⟩) (fun k => Or.inl ⟨k.2, k.1⟩), Past_fz S2 z3 (by rw [fz_I z3 (by have := dis.1 44 (Or.inl rfl); omega)]), PX_fz X2 z3 (fun x hx => by have := dis.1 x hx; omega), ag_trans (ag_trans A1 A2 (fun v _ hv => Or.inl hv)) (ag_fz z3) (fun v _ hv => ?_), ⟨by rw [z3.1.1]; exact M1.trans N1, by rw [z3.1.2.1]; exact M2.trans N2, ?_, ?_, ?_⟩, FB_lo B3 (fun j hj => by (try dsimp only); rw [if_pos hj]; omega), fun _ j z hj => ?_⟩
      · rcases hv with u | u
        · rcases D1 with ⟨d1, d2⟩ | ⟨d1, d2⟩
          · exact Or.inr (Or.inr (Or.inl (u.trans d2)))
          · exact Or.inr (Or.inl (u.trans d2))
        · exact Or.inr (Or.inr (Or.inr u))
      · rw [fz_I z3 (by have := rx_55 (Past_rx S2); omega), hI, N3]
      · rw [fz_I z3 (by have := rx_55 (Past_rx S2); omega), hI, N4]
      · rw [fz_I z3 (by have := rx_55 (Past_rx S2); omega), hI, N5]
      · rw [J3 j z (List.getElem?_eq_some_iff.mp hj).1 hj, show m - (m - n) = n + 1 - 1 by omega]
  · intro x h1 I
    show wq _ tb_Past_countRows _ 2 [some (.ref 43), some (.int (nI m)), some (.int (tm_ m (m + 1))), x.2.1, x.2.2.1, x.2.2.2.1, x.2.2.2.2] [] h1 _
    obtain ⟨⟨p1, q1⟩, v3, v4, v5, v6⟩ := x
    have I' : cq2_ h h1 a b c e p q r y s m t (m + 1) p1 q1 := I
    obtain ⟨D1, S1, X1, A1, ⟨N1, N2, N3, N4, N5⟩, B1, W1⟩ := I'
    have hs := rx_55 (Past_rx S1)
    have lns := Past_ln S1
    have hl0 := (List.getElem?_eq_some_iff.mp (qp_0 (s := s) (m := m) (t := t))).1
    have lp := X1.2.2.2.2.1
    show wq _ tb_Past_countRows _ 2 [some (.ref 43), some (.int (nI m)), some (.int (tm_ m (m + 1))), v3, v4, v5, v6] [] h1 _
    rw [show tm_ m (m + 1) = -1 from if_neg (by omega)]
    refine wp_iload2 rfl ?_
    refine wp_if_lt rfl (fun _ => ?_) (fun z => absurd z (fun z2 => z2 (by decide)))
    refine wp_aload0 rfl ?_
    refine wp_aload0 rfl ?_
    refine wp_getR rfl (Past_kd S1) (Past_R8 S1) (by first | decide | omega) ?_
    refine wp_iconst rfl ?_
    refine wp_callS2J rfl (Nat.le_of_ble_eq_true rfl) (Cells_longAtV_ok (j := 0) (Past_k8 S1) (by omega) (by omega) (by omega) (W1 (by omega) 0 _ qp_0)) (Nat.le_of_ble_eq_true rfl) ?_
    refine pure_ ?_
    refine wp_putJ rfl (Past_kd S1) ?_
    have z4 : fz_ (fun v => v = 43) h1 (hp_rJ h1 43 (va_up (hp_J h1 43) 5 (lN (nw_ s m (m + 1 - 1) (up_ s (ry_ s m (fun g => g), 0, [])))))) := fz_rJ (P := fun v => v = 43) (c := 43) (fz_refl _ _) rfl _
    have rw5 := rw_lo (by decide) (Past_rw S1)
    refine wp_vret rfl ⟨rfl, p1, q1, D1, Past_fz S1 z4 rfl, PX_fz X1 z4 (fun x hx => by omega), ag_trans A1 (ag_fz z4) (fun v _ hv => Or.inl hv), ⟨N1, N2, N3, N4, N5⟩, FB_lo B1 (fun j _ => by omega), ?_⟩
    rw [sd_rJ_eq, vu_at, if_pos rfl]
    rfl
