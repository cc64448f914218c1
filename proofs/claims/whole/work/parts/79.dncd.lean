-- ===== the class: told, image, restore =====
theorem rg_neg {a b : Nat} {x : Int32} (h : x < 0) : rg_ a b x = false := by
  rw [Int32.lt_iff_toInt_lt, show (0 : Int32).toInt = 0 from rfl] at h
  exact decide_eq_false (by omega)
theorem ni_ne {i j : Nat} (hj : j < 2 ^ 31) (hi : i < 2 ^ 31) (h : j ≠ i) : ¬ nI j = nI i := fun z => h (nI_inj hj hi z)
theorem at_no {t : Rt_} {j : Nat} (hj : j < 2 ^ 31) (h : 7 ≤ j) (h2 : j ≠ 20) (h3 : j ≠ 21) : at_ t (nI j) = -2 := by
  unfold at_
  rw [if_neg (ni_ne hj (by decide) (by omega)), if_neg (ni_ne hj (by decide) (by omega)), if_neg (ni_ne hj (by decide) (by omega)), if_neg (ni_ne hj (by decide) (by omega)), if_neg (ni_ne hj (by decide) (by omega)), if_neg (ni_ne hj (by decide) (by omega)), if_neg (ni_ne hj (by decide) (by omega)), if_neg (ni_ne hj (by decide) h2), if_neg (ni_ne hj (by decide) h3)]
theorem at_20 {t : Rt_} {j : Nat} (h2 : 20 ≤ j) (h3 : j < 22) : at_ t (nI j) = nI (sg_ca t.1 (j - 20)) := by
  have : j = 20 ∨ j = 21 := by omega
  rcases this with rfl | rfl
  · unfold at_
    rw [if_neg (by decide), if_neg (by decide), if_neg (by decide), if_neg (by decide), if_neg (by decide), if_neg (by decide), if_neg (by decide), if_pos rfl]
  · unfold at_
    rw [if_neg (by decide), if_neg (by decide), if_neg (by decide), if_neg (by decide), if_neg (by decide), if_neg (by decide), if_neg (by decide), if_neg (by decide), if_pos rfl]
theorem at_neg {t : Rt_} {x : Int32} (h : x < 0) : at_ t x = -2 := by
  have k : ∀ i : Nat, i < 2 ^ 31 → ¬ x = nI i := fun i hi z => by
    rw [z, Int32.lt_iff_toInt_lt, nI_toInt hi, show (0 : Int32).toInt = 0 from rfl] at h
    omega
  unfold at_
  rw [if_neg (k 0 (by decide)), if_neg (k 1 (by decide)), if_neg (k 2 (by decide)), if_neg (k 3 (by decide)), if_neg (k 4 (by decide)), if_neg (k 5 (by decide)), if_neg (k 6 (by decide)), if_neg (k 20 (by decide)), if_neg (k 21 (by decide))]
theorem told_low {t : Rt_} {j : Nat} (hj : j < 10) : an_told t (nI j) = at_ t (nI j) := by
  unfold an_told
  rw [show rg_ 10 15 (nI j) = false from (rg_nI (a := 10) (b := 15) (by omega)).trans (decide_eq_false (by omega)), show rg_ 30 (29 + sg_n t.1 : Nat) (nI j) = false from (rg_nI (a := 30) (b := 29 + sg_n t.1) (by omega)).trans (decide_eq_false (by omega)), show rg_ 40 (39 + sg_n t.1 : Nat) (nI j) = false from (rg_nI (a := 40) (b := 39 + sg_n t.1) (by omega)).trans (decide_eq_false (by omega))]
  rfl
theorem Dance_toldOfAll_ok {h : Hp_} {t : Rt_} {k j : Nat} (X : XB_ h t k) (hj : j ≤ 6) : cI 2 mn_RoundDance_toldOfAll [.ref 1, .int (nI j)] h (fun y h' => y = at_ t (nI j) ∧ h' = h) := by
  have h7 : j = 0 ∨ j = 1 ∨ j = 2 ∨ j = 3 ∨ j = 4 ∨ j = 5 ∨ j = 6 := by omega
  refine cq_in (q := mi_RoundDance_toldOfAll) (L := [some (.ref 1), some (.int (nI j))]) rfl (Nat.le_of_ble_eq_true rfl) rfl ?_
  show wq _ tb_RoundDance_toldOfAll none 0 _ _ _ _
  refine wp_iload1 rfl ?_
  rcases h7 with rfl | rfl | rfl | rfl | rfl | rfl | rfl
  · skip
    refine wp_sw_in (t := 40) (by decide) rfl (by decide) rfl ?_
    refine wp_aload0 rfl ?_
    refine wp_getR rfl (Dance_kd X.S) (Dance_R0 X.S) (by first | decide | omega) ?_
    refine wp_getIE rfl (Pad_kd (Dance_s0 X.S)) (show _ = nI (t.2.2.1) from X.c) ?_
    exact wp_iret rfl ⟨_, rfl, by unfold at_; rw [if_pos rfl], rfl⟩
  · skip
    refine wp_sw_in (t := 48) (by decide) rfl (by decide) rfl ?_
    refine wp_aload0 rfl ?_
    refine wp_getR rfl (Dance_kd X.S) (Dance_R1 X.S) (by first | decide | omega) ?_
    refine wp_getIE rfl (Market_kd (Dance_s1 X.S)) (show _ = nI (sg_n t.1) from X.n) ?_
    exact wp_iret rfl ⟨_, rfl, by unfold at_; rw [if_neg (by decide), if_pos rfl], rfl⟩
  · skip
    refine wp_sw_in (t := 56) (by decide) rfl (by decide) rfl ?_
    refine wp_aload0 rfl ?_
    refine wp_getR rfl (Dance_kd X.S) (Dance_R1 X.S) (by first | decide | omega) ?_
    refine wp_getIE rfl (Market_kd (Dance_s1 X.S)) (show _ = nI (sg_lm t.1) from X.M.1.2.2.1) ?_
    exact wp_iret rfl ⟨_, rfl, by unfold at_; rw [if_neg (by decide), if_neg (by decide), if_pos rfl], rfl⟩
  · skip
    refine wp_sw_in (t := 64) (by decide) rfl (by decide) rfl ?_
    refine wp_aload0 rfl ?_
    refine wp_getR rfl (Dance_kd X.S) (Dance_R1 X.S) (by first | decide | omega) ?_
    refine wp_getIE rfl (Market_kd (Dance_s1 X.S)) (show _ = nI (sg_pl t.1) from X.M.1.2.2.2.1) ?_
    exact wp_iret rfl ⟨_, rfl, by unfold at_; rw [if_neg (by decide), if_neg (by decide), if_neg (by decide), if_pos rfl], rfl⟩
  · skip
    refine wp_sw_in (t := 72) (by decide) rfl (by decide) rfl ?_
    refine wp_aload0 rfl ?_
    refine wp_getR rfl (Dance_kd X.S) (Dance_R1 X.S) (by first | decide | omega) ?_
    refine wp_getIE rfl (Market_kd (Dance_s1 X.S)) (show _ = nI (sg_le t.1) from X.M.1.2.2.2.2) ?_
    exact wp_iret rfl ⟨_, rfl, by unfold at_; rw [if_neg (by decide), if_neg (by decide), if_neg (by decide), if_neg (by decide), if_pos rfl], rfl⟩
  · skip
    refine wp_sw_in (t := 80) (by decide) rfl (by decide) rfl ?_
    refine wp_aload0 rfl ?_
    refine wp_getR rfl (Dance_kd X.S) (Dance_R1 X.S) (by first | decide | omega) ?_
    refine wp_getR rfl (Market_kd (Dance_s1 X.S)) (Market_R9 (Dance_s1 X.S)) (by first | decide | omega) ?_
    refine wp_getIE rfl (Notes_kd (Market_s9 (Dance_s1 X.S))) (show _ = nI ((sg_si t.1).length) from X.M.2.2.2.2.2.1.1) ?_
    exact wp_iret rfl ⟨_, rfl, by unfold at_; rw [if_neg (by decide), if_neg (by decide), if_neg (by decide), if_neg (by decide), if_neg (by decide), if_pos rfl], rfl⟩
  · skip
    refine wp_sw_out (by decide) rfl ?_
    refine wp_aload0 rfl ?_
    refine wp_getR rfl (Dance_kd X.S) (Dance_R1 X.S) (by first | decide | omega) ?_
    refine wp_getR rfl (Market_kd (Dance_s1 X.S)) (Market_R10 (Dance_s1 X.S)) (by first | decide | omega) ?_
    refine wp_getIE rfl (Notes_kd (Market_s10 (Dance_s1 X.S))) (show _ = nI ((sg_wi t.1).length) from X.M.2.2.2.2.2.2.1) ?_
    exact wp_iret rfl ⟨_, rfl, by unfold at_; rw [if_neg (by decide), if_neg (by decide), if_neg (by decide), if_neg (by decide), if_neg (by decide), if_neg (by decide), if_pos rfl], rfl⟩
set_option maxRecDepth 4000 in
theorem Dance_told_ok {h : Hp_} {t : Rt_} {k : Nat} {x : Int32} (X : XB_ h t k) : cI 3 mn_RoundDance_told [.ref 1, .int x] h (fun y h' => y = an_told t x ∧ DR_ h h' t (k + 1)) := by
  have n8 := X.w.1.2
  have n3 := X.w.1.1
  by_cases c1 : x < 0
  · have e : an_told t x = -2 := by
      unfold an_told
      rw [show rg_ 10 15 x = false from rg_neg (a := 10) (b := 15) c1, show rg_ 30 (29 + sg_n t.1 : Nat) x = false from rg_neg (a := 30) (b := 29 + sg_n t.1) c1, show rg_ 40 (39 + sg_n t.1 : Nat) x = false from rg_neg (a := 40) (b := 39 + sg_n t.1) c1, at_neg c1]
      rfl
    rw [e]
    have l : ∀ i : Nat, i < 2 ^ 31 → x < nI i := fun i hi => by
      rw [Int32.lt_iff_toInt_lt, show (0 : Int32).toInt = 0 from rfl] at c1
      rw [Int32.lt_iff_toInt_lt, nI_toInt hi]
      omega
    refine cq_in (q := mi_RoundDance_told) (L := [some (.ref 1), some (.int x), none]) rfl (Nat.le_of_ble_eq_true rfl) rfl ?_
    show wq _ tb_RoundDance_told none 0 _ _ _ _
    refine wp_iload1 rfl ?_
    refine wp_if_lt rfl (fun _ => ?_) (fun z => absurd z (fun z => z c1))
    refine wp_iload1 rfl ?_
    refine wp_bipush rfl ?_
    refine wp_icmp_lt rfl (fun _ => ?_) (fun z => absurd z (fun z => z (l 10 (by decide))))
    refine wp_iload1 rfl ?_
    refine wp_bipush rfl ?_
    refine wp_icmp_lt rfl (fun _ => ?_) (fun z => absurd z (fun z => z (l 20 (by decide))))
    refine wp_iload1 rfl ?_
    refine wp_bipush rfl ?_
    refine wp_icmp_lt rfl (fun _ => ?_) (fun z => absurd z (fun z => z (l 30 (by decide))))
    refine wp_iload1 rfl ?_
    refine wp_bipush rfl ?_
    refine wp_icmp_lt rfl (fun _ => ?_) (fun z => absurd z (fun z => z (l 40 (by decide))))
    refine wp_bipush rfl ?_
    exact wp_iret rfl ⟨_, rfl, rfl, DR_same X⟩
  · obtain ⟨j, hj, rfl⟩ := nI_of c1
    refine cq_in (q := mi_RoundDance_told) (L := [some (.ref 1), some (.int (nI j)), none]) rfl (Nat.le_of_ble_eq_true rfl) rfl ?_
    show wq _ tb_RoundDance_told none 0 _ _ _ _
    refine wp_iload1 rfl ?_
    refine wp_if_ltN j 0 (by omega) (by decide) rfl ?_
    refine wp_iload1 rfl ?_
    refine wp_bipush rfl ?_
    refine wp_icmp_gtN j 6 (by omega) (by omega) rfl (fun c2 => ?_) (fun c2 => ?_)
    · skip
      have r10 : rg_ 10 15 (nI j) = decide (10 ≤ j ∧ j ≤ 15) := rg_nI (a := 10) (b := 15) hj
      have r30 : rg_ 30 (29 + sg_n t.1 : Nat) (nI j) = decide (30 ≤ j ∧ j ≤ 29 + sg_n t.1) := rg_nI (a := 30) (b := 29 + sg_n t.1) hj
      have r40 : rg_ 40 (39 + sg_n t.1 : Nat) (nI j) = decide (40 ≤ j ∧ j ≤ 39 + sg_n t.1) := rg_nI (a := 40) (b := 39 + sg_n t.1) hj
      have no10 : ¬ (10 ≤ j ∧ j ≤ 15) → an_told t (nI j) = if rg_ 30 (29 + sg_n t.1 : Nat) (nI j) then nI (sg_pos t.1 (j - 30)) else if rg_ 40 (39 + sg_n t.1 : Nat) (nI j) then wr_ (sg_wa t.1 (j - 40)) else at_ t (nI j) := fun z => by
        unfold an_told
        rw [r10, decide_eq_false z, nI_clamp hj]
        rfl
      have no30 : ¬ (10 ≤ j ∧ j ≤ 15) → ¬ (30 ≤ j ∧ j ≤ 29 + sg_n t.1) → an_told t (nI j) = if rg_ 40 (39 + sg_n t.1 : Nat) (nI j) then wr_ (sg_wa t.1 (j - 40)) else at_ t (nI j) := fun z y => by
        rw [no10 z, r30, decide_eq_false y]
        rfl
      have no40 : ¬ (10 ≤ j ∧ j ≤ 15) → ¬ (30 ≤ j ∧ j ≤ 29 + sg_n t.1) → ¬ (40 ≤ j ∧ j ≤ 39 + sg_n t.1) → an_told t (nI j) = at_ t (nI j) := fun z y u => by
        rw [no30 z y, r40, decide_eq_false u]
        rfl
      refine wq_genQ (fun Q eQ => ?_)
      have t40 : ∀ v, ¬ (10 ≤ j ∧ j ≤ 15) → ¬ (30 ≤ j ∧ j ≤ 29 + sg_n t.1) → ¬ (20 ≤ j ∧ j < 22) → wq 2 tb_RoundDance_told none 102 [some (.ref 1), some (.int (nI j)), v] [] h Q := by
        intro v y1 y2 y3
        refine wp_iload1 rfl ?_
        refine wp_bipush rfl ?_
        have e149 : ¬ (40 ≤ j ∧ j ≤ 39 + sg_n t.1) → Q (some (.int (-2))) h := fun y4 => by
          rw [eQ, no40 y1 y2 y4, at_no hj (by omega) (by omega) (by omega)]
          exact ⟨_, rfl, rfl, DR_same X⟩
        refine wp_icmp_ltN j 40 (by omega) (by omega) rfl (fun d1 => ?_) (fun d1 => ?_)
        · skip
          refine wp_bipush rfl ?_
          exact wp_iret rfl (e149 (by omega))
        · skip
          refine wp_iload1 rfl ?_
          refine wp_bipush rfl ?_
          refine wp_aload0 rfl ?_
          refine wp_getR rfl (Dance_kd X.S) (Dance_R1 X.S) (by first | decide | omega) ?_
          refine wp_getIE rfl (Market_kd (Dance_s1 X.S)) (show _ = nI (sg_n t.1) from X.n) ?_
          refine wp_iaddE (nI (40 + (sg_n t.1))) (nI_add _ _) rfl ?_
          refine wp_icmp_geN j (40 + (sg_n t.1)) (by omega) (by omega) rfl (fun d2 => ?_) (fun d2 => ?_)
          · skip
            refine wp_bipush rfl ?_
            exact wp_iret rfl (e149 (by omega))
          · skip
            refine wp_aload0 rfl ?_
            refine wp_getR rfl (Dance_kd X.S) (Dance_R1 X.S) (by first | decide | omega) ?_
            refine wp_getR rfl (Market_kd (Dance_s1 X.S)) (Market_R7 (Dance_s1 X.S)) (by first | decide | omega) ?_
            refine wp_iload1 rfl ?_
            refine wp_bipush rfl ?_
            refine wp_isubE (nI (j - 40)) (pk_sub (by omega)) rfl ?_
            have ww := wv_wr (wa_le X.w (j - 40))
            refine wp_callS2I rfl (Nat.le_of_ble_eq_true rfl) (Cells_atV_ok (Market_k7 (Dance_s1 X.S)) (by decide) (Nat.lt_of_lt_of_eq (show j - 40 < 8 by omega) (Market_n7 (Dance_s1 X.S)).symm) (by rw [Market_n7 (Dance_s1 X.S)]; decide) (X.M.2.2.2.1 (j - 40) (by omega))) (Nat.le_of_ble_eq_true rfl) ?_
            refine pure_ ?_
            refine wp_istore2 rfl rfl ?_
            refine wp_iload2 rfl ?_
            refine wp_iconst rfl ?_
            have e40 : an_told t (nI j) = wr_ (sg_wa t.1 (j - 40)) := by rw [no30 y1 y2, r40, decide_eq_true (by omega), if_pos rfl]
            refine wp_icmp_ne rfl (fun d3 => ?_) (fun d3 => ?_)
            · skip
              refine wp_iload2 rfl ?_
              exact wp_iret rfl (by rw [eQ, e40, ww.2 d3]; exact ⟨_, rfl, rfl, DR_same X⟩)
            · skip
              refine wp_bipush rfl ?_
              refine wp_goto rfl ?_
              exact wp_iret rfl (by rw [eQ, e40, ww.1 (Classical.not_not.mp d3)]; exact ⟨_, rfl, rfl, DR_same X⟩)
      have t30 : ∀ v, ¬ (10 ≤ j ∧ j ≤ 15) → ¬ (20 ≤ j ∧ j < 22) → wq 2 tb_RoundDance_told none 70 [some (.ref 1), some (.int (nI j)), v] [] h Q := by
        intro v y1 y3
        refine wp_iload1 rfl ?_
        refine wp_bipush rfl ?_
        refine wp_icmp_ltN j 30 (by omega) (by omega) rfl (fun d1 => ?_) (fun d1 => ?_)
        · exact t40 _ y1 (by omega) y3
        · skip
          refine wp_iload1 rfl ?_
          refine wp_bipush rfl ?_
          refine wp_aload0 rfl ?_
          refine wp_getR rfl (Dance_kd X.S) (Dance_R1 X.S) (by first | decide | omega) ?_
          refine wp_getIE rfl (Market_kd (Dance_s1 X.S)) (show _ = nI (sg_n t.1) from X.n) ?_
          refine wp_iaddE (nI (30 + (sg_n t.1))) (nI_add _ _) rfl ?_
          refine wp_icmp_geN j (30 + (sg_n t.1)) (by omega) (by omega) rfl (fun d2 => ?_) (fun d2 => ?_)
          · exact t40 _ y1 (by omega) y3
          · skip
            refine wp_aload0 rfl ?_
            refine wp_getR rfl (Dance_kd X.S) (Dance_R1 X.S) (by first | decide | omega) ?_
            refine wp_iload1 rfl ?_
            refine wp_bipush rfl ?_
            refine wp_isubE (nI (j - 30)) (pk_sub (by omega)) rfl ?_
            refine wp_callV1I rfl (Nat.le_of_ble_eq_true rfl) (Market_kd (Dance_s1 X.S)) (Market_placeOf_ok (Dance_s1 X.S) (sg_pos8 X.w) X.pos (by omega)) (Nat.le_of_ble_eq_true rfl) ?_
            refine pure_ ?_
            exact wp_iret rfl (by rw [eQ, no10 y1, r30, decide_eq_true (by omega), if_pos rfl]; exact ⟨_, rfl, rfl, DR_same X⟩)
      have t20 : ∀ v, ¬ (10 ≤ j ∧ j ≤ 15) → wq 2 tb_RoundDance_told none 43 [some (.ref 1), some (.int (nI j)), v] [] h Q := by
        intro v y1
        refine wp_iload1 rfl ?_
        refine wp_bipush rfl ?_
        refine wp_icmp_ltN j 20 (by omega) (by omega) rfl (fun d1 => ?_) (fun d1 => ?_)
        · exact t30 _ y1 (by omega)
        · skip
          refine wp_iload1 rfl ?_
          refine wp_bipush rfl ?_
          refine wp_icmp_geN j 22 (by omega) (by omega) rfl (fun d2 => ?_) (fun d2 => ?_)
          · exact t30 _ y1 (by omega)
          · skip
            refine wp_aload0 rfl ?_
            refine wp_getR rfl (Dance_kd X.S) (Dance_R1 X.S) (by first | decide | omega) ?_
            refine wp_getR rfl (Market_kd (Dance_s1 X.S)) (Market_R8 (Dance_s1 X.S)) (by first | decide | omega) ?_
            refine wp_iload1 rfl ?_
            refine wp_bipush rfl ?_
            refine wp_isubE (nI (j - 20)) (pk_sub (by omega)) rfl ?_
            refine wp_callS2I rfl (Nat.le_of_ble_eq_true rfl) (Cells_atV_ok (Market_k8 (Dance_s1 X.S)) (by decide) (Nat.lt_of_lt_of_eq (show j - 20 < 2 by omega) (Market_n8 (Dance_s1 X.S)).symm) (by rw [Market_n8 (Dance_s1 X.S)]; decide) (X.M.2.2.2.2.1 (j - 20) (by omega))) (Nat.le_of_ble_eq_true rfl) ?_
            refine pure_ ?_
            exact wp_iret rfl (by rw [eQ, no40 y1 (by omega) (by omega), at_20 (by omega) (by omega)]; exact ⟨_, rfl, rfl, DR_same X⟩)
      refine wp_iload1 rfl ?_
      refine wp_bipush rfl ?_
      refine wp_icmp_ltN j 10 (by omega) (by omega) rfl (fun d1 => ?_) (fun d1 => ?_)
      · exact t20 _ (by omega)
      · skip
        refine wp_iload1 rfl ?_
        refine wp_bipush rfl ?_
        refine wp_icmp_geN j 16 (by omega) (by omega) rfl (fun d2 => ?_) (fun d2 => ?_)
        · exact t20 _ (by omega)
        · skip
          refine wp_aload0 rfl ?_
          refine wp_getR rfl (Dance_kd X.S) (Dance_R1 X.S) (by first | decide | omega) ?_
          refine wp_getR rfl (Market_kd (Dance_s1 X.S)) (Market_R6 (Dance_s1 X.S)) (by first | decide | omega) ?_
          refine wp_iload1 rfl ?_
          refine wp_bipush rfl ?_
          refine wp_isubE (nI (j - 10)) (pk_sub (by omega)) rfl ?_
          refine wp_callS2I rfl (Nat.le_of_ble_eq_true rfl) (Cells_atV_ok (Market_k6 (Dance_s1 X.S)) (by decide) (Nat.lt_of_lt_of_eq (show j - 10 < 6 by omega) (Market_n6 (Dance_s1 X.S)).symm) (by rw [Market_n6 (Dance_s1 X.S)]; decide) (X.M.2.2.1 (j - 10) (by omega))) (Nat.le_of_ble_eq_true rfl) ?_
          refine pure_ ?_
          have e10 : an_told t (nI j) = nI (sg_mu t.1 (j - 10)) := by unfold an_told; rw [r10, decide_eq_true (by omega), if_pos rfl, nI_clamp hj]
          exact wp_iret rfl (by rw [eQ, e10]; exact ⟨_, rfl, rfl, DR_same X⟩)
    · skip
      refine wp_aload0 rfl ?_
      refine wp_iload1 rfl ?_
      refine wp_callV1I rfl (Nat.le_of_ble_eq_true rfl) (Dance_kd X.S) (Dance_toldOfAll_ok X (show j ≤ 6 by omega)) (Nat.le_of_ble_eq_true rfl) ?_
      refine pure_ ?_
      exact wp_iret rfl ⟨_, rfl, (told_low (by omega)).symm, DR_same X⟩
theorem Dance_imageA_ok {h : Hp_} (S : S_Dance h) : cA 1 mn_RoundDance_imageNumbered [.ref 1, .int (nI 0)] h (fun r h' => r = 13 ∧ h' = h) := by
  refine cq_in (q := mi_RoundDance_imageNumbered) (L := [some (.ref 1), some (.int (nI 0))]) rfl (Nat.le_of_ble_eq_true rfl) rfl ?_
  show wq _ tb_RoundDance_imageNumbered none 0 _ _ _ _
  refine wp_iload1 rfl ?_
  refine wp_if_neN 0 0 (by omega) (by decide) rfl (fun z => absurd z (by omega)) (fun _ => ?_)
  refine wp_aload0 rfl ?_
  refine wp_getR rfl (Dance_kd S) (Dance_R2 S) (by first | decide | omega) ?_
  refine wp_goto rfl ?_
  exact wp_aret rfl ⟨_, rfl, rfl, rfl⟩
theorem Dance_imageB_ok {h : Hp_} (S : S_Dance h) : cA 1 mn_RoundDance_imageNumbered [.ref 1, .int (nI 1)] h (fun r h' => r = 22 ∧ h' = h) := by
  refine cq_in (q := mi_RoundDance_imageNumbered) (L := [some (.ref 1), some (.int (nI 1))]) rfl (Nat.le_of_ble_eq_true rfl) rfl ?_
  show wq _ tb_RoundDance_imageNumbered none 0 _ _ _ _
  refine wp_iload1 rfl ?_
  refine wp_if_neN 1 0 (by omega) (by decide) rfl (fun _ => ?_) (fun z => absurd z (by omega))
  refine wp_aload0 rfl ?_
  refine wp_getR rfl (Dance_kd S) (Dance_R3 S) (by first | decide | omega) ?_
  exact wp_aret rfl ⟨_, rfl, rfl, rfl⟩
theorem ki_A (b : Bool) (t : Rt_) (s : Sg_) : ki_ t ||| 2 ^ 0 = ki_ (t.1, t.2.1, t.2.2.1, some s, t.2.2.2.2) := by
  show ((if t.2.2.2.1.isSome = true then 1 else 0) + (if t.2.2.2.2.isSome = true then 2 else 0)) ||| 2 ^ 0 = 1 + (if t.2.2.2.2.isSome = true then 2 else 0)
  cases t.2.2.2.1.isSome <;> cases t.2.2.2.2.isSome <;> rfl
theorem ki_B (b : Bool) (t : Rt_) (s : Sg_) : ki_ t ||| 2 ^ 1 = ki_ (t.1, t.2.1, t.2.2.1, t.2.2.2.1, some s) := by
  show ((if t.2.2.2.1.isSome = true then 1 else 0) + (if t.2.2.2.2.isSome = true then 2 else 0)) ||| 2 ^ 1 = (if t.2.2.2.1.isSome = true then 1 else 0) + 2
  cases t.2.2.2.1.isSome <;> cases t.2.2.2.2.isSome <;> rfl
theorem ki_4 (t : Rt_) : ki_ t < 4 ∧ (ki_ t).testBit 0 = t.2.2.2.1.isSome ∧ (ki_ t).testBit 1 = t.2.2.2.2.isSome := by
  unfold ki_
  cases t.2.2.2.1.isSome <;> cases t.2.2.2.2.isSome <;> decide
theorem Dance_image_ok {h : Hp_} {t : Rt_} {k : Nat} {x : Int32} (X : XB_ h t k) : cI 4 mn_RoundDance_image [.ref 1, .int x] h (fun y h' => y = (an_image t x).1 ∧ DR_ h h' (an_image t x).2 (k + 1)) := by
  obtain ⟨S, P, ⟨M, w⟩, K, A, B⟩ := X.1
  have k4 := (ki_4 t).1
  refine cq_in (q := mi_RoundDance_image) (L := [some (.ref 1), some (.int x)]) rfl (Nat.le_of_ble_eq_true rfl) rfl ?_
  show wq _ tb_RoundDance_image none 0 _ _ _ _
  refine wp_iload1 rfl ?_
  refine wp_callS1I rfl (Nat.le_of_ble_eq_true rfl) (Dance_isYesOrNo_ok) (Nat.le_of_ble_eq_true rfl) ?_
  refine pure_ ?_
  refine wp_if_neB rfl (fun c1 => ?_) (fun c1 => ?_)
  · skip
    have c2 := rg_01.mp c1
    refine wp_aload0 rfl ?_
    refine wp_iload1 rfl ?_
    rcases c2 with c2 | c2
    · have c3 : x = nI 0 := c2
      subst c3
      have e : an_image t (nI 0) = (nI 1, (t.1, t.2.1, t.2.2.1, some t.1, t.2.2.2.2)) := by unfold an_image; rw [c1, if_pos rfl, if_pos rfl, if_pos rfl]
      rw [e]
      refine wp_callV1A rfl (Nat.le_of_ble_eq_true rfl) (Dance_kd X.S) (Dance_imageA_ok X.S) (Nat.le_of_ble_eq_true rfl) ?_
      rintro _ hx ⟨rfl, e0⟩
      rw [e0]
      refine wp_aload0 rfl ?_
      refine wp_getR rfl (Dance_kd X.S) (Dance_R1 X.S) (by first | decide | omega) ?_
      refine wp_callV1V rfl (Nat.le_of_ble_eq_true rfl) (Market_kd (Dance_s2 X.S)) (Market_take_ok (Dance_s2 X.S) (Dance_s1 X.S) M w (by decide)) (Nat.le_of_ble_eq_true rfl) ?_
      intro h2 ⟨M2, f2⟩
      have z2 := fz_fr f2
      have S2 := Dance_fz S z2
      have K2 : hp_I h2 1 4 = nI (ki_ t) := by rw [fr_I f2 (by omega)]; exact K
      refine wp_aload0 rfl ?_
      refine wp_dup rfl ?_
      refine wp_getIE rfl (Dance_kd S2) (show _ = nI (ki_ t) from K2) ?_
      refine wp_iconst rfl ?_
      refine wp_iload1 rfl ?_
      refine wp_ishlE (nI (2 ^ 0)) (nn_shl1 _ (by omega)) rfl ?_
      refine wp_iorE (nI ((ki_ t) ||| (2 ^ 0))) (nn_or _ _) rfl ?_
      refine wp_putI rfl (Dance_kd S2) ?_
      refine wp_iconst rfl ?_
      refine wq_gen (fun h3 e3 => ?_)
      have z3 : fz_ (fun v => v = 1) h2 h3 := by rw [e3]; exact fz_rI (P := fun v => v = 1) (fz_refl _ _) rfl _
      have K3 : hp_I h3 1 4 = nI (ki_ (t.1, t.2.1, t.2.2.1, some t.1, t.2.2.2.2)) := by rw [e3, sd_rI_eq, vu_at, if_pos rfl]; exact congrArg nI (ki_A true t t.1)
      have Y : XS_ h3 (t.1, t.2.1, t.2.2.1, some t.1, t.2.2.2.2) := ⟨Dance_fz S2 z3, ⟨by rw [fz_I z3 (by omega), fr_I f2 (by omega)]; exact P.1, P.2.1, by rw [fz_I z3 (by omega), fr_I f2 (by omega)]; exact P.2.2.1, P.2.2.2⟩, ⟨MK_cg M (fun v v1 v2 => by rw [fz_I z3 (by omega), fr_I f2 (by omega)]), w⟩, K3, fun s hs => (by cases hs; exact ⟨MK_cg M2 (fun v v1 v2 => fz_I z3 (by omega)), w⟩), fun s hs => ⟨MK_cg (B s hs).1 (fun v v1 v2 => by rw [fz_I z3 (by omega), fr_I f2 (by omega)]), (B s hs).2⟩⟩
      exact wp_iret rfl ⟨_, rfl, rfl, DR_of X (fz_trans (fz_mono (fun v hv => by omega) z2) (fz_mono (fun v hv => by omega) z3)) Y⟩
    · have c3 : x = nI 1 := c2
      subst c3
      have e : an_image t (nI 1) = (nI 1, (t.1, t.2.1, t.2.2.1, t.2.2.2.1, some t.1)) := by unfold an_image; rw [c1, if_pos rfl, if_neg (by decide), if_neg (by decide)]
      rw [e]
      refine wp_callV1A rfl (Nat.le_of_ble_eq_true rfl) (Dance_kd X.S) (Dance_imageB_ok X.S) (Nat.le_of_ble_eq_true rfl) ?_
      rintro _ hx ⟨rfl, e0⟩
      rw [e0]
      refine wp_aload0 rfl ?_
      refine wp_getR rfl (Dance_kd X.S) (Dance_R1 X.S) (by first | decide | omega) ?_
      refine wp_callV1V rfl (Nat.le_of_ble_eq_true rfl) (Market_kd (Dance_s3 X.S)) (Market_take_ok (Dance_s3 X.S) (Dance_s1 X.S) M w (by decide)) (Nat.le_of_ble_eq_true rfl) ?_
      intro h2 ⟨M2, f2⟩
      have z2 := fz_fr f2
      have S2 := Dance_fz S z2
      have K2 : hp_I h2 1 4 = nI (ki_ t) := by rw [fr_I f2 (by omega)]; exact K
      refine wp_aload0 rfl ?_
      refine wp_dup rfl ?_
      refine wp_getIE rfl (Dance_kd S2) (show _ = nI (ki_ t) from K2) ?_
      refine wp_iconst rfl ?_
      refine wp_iload1 rfl ?_
      refine wp_ishlE (nI (2 ^ 1)) (nn_shl1 _ (by omega)) rfl ?_
      refine wp_iorE (nI ((ki_ t) ||| (2 ^ 1))) (nn_or _ _) rfl ?_
      refine wp_putI rfl (Dance_kd S2) ?_
      refine wp_iconst rfl ?_
      refine wq_gen (fun h3 e3 => ?_)
      have z3 : fz_ (fun v => v = 1) h2 h3 := by rw [e3]; exact fz_rI (P := fun v => v = 1) (fz_refl _ _) rfl _
      have K3 : hp_I h3 1 4 = nI (ki_ (t.1, t.2.1, t.2.2.1, t.2.2.2.1, some t.1)) := by rw [e3, sd_rI_eq, vu_at, if_pos rfl]; exact congrArg nI (ki_B true t t.1)
      have Y : XS_ h3 (t.1, t.2.1, t.2.2.1, t.2.2.2.1, some t.1) := ⟨Dance_fz S2 z3, ⟨by rw [fz_I z3 (by omega), fr_I f2 (by omega)]; exact P.1, P.2.1, by rw [fz_I z3 (by omega), fr_I f2 (by omega)]; exact P.2.2.1, P.2.2.2⟩, ⟨MK_cg M (fun v v1 v2 => by rw [fz_I z3 (by omega), fr_I f2 (by omega)]), w⟩, K3, fun s hs => ⟨MK_cg (A s hs).1 (fun v v1 v2 => by rw [fz_I z3 (by omega), fr_I f2 (by omega)]), (A s hs).2⟩, fun s hs => (by cases hs; exact ⟨MK_cg M2 (fun v v1 v2 => fz_I z3 (by omega)), w⟩)⟩
      exact wp_iret rfl ⟨_, rfl, rfl, DR_of X (fz_trans (fz_mono (fun v hv => by omega) z2) (fz_mono (fun v hv => by omega) z3)) Y⟩
  · skip
    refine wp_bipush rfl ?_
    have e : an_image t x = (-2, t) := by unfold an_image; rw [c1]; rfl
    rw [e]
    exact wp_iret rfl ⟨_, rfl, rfl, DR_same X⟩
theorem Dance_restore_ok {h : Hp_} {t : Rt_} {k : Nat} {x : Int32} (X : XB_ h t k) : cI 4 mn_RoundDance_restore [.ref 1, .int x] h (fun y h' => y = (an_restore t x).1 ∧ DR_ h h' (an_restore t x).2 (k + 1)) := by
  obtain ⟨S, P, ⟨M, w⟩, K, A, B⟩ := X.1
  obtain ⟨k4, kA, kB⟩ := ki_4 t
  refine cq_in (q := mi_RoundDance_restore) (L := [some (.ref 1), some (.int x)]) rfl (Nat.le_of_ble_eq_true rfl) rfl ?_
  show wq _ tb_RoundDance_restore none 0 _ _ _ _
  refine wp_iload1 rfl ?_
  refine wp_callS1I rfl (Nat.le_of_ble_eq_true rfl) (Dance_isYesOrNo_ok) (Nat.le_of_ble_eq_true rfl) ?_
  refine pure_ ?_
  refine wp_if_neB rfl (fun c1 => ?_) (fun c1 => ?_)
  · skip
    have c2 := rg_01.mp c1
    refine wp_aload0 rfl ?_
    refine wp_getIE rfl (Dance_kd X.S) (show _ = nI (ki_ t) from K) ?_
    refine wp_iload1 rfl ?_
    rcases c2 with c2 | c2
    · have c3 : x = nI 0 := c2
      subst c3
      have e : an_restore t (nI 0) = an_rs t t.2.2.2.1 := by unfold an_restore; rw [c1, if_pos rfl, if_pos rfl]
      rw [e]
      refine wp_callS2I rfl (Nat.le_of_ble_eq_true rfl) (Cells_isIn_ok (by omega) (by decide)) (Nat.le_of_ble_eq_true rfl) ?_
      refine pure_ ?_
      refine wp_if_neB rfl (fun c4 => ?_) (fun c4 => ?_)
      · skip
        rw [kA] at c4
        obtain ⟨s, hs⟩ := Option.isSome_iff_exists.mp c4
        rw [show an_rs t t.2.2.2.1 = (nI 1, (s, t.2)) by rw [hs]; rfl]
        refine wp_aload0 rfl ?_
        refine wp_getR rfl (Dance_kd X.S) (Dance_R1 X.S) (by first | decide | omega) ?_
        refine wp_aload0 rfl ?_
        refine wp_iload1 rfl ?_
        refine wp_callV1A rfl (Nat.le_of_ble_eq_true rfl) (Dance_kd X.S) (Dance_imageA_ok X.S) (Nat.le_of_ble_eq_true rfl) ?_
        rintro _ hx ⟨rfl, e0⟩
        rw [e0]
        refine wp_callV1V rfl (Nat.le_of_ble_eq_true rfl) (Market_kd (Dance_s1 X.S)) (Market_take_ok (Dance_s1 X.S) (Dance_s2 X.S) (A s hs).1 (A s hs).2 (by decide)) (Nat.le_of_ble_eq_true rfl) ?_
        intro h2 ⟨M2, f2⟩
        have z2 : fz_ (fun v => 4 ≤ v ∧ v ≤ 12) h h2 := fz_mono (fun v hv => by omega) (fz_fr f2)
        refine wp_iconst rfl ?_
        exact wp_iret rfl ⟨_, rfl, rfl, DR_of X (z34 z2) (XS_mkt X.1 z2 M2 (A s hs).2)⟩
      · skip
        refine wp_bipush rfl ?_
        rw [kA] at c4
        rw [show an_rs t t.2.2.2.1 = (-3, t) by cases hs : t.2.2.2.1 with | none => rfl | some s => rw [hs] at c4; cases c4]
        exact wp_iret rfl ⟨_, rfl, rfl, DR_same X⟩
    · have c3 : x = nI 1 := c2
      subst c3
      have e : an_restore t (nI 1) = an_rs t t.2.2.2.2 := by unfold an_restore; rw [c1, if_pos rfl, if_neg (by decide)]
      rw [e]
      refine wp_callS2I rfl (Nat.le_of_ble_eq_true rfl) (Cells_isIn_ok (by omega) (by decide)) (Nat.le_of_ble_eq_true rfl) ?_
      refine pure_ ?_
      refine wp_if_neB rfl (fun c4 => ?_) (fun c4 => ?_)
      · skip
        rw [kB] at c4
        obtain ⟨s, hs⟩ := Option.isSome_iff_exists.mp c4
        rw [show an_rs t t.2.2.2.2 = (nI 1, (s, t.2)) by rw [hs]; rfl]
        refine wp_aload0 rfl ?_
        refine wp_getR rfl (Dance_kd X.S) (Dance_R1 X.S) (by first | decide | omega) ?_
        refine wp_aload0 rfl ?_
        refine wp_iload1 rfl ?_
        refine wp_callV1A rfl (Nat.le_of_ble_eq_true rfl) (Dance_kd X.S) (Dance_imageB_ok X.S) (Nat.le_of_ble_eq_true rfl) ?_
        rintro _ hx ⟨rfl, e0⟩
        rw [e0]
        refine wp_callV1V rfl (Nat.le_of_ble_eq_true rfl) (Market_kd (Dance_s1 X.S)) (Market_take_ok (Dance_s1 X.S) (Dance_s3 X.S) (B s hs).1 (B s hs).2 (by decide)) (Nat.le_of_ble_eq_true rfl) ?_
        intro h2 ⟨M2, f2⟩
        have z2 : fz_ (fun v => 4 ≤ v ∧ v ≤ 12) h h2 := fz_mono (fun v hv => by omega) (fz_fr f2)
        refine wp_iconst rfl ?_
        exact wp_iret rfl ⟨_, rfl, rfl, DR_of X (z34 z2) (XS_mkt X.1 z2 M2 (B s hs).2)⟩
      · skip
        refine wp_bipush rfl ?_
        rw [kB] at c4
        rw [show an_rs t t.2.2.2.2 = (-3, t) by cases hs : t.2.2.2.2 with | none => rfl | some s => rw [hs] at c4; cases c4]
        exact wp_iret rfl ⟨_, rfl, rfl, DR_same X⟩
  · skip
    refine wp_bipush rfl ?_
    have e : an_restore t x = (-2, t) := by unfold an_restore; rw [c1]; rfl
    rw [e]
    exact wp_iret rfl ⟨_, rfl, rfl, DR_same X⟩
