-- ===== the law: its loop =====
theorem in_ex : ∃ g1, cV 20 mn_RoundDance_init [.ref 1] (hp_al pl_h0 10 0 10) (fun h' => h' = g1) ∧ hp_nx g1 = 64 ∧ ∃ g2, cV 20 mn_Ref_init [.ref 65] (hp_al g1 20 0 41) (fun h' => h' = g2) ∧ LB_ g2 t0_ 0 := ⟨in_1, ⟨2000, none, in_1, in_cg in_1_c, rfl, rfl⟩, in_1_nx, in_2, ⟨2000, none, in_2, in_cg in_2_c, rfl, rfl⟩, ⟨in_XS, in_CX⟩, in_RB⟩
theorem and31 (x : Int32) : ∃ q : Nat, q < 32 ∧ x &&& nI 31 = nI q := by
  refine ⟨x.toBitVec.toNat % 2 ^ 5, Nat.mod_lt _ (by decide), b_ext fun i hi => ?_⟩
  rw [b_and, bt_nI 31 hi, bt_nI _ hi, Nat.testBit_mod_two_pow, show (31 : Nat) = 2 ^ 5 - 1 from rfl, Nat.testBit_two_pow_sub_one]
  unfold bt
  rw [← BitVec.testBit_toNat, Bool.and_comm]
theorem or32 {q : Nat} (h : q < 32) : q = 0 ∨ q = 1 ∨ q = 2 ∨ q = 3 ∨ q = 4 ∨ q = 5 ∨ q = 6 ∨ q = 7 ∨ q = 8 ∨ q = 9 ∨ q = 10 ∨ q = 11 ∨ q = 12 ∨ q = 13 ∨ q = 14 ∨ q = 15 ∨ q = 16 ∨ q = 17 ∨ q = 18 ∨ q = 19 ∨ q = 20 ∨ q = 21 ∨ q = 22 ∨ q = 23 ∨ q = 24 ∨ q = 25 ∨ q = 26 ∨ q = 27 ∨ q = 28 ∨ q = 29 ∨ q = 30 ∨ q = 31 := by omega
theorem lg_self (a : Int64) : lg_cmp a a = 0 := by
  rw [lg_cmp_eq]
/-- behind a call of both: the loop goes on -/
def TL_ (xs : Nat → Int32) (L c : Nat) (Q : Option Value → Hp_ → Prop) : Prop := ∀ h3 t2, LB_ h3 t2 (c + 1) → wq 20 tb_Law_law (some (L, xs)) 1003 [some (.ref 0), some (.ref 1), some (.ref 65), some (.int (nI (5 * c)))] [] h3 Q
set_option maxRecDepth 20000 in
set_option maxHeartbeats 1000000 in
theorem law_places {xs : Nat → Int32} {L c : Nat} {t : Rt_} {h1 : Hp_} {Q : Option Value → Hp_ → Prop} (hL : L ≤ 320) (hc : 5 * c + 5 ≤ L) (I : LB_ h1 t c) (tail : TL_ xs L c Q) : wq 20 tb_Law_law (some (L, xs)) 176 [some (.ref 0), some (.ref 1), some (.ref 65), some (.int (nI (5 * c)))] [] h1 Q := by
  refine wp_aload1 rfl ?_
  refine wp_aload0 rfl ?_
  refine wp_iload3 rfl ?_
  refine wp_iconst rfl ?_
  refine wp_iaddE (nI ((5 * c) + 1)) (nI_add _ _) rfl ?_
  refine wp_ialdS rfl (5 * c + 1) rfl (by omega) (by omega) rfl ?_
  refine wp_callV1I rfl (Nat.le_of_ble_eq_true rfl) (Dance_kd I.1.S) (Dance_places_ok I.1) (Nat.le_of_ble_eq_true rfl) ?_
  rintro _ h2 ⟨rfl, D⟩
  have B1 := LB_mid I D
  refine wp_aload2 rfl ?_
  refine wp_aload0 rfl ?_
  refine wp_iload3 rfl ?_
  refine wp_iconst rfl ?_
  refine wp_iaddE (nI ((5 * c) + 1)) (nI_add _ _) rfl ?_
  refine wp_ialdS rfl (5 * c + 1) rfl (by omega) (by omega) rfl ?_
  refine wp_callV1I rfl (Nat.le_of_ble_eq_true rfl) (Ref_kd B1.S) (Ref_places_ok B1) (Nat.le_of_ble_eq_true rfl) ?_
  rintro _ h3 ⟨rfl, B2⟩
  refine wp_icmp_eq rfl (fun _ => ?_) (fun z => absurd z (fun y => y rfl))
  exact tail h3 _ (LB_on D B2)
set_option maxRecDepth 20000 in
set_option maxHeartbeats 1000000 in
theorem law_say {xs : Nat → Int32} {L c : Nat} {t : Rt_} {h1 : Hp_} {Q : Option Value → Hp_ → Prop} (hL : L ≤ 320) (hc : 5 * c + 5 ≤ L) (I : LB_ h1 t c) (tail : TL_ xs L c Q) : wq 20 tb_Law_law (some (L, xs)) 199 [some (.ref 0), some (.ref 1), some (.ref 65), some (.int (nI (5 * c)))] [] h1 Q := by
  refine wp_aload1 rfl ?_
  refine wp_aload0 rfl ?_
  refine wp_iload3 rfl ?_
  refine wp_iconst rfl ?_
  refine wp_iaddE (nI ((5 * c) + 1)) (nI_add _ _) rfl ?_
  refine wp_ialdS rfl (5 * c + 1) rfl (by omega) (by omega) rfl ?_
  refine wp_callV1I rfl (Nat.le_of_ble_eq_true rfl) (Dance_kd I.1.S) (Dance_say_ok I.1) (Nat.le_of_ble_eq_true rfl) ?_
  rintro _ h2 ⟨rfl, D⟩
  have B1 := LB_mid I D
  refine wp_aload2 rfl ?_
  refine wp_aload0 rfl ?_
  refine wp_iload3 rfl ?_
  refine wp_iconst rfl ?_
  refine wp_iaddE (nI ((5 * c) + 1)) (nI_add _ _) rfl ?_
  refine wp_ialdS rfl (5 * c + 1) rfl (by omega) (by omega) rfl ?_
  refine wp_callV1I rfl (Nat.le_of_ble_eq_true rfl) (Ref_kd B1.S) (Ref_say_ok B1) (Nat.le_of_ble_eq_true rfl) ?_
  rintro _ h3 ⟨rfl, B2⟩
  refine wp_icmp_eq rfl (fun _ => ?_) (fun z => absurd z (fun y => y rfl))
  exact tail h3 _ (LB_on D B2)
set_option maxRecDepth 20000 in
set_option maxHeartbeats 1000000 in
theorem law_wipe {xs : Nat → Int32} {L c : Nat} {t : Rt_} {h1 : Hp_} {Q : Option Value → Hp_ → Prop} (hL : L ≤ 320) (hc : 5 * c + 5 ≤ L) (I : LB_ h1 t c) (tail : TL_ xs L c Q) : wq 20 tb_Law_law (some (L, xs)) 222 [some (.ref 0), some (.ref 1), some (.ref 65), some (.int (nI (5 * c)))] [] h1 Q := by
  refine wp_aload1 rfl ?_
  refine wp_callV0I rfl (Nat.le_of_ble_eq_true rfl) (Dance_kd I.1.S) (Dance_wipe_ok I.1) (Nat.le_of_ble_eq_true rfl) ?_
  rintro _ h2 ⟨rfl, D⟩
  have B1 := LB_mid I D
  refine wp_aload2 rfl ?_
  refine wp_callV0I rfl (Nat.le_of_ble_eq_true rfl) (Ref_kd B1.S) (Ref_wipe_ok B1) (Nat.le_of_ble_eq_true rfl) ?_
  rintro _ h3 ⟨rfl, B2⟩
  refine wp_icmp_eq rfl (fun _ => ?_) (fun z => absurd z (fun y => y rfl))
  exact tail h3 _ (LB_on D B2)
set_option maxRecDepth 20000 in
set_option maxHeartbeats 1000000 in
theorem law_fault {xs : Nat → Int32} {L c : Nat} {t : Rt_} {h1 : Hp_} {Q : Option Value → Hp_ → Prop} (hL : L ≤ 320) (hc : 5 * c + 5 ≤ L) (I : LB_ h1 t c) (tail : TL_ xs L c Q) : wq 20 tb_Law_law (some (L, xs)) 235 [some (.ref 0), some (.ref 1), some (.ref 65), some (.int (nI (5 * c)))] [] h1 Q := by
  refine wp_aload1 rfl ?_
  refine wp_aload0 rfl ?_
  refine wp_iload3 rfl ?_
  refine wp_iconst rfl ?_
  refine wp_iaddE (nI ((5 * c) + 1)) (nI_add _ _) rfl ?_
  refine wp_ialdS rfl (5 * c + 1) rfl (by omega) (by omega) rfl ?_
  refine wp_callV1I rfl (Nat.le_of_ble_eq_true rfl) (Dance_kd I.1.S) (Dance_fault_ok I.1) (Nat.le_of_ble_eq_true rfl) ?_
  rintro _ h2 ⟨rfl, D⟩
  have B1 := LB_mid I D
  refine wp_aload2 rfl ?_
  refine wp_aload0 rfl ?_
  refine wp_iload3 rfl ?_
  refine wp_iconst rfl ?_
  refine wp_iaddE (nI ((5 * c) + 1)) (nI_add _ _) rfl ?_
  refine wp_ialdS rfl (5 * c + 1) rfl (by omega) (by omega) rfl ?_
  refine wp_callV1I rfl (Nat.le_of_ble_eq_true rfl) (Ref_kd B1.S) (Ref_fault_ok B1) (Nat.le_of_ble_eq_true rfl) ?_
  rintro _ h3 ⟨rfl, e3⟩
  rw [e3]
  refine wp_icmp_eq rfl (fun _ => ?_) (fun z => absurd z (fun y => y rfl))
  exact tail h2 _ (LB_same D B1)
set_option maxRecDepth 20000 in
set_option maxHeartbeats 1000000 in
theorem law_figure {xs : Nat → Int32} {L c : Nat} {t : Rt_} {h1 : Hp_} {Q : Option Value → Hp_ → Prop} (hL : L ≤ 320) (hc : 5 * c + 5 ≤ L) (I : LB_ h1 t c) (tail : TL_ xs L c Q) : wq 20 tb_Law_law (some (L, xs)) 258 [some (.ref 0), some (.ref 1), some (.ref 65), some (.int (nI (5 * c)))] [] h1 Q := by
  refine wp_aload1 rfl ?_
  refine wp_aload0 rfl ?_
  refine wp_iload3 rfl ?_
  refine wp_iconst rfl ?_
  refine wp_iaddE (nI ((5 * c) + 1)) (nI_add _ _) rfl ?_
  refine wp_ialdS rfl (5 * c + 1) rfl (by omega) (by omega) rfl ?_
  refine wp_callV1I rfl (Nat.le_of_ble_eq_true rfl) (Dance_kd I.1.S) (Dance_figure_ok I.1) (Nat.le_of_ble_eq_true rfl) ?_
  rintro _ h2 ⟨rfl, D⟩
  have B1 := LB_mid I D
  refine wp_aload2 rfl ?_
  refine wp_aload0 rfl ?_
  refine wp_iload3 rfl ?_
  refine wp_iconst rfl ?_
  refine wp_iaddE (nI ((5 * c) + 1)) (nI_add _ _) rfl ?_
  refine wp_ialdS rfl (5 * c + 1) rfl (by omega) (by omega) rfl ?_
  refine wp_callV1I rfl (Nat.le_of_ble_eq_true rfl) (Ref_kd B1.S) (Ref_figure_ok B1) (Nat.le_of_ble_eq_true rfl) ?_
  rintro _ h3 ⟨rfl, B2⟩
  refine wp_icmp_eq rfl (fun _ => ?_) (fun z => absurd z (fun y => y rfl))
  exact tail h3 _ (LB_on D B2)
set_option maxRecDepth 20000 in
set_option maxHeartbeats 1000000 in
theorem law_goes {xs : Nat → Int32} {L c : Nat} {t : Rt_} {h1 : Hp_} {Q : Option Value → Hp_ → Prop} (hL : L ≤ 320) (hc : 5 * c + 5 ≤ L) (I : LB_ h1 t c) (tail : TL_ xs L c Q) : wq 20 tb_Law_law (some (L, xs)) 281 [some (.ref 0), some (.ref 1), some (.ref 65), some (.int (nI (5 * c)))] [] h1 Q := by
  refine wp_aload1 rfl ?_
  refine wp_aload0 rfl ?_
  refine wp_iload3 rfl ?_
  refine wp_iconst rfl ?_
  refine wp_iaddE (nI ((5 * c) + 1)) (nI_add _ _) rfl ?_
  refine wp_ialdS rfl (5 * c + 1) rfl (by omega) (by omega) rfl ?_
  refine wp_aload0 rfl ?_
  refine wp_iload3 rfl ?_
  refine wp_iconst rfl ?_
  refine wp_iaddE (nI ((5 * c) + 2)) (nI_add _ _) rfl ?_
  refine wp_ialdS rfl (5 * c + 2) rfl (by omega) (by omega) rfl ?_
  refine wp_aload0 rfl ?_
  refine wp_iload3 rfl ?_
  refine wp_iconst rfl ?_
  refine wp_iaddE (nI ((5 * c) + 3)) (nI_add _ _) rfl ?_
  refine wp_ialdS rfl (5 * c + 3) rfl (by omega) (by omega) rfl ?_
  refine wp_callV3I rfl (Nat.le_of_ble_eq_true rfl) (Dance_kd I.1.S) (Dance_goes_ok I.1) (Nat.le_of_ble_eq_true rfl) ?_
  rintro _ h2 ⟨rfl, D⟩
  have B1 := LB_mid I D
  refine wp_aload2 rfl ?_
  refine wp_aload0 rfl ?_
  refine wp_iload3 rfl ?_
  refine wp_iconst rfl ?_
  refine wp_iaddE (nI ((5 * c) + 1)) (nI_add _ _) rfl ?_
  refine wp_ialdS rfl (5 * c + 1) rfl (by omega) (by omega) rfl ?_
  refine wp_aload0 rfl ?_
  refine wp_iload3 rfl ?_
  refine wp_iconst rfl ?_
  refine wp_iaddE (nI ((5 * c) + 2)) (nI_add _ _) rfl ?_
  refine wp_ialdS rfl (5 * c + 2) rfl (by omega) (by omega) rfl ?_
  refine wp_aload0 rfl ?_
  refine wp_iload3 rfl ?_
  refine wp_iconst rfl ?_
  refine wp_iaddE (nI ((5 * c) + 3)) (nI_add _ _) rfl ?_
  refine wp_ialdS rfl (5 * c + 3) rfl (by omega) (by omega) rfl ?_
  refine wp_callV3I rfl (Nat.le_of_ble_eq_true rfl) (Ref_kd B1.S) (Ref_goes_ok B1) (Nat.le_of_ble_eq_true rfl) ?_
  rintro _ h3 ⟨rfl, B2⟩
  refine wp_icmp_eq rfl (fun _ => ?_) (fun z => absurd z (fun y => y rfl))
  exact tail h3 _ (LB_on D B2)
set_option maxRecDepth 20000 in
set_option maxHeartbeats 1000000 in
theorem law_set {xs : Nat → Int32} {L c : Nat} {t : Rt_} {h1 : Hp_} {Q : Option Value → Hp_ → Prop} (hL : L ≤ 320) (hc : 5 * c + 5 ≤ L) (I : LB_ h1 t c) (tail : TL_ xs L c Q) : wq 20 tb_Law_law (some (L, xs)) 324 [some (.ref 0), some (.ref 1), some (.ref 65), some (.int (nI (5 * c)))] [] h1 Q := by
  refine wp_aload1 rfl ?_
  refine wp_aload0 rfl ?_
  refine wp_iload3 rfl ?_
  refine wp_iconst rfl ?_
  refine wp_iaddE (nI ((5 * c) + 1)) (nI_add _ _) rfl ?_
  refine wp_ialdS rfl (5 * c + 1) rfl (by omega) (by omega) rfl ?_
  refine wp_aload0 rfl ?_
  refine wp_iload3 rfl ?_
  refine wp_iconst rfl ?_
  refine wp_iaddE (nI ((5 * c) + 2)) (nI_add _ _) rfl ?_
  refine wp_ialdS rfl (5 * c + 2) rfl (by omega) (by omega) rfl ?_
  refine wp_callV2I rfl (Nat.le_of_ble_eq_true rfl) (Dance_kd I.1.S) (Dance_set_ok I.1) (Nat.le_of_ble_eq_true rfl) ?_
  rintro _ h2 ⟨rfl, D⟩
  have B1 := LB_mid I D
  refine wp_aload2 rfl ?_
  refine wp_aload0 rfl ?_
  refine wp_iload3 rfl ?_
  refine wp_iconst rfl ?_
  refine wp_iaddE (nI ((5 * c) + 1)) (nI_add _ _) rfl ?_
  refine wp_ialdS rfl (5 * c + 1) rfl (by omega) (by omega) rfl ?_
  refine wp_aload0 rfl ?_
  refine wp_iload3 rfl ?_
  refine wp_iconst rfl ?_
  refine wp_iaddE (nI ((5 * c) + 2)) (nI_add _ _) rfl ?_
  refine wp_ialdS rfl (5 * c + 2) rfl (by omega) (by omega) rfl ?_
  refine wp_callV2I rfl (Nat.le_of_ble_eq_true rfl) (Ref_kd B1.S) (Ref_set_ok B1) (Nat.le_of_ble_eq_true rfl) ?_
  rintro _ h3 ⟨rfl, B2⟩
  refine wp_icmp_eq rfl (fun _ => ?_) (fun z => absurd z (fun y => y rfl))
  exact tail h3 _ (LB_on D B2)
set_option maxRecDepth 20000 in
set_option maxHeartbeats 1000000 in
theorem law_music {xs : Nat → Int32} {L c : Nat} {t : Rt_} {h1 : Hp_} {Q : Option Value → Hp_ → Prop} (hL : L ≤ 320) (hc : 5 * c + 5 ≤ L) (I : LB_ h1 t c) (tail : TL_ xs L c Q) : wq 20 tb_Law_law (some (L, xs)) 357 [some (.ref 0), some (.ref 1), some (.ref 65), some (.int (nI (5 * c)))] [] h1 Q := by
  refine wp_aload1 rfl ?_
  refine wp_aload0 rfl ?_
  refine wp_iload3 rfl ?_
  refine wp_iconst rfl ?_
  refine wp_iaddE (nI ((5 * c) + 1)) (nI_add _ _) rfl ?_
  refine wp_ialdS rfl (5 * c + 1) rfl (by omega) (by omega) rfl ?_
  refine wp_aload0 rfl ?_
  refine wp_iload3 rfl ?_
  refine wp_iconst rfl ?_
  refine wp_iaddE (nI ((5 * c) + 2)) (nI_add _ _) rfl ?_
  refine wp_ialdS rfl (5 * c + 2) rfl (by omega) (by omega) rfl ?_
  refine wp_callV2I rfl (Nat.le_of_ble_eq_true rfl) (Dance_kd I.1.S) (Dance_music_ok I.1) (Nat.le_of_ble_eq_true rfl) ?_
  rintro _ h2 ⟨rfl, D⟩
  have B1 := LB_mid I D
  refine wp_aload2 rfl ?_
  refine wp_aload0 rfl ?_
  refine wp_iload3 rfl ?_
  refine wp_iconst rfl ?_
  refine wp_iaddE (nI ((5 * c) + 1)) (nI_add _ _) rfl ?_
  refine wp_ialdS rfl (5 * c + 1) rfl (by omega) (by omega) rfl ?_
  refine wp_aload0 rfl ?_
  refine wp_iload3 rfl ?_
  refine wp_iconst rfl ?_
  refine wp_iaddE (nI ((5 * c) + 2)) (nI_add _ _) rfl ?_
  refine wp_ialdS rfl (5 * c + 2) rfl (by omega) (by omega) rfl ?_
  refine wp_callV2I rfl (Nat.le_of_ble_eq_true rfl) (Ref_kd B1.S) (Ref_music_ok B1) (Nat.le_of_ble_eq_true rfl) ?_
  rintro _ h3 ⟨rfl, B2⟩
  refine wp_icmp_eq rfl (fun _ => ?_) (fun z => absurd z (fun y => y rfl))
  exact tail h3 _ (LB_on D B2)
set_option maxRecDepth 20000 in
set_option maxHeartbeats 1000000 in
theorem law_judge {xs : Nat → Int32} {L c : Nat} {t : Rt_} {h1 : Hp_} {Q : Option Value → Hp_ → Prop} (hL : L ≤ 320) (hc : 5 * c + 5 ≤ L) (I : LB_ h1 t c) (tail : TL_ xs L c Q) : wq 20 tb_Law_law (some (L, xs)) 390 [some (.ref 0), some (.ref 1), some (.ref 65), some (.int (nI (5 * c)))] [] h1 Q := by
  refine wp_aload1 rfl ?_
  refine wp_callV0I rfl (Nat.le_of_ble_eq_true rfl) (Dance_kd I.1.S) (Dance_judge_ok I.1) (Nat.le_of_ble_eq_true rfl) ?_
  rintro _ h2 ⟨rfl, D⟩
  have B1 := LB_mid I D
  refine wp_aload2 rfl ?_
  refine wp_callV0I rfl (Nat.le_of_ble_eq_true rfl) (Ref_kd B1.S) (Ref_judge_ok B1) (Nat.le_of_ble_eq_true rfl) ?_
  rintro _ h3 ⟨rfl, e3⟩
  rw [e3]
  refine wp_icmp_eq rfl (fun _ => ?_) (fun z => absurd z (fun y => y rfl))
  exact tail h2 _ (LB_same D B1)
set_option maxRecDepth 20000 in
set_option maxHeartbeats 1000000 in
theorem law_dance {xs : Nat → Int32} {L c : Nat} {t : Rt_} {h1 : Hp_} {Q : Option Value → Hp_ → Prop} (hL : L ≤ 320) (hc : 5 * c + 5 ≤ L) (I : LB_ h1 t c) (tail : TL_ xs L c Q) : wq 20 tb_Law_law (some (L, xs)) 403 [some (.ref 0), some (.ref 1), some (.ref 65), some (.int (nI (5 * c)))] [] h1 Q := by
  refine wp_aload1 rfl ?_
  refine wp_callV0I rfl (Nat.le_of_ble_eq_true rfl) (Dance_kd I.1.S) (Dance_dance_ok I.1) (Nat.le_of_ble_eq_true rfl) ?_
  rintro _ h2 ⟨rfl, D⟩
  have B1 := LB_mid I D
  refine wp_aload2 rfl ?_
  refine wp_callV0I rfl (Nat.le_of_ble_eq_true rfl) (Ref_kd B1.S) (Ref_dance_ok B1) (Nat.le_of_ble_eq_true rfl) ?_
  rintro _ h3 ⟨rfl, B2⟩
  refine wp_icmp_eq rfl (fun _ => ?_) (fun z => absurd z (fun y => y rfl))
  exact tail h3 _ (LB_on D B2)
set_option maxRecDepth 20000 in
set_option maxHeartbeats 1000000 in
theorem law_home {xs : Nat → Int32} {L c : Nat} {t : Rt_} {h1 : Hp_} {Q : Option Value → Hp_ → Prop} (hL : L ≤ 320) (hc : 5 * c + 5 ≤ L) (I : LB_ h1 t c) (tail : TL_ xs L c Q) : wq 20 tb_Law_law (some (L, xs)) 416 [some (.ref 0), some (.ref 1), some (.ref 65), some (.int (nI (5 * c)))] [] h1 Q := by
  refine wp_aload1 rfl ?_
  refine wp_callV0I rfl (Nat.le_of_ble_eq_true rfl) (Dance_kd I.1.S) (Dance_home_ok I.1) (Nat.le_of_ble_eq_true rfl) ?_
  rintro _ h2 ⟨rfl, D⟩
  have B1 := LB_mid I D
  refine wp_aload2 rfl ?_
  refine wp_callV0I rfl (Nat.le_of_ble_eq_true rfl) (Ref_kd B1.S) (Ref_home_ok B1) (Nat.le_of_ble_eq_true rfl) ?_
  rintro _ h3 ⟨rfl, B2⟩
  refine wp_icmp_eq rfl (fun _ => ?_) (fun z => absurd z (fun y => y rfl))
  exact tail h3 _ (LB_on D B2)
set_option maxRecDepth 20000 in
set_option maxHeartbeats 1000000 in
theorem law_where {xs : Nat → Int32} {L c : Nat} {t : Rt_} {h1 : Hp_} {Q : Option Value → Hp_ → Prop} (hL : L ≤ 320) (hc : 5 * c + 5 ≤ L) (I : LB_ h1 t c) (tail : TL_ xs L c Q) : wq 20 tb_Law_law (some (L, xs)) 429 [some (.ref 0), some (.ref 1), some (.ref 65), some (.int (nI (5 * c)))] [] h1 Q := by
  refine wp_aload1 rfl ?_
  refine wp_aload0 rfl ?_
  refine wp_iload3 rfl ?_
  refine wp_iconst rfl ?_
  refine wp_iaddE (nI ((5 * c) + 1)) (nI_add _ _) rfl ?_
  refine wp_ialdS rfl (5 * c + 1) rfl (by omega) (by omega) rfl ?_
  refine wp_aload0 rfl ?_
  refine wp_iload3 rfl ?_
  refine wp_iconst rfl ?_
  refine wp_iaddE (nI ((5 * c) + 2)) (nI_add _ _) rfl ?_
  refine wp_ialdS rfl (5 * c + 2) rfl (by omega) (by omega) rfl ?_
  refine wp_callV2I rfl (Nat.le_of_ble_eq_true rfl) (Dance_kd I.1.S) (Dance_where_ok I.1) (Nat.le_of_ble_eq_true rfl) ?_
  rintro _ h2 ⟨rfl, D⟩
  have B1 := LB_mid I D
  refine wp_aload2 rfl ?_
  refine wp_aload0 rfl ?_
  refine wp_iload3 rfl ?_
  refine wp_iconst rfl ?_
  refine wp_iaddE (nI ((5 * c) + 1)) (nI_add _ _) rfl ?_
  refine wp_ialdS rfl (5 * c + 1) rfl (by omega) (by omega) rfl ?_
  refine wp_aload0 rfl ?_
  refine wp_iload3 rfl ?_
  refine wp_iconst rfl ?_
  refine wp_iaddE (nI ((5 * c) + 2)) (nI_add _ _) rfl ?_
  refine wp_ialdS rfl (5 * c + 2) rfl (by omega) (by omega) rfl ?_
  refine wp_callV2I rfl (Nat.le_of_ble_eq_true rfl) (Ref_kd B1.S) (Ref_where_ok B1) (Nat.le_of_ble_eq_true rfl) ?_
  rintro _ h3 ⟨rfl, e3⟩
  rw [e3]
  refine wp_icmp_eq rfl (fun _ => ?_) (fun z => absurd z (fun y => y rfl))
  exact tail h2 _ (LB_same D B1)
set_option maxRecDepth 20000 in
set_option maxHeartbeats 1000000 in
theorem law_length {xs : Nat → Int32} {L c : Nat} {t : Rt_} {h1 : Hp_} {Q : Option Value → Hp_ → Prop} (hL : L ≤ 320) (hc : 5 * c + 5 ≤ L) (I : LB_ h1 t c) (tail : TL_ xs L c Q) : wq 20 tb_Law_law (some (L, xs)) 462 [some (.ref 0), some (.ref 1), some (.ref 65), some (.int (nI (5 * c)))] [] h1 Q := by
  refine wp_aload1 rfl ?_
  refine wp_callV0I rfl (Nat.le_of_ble_eq_true rfl) (Dance_kd I.1.S) (Dance_length_ok I.1) (Nat.le_of_ble_eq_true rfl) ?_
  rintro _ h2 ⟨rfl, D⟩
  have B1 := LB_mid I D
  refine wp_aload2 rfl ?_
  refine wp_callV0I rfl (Nat.le_of_ble_eq_true rfl) (Ref_kd B1.S) (Ref_length_ok B1) (Nat.le_of_ble_eq_true rfl) ?_
  rintro _ h3 ⟨rfl, B2⟩
  refine wp_icmp_eq rfl (fun _ => ?_) (fun z => absurd z (fun y => y rfl))
  exact tail h3 _ (LB_on D B2)
set_option maxRecDepth 20000 in
set_option maxHeartbeats 1000000 in
theorem law_sign {xs : Nat → Int32} {L c : Nat} {t : Rt_} {h1 : Hp_} {Q : Option Value → Hp_ → Prop} (hL : L ≤ 320) (hc : 5 * c + 5 ≤ L) (I : LB_ h1 t c) (tail : TL_ xs L c Q) : wq 20 tb_Law_law (some (L, xs)) 475 [some (.ref 0), some (.ref 1), some (.ref 65), some (.int (nI (5 * c)))] [] h1 Q := by
  refine wp_aload1 rfl ?_
  refine wp_aload0 rfl ?_
  refine wp_iload3 rfl ?_
  refine wp_iconst rfl ?_
  refine wp_iaddE (nI ((5 * c) + 1)) (nI_add _ _) rfl ?_
  refine wp_ialdS rfl (5 * c + 1) rfl (by omega) (by omega) rfl ?_
  refine wp_callV1I rfl (Nat.le_of_ble_eq_true rfl) (Dance_kd I.1.S) (Dance_sign_ok I.1) (Nat.le_of_ble_eq_true rfl) ?_
  rintro _ h2 ⟨rfl, D⟩
  have B1 := LB_mid I D
  refine wp_aload2 rfl ?_
  refine wp_aload0 rfl ?_
  refine wp_iload3 rfl ?_
  refine wp_iconst rfl ?_
  refine wp_iaddE (nI ((5 * c) + 1)) (nI_add _ _) rfl ?_
  refine wp_ialdS rfl (5 * c + 1) rfl (by omega) (by omega) rfl ?_
  refine wp_callV1I rfl (Nat.le_of_ble_eq_true rfl) (Ref_kd B1.S) (Ref_sign_ok B1) (Nat.le_of_ble_eq_true rfl) ?_
  rintro _ h3 ⟨rfl, B2⟩
  refine wp_icmp_eq rfl (fun _ => ?_) (fun z => absurd z (fun y => y rfl))
  exact tail h3 _ (LB_on D B2)
set_option maxRecDepth 20000 in
set_option maxHeartbeats 1000000 in
theorem law_want {xs : Nat → Int32} {L c : Nat} {t : Rt_} {h1 : Hp_} {Q : Option Value → Hp_ → Prop} (hL : L ≤ 320) (hc : 5 * c + 5 ≤ L) (I : LB_ h1 t c) (tail : TL_ xs L c Q) : wq 20 tb_Law_law (some (L, xs)) 498 [some (.ref 0), some (.ref 1), some (.ref 65), some (.int (nI (5 * c)))] [] h1 Q := by
  refine wp_aload1 rfl ?_
  refine wp_aload0 rfl ?_
  refine wp_iload3 rfl ?_
  refine wp_iconst rfl ?_
  refine wp_iaddE (nI ((5 * c) + 1)) (nI_add _ _) rfl ?_
  refine wp_ialdS rfl (5 * c + 1) rfl (by omega) (by omega) rfl ?_
  refine wp_aload0 rfl ?_
  refine wp_iload3 rfl ?_
  refine wp_iconst rfl ?_
  refine wp_iaddE (nI ((5 * c) + 2)) (nI_add _ _) rfl ?_
  refine wp_ialdS rfl (5 * c + 2) rfl (by omega) (by omega) rfl ?_
  refine wp_callV2I rfl (Nat.le_of_ble_eq_true rfl) (Dance_kd I.1.S) (Dance_want_ok I.1) (Nat.le_of_ble_eq_true rfl) ?_
  rintro _ h2 ⟨rfl, D⟩
  have B1 := LB_mid I D
  refine wp_aload2 rfl ?_
  refine wp_aload0 rfl ?_
  refine wp_iload3 rfl ?_
  refine wp_iconst rfl ?_
  refine wp_iaddE (nI ((5 * c) + 1)) (nI_add _ _) rfl ?_
  refine wp_ialdS rfl (5 * c + 1) rfl (by omega) (by omega) rfl ?_
  refine wp_aload0 rfl ?_
  refine wp_iload3 rfl ?_
  refine wp_iconst rfl ?_
  refine wp_iaddE (nI ((5 * c) + 2)) (nI_add _ _) rfl ?_
  refine wp_ialdS rfl (5 * c + 2) rfl (by omega) (by omega) rfl ?_
  refine wp_callV2I rfl (Nat.le_of_ble_eq_true rfl) (Ref_kd B1.S) (Ref_want_ok B1) (Nat.le_of_ble_eq_true rfl) ?_
  rintro _ h3 ⟨rfl, B2⟩
  refine wp_icmp_eq rfl (fun _ => ?_) (fun z => absurd z (fun y => y rfl))
  exact tail h3 _ (LB_on D B2)
set_option maxRecDepth 20000 in
set_option maxHeartbeats 1000000 in
theorem law_fewest {xs : Nat → Int32} {L c : Nat} {t : Rt_} {h1 : Hp_} {Q : Option Value → Hp_ → Prop} (hL : L ≤ 320) (hc : 5 * c + 5 ≤ L) (I : LB_ h1 t c) (tail : TL_ xs L c Q) : wq 20 tb_Law_law (some (L, xs)) 531 [some (.ref 0), some (.ref 1), some (.ref 65), some (.int (nI (5 * c)))] [] h1 Q := by
  refine wp_aload1 rfl ?_
  refine wp_aload0 rfl ?_
  refine wp_iload3 rfl ?_
  refine wp_iconst rfl ?_
  refine wp_iaddE (nI ((5 * c) + 1)) (nI_add _ _) rfl ?_
  refine wp_ialdS rfl (5 * c + 1) rfl (by omega) (by omega) rfl ?_
  refine wp_callV1I rfl (Nat.le_of_ble_eq_true rfl) (Dance_kd I.1.S) (Dance_fewest_ok I.1) (Nat.le_of_ble_eq_true rfl) ?_
  rintro y1 h2 ⟨a1, D⟩
  have B1 := LB_mid I D
  refine wp_aload2 rfl ?_
  refine wp_aload0 rfl ?_
  refine wp_iload3 rfl ?_
  refine wp_iconst rfl ?_
  refine wp_iaddE (nI ((5 * c) + 1)) (nI_add _ _) rfl ?_
  refine wp_ialdS rfl (5 * c + 1) rfl (by omega) (by omega) rfl ?_
  refine wp_callV1I rfl (Nat.le_of_ble_eq_true rfl) (Ref_kd B1.S) (Ref_fewest_ok B1) (Nat.le_of_ble_eq_true rfl) ?_
  rintro y2 h3 ⟨a2, B2⟩
  refine wp_icmp_eq rfl (fun _ => ?_) (fun z => absurd z (fun y => y (fewest_eq a1 a2)))
  exact tail h3 _ (LB_on D B2)
set_option maxRecDepth 20000 in
set_option maxHeartbeats 1000000 in
theorem law_standings {xs : Nat → Int32} {L c : Nat} {t : Rt_} {h1 : Hp_} {Q : Option Value → Hp_ → Prop} (hL : L ≤ 320) (hc : 5 * c + 5 ≤ L) (I : LB_ h1 t c) (tail : TL_ xs L c Q) : wq 20 tb_Law_law (some (L, xs)) 554 [some (.ref 0), some (.ref 1), some (.ref 65), some (.int (nI (5 * c)))] [] h1 Q := by
  refine wp_aload1 rfl ?_
  refine wp_callV0I rfl (Nat.le_of_ble_eq_true rfl) (Dance_kd I.1.S) (Dance_standings_ok I.1) (Nat.le_of_ble_eq_true rfl) ?_
  rintro y1 h2 ⟨a1, D⟩
  have B1 := LB_mid I D
  refine wp_aload2 rfl ?_
  refine wp_callV0I rfl (Nat.le_of_ble_eq_true rfl) (Ref_kd B1.S) (Ref_standings_ok B1) (Nat.le_of_ble_eq_true rfl) ?_
  rintro y2 h3 ⟨a2, B2⟩
  refine wp_icmp_eq rfl (fun _ => ?_) (fun z => absurd z (fun y => y (standings_eq a1 a2)))
  exact tail h3 _ (LB_on D B2)
set_option maxRecDepth 20000 in
set_option maxHeartbeats 1000000 in
theorem law_canBe {xs : Nat → Int32} {L c : Nat} {t : Rt_} {h1 : Hp_} {Q : Option Value → Hp_ → Prop} (hL : L ≤ 320) (hc : 5 * c + 5 ≤ L) (I : LB_ h1 t c) (tail : TL_ xs L c Q) : wq 20 tb_Law_law (some (L, xs)) 567 [some (.ref 0), some (.ref 1), some (.ref 65), some (.int (nI (5 * c)))] [] h1 Q := by
  refine wp_aload1 rfl ?_
  refine wp_callV0I rfl (Nat.le_of_ble_eq_true rfl) (Dance_kd I.1.S) (Dance_canBe_ok I.1) (Nat.le_of_ble_eq_true rfl) ?_
  rintro y1 h2 ⟨a1, D⟩
  have B1 := LB_mid I D
  refine wp_aload2 rfl ?_
  refine wp_callV0I rfl (Nat.le_of_ble_eq_true rfl) (Ref_kd B1.S) (Ref_canBe_ok B1) (Nat.le_of_ble_eq_true rfl) ?_
  rintro y2 h3 ⟨a2, B2⟩
  refine wp_icmp_eq rfl (fun _ => ?_) (fun z => absurd z (fun y => y (canBe_eq a1 a2)))
  exact tail h3 _ (LB_on D B2)
set_option maxRecDepth 20000 in
set_option maxHeartbeats 1000000 in
theorem law_sure {xs : Nat → Int32} {L c : Nat} {t : Rt_} {h1 : Hp_} {Q : Option Value → Hp_ → Prop} (hL : L ≤ 320) (hc : 5 * c + 5 ≤ L) (I : LB_ h1 t c) (tail : TL_ xs L c Q) : wq 20 tb_Law_law (some (L, xs)) 580 [some (.ref 0), some (.ref 1), some (.ref 65), some (.int (nI (5 * c)))] [] h1 Q := by
  refine wp_aload1 rfl ?_
  refine wp_aload0 rfl ?_
  refine wp_iload3 rfl ?_
  refine wp_iconst rfl ?_
  refine wp_iaddE (nI ((5 * c) + 1)) (nI_add _ _) rfl ?_
  refine wp_ialdS rfl (5 * c + 1) rfl (by omega) (by omega) rfl ?_
  refine wp_callV1I rfl (Nat.le_of_ble_eq_true rfl) (Dance_kd I.1.S) (Dance_sure_ok I.1) (Nat.le_of_ble_eq_true rfl) ?_
  rintro y1 h2 ⟨a1, D⟩
  have B1 := LB_mid I D
  refine wp_aload2 rfl ?_
  refine wp_aload0 rfl ?_
  refine wp_iload3 rfl ?_
  refine wp_iconst rfl ?_
  refine wp_iaddE (nI ((5 * c) + 1)) (nI_add _ _) rfl ?_
  refine wp_ialdS rfl (5 * c + 1) rfl (by omega) (by omega) rfl ?_
  refine wp_callV1I rfl (Nat.le_of_ble_eq_true rfl) (Ref_kd B1.S) (Ref_sure_ok B1) (Nat.le_of_ble_eq_true rfl) ?_
  rintro y2 h3 ⟨a2, B2⟩
  refine wp_icmp_eq rfl (fun _ => ?_) (fun z => absurd z (fun y => y (sure_eq a1 a2)))
  exact tail h3 _ (LB_on D B2)
set_option maxRecDepth 20000 in
set_option maxHeartbeats 1000000 in
theorem law_caller {xs : Nat → Int32} {L c : Nat} {t : Rt_} {h1 : Hp_} {Q : Option Value → Hp_ → Prop} (hL : L ≤ 320) (hc : 5 * c + 5 ≤ L) (I : LB_ h1 t c) (tail : TL_ xs L c Q) : wq 20 tb_Law_law (some (L, xs)) 603 [some (.ref 0), some (.ref 1), some (.ref 65), some (.int (nI (5 * c)))] [] h1 Q := by
  refine wp_aload1 rfl ?_
  refine wp_aload0 rfl ?_
  refine wp_iload3 rfl ?_
  refine wp_iconst rfl ?_
  refine wp_iaddE (nI ((5 * c) + 1)) (nI_add _ _) rfl ?_
  refine wp_ialdS rfl (5 * c + 1) rfl (by omega) (by omega) rfl ?_
  refine wp_aload0 rfl ?_
  refine wp_iload3 rfl ?_
  refine wp_iconst rfl ?_
  refine wp_iaddE (nI ((5 * c) + 2)) (nI_add _ _) rfl ?_
  refine wp_ialdS rfl (5 * c + 2) rfl (by omega) (by omega) rfl ?_
  refine wp_callV2I rfl (Nat.le_of_ble_eq_true rfl) (Dance_kd I.1.S) (Dance_caller_ok I.1) (Nat.le_of_ble_eq_true rfl) ?_
  rintro _ h2 ⟨rfl, D⟩
  have B1 := LB_mid I D
  refine wp_aload2 rfl ?_
  refine wp_aload0 rfl ?_
  refine wp_iload3 rfl ?_
  refine wp_iconst rfl ?_
  refine wp_iaddE (nI ((5 * c) + 1)) (nI_add _ _) rfl ?_
  refine wp_ialdS rfl (5 * c + 1) rfl (by omega) (by omega) rfl ?_
  refine wp_aload0 rfl ?_
  refine wp_iload3 rfl ?_
  refine wp_iconst rfl ?_
  refine wp_iaddE (nI ((5 * c) + 2)) (nI_add _ _) rfl ?_
  refine wp_ialdS rfl (5 * c + 2) rfl (by omega) (by omega) rfl ?_
  refine wp_callV2I rfl (Nat.le_of_ble_eq_true rfl) (Ref_kd B1.S) (Ref_caller_ok B1) (Nat.le_of_ble_eq_true rfl) ?_
  rintro _ h3 ⟨rfl, B2⟩
  refine wp_icmp_eq rfl (fun _ => ?_) (fun z => absurd z (fun y => y rfl))
  exact tail h3 _ (LB_on D B2)
set_option maxRecDepth 20000 in
set_option maxHeartbeats 1000000 in
theorem law_forced {xs : Nat → Int32} {L c : Nat} {t : Rt_} {h1 : Hp_} {Q : Option Value → Hp_ → Prop} (hL : L ≤ 320) (hc : 5 * c + 5 ≤ L) (I : LB_ h1 t c) (tail : TL_ xs L c Q) : wq 20 tb_Law_law (some (L, xs)) 636 [some (.ref 0), some (.ref 1), some (.ref 65), some (.int (nI (5 * c)))] [] h1 Q := by
  refine wp_aload1 rfl ?_
  refine wp_aload0 rfl ?_
  refine wp_iload3 rfl ?_
  refine wp_iconst rfl ?_
  refine wp_iaddE (nI ((5 * c) + 1)) (nI_add _ _) rfl ?_
  refine wp_ialdS rfl (5 * c + 1) rfl (by omega) (by omega) rfl ?_
  refine wp_aload0 rfl ?_
  refine wp_iload3 rfl ?_
  refine wp_iconst rfl ?_
  refine wp_iaddE (nI ((5 * c) + 2)) (nI_add _ _) rfl ?_
  refine wp_ialdS rfl (5 * c + 2) rfl (by omega) (by omega) rfl ?_
  refine wp_callV2I rfl (Nat.le_of_ble_eq_true rfl) (Dance_kd I.1.S) (Dance_forced_ok I.1) (Nat.le_of_ble_eq_true rfl) ?_
  rintro y1 h2 ⟨a1, D⟩
  have B1 := LB_mid I D
  refine wp_aload2 rfl ?_
  refine wp_aload0 rfl ?_
  refine wp_iload3 rfl ?_
  refine wp_iconst rfl ?_
  refine wp_iaddE (nI ((5 * c) + 1)) (nI_add _ _) rfl ?_
  refine wp_ialdS rfl (5 * c + 1) rfl (by omega) (by omega) rfl ?_
  refine wp_aload0 rfl ?_
  refine wp_iload3 rfl ?_
  refine wp_iconst rfl ?_
  refine wp_iaddE (nI ((5 * c) + 2)) (nI_add _ _) rfl ?_
  refine wp_ialdS rfl (5 * c + 2) rfl (by omega) (by omega) rfl ?_
  refine wp_callV2I rfl (Nat.le_of_ble_eq_true rfl) (Ref_kd B1.S) (Ref_forced_ok B1) (Nat.le_of_ble_eq_true rfl) ?_
  rintro y2 h3 ⟨a2, B2⟩
  refine wp_icmp_eq rfl (fun _ => ?_) (fun z => absurd z (fun y => y (forced_eq a1 a2)))
  exact tail h3 _ (LB_on D B2)
set_option maxRecDepth 20000 in
set_option maxHeartbeats 1000000 in
theorem law_seen {xs : Nat → Int32} {L c : Nat} {t : Rt_} {h1 : Hp_} {Q : Option Value → Hp_ → Prop} (hL : L ≤ 320) (hc : 5 * c + 5 ≤ L) (I : LB_ h1 t c) (tail : TL_ xs L c Q) : wq 20 tb_Law_law (some (L, xs)) 669 [some (.ref 0), some (.ref 1), some (.ref 65), some (.int (nI (5 * c)))] [] h1 Q := by
  refine wp_aload1 rfl ?_
  refine wp_aload0 rfl ?_
  refine wp_iload3 rfl ?_
  refine wp_iconst rfl ?_
  refine wp_iaddE (nI ((5 * c) + 1)) (nI_add _ _) rfl ?_
  refine wp_ialdS rfl (5 * c + 1) rfl (by omega) (by omega) rfl ?_
  refine wp_aload0 rfl ?_
  refine wp_iload3 rfl ?_
  refine wp_iconst rfl ?_
  refine wp_iaddE (nI ((5 * c) + 2)) (nI_add _ _) rfl ?_
  refine wp_ialdS rfl (5 * c + 2) rfl (by omega) (by omega) rfl ?_
  refine wp_aload0 rfl ?_
  refine wp_iload3 rfl ?_
  refine wp_iconst rfl ?_
  refine wp_iaddE (nI ((5 * c) + 3)) (nI_add _ _) rfl ?_
  refine wp_ialdS rfl (5 * c + 3) rfl (by omega) (by omega) rfl ?_
  refine wp_callV3I rfl (Nat.le_of_ble_eq_true rfl) (Dance_kd I.1.S) (Dance_seen_ok I.1) (Nat.le_of_ble_eq_true rfl) ?_
  rintro _ h2 ⟨rfl, D⟩
  have B1 := LB_mid I D
  refine wp_aload2 rfl ?_
  refine wp_aload0 rfl ?_
  refine wp_iload3 rfl ?_
  refine wp_iconst rfl ?_
  refine wp_iaddE (nI ((5 * c) + 1)) (nI_add _ _) rfl ?_
  refine wp_ialdS rfl (5 * c + 1) rfl (by omega) (by omega) rfl ?_
  refine wp_aload0 rfl ?_
  refine wp_iload3 rfl ?_
  refine wp_iconst rfl ?_
  refine wp_iaddE (nI ((5 * c) + 2)) (nI_add _ _) rfl ?_
  refine wp_ialdS rfl (5 * c + 2) rfl (by omega) (by omega) rfl ?_
  refine wp_aload0 rfl ?_
  refine wp_iload3 rfl ?_
  refine wp_iconst rfl ?_
  refine wp_iaddE (nI ((5 * c) + 3)) (nI_add _ _) rfl ?_
  refine wp_ialdS rfl (5 * c + 3) rfl (by omega) (by omega) rfl ?_
  refine wp_callV3I rfl (Nat.le_of_ble_eq_true rfl) (Ref_kd B1.S) (Ref_seen_ok B1) (Nat.le_of_ble_eq_true rfl) ?_
  rintro _ h3 ⟨rfl, B2⟩
  refine wp_icmp_eq rfl (fun _ => ?_) (fun z => absurd z (fun y => y rfl))
  exact tail h3 _ (LB_on D B2)
set_option maxRecDepth 20000 in
set_option maxHeartbeats 1000000 in
theorem law_forget {xs : Nat → Int32} {L c : Nat} {t : Rt_} {h1 : Hp_} {Q : Option Value → Hp_ → Prop} (hL : L ≤ 320) (hc : 5 * c + 5 ≤ L) (I : LB_ h1 t c) (tail : TL_ xs L c Q) : wq 20 tb_Law_law (some (L, xs)) 712 [some (.ref 0), some (.ref 1), some (.ref 65), some (.int (nI (5 * c)))] [] h1 Q := by
  refine wp_aload1 rfl ?_
  refine wp_callV0I rfl (Nat.le_of_ble_eq_true rfl) (Dance_kd I.1.S) (Dance_forget_ok I.1) (Nat.le_of_ble_eq_true rfl) ?_
  rintro _ h2 ⟨rfl, D⟩
  have B1 := LB_mid I D
  refine wp_aload2 rfl ?_
  refine wp_callV0I rfl (Nat.le_of_ble_eq_true rfl) (Ref_kd B1.S) (Ref_forget_ok B1) (Nat.le_of_ble_eq_true rfl) ?_
  rintro _ h3 ⟨rfl, B2⟩
  refine wp_icmp_eq rfl (fun _ => ?_) (fun z => absurd z (fun y => y rfl))
  exact tail h3 _ (LB_on D B2)
set_option maxRecDepth 20000 in
set_option maxHeartbeats 1000000 in
theorem law_rows {xs : Nat → Int32} {L c : Nat} {t : Rt_} {h1 : Hp_} {Q : Option Value → Hp_ → Prop} (hL : L ≤ 320) (hc : 5 * c + 5 ≤ L) (I : LB_ h1 t c) (tail : TL_ xs L c Q) : wq 20 tb_Law_law (some (L, xs)) 725 [some (.ref 0), some (.ref 1), some (.ref 65), some (.int (nI (5 * c)))] [] h1 Q := by
  refine wp_aload1 rfl ?_
  refine wp_aload0 rfl ?_
  refine wp_iload3 rfl ?_
  refine wp_iconst rfl ?_
  refine wp_iaddE (nI ((5 * c) + 1)) (nI_add _ _) rfl ?_
  refine wp_ialdS rfl (5 * c + 1) rfl (by omega) (by omega) rfl ?_
  refine wp_callV1J rfl (Nat.le_of_ble_eq_true rfl) (Dance_kd I.1.S) (Dance_rows_ok I.1) (Nat.le_of_ble_eq_true rfl) ?_
  rintro _ h2 ⟨rfl, D⟩
  have B1 := LB_mid I D
  refine wp_aload2 rfl ?_
  refine wp_aload0 rfl ?_
  refine wp_iload3 rfl ?_
  refine wp_iconst rfl ?_
  refine wp_iaddE (nI ((5 * c) + 1)) (nI_add _ _) rfl ?_
  refine wp_ialdS rfl (5 * c + 1) rfl (by omega) (by omega) rfl ?_
  refine wp_callV1J rfl (Nat.le_of_ble_eq_true rfl) (Ref_kd B1.S) (Ref_rows_ok B1) (Nat.le_of_ble_eq_true rfl) ?_
  rintro _ h3 ⟨rfl, B2⟩
  refine wp_lcmp rfl ?_
  refine wp_if_eq rfl (fun _ => ?_) (fun z => absurd z (fun y => y (lg_self _)))
  exact tail h3 _ (LB_on D B2)
set_option maxRecDepth 20000 in
set_option maxHeartbeats 1000000 in
theorem law_came {xs : Nat → Int32} {L c : Nat} {t : Rt_} {h1 : Hp_} {Q : Option Value → Hp_ → Prop} (hL : L ≤ 320) (hc : 5 * c + 5 ≤ L) (I : LB_ h1 t c) (tail : TL_ xs L c Q) : wq 20 tb_Law_law (some (L, xs)) 749 [some (.ref 0), some (.ref 1), some (.ref 65), some (.int (nI (5 * c)))] [] h1 Q := by
  refine wp_aload1 rfl ?_
  refine wp_aload0 rfl ?_
  refine wp_iload3 rfl ?_
  refine wp_iconst rfl ?_
  refine wp_iaddE (nI ((5 * c) + 1)) (nI_add _ _) rfl ?_
  refine wp_ialdS rfl (5 * c + 1) rfl (by omega) (by omega) rfl ?_
  refine wp_aload0 rfl ?_
  refine wp_iload3 rfl ?_
  refine wp_iconst rfl ?_
  refine wp_iaddE (nI ((5 * c) + 2)) (nI_add _ _) rfl ?_
  refine wp_ialdS rfl (5 * c + 2) rfl (by omega) (by omega) rfl ?_
  refine wp_aload0 rfl ?_
  refine wp_iload3 rfl ?_
  refine wp_iconst rfl ?_
  refine wp_iaddE (nI ((5 * c) + 3)) (nI_add _ _) rfl ?_
  refine wp_ialdS rfl (5 * c + 3) rfl (by omega) (by omega) rfl ?_
  refine wp_callV3I rfl (Nat.le_of_ble_eq_true rfl) (Dance_kd I.1.S) (Dance_came_ok I.1) (Nat.le_of_ble_eq_true rfl) ?_
  rintro y1 h2 ⟨a1, D⟩
  have B1 := LB_mid I D
  refine wp_aload2 rfl ?_
  refine wp_aload0 rfl ?_
  refine wp_iload3 rfl ?_
  refine wp_iconst rfl ?_
  refine wp_iaddE (nI ((5 * c) + 1)) (nI_add _ _) rfl ?_
  refine wp_ialdS rfl (5 * c + 1) rfl (by omega) (by omega) rfl ?_
  refine wp_aload0 rfl ?_
  refine wp_iload3 rfl ?_
  refine wp_iconst rfl ?_
  refine wp_iaddE (nI ((5 * c) + 2)) (nI_add _ _) rfl ?_
  refine wp_ialdS rfl (5 * c + 2) rfl (by omega) (by omega) rfl ?_
  refine wp_aload0 rfl ?_
  refine wp_iload3 rfl ?_
  refine wp_iconst rfl ?_
  refine wp_iaddE (nI ((5 * c) + 3)) (nI_add _ _) rfl ?_
  refine wp_ialdS rfl (5 * c + 3) rfl (by omega) (by omega) rfl ?_
  refine wp_callV3I rfl (Nat.le_of_ble_eq_true rfl) (Ref_kd B1.S) (Ref_came_ok B1) (Nat.le_of_ble_eq_true rfl) ?_
  rintro y2 h3 ⟨a2, B2⟩
  refine wp_icmp_eq rfl (fun _ => ?_) (fun z => absurd z (fun y => y (came_eq a1 a2)))
  exact tail h3 _ (LB_on D B2)
set_option maxRecDepth 20000 in
set_option maxHeartbeats 1000000 in
theorem law_wish {xs : Nat → Int32} {L c : Nat} {t : Rt_} {h1 : Hp_} {Q : Option Value → Hp_ → Prop} (hL : L ≤ 320) (hc : 5 * c + 5 ≤ L) (I : LB_ h1 t c) (tail : TL_ xs L c Q) : wq 20 tb_Law_law (some (L, xs)) 792 [some (.ref 0), some (.ref 1), some (.ref 65), some (.int (nI (5 * c)))] [] h1 Q := by
  refine wp_aload1 rfl ?_
  refine wp_aload0 rfl ?_
  refine wp_iload3 rfl ?_
  refine wp_iconst rfl ?_
  refine wp_iaddE (nI ((5 * c) + 1)) (nI_add _ _) rfl ?_
  refine wp_ialdS rfl (5 * c + 1) rfl (by omega) (by omega) rfl ?_
  refine wp_aload0 rfl ?_
  refine wp_iload3 rfl ?_
  refine wp_iconst rfl ?_
  refine wp_iaddE (nI ((5 * c) + 2)) (nI_add _ _) rfl ?_
  refine wp_ialdS rfl (5 * c + 2) rfl (by omega) (by omega) rfl ?_
  refine wp_aload0 rfl ?_
  refine wp_iload3 rfl ?_
  refine wp_iconst rfl ?_
  refine wp_iaddE (nI ((5 * c) + 3)) (nI_add _ _) rfl ?_
  refine wp_ialdS rfl (5 * c + 3) rfl (by omega) (by omega) rfl ?_
  refine wp_callV3I rfl (Nat.le_of_ble_eq_true rfl) (Dance_kd I.1.S) (Dance_wish_ok I.1) (Nat.le_of_ble_eq_true rfl) ?_
  rintro _ h2 ⟨rfl, D⟩
  have B1 := LB_mid I D
  refine wp_aload2 rfl ?_
  refine wp_aload0 rfl ?_
  refine wp_iload3 rfl ?_
  refine wp_iconst rfl ?_
  refine wp_iaddE (nI ((5 * c) + 1)) (nI_add _ _) rfl ?_
  refine wp_ialdS rfl (5 * c + 1) rfl (by omega) (by omega) rfl ?_
  refine wp_aload0 rfl ?_
  refine wp_iload3 rfl ?_
  refine wp_iconst rfl ?_
  refine wp_iaddE (nI ((5 * c) + 2)) (nI_add _ _) rfl ?_
  refine wp_ialdS rfl (5 * c + 2) rfl (by omega) (by omega) rfl ?_
  refine wp_aload0 rfl ?_
  refine wp_iload3 rfl ?_
  refine wp_iconst rfl ?_
  refine wp_iaddE (nI ((5 * c) + 3)) (nI_add _ _) rfl ?_
  refine wp_ialdS rfl (5 * c + 3) rfl (by omega) (by omega) rfl ?_
  refine wp_callV3I rfl (Nat.le_of_ble_eq_true rfl) (Ref_kd B1.S) (Ref_wish_ok B1) (Nat.le_of_ble_eq_true rfl) ?_
  rintro _ h3 ⟨rfl, B2⟩
  refine wp_icmp_eq rfl (fun _ => ?_) (fun z => absurd z (fun y => y rfl))
  exact tail h3 _ (LB_on D B2)
set_option maxRecDepth 20000 in
set_option maxHeartbeats 1000000 in
theorem law_drop {xs : Nat → Int32} {L c : Nat} {t : Rt_} {h1 : Hp_} {Q : Option Value → Hp_ → Prop} (hL : L ≤ 320) (hc : 5 * c + 5 ≤ L) (I : LB_ h1 t c) (tail : TL_ xs L c Q) : wq 20 tb_Law_law (some (L, xs)) 835 [some (.ref 0), some (.ref 1), some (.ref 65), some (.int (nI (5 * c)))] [] h1 Q := by
  refine wp_aload1 rfl ?_
  refine wp_callV0I rfl (Nat.le_of_ble_eq_true rfl) (Dance_kd I.1.S) (Dance_drop_ok I.1) (Nat.le_of_ble_eq_true rfl) ?_
  rintro _ h2 ⟨rfl, D⟩
  have B1 := LB_mid I D
  refine wp_aload2 rfl ?_
  refine wp_callV0I rfl (Nat.le_of_ble_eq_true rfl) (Ref_kd B1.S) (Ref_drop_ok B1) (Nat.le_of_ble_eq_true rfl) ?_
  rintro _ h3 ⟨rfl, B2⟩
  refine wp_icmp_eq rfl (fun _ => ?_) (fun z => absurd z (fun y => y rfl))
  exact tail h3 _ (LB_on D B2)
set_option maxRecDepth 20000 in
set_option maxHeartbeats 1000000 in
theorem law_served {xs : Nat → Int32} {L c : Nat} {t : Rt_} {h1 : Hp_} {Q : Option Value → Hp_ → Prop} (hL : L ≤ 320) (hc : 5 * c + 5 ≤ L) (I : LB_ h1 t c) (tail : TL_ xs L c Q) : wq 20 tb_Law_law (some (L, xs)) 848 [some (.ref 0), some (.ref 1), some (.ref 65), some (.int (nI (5 * c)))] [] h1 Q := by
  refine wp_aload1 rfl ?_
  refine wp_aload0 rfl ?_
  refine wp_iload3 rfl ?_
  refine wp_iconst rfl ?_
  refine wp_iaddE (nI ((5 * c) + 1)) (nI_add _ _) rfl ?_
  refine wp_ialdS rfl (5 * c + 1) rfl (by omega) (by omega) rfl ?_
  refine wp_aload0 rfl ?_
  refine wp_iload3 rfl ?_
  refine wp_iconst rfl ?_
  refine wp_iaddE (nI ((5 * c) + 2)) (nI_add _ _) rfl ?_
  refine wp_ialdS rfl (5 * c + 2) rfl (by omega) (by omega) rfl ?_
  refine wp_callV2I rfl (Nat.le_of_ble_eq_true rfl) (Dance_kd I.1.S) (Dance_served_ok I.1) (Nat.le_of_ble_eq_true rfl) ?_
  rintro y1 h2 ⟨a1, D⟩
  have B1 := LB_mid I D
  refine wp_aload2 rfl ?_
  refine wp_aload0 rfl ?_
  refine wp_iload3 rfl ?_
  refine wp_iconst rfl ?_
  refine wp_iaddE (nI ((5 * c) + 1)) (nI_add _ _) rfl ?_
  refine wp_ialdS rfl (5 * c + 1) rfl (by omega) (by omega) rfl ?_
  refine wp_aload0 rfl ?_
  refine wp_iload3 rfl ?_
  refine wp_iconst rfl ?_
  refine wp_iaddE (nI ((5 * c) + 2)) (nI_add _ _) rfl ?_
  refine wp_ialdS rfl (5 * c + 2) rfl (by omega) (by omega) rfl ?_
  refine wp_callV2I rfl (Nat.le_of_ble_eq_true rfl) (Ref_kd B1.S) (Ref_served_ok B1) (Nat.le_of_ble_eq_true rfl) ?_
  rintro y2 h3 ⟨a2, B2⟩
  refine wp_icmp_eq rfl (fun _ => ?_) (fun z => absurd z (fun y => y (served_eq a1 a2)))
  exact tail h3 _ (LB_on D B2)
set_option maxRecDepth 20000 in
set_option maxHeartbeats 1000000 in
theorem law_night {xs : Nat → Int32} {L c : Nat} {t : Rt_} {h1 : Hp_} {Q : Option Value → Hp_ → Prop} (hL : L ≤ 320) (hc : 5 * c + 5 ≤ L) (I : LB_ h1 t c) (tail : TL_ xs L c Q) : wq 20 tb_Law_law (some (L, xs)) 881 [some (.ref 0), some (.ref 1), some (.ref 65), some (.int (nI (5 * c)))] [] h1 Q := by
  refine wp_aload1 rfl ?_
  refine wp_aload0 rfl ?_
  refine wp_iload3 rfl ?_
  refine wp_iconst rfl ?_
  refine wp_iaddE (nI ((5 * c) + 1)) (nI_add _ _) rfl ?_
  refine wp_ialdS rfl (5 * c + 1) rfl (by omega) (by omega) rfl ?_
  refine wp_aload0 rfl ?_
  refine wp_iload3 rfl ?_
  refine wp_iconst rfl ?_
  refine wp_iaddE (nI ((5 * c) + 2)) (nI_add _ _) rfl ?_
  refine wp_ialdS rfl (5 * c + 2) rfl (by omega) (by omega) rfl ?_
  refine wp_aload0 rfl ?_
  refine wp_iload3 rfl ?_
  refine wp_iconst rfl ?_
  refine wp_iaddE (nI ((5 * c) + 3)) (nI_add _ _) rfl ?_
  refine wp_ialdS rfl (5 * c + 3) rfl (by omega) (by omega) rfl ?_
  refine wp_aload0 rfl ?_
  refine wp_iload3 rfl ?_
  refine wp_iconst rfl ?_
  refine wp_iaddE (nI ((5 * c) + 4)) (nI_add _ _) rfl ?_
  refine wp_ialdS rfl (5 * c + 4) rfl (by omega) (by omega) rfl ?_
  refine wp_callV4I rfl (Nat.le_of_ble_eq_true rfl) (Dance_kd I.1.S) (Dance_night_ok I.1) (Nat.le_of_ble_eq_true rfl) ?_
  rintro _ h2 ⟨rfl, D⟩
  have B1 := LB_mid I D
  refine wp_aload2 rfl ?_
  refine wp_aload0 rfl ?_
  refine wp_iload3 rfl ?_
  refine wp_iconst rfl ?_
  refine wp_iaddE (nI ((5 * c) + 1)) (nI_add _ _) rfl ?_
  refine wp_ialdS rfl (5 * c + 1) rfl (by omega) (by omega) rfl ?_
  refine wp_aload0 rfl ?_
  refine wp_iload3 rfl ?_
  refine wp_iconst rfl ?_
  refine wp_iaddE (nI ((5 * c) + 2)) (nI_add _ _) rfl ?_
  refine wp_ialdS rfl (5 * c + 2) rfl (by omega) (by omega) rfl ?_
  refine wp_aload0 rfl ?_
  refine wp_iload3 rfl ?_
  refine wp_iconst rfl ?_
  refine wp_iaddE (nI ((5 * c) + 3)) (nI_add _ _) rfl ?_
  refine wp_ialdS rfl (5 * c + 3) rfl (by omega) (by omega) rfl ?_
  refine wp_aload0 rfl ?_
  refine wp_iload3 rfl ?_
  refine wp_iconst rfl ?_
  refine wp_iaddE (nI ((5 * c) + 4)) (nI_add _ _) rfl ?_
  refine wp_ialdS rfl (5 * c + 4) rfl (by omega) (by omega) rfl ?_
  refine wp_callV4I rfl (Nat.le_of_ble_eq_true rfl) (Ref_kd B1.S) (Ref_night_ok B1) (Nat.le_of_ble_eq_true rfl) ?_
  rintro _ h3 ⟨rfl, B2⟩
  refine wp_icmp_eq rfl (fun _ => ?_) (fun z => absurd z (fun y => y rfl))
  exact tail h3 _ (LB_on D B2)
set_option maxRecDepth 20000 in
set_option maxHeartbeats 1000000 in
theorem law_image {xs : Nat → Int32} {L c : Nat} {t : Rt_} {h1 : Hp_} {Q : Option Value → Hp_ → Prop} (hL : L ≤ 320) (hc : 5 * c + 5 ≤ L) (I : LB_ h1 t c) (tail : TL_ xs L c Q) : wq 20 tb_Law_law (some (L, xs)) 934 [some (.ref 0), some (.ref 1), some (.ref 65), some (.int (nI (5 * c)))] [] h1 Q := by
  refine wp_aload1 rfl ?_
  refine wp_aload0 rfl ?_
  refine wp_iload3 rfl ?_
  refine wp_iconst rfl ?_
  refine wp_iaddE (nI ((5 * c) + 1)) (nI_add _ _) rfl ?_
  refine wp_ialdS rfl (5 * c + 1) rfl (by omega) (by omega) rfl ?_
  refine wp_callV1I rfl (Nat.le_of_ble_eq_true rfl) (Dance_kd I.1.S) (Dance_image_ok I.1) (Nat.le_of_ble_eq_true rfl) ?_
  rintro _ h2 ⟨rfl, D⟩
  have B1 := LB_mid I D
  refine wp_aload2 rfl ?_
  refine wp_aload0 rfl ?_
  refine wp_iload3 rfl ?_
  refine wp_iconst rfl ?_
  refine wp_iaddE (nI ((5 * c) + 1)) (nI_add _ _) rfl ?_
  refine wp_ialdS rfl (5 * c + 1) rfl (by omega) (by omega) rfl ?_
  refine wp_callV1I rfl (Nat.le_of_ble_eq_true rfl) (Ref_kd B1.S) (Ref_image_ok B1) (Nat.le_of_ble_eq_true rfl) ?_
  rintro _ h3 ⟨rfl, B2⟩
  refine wp_icmp_eq rfl (fun _ => ?_) (fun z => absurd z (fun y => y rfl))
  exact tail h3 _ (LB_on D B2)
set_option maxRecDepth 20000 in
set_option maxHeartbeats 1000000 in
theorem law_restore {xs : Nat → Int32} {L c : Nat} {t : Rt_} {h1 : Hp_} {Q : Option Value → Hp_ → Prop} (hL : L ≤ 320) (hc : 5 * c + 5 ≤ L) (I : LB_ h1 t c) (tail : TL_ xs L c Q) : wq 20 tb_Law_law (some (L, xs)) 957 [some (.ref 0), some (.ref 1), some (.ref 65), some (.int (nI (5 * c)))] [] h1 Q := by
  refine wp_aload1 rfl ?_
  refine wp_aload0 rfl ?_
  refine wp_iload3 rfl ?_
  refine wp_iconst rfl ?_
  refine wp_iaddE (nI ((5 * c) + 1)) (nI_add _ _) rfl ?_
  refine wp_ialdS rfl (5 * c + 1) rfl (by omega) (by omega) rfl ?_
  refine wp_callV1I rfl (Nat.le_of_ble_eq_true rfl) (Dance_kd I.1.S) (Dance_restore_ok I.1) (Nat.le_of_ble_eq_true rfl) ?_
  rintro _ h2 ⟨rfl, D⟩
  have B1 := LB_mid I D
  refine wp_aload2 rfl ?_
  refine wp_aload0 rfl ?_
  refine wp_iload3 rfl ?_
  refine wp_iconst rfl ?_
  refine wp_iaddE (nI ((5 * c) + 1)) (nI_add _ _) rfl ?_
  refine wp_ialdS rfl (5 * c + 1) rfl (by omega) (by omega) rfl ?_
  refine wp_callV1I rfl (Nat.le_of_ble_eq_true rfl) (Ref_kd B1.S) (Ref_restore_ok B1) (Nat.le_of_ble_eq_true rfl) ?_
  rintro _ h3 ⟨rfl, B2⟩
  refine wp_icmp_eq rfl (fun _ => ?_) (fun z => absurd z (fun y => y rfl))
  exact tail h3 _ (LB_on D B2)
set_option maxRecDepth 20000 in
set_option maxHeartbeats 1000000 in
theorem law_told {xs : Nat → Int32} {L c : Nat} {t : Rt_} {h1 : Hp_} {Q : Option Value → Hp_ → Prop} (hL : L ≤ 320) (hc : 5 * c + 5 ≤ L) (I : LB_ h1 t c) (tail : TL_ xs L c Q) : wq 20 tb_Law_law (some (L, xs)) 980 [some (.ref 0), some (.ref 1), some (.ref 65), some (.int (nI (5 * c)))] [] h1 Q := by
  refine wp_aload1 rfl ?_
  refine wp_aload0 rfl ?_
  refine wp_iload3 rfl ?_
  refine wp_iconst rfl ?_
  refine wp_iaddE (nI ((5 * c) + 1)) (nI_add _ _) rfl ?_
  refine wp_ialdS rfl (5 * c + 1) rfl (by omega) (by omega) rfl ?_
  refine wp_callV1I rfl (Nat.le_of_ble_eq_true rfl) (Dance_kd I.1.S) (Dance_told_ok I.1) (Nat.le_of_ble_eq_true rfl) ?_
  rintro _ h2 ⟨rfl, D⟩
  have B1 := LB_mid I D
  refine wp_aload2 rfl ?_
  refine wp_aload0 rfl ?_
  refine wp_iload3 rfl ?_
  refine wp_iconst rfl ?_
  refine wp_iaddE (nI ((5 * c) + 1)) (nI_add _ _) rfl ?_
  refine wp_ialdS rfl (5 * c + 1) rfl (by omega) (by omega) rfl ?_
  refine wp_callV1I rfl (Nat.le_of_ble_eq_true rfl) (Ref_kd B1.S) (Ref_told_ok B1) (Nat.le_of_ble_eq_true rfl) ?_
  rintro _ h3 ⟨rfl, e3⟩
  rw [e3]
  refine wp_icmp_eq rfl (fun _ => ?_) (fun z => absurd z (fun y => y rfl))
  exact tail h2 _ (LB_same D B1)
set_option maxRecDepth 20000 in
set_option maxHeartbeats 4000000 in
theorem law_ok (L : Nat) (xs : Nat → Int32) (hL : L ≤ 320) : wq 20 tb_Law_law (some (L, xs)) 0 [some (.ref 0), none, none, none] [] pl_h0 (fun r h' => r = some (.int 1) ∧ hp_nx h' ≤ 600000 ∧ hp_sl h' ≤ 7302000) := by
  obtain ⟨g1, c1, n1, g2, c2, I0⟩ := in_ex
  refine wq_genQ (fun Q eQ => ?_)
  refine wp_new rfl ?_
  refine wp_dup rfl ?_
  refine wp_callI0V (u := 1) rfl (by decide) (Nat.le_of_ble_eq_true rfl) (by decide) c1 (Nat.le_refl _) ?_
  rintro hx e1
  rw [e1]
  refine wp_astore1 rfl rfl ?_
  refine wp_new rfl ?_
  rw [n1]
  refine wp_dup rfl ?_
  refine wp_callI0V (u := 65) rfl (by decide) (Nat.le_of_ble_eq_true rfl) (by have := (@al_new g1 20 0 41).1; rw [n1] at this; exact this) c2 (Nat.le_refl _) ?_
  rintro hy e2
  rw [e2]
  refine wp_astore2 rfl rfl ?_
  refine wp_iconst rfl ?_
  refine wp_istore3 rfl rfl ?_
  refine wq_loop (X := Rt_) (fun c x => [some (.ref 0), some (.ref 1), some (.ref 65), some (.int (nI (5 * c)))]) (fun c x h1 => LB_ h1 x c) (L / 5) (0) (t0_) ?_ ?_ ?_ ?_
  · omega
  · exact I0
  · intro c x h1 hi I go
    show wq _ tb_Law_law _ 18 [some (.ref 0), some (.ref 1), some (.ref 65), some (.int (nI (5 * c)))] [] h1 _
    have hc : c < L / 5 := hi
    have hc5 : 5 * c + 5 ≤ L := by omega
    have tail : TL_ xs L c Q := by
      intro h3 t2 I3
      refine wp_iinc3N rfl rfl ?_
      refine wp_goto rfl ?_
      exact go t2 h3 I3
    refine wp_iload3 rfl ?_
    refine wp_aload0 rfl ?_
    refine wp_alenS rfl rfl ?_
    refine wp_iconst rfl ?_
    refine wp_isubE (nI (L - 5)) (pk_sub (by omega)) rfl ?_
    refine wp_icmp_gtN (5 * c) (L - 5) (by omega) (by omega) rfl (fun z => absurd z (by omega)) (fun _ => ?_)
    refine wp_aload0 rfl ?_
    refine wp_iload3 rfl ?_
    refine wp_ialdS rfl (5 * c) rfl (by omega) (by omega) rfl ?_
    refine wp_bipush rfl ?_
    refine wp_iand rfl ?_
    obtain ⟨q, hq, eq⟩ := and31 (xs (5 * c))
    rw [eq]
    rcases or32 hq with rfl | rfl | rfl | rfl | rfl | rfl | rfl | rfl | rfl | rfl | rfl | rfl | rfl | rfl | rfl | rfl | rfl | rfl | rfl | rfl | rfl | rfl | rfl | rfl | rfl | rfl | rfl | rfl | rfl | rfl | rfl | rfl
    · exact wp_sw_in (t := 176) (by decide) rfl (by decide) rfl (law_places hL hc5 I tail)
    · exact wp_sw_in (t := 199) (by decide) rfl (by decide) rfl (law_say hL hc5 I tail)
    · exact wp_sw_in (t := 222) (by decide) rfl (by decide) rfl (law_wipe hL hc5 I tail)
    · exact wp_sw_in (t := 235) (by decide) rfl (by decide) rfl (law_fault hL hc5 I tail)
    · exact wp_sw_in (t := 258) (by decide) rfl (by decide) rfl (law_figure hL hc5 I tail)
    · exact wp_sw_in (t := 281) (by decide) rfl (by decide) rfl (law_goes hL hc5 I tail)
    · exact wp_sw_in (t := 324) (by decide) rfl (by decide) rfl (law_set hL hc5 I tail)
    · exact wp_sw_in (t := 357) (by decide) rfl (by decide) rfl (law_music hL hc5 I tail)
    · exact wp_sw_in (t := 390) (by decide) rfl (by decide) rfl (law_judge hL hc5 I tail)
    · exact wp_sw_in (t := 403) (by decide) rfl (by decide) rfl (law_dance hL hc5 I tail)
    · exact wp_sw_in (t := 416) (by decide) rfl (by decide) rfl (law_home hL hc5 I tail)
    · exact wp_sw_in (t := 429) (by decide) rfl (by decide) rfl (law_where hL hc5 I tail)
    · exact wp_sw_in (t := 462) (by decide) rfl (by decide) rfl (law_length hL hc5 I tail)
    · exact wp_sw_in (t := 475) (by decide) rfl (by decide) rfl (law_sign hL hc5 I tail)
    · exact wp_sw_in (t := 498) (by decide) rfl (by decide) rfl (law_want hL hc5 I tail)
    · exact wp_sw_in (t := 531) (by decide) rfl (by decide) rfl (law_fewest hL hc5 I tail)
    · exact wp_sw_in (t := 554) (by decide) rfl (by decide) rfl (law_standings hL hc5 I tail)
    · exact wp_sw_in (t := 567) (by decide) rfl (by decide) rfl (law_canBe hL hc5 I tail)
    · exact wp_sw_in (t := 580) (by decide) rfl (by decide) rfl (law_sure hL hc5 I tail)
    · exact wp_sw_in (t := 603) (by decide) rfl (by decide) rfl (law_caller hL hc5 I tail)
    · exact wp_sw_in (t := 636) (by decide) rfl (by decide) rfl (law_forced hL hc5 I tail)
    · exact wp_sw_in (t := 669) (by decide) rfl (by decide) rfl (law_seen hL hc5 I tail)
    · exact wp_sw_in (t := 712) (by decide) rfl (by decide) rfl (law_forget hL hc5 I tail)
    · exact wp_sw_in (t := 725) (by decide) rfl (by decide) rfl (law_rows hL hc5 I tail)
    · exact wp_sw_in (t := 749) (by decide) rfl (by decide) rfl (law_came hL hc5 I tail)
    · exact wp_sw_in (t := 792) (by decide) rfl (by decide) rfl (law_wish hL hc5 I tail)
    · exact wp_sw_in (t := 835) (by decide) rfl (by decide) rfl (law_drop hL hc5 I tail)
    · exact wp_sw_in (t := 848) (by decide) rfl (by decide) rfl (law_served hL hc5 I tail)
    · exact wp_sw_in (t := 881) (by decide) rfl (by decide) rfl (law_night hL hc5 I tail)
    · exact wp_sw_in (t := 934) (by decide) rfl (by decide) rfl (law_image hL hc5 I tail)
    · exact wp_sw_in (t := 957) (by decide) rfl (by decide) rfl (law_restore hL hc5 I tail)
    · exact wp_sw_in (t := 980) (by decide) rfl (by decide) rfl (law_told hL hc5 I tail)
  · intro x h1 I
    show wq _ tb_Law_law _ 18 [some (.ref 0), some (.ref 1), some (.ref 65), some (.int (nI (5 * (L / 5))))] [] h1 _
    have hk : L / 5 ≤ 64 := by omega
    refine wp_iload3 rfl ?_
    refine wp_aload0 rfl ?_
    refine wp_alenS rfl rfl ?_
    refine wp_iconst rfl ?_
    refine wp_isub rfl ?_
    have gt : nI L - nI 5 < nI (5 * (L / 5)) := by
      rcases Nat.lt_or_ge L 5 with z | z
      · have n := ni_neg z (by decide)
        rw [show 5 * (L / 5) = 0 by omega]
        exact n
      · rw [ni_sub z, Int32.lt_iff_toInt_lt, nI_toInt (by omega), nI_toInt (by omega)]
        omega
    refine wp_icmp_gt rfl (fun _ => ?_) (fun z => absurd z (fun y => y gt))
    refine wp_iconst rfl ?_
    exact wp_zret rfl (by first | exact bo_01 _ | exact Or.inl rfl | exact Or.inr rfl) (by rw [eQ]; exact ⟨rfl, LB_room I hk⟩)
theorem pl_ok : pl_OK := by
  intro L xs hL
  obtain ⟨N, r, h', h1, h2, h3, h4⟩ := law_ok L xs hL
  rw [h2] at h1
  exact ⟨20, N, h', by decide, h1, h3, h4⟩
