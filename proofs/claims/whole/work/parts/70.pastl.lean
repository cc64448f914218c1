-- ===== Past: look =====
/-- the cells of the Past -/
def pc_ (a b c e p q r y v : Nat) : Prop := v = 43 ∨ v = 44 ∨ (49 ≤ v ∧ v ≤ 54) ∨ v = a ∨ v = b ∨ v = c ∨ v = e ∨ v = p ∨ v = q ∨ v = r ∨ v = y
def PH_ (h : Hp_) (P : Nat → Int32) (st : Bool) : Prop := MM_ h 49 P st ∧ (st = true → ∃ (s : Sg_) (m : Nat), sg_wf s ∧ m ≤ 12 ∧ (∀ j, j < 14 → P j = kP_ s m j) ∧ PO_ h s m)
theorem MM_cg {h h2 : Hp_} {o : Nat} {P : Nat → Int32} {st : Bool} (M : MM_ h o P st) (h1 : hp_I h2 o = hp_I h o) (h3 : hp_I h2 (o + 1) = hp_I h (o + 1)) : MM_ h2 o P st := by
  obtain ⟨c, m1, m2, m3⟩ := M
  exact ⟨c, by rw [h3]; exact m1, by rw [h1]; exact m2, by rw [h1]; exact m3⟩
/-- what a look gives -/
def PL_ (h h' : Hp_) (a b c e p q r y : Nat) (s : Sg_) (m : Nat) : Prop := ∃ (a2 b2 c2 e2 p2 q2 r2 y2 : Nat) (P2 : Nat → Int32), S_Past h' a2 b2 c2 e2 p2 q2 r2 y2 ∧ PH_ h' P2 true ∧ PO_ h' s m ∧ ag_ (pc_ a b c e p q r y) h h' ∧ (∀ v, pc_ a2 b2 c2 e2 p2 q2 r2 y2 v → pc_ a b c e p q r y v ∨ hp_nx h < v) ∧ hp_nx h' ≤ hp_nx h + 8 ∧ hp_sl h' + oc2_ h a b c e ≤ hp_sl h + oc2_ h' a2 b2 c2 e2 + 80640 ∧ (hp_ln h' a2 ≤ max (hp_ln h a) 20160 ∧ hp_ln h' b2 ≤ max (hp_ln h b) 20160 ∧ hp_ln h' c2 ≤ max (hp_ln h c) 20160 ∧ hp_ln h' e2 ≤ max (hp_ln h e) 120960)
theorem pe_pc {a b c e p q r y v : Nat} (hv : pe_ a b c e r y v) : pc_ a b c e p q r y v := by
  unfold pe_ oc5_ at hv
  unfold pc_
  omega
theorem pe_no {a b c e p q r y v : Nat} (R : rw4_ 45 a b c e) (X : rx_ p q r y) (h1 : 49 ≤ v) (h2 : v ≤ 54) : ¬ pe_ a b c e r y v := by
  unfold rw4_ at R
  unfold rx_ at X
  unfold pe_ oc5_
  omega
theorem pc_new {h : Hp_} {a b c e p q r y a2 b2 c2 e2 p2 q2 r2 y2 p4 q4 v : Nat} (w1 : nw2_ h a a2) (w2 : nw2_ h b b2) (w3 : nw2_ h c c2) (w4 : nw2_ h e e2) (wp : nw2_ h p p2) (wq : nw2_ h q q2) (wr : nw2_ h r r2) (wy : nw2_ h y y2) (D : (p4 = p2 ∧ q4 = q2) ∨ (p4 = q2 ∧ q4 = p2)) (hv : pc_ a2 b2 c2 e2 p4 q4 r2 y2 v) : pc_ a b c e p q r y v ∨ hp_nx h < v := by
  unfold nw2_ at *
  unfold pc_ at *
  rcases hv with u | u | u | u | u | u | u | u | u | u | u
  · exact Or.inl (Or.inl u)
  · exact Or.inl (Or.inr (Or.inl u))
  · exact Or.inl (Or.inr (Or.inr (Or.inl u)))
  · subst u; omega
  · subst u; omega
  · subst u; omega
  · subst u; omega
  · subst u; rcases D with ⟨d1, d2⟩ | ⟨d1, d2⟩ <;> subst d1 <;> omega
  · subst u; rcases D with ⟨d1, d2⟩ | ⟨d1, d2⟩ <;> subst d2 <;> omega
  · subst u; omega
  · subst u; omega
theorem rw4_54 {a b c e x : Nat} (R : rw4_ 45 a b c e) (hx : x = 44 ∨ x = a ∨ x = b ∨ x = c ∨ x = e) : x ≠ 54 := by
  unfold rw4_ at R
  omega
theorem nw2_nx {h h2 : Hp_} {x x2 : Nat} (e : hp_nx h2 = hp_nx h) (w : nw2_ h2 x x2) : nw2_ h x x2 := by
  unfold nw2_ at w ⊢
  rw [← e]
  exact w
theorem pc_a4 {h : Hp_} {a b c e p q r y p2 q2 r2 v : Nat} (hv : v ≤ hp_nx h) (wp : nw2_ h p p2) (wq : nw2_ h q q2) (wr : nw2_ h r r2) (hq : v = 43 ∨ v = p2 ∨ v = q2 ∨ v = r2) : pc_ a b c e p q r y v := by
  unfold nw2_ at *
  unfold pc_
  omega
theorem pc_a5 {h : Hp_} {a b c e p q r y y2 v : Nat} (hv : v ≤ hp_nx h) (wy : nw2_ h y y2) (hq : v = y2 ∨ v = 54) : pc_ a b c e p q r y v := by
  unfold nw2_ at *
  unfold pc_
  omega
theorem pc_53 {a b c e p q r y v : Nat} (hq : v = 53) : pc_ a b c e p q r y v := by
  unfold pc_
  omega
set_option maxRecDepth 4000 in
set_option maxHeartbeats 4000000 in
theorem Past_look_ok {h : Hp_} {a b c e p q r y m : Nat} {P : Nat → Int32} {st : Bool} {s : Sg_} (S : S_Past h a b c e p q r y) (H : PH_ h P st) (Mk : S_Market h 4) (M : MK_ h 4 s) (w : sg_wf s) (hm : m ≤ 12) (hM : hp_kd h 31 = 1 ∧ hp_ln h 31 = 6) (hr : ∀ f, f < 6 → hp_I h 31 f = ms_ s f) : cV 10 mn_Past_look [.ref 43, .ref 4, .ref 31, .int (nI m)] h (fun h' => PL_ h h' a b c e p q r y s m) := by
  have n3 := w.1.1
  have n8 := w.1.2
  have n93 := Past_nx S
  have RW := Past_rw S
  have RX := Past_rx S
  have IN := Past_in S
  have ON := Past_on S
  unfold on_ at ON
  refine cq_in (q := mi_Past_look) (L := [some (.ref 43), some (.ref 4), some (.ref 31), some (.int (nI m))]) rfl (Nat.le_of_ble_eq_true rfl) rfl ?_
  show wq _ tb_Past_look none 0 _ _ _ _
  refine wp_aload0 rfl ?_
  refine wp_aload1 rfl ?_
  refine wp_getR rfl (Market_kd Mk) (Market_R9 Mk) (by first | decide | omega) ?_
  refine wp_iload3 rfl ?_
  refine wp_callV2V rfl (Nat.le_of_ble_eq_true rfl) (Past_kd S) (Past_takeSights_ok S w Mk M hm) (Nat.le_of_ble_eq_true rfl) ?_
  intro h1 ⟨f1, G, T, F1⟩
  have z1 := fz_fr f1
  have S1 := Past_fz S z1 (by rw [fr_I f1 (by unfold p3_; omega)])
  have MM1 : MM_ h1 49 P st := MM_cg H.1 (fr_I f1 (by unfold p3_; omega)) (fr_I f1 (by unfold p3_; omega))
  have hM1 : hp_kd h1 31 = 1 ∧ hp_ln h1 31 = 6 := by rw [fz_kd z1, fz_ln z1]; exact hM
  have hr1 : ∀ f, f < 6 → hp_I h1 31 f = ms_ s f := fun f hf => by rw [fr_I f1 (by unfold p3_; omega)]; exact hr f hf
  have M1 : hp_I h1 4 0 = nI (sg_n s) := by rw [fr_I f1 (by unfold p3_; omega)]; exact M.1.1
  have Mk1 : S_Market h1 4 := by unfold S_Market S_Notes at Mk ⊢; rw [fz_kd z1, fz_ln z1, fz_R z1]; exact Mk
  have F1' := F1
  obtain ⟨⟨N1, N2⟩, -⟩ := F1'
  have hl6 := ls_len w m
  refine wp_aload0 rfl ?_
  refine wp_getR rfl (Past_kd S1) (Past_R1 S1) (by first | decide | omega) ?_
  refine wp_callV0V rfl (Nat.le_of_ble_eq_true rfl) (Memo_kd (Past_s1 S1)) (Memo_begin_ok (Past_s1 S1)) (Nat.le_of_ble_eq_true rfl) ?_
  intro h2 e2
  rw [mm_begin MM1] at e2
  subst e2
  refine wp_aload0 rfl ?_
  refine wp_getR rfl (Past_kd S1) (Past_R1 S1) (by first | decide | omega) ?_
  refine wp_aload2 rfl ?_
  refine wp_callV1V rfl (Nat.le_of_ble_eq_true rfl) (Memo_kd (Past_s1 S1)) (Memo_partsOfRow_ok (m := 6) (Past_s1 S1) hM1.1 (by decide) hM1.2 (by decide) (by decide) (by decide)) (Nat.le_of_ble_eq_true rfl) ?_
  intro h2 e2
  obtain ⟨P1, g1, e3, Q1⟩ : ∃ P1 g1, h2 = mm_ h1 49 P1 6 g1 ∧ MQ_ P st (kP_ s m) 6 P1 g1 := ⟨_, _, e2, MQ_row (c := 0) (m := 6) (fun i hi => by rw [Nat.zero_add, hr1 i hi]; exact if_pos hi) (MQ_0 P st (kP_ s m))⟩
  subst e3
  clear e2
  refine wp_aload0 rfl ?_
  refine wp_getR rfl (Past_kd S1) (Past_R1 S1) (by first | decide | omega) ?_
  refine wp_aload1 rfl ?_
  refine wp_getIE rfl (Market_kd Mk1) (show _ = nI (sg_n s) from by rw [mm_ne (by decide) (by decide)]; exact M1) ?_
  refine wp_callV1V rfl (Nat.le_of_ble_eq_true rfl) (Memo_kd (Past_s1 S1)) (Memo_part_ok (c := 6) (Past_s1 S1) (by decide)) (Nat.le_of_ble_eq_true rfl) ?_
  intro h2 e2
  obtain ⟨P2, g2, e3, Q2⟩ : ∃ P2 g2, h2 = mm_ h1 49 P2 7 g2 ∧ MQ_ P st (kP_ s m) 7 P2 g2 := ⟨_, _, e2, MQ_part (c := 6) rfl Q1⟩
  subst e3
  clear e2
  refine wp_aload0 rfl ?_
  refine wp_getR rfl (Past_kd S1) (Past_R1 S1) (by first | decide | omega) ?_
  refine wp_iload3 rfl ?_
  refine wp_callV1V rfl (Nat.le_of_ble_eq_true rfl) (Memo_kd (Past_s1 S1)) (Memo_part_ok (c := 7) (Past_s1 S1) (by decide)) (Nat.le_of_ble_eq_true rfl) ?_
  intro h2 e2
  obtain ⟨P3, g3, e3, Q3⟩ : ∃ P3 g3, h2 = mm_ h1 49 P3 8 g3 ∧ MQ_ P st (kP_ s m) 8 P3 g3 := ⟨_, _, e2, MQ_part (c := 7) rfl Q2⟩
  subst e3
  clear e2
  refine wp_aload0 rfl ?_
  refine wp_getR rfl (Past_kd S1) (Past_R1 S1) (by first | decide | omega) ?_
  refine wp_aload0 rfl ?_
  refine wp_getR rfl (Past_kd S1) (Past_R2 S1) (by first | decide | omega) ?_
  refine wp_callV1V rfl (Nat.le_of_ble_eq_true rfl) (Memo_kd (Past_s1 S1)) (Memo_partsOfNotes_ok (c := 8) (n := (ls_ s m).length) (Past_s1 S1) (Past_s2 S1) N1 hl6 (by decide) (by decide)) (Nat.le_of_ble_eq_true rfl) ?_
  intro h2 e2
  obtain ⟨P5, g5, e3, Q5⟩ : ∃ P5 g5, h2 = mm_ h1 49 P5 14 g5 ∧ MQ_ P st (kP_ s m) 14 P5 g5 := ⟨_, _, e2, MQ_row (c := 8) (m := 6) (fun i hi => by
    rw [kP_note hi]
    by_cases z : i < (ls_ s m).length
    · rw [if_pos z, N2 i _ (List.getElem?_eq_getElem z), List.getElem?_eq_getElem z]
    · rw [if_neg z, List.getElem?_eq_none (by omega)]) Q3⟩
  subst e3
  clear e2
  refine wp_aload0 rfl ?_
  refine wp_getR rfl (Past_kd S1) (Past_R1 S1) (by first | decide | omega) ?_
  refine wp_callV0I rfl (Nat.le_of_ble_eq_true rfl) (Memo_kd (Past_s1 S1)) (Memo_endsStale_ok (Past_s1 S1)) (Nat.le_of_ble_eq_true rfl) ?_
  refine pure_ ?_
  have z2 := mm_fz h1 49 P5 14 true
  have S2 : S_Past (mm_ h1 49 P5 14 true) a b c e p q r y := Past_fz S1 z2 (by rw [mm_ne (by decide) (by decide)])
  have MM2 := mm_MM h1 49 P5 14 true
  have A1 : ag_ (pc_ a b c e p q r y) h h1 := ag_mono (fun v _ hv => by unfold p3_ at hv; unfold pc_; omega) (ag_fr f1)
  have A2 : ag_ (pc_ a b c e p q r y) h (mm_ h1 49 P5 14 true) := ag_trans A1 (ag_fz z2) (fun v _ hv => by unfold pc_; omega)
  have nx1 := z1.1.1
  have sl1 := z1.1.2.1
  have ln1 := fz_ln z1
  refine wp_if_eqB rfl (fun c1 => ?_) (fun c1 => ?_)
  · skip
    have c2 : g5 = true := by cases g5; cases c1; rfl
    obtain ⟨r1, r2⟩ := Q5.2.2 c2
    obtain ⟨s1, m1, w1, hm1, k1, R1⟩ := H.2 r1
    obtain ⟨em, AL⟩ := kP_al w1 w hm1 hm (fun j hj => by rw [← k1 j hj, r2 j hj])
    subst em
    have PO2 : PO_ (mm_ h1 49 P5 14 true) s m1 := PO_cg (PO_al AL R1) (by show hp_J h1 43 5 = _; rw [(fr_S f1).2.2.2.2.1]) (by rw [mm_ne (by decide) (by decide), fr_I f1 (by unfold p3_; omega)]) (by rw [mm_ne (by decide) (by decide), fr_I f1 (by unfold p3_; omega)])
    refine wp_vret rfl ⟨rfl, a, b, c, e, p, q, r, y, P5, S2, ⟨MM2, fun _ => ⟨s, m1, w, hm, Q5.1, PO2⟩⟩, PO2, A2, fun v hv => Or.inl hv, ?_, ?_, ?_⟩
    · show hp_nx h1 ≤ _
      omega
    · show hp_sl h1 + _ ≤ hp_sl h + oc2_ h1 a b c e + _
      unfold oc2_
      rw [ln1]
      omega
    · show hp_ln h1 a ≤ _ ∧ hp_ln h1 b ≤ _ ∧ hp_ln h1 c ≤ _ ∧ hp_ln h1 e ≤ _
      rw [ln1]
      omega
  · skip
    generalize hh : mm_ h1 49 P5 14 true = hk at z2 A2 S2 MM2
    have nx2 := z2.1.1
    have sl2 := z2.1.2.1
    have ln2 := fz_ln z2
    have hMk : hp_I hk 4 0 = nI (sg_n s) := by rw [fz_I z2 (by omega)]; exact M1
    have Mk2 : S_Market hk 4 := by unfold S_Market S_Notes at Mk1 ⊢; rw [fz_kd z2, fz_ln z2, fz_R z2]; exact Mk1
    have hM2 : hp_kd hk 31 = 1 ∧ hp_ln hk 31 = 6 := by rw [fz_kd z2, fz_ln z2]; exact hM1
    have F2 : PF_ hk s m G T := PF_cg F1 (by rw [fz_I z2 (by omega)]; exact ⟨rfl, rfl⟩) (by rw [fz_I z2 (by omega)]) (by rw [fz_I z2 (by omega)])
    refine wp_aload0 rfl ?_
    refine wp_aload1 rfl ?_
    refine wp_getIE rfl (Market_kd Mk2) (show _ = nI (sg_n s) from hMk) ?_
    refine wp_aload2 rfl ?_
    refine wp_callV2V rfl (Nat.le_of_ble_eq_true rfl) (Past_kd S2) (Past_explore_ok S2 w F2 hM2 (fun f hf => by rw [fz_I z2 (by omega)]; exact hr1 f hf)) (Nat.le_of_ble_eq_true rfl) ?_
    rintro h3 ⟨a2, b2, c2, e2, p2, q2, r2, y2, t, S3, X3, Z3, A3, ⟨I43, J43⟩, ⟨⟨w1, w2, w3, w4⟩, wp, wq2, wr, wy⟩, nx3, sl3, ln3⟩
    have RW3 := Past_rw S3
    have RX3 := Past_rx S3
    have d3 := Past_dis S3
    have IN3 := Past_in S3
    have ON3 := Past_on S3
    unfold on_ at ON3
    have n93' := Past_nx S3
    have hnk := Past_nx S2
    have keep3 : ∀ v, 49 ≤ v → v ≤ 54 → hp_I h3 v = hp_I hk v := fun v v1 v2 => ((A3.2.2 v (by omega)).2.2 (pe_no RW RX v1 v2)).1
    have F3 : PF_ h3 s m G T := PF_cg F2 (by rw [I43]; exact ⟨rfl, rfl⟩) (keep3 51 (by decide) (by decide)) (keep3 52 (by decide) (by decide))
    refine wp_aload0 rfl ?_
    refine wp_iload3 rfl ?_
    refine wp_callV1V rfl (Nat.le_of_ble_eq_true rfl) (Past_kd S3) (Past_countRows_ok S3 w X3 F3 hm (fun i hi => (Z3 i hi).1)) (Nat.le_of_ble_eq_true rfl) ?_
    rintro h4 ⟨p4, q4, D4, S4, X4, A4, ⟨nx4, sl4, I4a, I4b, I4c⟩, B4, J4⟩
    have hp55 := rx_55 RX3
    have keep4 : ∀ v, v ≤ hp_nx h3 → v ≠ 43 → v ≠ p2 → v ≠ q2 → v ≠ r2 → hp_I h4 v = hp_I h3 v := fun v v1 v2 v3 v4 v5 => ((A4.2.2 v v1).2.2 (by omega)).1
    have yq := d3.2
    refine wp_aload0 rfl ?_
    refine wp_iload3 rfl ?_
    refine wp_callV1V rfl (Nat.le_of_ble_eq_true rfl) (Past_kd S4) (Past_gather_ok S4 w X4 B4 hm (fun i hi => by rw [keep4 y2 IN3.2.2.2 (by omega) (by omega) (by omega) (by omega)]; exact (Z3 i hi).2)) (Nat.le_of_ble_eq_true rfl) ?_
    rintro h5 ⟨z5, K5⟩
    have d4 := Past_dis S4
    have hp554 := rx_55 (Past_rx S4)
    have d44 := d4.1 44 (Or.inl rfl)
    have S5 := Past_fz S4 z5 (by rw [fz_I z5 (by omega)])
    have X5 := PX_fz X4 z5 (fun x hx hq => hq.elim (d4.1 x hx).2.2.2 (rw4_54 RW3 hx))
    have B5 := FB_fz B4 (h2 := h5) (by rw [fz_I z5 (by omega)])
    refine wp_aload0 rfl ?_
    refine wp_iload3 rfl ?_
    refine wp_callV1V rfl (Nat.le_of_ble_eq_true rfl) (Past_kd S5) (Past_findFirstRow_ok S5 w X5 B5 hm) (Nat.le_of_ble_eq_true rfl) ?_
    rintro h6 ⟨z6, K6⟩
    have S6 := Past_fz S5 z6 (by rw [fz_I z6 (by omega)])
    have k49 : ∀ v, v = 49 ∨ v = 50 → hp_I h6 v = hp_I hk v := fun v hv => by rw [fz_I z6 (by omega), fz_I z5 (by omega), keep4 v (by omega) (by omega) (by omega) (by omega) (by omega), keep3 v (by omega) (by omega)]
    have MM6 : MM_ h6 49 P5 true := MM_cg MM2 (k49 49 (Or.inl rfl)) (k49 50 (Or.inr rfl))
    have PO6 : PO_ h6 s m := ⟨by rw [fz_J z6 (by omega), fz_J z5 (by omega)]; exact J4, fun k i hi => ⟨K6 k i hi, by obtain ⟨A, k1, k2⟩ := K5 i hi; exact ⟨A, by rw [fz_I z6 (by omega)]; exact k1, k2 k⟩⟩⟩
    have nxk : hp_nx hk = hp_nx h := by omega
    have slk : hp_sl hk = hp_sl h := by omega
    have lnk : hp_ln hk = hp_ln h := by rw [ln2, ln1]
    have lnx : ∀ v, v ≤ hp_nx h3 → hp_ln h6 v = hp_ln h3 v := fun v hv => by rw [fz_ln z6, fz_ln z5]; exact (A4.2.2 v hv).2.1
    have wp' : nw2_ h p p2 := nw2_nx nxk wp
    have wq' : nw2_ h q q2 := nw2_nx nxk wq2
    have wr' : nw2_ h r r2 := nw2_nx nxk wr
    have wy' : nw2_ h y y2 := nw2_nx nxk wy
    have A6 : ag_ (pc_ a b c e p q r y) h h6 := ag_trans (ag_trans (ag_trans (ag_trans A2 A3 (fun v _ hv => pe_pc hv)) A4 (fun v hv hq => pc_a4 hv wp' wq' wr' hq)) (ag_fz z5) (fun v hv hq => pc_a5 hv wy' hq)) (ag_fz z6) (fun v _ hv => pc_53 hv)
    have nx6 : hp_nx h6 = hp_nx h3 := by rw [z6.1.1, z5.1.1, nx4]
    have sl6 : hp_sl h6 = hp_sl h3 := by rw [z6.1.2.1, z5.1.2.1, sl4]
    have oc6 : oc2_ h6 a2 b2 c2 e2 = oc2_ h3 a2 b2 c2 e2 := by
      unfold oc2_
      rw [lnx a2 ON3.2.1, lnx b2 ON3.2.2.1, lnx c2 ON3.2.2.2.1, lnx e2 ON3.2.2.2.2]
    have ock : oc2_ hk a b c e = oc2_ h a b c e := by unfold oc2_; rw [lnk]
    refine wp_vret rfl ⟨rfl, a2, b2, c2, e2, p4, q4, r2, y2, P5, S6, ⟨MM6, fun _ => ⟨s, m, w, hm, Q5.1, PO6⟩⟩, PO6, A6, fun v hv => pc_new (nw2_nx nxk w1) (nw2_nx nxk w2) (nw2_nx nxk w3) (nw2_nx nxk w4) wp' wq' wr' wy' D4 hv, ?_, ?_, ?_⟩
    · rw [nx6, ← nxk]; exact nx3
    · rw [sl6, oc6, ← ock, ← slk]; exact sl3
    · rw [lnx a2 ON3.2.1, lnx b2 ON3.2.2.1, lnx c2 ON3.2.2.2.1, lnx e2 ON3.2.2.2.2, ← lnk]
      exact ln3
