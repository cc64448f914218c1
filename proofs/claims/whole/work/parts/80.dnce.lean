-- ===== the class: fewest, rows, came, served =====
theorem Dance_fill {h h1 : Hp_} {t : Rt_} {k : Nat} (X : XB_ h t k) (e : h1 = hp_rI h 31 (fun f => if f < 6 then ms_ t.1 f else hp_I h 31 f)) : XB_ h1 t k ∧ fz_ (fun v => v = 31) h h1 ∧ ∀ f, f < 6 → hp_I h1 31 f = ms_ t.1 f := by
  have z : fz_ (fun v => v = 31) h h1 := by rw [e]; exact fz_rI (P := fun v => v = 31) (fz_refl _ _) rfl _
  exact ⟨⟨XS_fz X.1 z (fun v hv => by omega), CX_fz X.2 z (fun v hv => by omega)⟩, z, fun f hf => by rw [e, sd_rI_eq, if_pos hf]⟩
theorem ag_31 {h h1 : Hp_} (z : fz_ (fun v => v = 31) h h1) : ag_ cf_ h h1 := ag_mono (fun v _ hv => Or.inl (by omega)) (ag_fz z)
theorem sc_le {h : Hp_} {a b c e v : Nat} (S : S_Short h a b c e) (hv : sc_ a b c e v) : v ≤ hp_nx h := by
  have n93 := S.2.2.2.2.2.2.1
  have N := S.2.2.2.2.1
  unfold on_ at N
  unfold sc_ at hv
  omega
theorem pc_le {h : Hp_} {a b c e p q r y v : Nat} (S : S_Past h a b c e p q r y) (hv : pc_ a b c e p q r y v) : v ≤ hp_nx h := by
  have n93 := Past_nx S
  have N := Past_on S
  have I := Past_in S
  unfold on_ at N
  unfold pc_ at hv
  omega
theorem sc_new {h : Hp_} {a b c e a2 b2 c2 e2 v : Nat} (w1 : nw2_ h a a2) (w2 : nw2_ h b b2) (w3 : nw2_ h c c2) (w4 : nw2_ h e e2) (hv : sc_ a2 b2 c2 e2 v) : sc_ a b c e v ∨ hp_nx h < v := by
  unfold nw2_ at *
  unfold sc_ at *
  rcases hv with u | u | u | u | u | u | u | u
  · exact Or.inl (Or.inl u)
  · exact Or.inl (Or.inr (Or.inl u))
  · exact Or.inl (Or.inr (Or.inr (Or.inl u)))
  · exact Or.inl (Or.inr (Or.inr (Or.inr (Or.inl u))))
  · subst u; omega
  · subst u; omega
  · subst u; omega
  · subst u; omega
theorem Dance_find_ok {h : Hp_} {t : Rt_} {k : Nat} (X : XB_ h t k) (hr : ∀ f, f < 6 → hp_I h 31 f = ms_ t.1 f) : cV 10 mn_Shortest_find [.ref 35, .ref 4, .ref 31] h (fun h' => XB_ h' t (k + 1) ∧ ag_ cf_ h h' ∧ ∃ (a b c e : Nat) (s : Sg_), S_Short h' a b c e ∧ sg_wf s ∧ (∀ j, j < 10 → kS_ s j = kS_ t.1 j) ∧ SR_ h' a b c e s) := by
  obtain ⟨a, b, c, e, a2, b2, c2, e2, p, q, r, y, P1, P2, P3, st, st2, st3, ⟨s1, s2⟩, ⟨p1, p2⟩, ⟨e1, e2'⟩, c1, c2', c3, c4⟩ := X.2
  refine cV_post (Shortest_find_ok s1 s2 (Dance_s1 X.S) X.M X.w ⟨Dance_k5 X.S, Dance_n5 X.S⟩ hr) ?_
  rintro h' ⟨a3, b3, c3', e3, P4, S2, H2, K2, A2, ⟨w1, w2, w3, w4⟩, nx2, sl2⟩
  have K := Past_keep p1 p2 A2 (fun v hv hs => c1 v hs hv)
  have E := Even_keep e1 e2' A2 (Past_nx p1) (fun v h1 h2 hs => sc_ev (Short_rw s1) hs ⟨h1, h2⟩)
  have nx := A2.1
  have ON := Past_on p1
  unfold on_ at ON
  have l : ∀ v, v ≤ hp_nx h → hp_ln h' v = hp_ln h v := fun v hv => (A2.2.2 v hv).2.1
  obtain ⟨s', w', k', R'⟩ := H2.2 rfl
  have n93 := Past_nx p1
  refine ⟨⟨XS_ag X.1 A2 (by omega) (fun v hv hs => by have := sc_hi (Short_rw s1) hs; omega), a3, b3, c3', e3, a2, b2, c2, e2, p, q, r, y, P4, P2, P3, true, st2, st3, ⟨S2, H2⟩, K, E, fun v hv hp => ?_, by omega, ?_, ?_⟩, ag_mono (fun v _ hv => by have := sc_hi (Short_rw s1) hv; unfold cf_; omega) A2, a3, b3, c3', e3, s', S2, w', fun j hj => by rw [← k' j hj]; exact K2 j hj, R'⟩
  · rcases sc_new w1 w2 w3 w4 hv with u | u
    · exact c1 v u hp
    · have := pc_le p1 hp; omega
  · have o2 : oc2_ h' a2 b2 c2 e2 = oc2_ h a2 b2 c2 e2 := by
      unfold oc2_
      rw [l a2 ON.2.1, l b2 ON.2.2.1, l c2 ON.2.2.2.1, l e2 ON.2.2.2.2]
    rw [o2]
    omega
  · rw [l a2 ON.2.1, l b2 ON.2.2.1, l c2 ON.2.2.2.1, l e2 ON.2.2.2.2]
    exact c4
theorem Dance_look_ok {h : Hp_} {t : Rt_} {k m : Nat} (X : XB_ h t k) (hm : m ≤ 12) (hr : ∀ f, f < 6 → hp_I h 31 f = ms_ t.1 f) : cV 10 mn_Past_look [.ref 43, .ref 4, .ref 31, .int (nI m)] h (fun h' => XB_ h' t (k + 1) ∧ ag_ cf_ h h' ∧ (∃ (a b c e p q r y : Nat), S_Past h' a b c e p q r y) ∧ PO_ h' t.1 m) := by
  obtain ⟨a, b, c, e, a2, b2, c2, e2, p, q, r, y, P1, P2, P3, st, st2, st3, ⟨s1, s2⟩, ⟨p1, p2⟩, ⟨e1, e2'⟩, c1, c2', c3, c4⟩ := X.2
  refine cV_post (Past_look_ok p1 p2 (Dance_s1 X.S) X.M X.w hm ⟨Dance_k5 X.S, Dance_n5 X.S⟩ hr) ?_
  rintro h' ⟨a3, b3, c3', e3, p3, q3, r3, y3, P4, S2, H2, O2, A2, W, nx2, sl2, ln2⟩
  have K := SH_keep s1 s2 A2 (fun v hv hs => c1 v hv hs)
  have E := Even_keep e1 e2' A2 (Past_nx p1) (fun v h1 h2 hs => pc_ev (Past_rw p1) (Past_rx p1) hs ⟨h1, h2⟩)
  have ON := s1.2.2.2.2.1
  unfold on_ at ON
  have l : ∀ v, v ≤ hp_nx h → hp_ln h' v = hp_ln h v := fun v hv => (A2.2.2 v hv).2.1
  have n93 := Past_nx p1
  refine ⟨⟨XS_ag X.1 A2 (by omega) (fun v hv hs => by have := pc_hi (Past_rw p1) (Past_rx p1) hs; omega), a, b, c, e, a3, b3, c3', e3, p3, q3, r3, y3, P1, P4, P3, st, true, st3, K, ⟨S2, H2⟩, E, fun v hv hp => ?_, by omega, ?_, by omega⟩, ag_mono (fun v _ hv => by have := pc_hi (Past_rw p1) (Past_rx p1) hv; unfold cf_; omega) A2, ⟨a3, b3, c3', e3, p3, q3, r3, y3, S2⟩, O2⟩
  · rcases W v hp with u | u
    · exact c1 v hv u
    · have := sc_le s1 hv; omega
  · have o2 : oc2_ h' a b c e = oc2_ h a b c e := by
      unfold oc2_
      rw [l a ON.2.1, l b ON.2.2.1, l c ON.2.2.2.1, l e ON.2.2.2.2]
    rw [o2]
    omega
theorem Dance_serve_ok {h : Hp_} {t : Rt_} {k m : Nat} (X : XB_ h t k) (hm : m ≤ 6) (hr : ∀ f, f < 6 → hp_I h 31 f = ms_ t.1 f) : cV 14 mn_Evening_serve [.ref 59, .ref 4, .ref 31, .int (nI m)] h (fun h' => XB_ h' t (k + 1) ∧ ag_ cf_ h h' ∧ S_Even h' ∧ EO_ h' t.1 m) := by
  obtain ⟨a, b, c, e, a2, b2, c2, e2, p, q, r, y, P1, P2, P3, st, st2, st3, ⟨s1, s2⟩, ⟨p1, p2⟩, ⟨e1, e2'⟩, c1, c2', c3, c4⟩ := X.2
  refine cV_post (Evening_serve_ok e1 e2' (Dance_s1 X.S) X.M X.w hm ⟨Dance_k5 X.S, Dance_n5 X.S⟩ hr) ?_
  rintro h' ⟨P4, H2, O2, z2⟩
  have A2 := ag_fz z2
  have K := SH_keep s1 s2 A2 (fun v hv hs => sc_ev (Short_rw s1) hv hs)
  have K2 := Past_keep p1 p2 A2 (fun v hv hs => pc_ev (Past_rw p1) (Past_rx p1) hv hs)
  refine ⟨⟨XS_fz X.1 z2 (fun v hv => by omega), a, b, c, e, a2, b2, c2, e2, p, q, r, y, P1, P2, P4, st, st2, true, K, K2, ⟨Even_fz e1 z2, H2⟩, c1, by rw [z2.1.1]; omega, ?_, by rw [fz_ln z2]; exact c4⟩, ag_mono (fun v _ hv => Or.inl (by omega)) A2, Even_fz e1 z2, O2⟩
  unfold oc2_ at c3 ⊢
  rw [z2.1.2.1, fz_ln z2]
  omega
/-- an int that is neither below -1 nor -1 -/
theorem ge_m1 {i : Int32} (h1 : ¬ i < -1) (h2 : i ≠ -1) : ∃ j : Nat, j < 2 ^ 31 ∧ i = nI j := by
  refine nI_of (fun h => ?_)
  rw [Int32.lt_iff_toInt_lt, show (-1 : Int32).toInt = -1 from rfl] at h1
  rw [Int32.lt_iff_toInt_lt, show (0 : Int32).toInt = 0 from rfl] at h
  exact h2 (Int32.toInt_inj.mp (by rw [show (-1 : Int32).toInt = -1 from rfl]; omega))
theorem fv_out {u : List Nat} {i : Int32} (hl : u.length < 2 ^ 31) (h : i < -1 ∨ (¬ i < -1 ∧ ¬ i < nI u.length)) : fv_ (some u) i = -6 := by
  unfold fv_
  (try dsimp only)
  have h0 : ¬ i = -1 ∧ ¬ (0 ≤ i.toInt ∧ i.toInt < u.length) := by
    rw [Int32.lt_iff_toInt_lt, Int32.lt_iff_toInt_lt, show (-1 : Int32).toInt = -1 from rfl, nI_toInt hl] at h
    refine ⟨fun z => ?_, fun z => by omega⟩
    rw [z, show (-1 : Int32).toInt = -1 from rfl] at h
    omega
  rw [if_neg h0.1, if_neg h0.2]
theorem fv_m1 {u : List Nat} : fv_ (some u) (-1) = nI u.length := rfl
theorem fv_at {u : List Nat} {m : Nat} (hb : m < 2 ^ 31) (h : m < u.length) : fv_ (some u) (nI m) = nI (65 + u.getD m 0) := by
  unfold fv_
  (try dsimp only)
  rw [if_neg (nI_ne_m1 hb), if_pos ⟨by rw [nI_toInt hb]; omega, by rw [nI_toInt hb]; omega⟩, nI_clamp hb]
set_option maxRecDepth 4000 in
theorem Dance_fewest_ok {h : Hp_} {t : Rt_} {k : Nat} {i : Int32} (X : XB_ h t k) : cI 11 mn_RoundDance_fewest [.ref 1, .int i] h (fun y h' => an_fewest_ t i y ∧ DR_ h h' t (k + 1)) := by
  refine cq_in (q := mi_RoundDance_fewest) (L := [some (.ref 1), some (.int i), none]) rfl (Nat.le_of_ble_eq_true rfl) rfl ?_
  show wq _ tb_RoundDance_fewest none 0 _ _ _ _
  refine wp_aload0 rfl ?_
  refine wp_getR rfl (Dance_kd X.S) (Dance_R1 X.S) (by first | decide | omega) ?_
  refine wp_aload0 rfl ?_
  refine wp_getR rfl (Dance_kd X.S) (Dance_R5 X.S) (by first | decide | omega) ?_
  refine wp_callV1V rfl (Nat.le_of_ble_eq_true rfl) (Market_kd (Dance_s1 X.S)) (Market_fillMoves_ok (Dance_s1 X.S) X.M X.w (Dance_k5 X.S) (Dance_n5 X.S) (by decide) (by decide)) (Nat.le_of_ble_eq_true rfl) ?_
  intro h1 e1
  obtain ⟨X1, z1, r1⟩ := Dance_fill X e1
  obtain ⟨sa, sb, sc, se, _, _, _, _, _, _, _, _, _, _, _, _, _, _, ⟨Sh, _⟩, _⟩ := X1.2
  refine wp_aload0 rfl ?_
  refine wp_getR rfl (Dance_kd X1.S) (Dance_R7 X1.S) (by first | decide | omega) ?_
  refine wp_aload0 rfl ?_
  refine wp_getR rfl (Dance_kd X1.S) (Dance_R1 X1.S) (by first | decide | omega) ?_
  refine wp_aload0 rfl ?_
  refine wp_getR rfl (Dance_kd X1.S) (Dance_R5 X1.S) (by first | decide | omega) ?_
  refine wp_callV2V rfl (Nat.le_of_ble_eq_true rfl) (Short_kd Sh) (Dance_find_ok X1 r1) (Nat.le_of_ble_eq_true rfl) ?_
  rintro h2 ⟨X2, A2, a, b, c, e, s, S2, w', ks, R⟩
  have D2 : DR_ h h2 t (k + 1) := ⟨X2, ag_trans (ag_31 z1) A2 (fun _ _ hv => hv)⟩
  obtain ⟨tt, I, G⟩ := R
  have B := bf_inv (st := nx2_ (kw_ s) (mv_ s)) (ok := may_ s) (s0 := sl_ s) tt
  have hlen := bfS_len (ok := may_ s) (mv_P w') (sl_Lz w') tt
  have hce := ce_le w'.1.2 (kw_ s)
  rcases G with ⟨g1, g2⟩ | ⟨j, x, g1, g2, g3, g4⟩
  · skip
    have F := FW_same w' X.w ks g2
    refine wp_aload0 rfl ?_
    refine wp_getR rfl (Dance_kd X2.S) (Dance_R7 X2.S) (by first | decide | omega) ?_
    refine wp_getIE rfl (Short_kd S2) (g1) ?_
    refine wp_istore2 rfl rfl ?_
    refine wp_iload2 rfl ?_
    refine wp_iconst rfl ?_
    refine wp_icmp_eq rfl (fun _ => ?_) (fun z => absurd z (fun y => y rfl))
    refine wp_bipush rfl ?_
    exact wp_iret rfl ⟨_, rfl, ⟨none, F, rfl⟩, D2⟩
  · skip
    have F := FW_same w' X.w ks g4
    have hjl := (List.getElem?_eq_some_iff.mp g1).1
    have hwl := bi_wl B j x g1
    refine wp_aload0 rfl ?_
    refine wp_getR rfl (Dance_kd X2.S) (Dance_R7 X2.S) (by first | decide | omega) ?_
    refine wp_getIE rfl (Short_kd S2) (show _ = nI (x.2.2.length) from g3) ?_
    refine wp_istore2 rfl rfl ?_
    refine wp_iload2 rfl ?_
    refine wp_iconst rfl ?_
    refine wp_icmp_eq rfl (fun z => absurd z (fun z => nI_ne_m1 (by omega) z)) (fun _ => ?_)
    refine wp_iload1 rfl ?_
    refine wp_iconst rfl ?_
    refine wp_icmp_lt rfl (fun d1 => ?_) (fun d1 => ?_)
    · skip
      refine wp_bipush rfl ?_
      exact wp_iret rfl ⟨_, rfl, ⟨some x.2.2, F, (fv_out (by omega) (Or.inl d1)).symm⟩, D2⟩
    · skip
      refine wp_iload1 rfl ?_
      refine wp_iload2 rfl ?_
      refine wp_icmp_lt rfl (fun d2 => ?_) (fun d2 => ?_)
      · skip
        refine wp_iload1 rfl ?_
        refine wp_iconst rfl ?_
        refine wp_icmp_ne rfl (fun d3 => ?_) (fun d3 => ?_)
        · skip
          obtain ⟨m, hmb, rfl⟩ := ge_m1 d1 d3
          have hml : m < x.2.2.length := by
            rw [Int32.lt_iff_toInt_lt, nI_toInt hmb, nI_toInt (by omega)] at d2
            omega
          refine wp_bipush rfl ?_
          refine wp_aload0 rfl ?_
          refine wp_getR rfl (Dance_kd X2.S) (Dance_R7 X2.S) (by first | decide | omega) ?_
          refine wp_iload1 rfl ?_
          refine wp_callV1I rfl (Nat.le_of_ble_eq_true rfl) (Short_kd S2) (Shortest_figureAt_ok S2 w' I g1 g2 g3 hml) (Nat.le_of_ble_eq_true rfl) ?_
          refine pure_ ?_
          refine wp_iaddE (nI (65 + (x.2.2.getD m 0))) (nI_add _ _) rfl ?_
          exact wp_iret rfl ⟨_, rfl, ⟨some x.2.2, F, (fv_at hmb hml).symm⟩, D2⟩
        · skip
          refine wp_iload2 rfl ?_
          refine wp_goto rfl ?_
          have d3' : i = -1 := Classical.not_not.mp d3
          exact wp_iret rfl ⟨_, rfl, ⟨some x.2.2, F, by rw [d3', fv_m1]⟩, D2⟩
      · skip
        refine wp_bipush rfl ?_
        exact wp_iret rfl ⟨_, rfl, ⟨some x.2.2, F, (fv_out (by omega) (Or.inr ⟨d1, d2⟩)).symm⟩, D2⟩
theorem Dance_rows_ok {h : Hp_} {t : Rt_} {k : Nat} {m : Int32} (X : XB_ h t k) : cJ 11 mn_RoundDance_rows [.ref 1, .int m] h (fun y h' => y = an_rows t m ∧ DR_ h h' t (k + 1)) := by
  cases c1 : rg_ 0 12 m with
  | false =>
    have e : an_rows t m = -2 := by unfold an_rows; rw [c1]; rfl
    rw [e]
    refine cq_in (q := mi_RoundDance_rows) (L := [some (.ref 1), some (.int m)]) rfl (Nat.le_of_ble_eq_true rfl) rfl ?_
    show wq _ tb_RoundDance_rows none 0 _ _ _ _
    refine wp_iload1 rfl ?_
    refine wp_if_lt rfl (fun c2 => ?_) (fun c2 => ?_)
    · skip
      refine wp_ldc2_w rfl ?_
      exact wp_lret rfl ⟨_, rfl, rfl, DR_same X⟩
    · skip
      refine wp_iload1 rfl ?_
      refine wp_bipush rfl ?_
      refine wp_icmp_le rfl (fun z => absurd z (rg_hi0 (b := 12) (by decide) c1 c2)) (fun _ => ?_)
      refine wp_ldc2_w rfl ?_
      exact wp_lret rfl ⟨_, rfl, rfl, DR_same X⟩
  | true =>
    obtain ⟨j, _, j1, jb, rfl⟩ := rg_of (a := 0) (b := 12) c1
    have e : an_rows t (nI j) = lN (nw_ t.1 j j (fun g => g)) := by unfold an_rows; rw [c1, if_pos rfl, nI_clamp jb]
    rw [e]
    refine cq_in (q := mi_RoundDance_rows) (L := [some (.ref 1), some (.int (nI j))]) rfl (Nat.le_of_ble_eq_true rfl) rfl ?_
    show wq _ tb_RoundDance_rows none 0 _ _ _ _
    refine wp_iload1 rfl ?_
    refine wp_if_ltN j 0 (by omega) (by decide) rfl ?_
    refine wp_iload1 rfl ?_
    refine wp_bipush rfl ?_
    refine wp_icmp_leN j 12 (by omega) (by omega) rfl (fun _ => ?_) (fun z => absurd z (by omega))
    refine wp_aload0 rfl ?_
    refine wp_getR rfl (Dance_kd X.S) (Dance_R1 X.S) (by first | decide | omega) ?_
    refine wp_aload0 rfl ?_
    refine wp_getR rfl (Dance_kd X.S) (Dance_R5 X.S) (by first | decide | omega) ?_
    refine wp_callV1V rfl (Nat.le_of_ble_eq_true rfl) (Market_kd (Dance_s1 X.S)) (Market_fillMoves_ok (Dance_s1 X.S) X.M X.w (Dance_k5 X.S) (Dance_n5 X.S) (by decide) (by decide)) (Nat.le_of_ble_eq_true rfl) ?_
    intro h1 e1
    obtain ⟨X1, z1, r1⟩ := Dance_fill X e1
    obtain ⟨_, _, _, _, pa, pb, pcc, pe, pp, pq, pr, py, _, _, _, _, _, _, _, ⟨Ps, _⟩, _⟩ := X1.2
    refine wp_aload0 rfl ?_
    refine wp_getR rfl (Dance_kd X1.S) (Dance_R8 X1.S) (by first | decide | omega) ?_
    refine wp_aload0 rfl ?_
    refine wp_getR rfl (Dance_kd X1.S) (Dance_R1 X1.S) (by first | decide | omega) ?_
    refine wp_aload0 rfl ?_
    refine wp_getR rfl (Dance_kd X1.S) (Dance_R5 X1.S) (by first | decide | omega) ?_
    refine wp_iload1 rfl ?_
    refine wp_callV3V rfl (Nat.le_of_ble_eq_true rfl) (Past_kd Ps) (Dance_look_ok X1 (by omega) r1) (Nat.le_of_ble_eq_true rfl) ?_
    rintro h2 ⟨X2, A2, ⟨a, b, c, ee, p, q, r, y, S2⟩, O2⟩
    have D2 : DR_ h h2 t (k + 1) := ⟨X2, ag_trans (ag_31 z1) A2 (fun _ _ hv => hv)⟩
    refine wp_aload0 rfl ?_
    refine wp_getR rfl (Dance_kd X2.S) (Dance_R8 X2.S) (by first | decide | omega) ?_
    refine wp_getJE rfl (Past_kd S2) (show _ = lN (nw_ t.1 j j (fun g => g)) from O2.1) ?_
    exact wp_lret rfl ⟨_, rfl, rfl, D2⟩
set_option maxRecDepth 4000 in
theorem Dance_came_ok {h : Hp_} {t : Rt_} {k : Nat} {m i v : Int32} (X : XB_ h t k) : cI 11 mn_RoundDance_came [.ref 1, .int m, .int i, .int v] h (fun y h' => an_came_ t m i v y ∧ DR_ h h' t (k + 1)) := by
  have out : (rg_ 0 12 m = false ∨ ¬ (0 ≤ i.toInt ∧ i.toInt < m.toInt) ∨ rg_ 0 1 v = false) → an_came_ t m i v (-2) := fun z => by
    unfold an_came_
    rcases z with z | z | z
    · rw [z]; exact rfl
    · rw [decide_eq_false z, Bool.false_and, Bool.and_false]; exact rfl
    · rw [z, Bool.and_false, Bool.and_false]; exact rfl
  refine cq_in (q := mi_RoundDance_came) (L := [some (.ref 1), some (.int m), some (.int i), some (.int v)]) rfl (Nat.le_of_ble_eq_true rfl) rfl ?_
  show wq _ tb_RoundDance_came none 0 _ _ _ _
  refine wp_iload1 rfl ?_
  refine wp_if_lt rfl (fun c1 => ?_) (fun c1 => ?_)
  · skip
    refine wp_bipush rfl ?_
    exact wp_iret rfl ⟨_, rfl, out (Or.inl (rg_f1 (a := 0) (b := 12) (by decide) c1)), DR_same X⟩
  · skip
    refine wp_iload1 rfl ?_
    refine wp_bipush rfl ?_
    refine wp_icmp_gt rfl (fun c2 => ?_) (fun c2 => ?_)
    · skip
      refine wp_bipush rfl ?_
      exact wp_iret rfl ⟨_, rfl, out (Or.inl (rg_f2 (a := 0) (b := 12) (by decide) (by
        rw [Int32.le_iff_toInt_le, nI_toInt (by decide)]
        have c2' := Int32.lt_iff_toInt_lt.mp c2
        rw [nI_toInt (by decide)] at c2'
        omega))), DR_same X⟩
    · skip
      obtain ⟨j, hjb, rfl⟩ := nI_of c1
      have hj : j ≤ 12 := by
        have c2' := Int32.not_lt.mp c2
        rw [Int32.le_iff_toInt_le, nI_toInt hjb, nI_toInt (by decide)] at c2'
        omega
      refine wp_iload2 rfl ?_
      refine wp_if_lt rfl (fun c3 => ?_) (fun c3 => ?_)
      · skip
        refine wp_bipush rfl ?_
        exact wp_iret rfl ⟨_, rfl, out (Or.inr (Or.inl (fun z => by rw [Int32.lt_iff_toInt_lt, show (0 : Int32).toInt = 0 from rfl] at c3; omega))), DR_same X⟩
      · skip
        obtain ⟨q, hqb, rfl⟩ := nI_of c3
        refine wp_iload2 rfl ?_
        refine wp_iload1 rfl ?_
        refine wp_icmp_geN q j (by omega) (by omega) rfl (fun c4 => ?_) (fun c4 => ?_)
        · skip
          refine wp_bipush rfl ?_
          exact wp_iret rfl ⟨_, rfl, out (Or.inr (Or.inl (fun z => by rw [nI_toInt hqb, nI_toInt hjb] at z; omega))), DR_same X⟩
        · skip
          refine wp_iload3 rfl ?_
          refine wp_callS1I rfl (Nat.le_of_ble_eq_true rfl) (Dance_isYesOrNo_ok) (Nat.le_of_ble_eq_true rfl) ?_
          refine pure_ ?_
          refine wp_if_neB rfl (fun c5 => ?_) (fun c5 => ?_)
          · skip
            have r12 : rg_ 0 12 (nI j) = true := (rg_nI (a := 0) (b := 12) hjb).trans (decide_eq_true (by omega))
            have yes : ∀ x : Int32, an_came_ t (nI j) (nI q) v x = (if nw_ t.1 j j (fun g => g) = 0 then x = -6 else if v = 0 then x = nI (65 + fs_ t.1 j (j - (q + 1)) (pt_ t.1 j q)) else ∃ b, cb_ t.1 j q b ∧ x = nI b) := fun x => by
              unfold an_came_
              rw [r12, decide_eq_true (show 0 ≤ (nI q).toInt ∧ (nI q).toInt < (nI j).toInt by rw [nI_toInt hqb, nI_toInt hjb]; omega), c5, Bool.true_and, Bool.true_and, if_pos rfl, nI_clamp hjb, nI_clamp hqb]
            refine wp_aload0 rfl ?_
            refine wp_getR rfl (Dance_kd X.S) (Dance_R1 X.S) (by first | decide | omega) ?_
            refine wp_aload0 rfl ?_
            refine wp_getR rfl (Dance_kd X.S) (Dance_R5 X.S) (by first | decide | omega) ?_
            refine wp_callV1V rfl (Nat.le_of_ble_eq_true rfl) (Market_kd (Dance_s1 X.S)) (Market_fillMoves_ok (Dance_s1 X.S) X.M X.w (Dance_k5 X.S) (Dance_n5 X.S) (by decide) (by decide)) (Nat.le_of_ble_eq_true rfl) ?_
            intro h1 e1
            obtain ⟨X1, z1, r1⟩ := Dance_fill X e1
            obtain ⟨_, _, _, _, pa, pb, pcc, pe, pp, pq, pr, py, _, _, _, _, _, _, _, ⟨Ps, _⟩, _⟩ := X1.2
            refine wp_aload0 rfl ?_
            refine wp_getR rfl (Dance_kd X1.S) (Dance_R8 X1.S) (by first | decide | omega) ?_
            refine wp_aload0 rfl ?_
            refine wp_getR rfl (Dance_kd X1.S) (Dance_R1 X1.S) (by first | decide | omega) ?_
            refine wp_aload0 rfl ?_
            refine wp_getR rfl (Dance_kd X1.S) (Dance_R5 X1.S) (by first | decide | omega) ?_
            refine wp_iload1 rfl ?_
            refine wp_callV3V rfl (Nat.le_of_ble_eq_true rfl) (Past_kd Ps) (Dance_look_ok X1 hj r1) (Nat.le_of_ble_eq_true rfl) ?_
            rintro h2 ⟨X2, A2, ⟨a, b, c, ee, p, q2, r, y, S2⟩, O2⟩
            have D2 : DR_ h h2 t (k + 1) := ⟨X2, ag_trans (ag_31 z1) A2 (fun _ _ hv => hv)⟩
            have h62 := nw_12 t.1 j (k := j) (by omega) (fun g => g)
            refine wp_aload0 rfl ?_
            refine wp_getR rfl (Dance_kd X2.S) (Dance_R8 X2.S) (by first | decide | omega) ?_
            refine wp_getJE rfl (Past_kd S2) (show _ = lN (nw_ t.1 j j (fun g => g)) from O2.1) ?_
            refine wp_lconst rfl ?_
            refine wp_lcmp rfl ?_
            refine wp_if_ne rfl (fun c6 => ?_) (fun c6 => ?_)
            · skip
              have hn : nw_ t.1 j j (fun g => g) ≠ 0 := fun z => c6 ((nw_z h62).mpr z)
              obtain ⟨f1, A, f2, f3⟩ := O2.2 (Nat.pos_of_ne_zero hn) q (by omega)
              refine wp_iload3 rfl ?_
              refine wp_if_ne rfl (fun c7 => ?_) (fun c7 => ?_)
              · skip
                refine wp_aload0 rfl ?_
                refine wp_getR rfl (Dance_kd X2.S) (Dance_R8 X2.S) (by first | decide | omega) ?_
                refine wp_getR rfl (Past_kd S2) (Past_R4 S2) (by first | decide | omega) ?_
                refine wp_iload2 rfl ?_
                refine wp_callS2I rfl (Nat.le_of_ble_eq_true rfl) (Cells_atV_ok (Past_k4 S2) (by decide) (Nat.lt_of_lt_of_eq (show q < 12 by omega) (Past_n4 S2).symm) (by rw [Past_n4 S2]; decide) f2) (Nat.le_of_ble_eq_true rfl) ?_
                refine pure_ ?_
                exact wp_iret rfl ⟨_, rfl, by rw [yes, if_neg hn, if_neg c7]; exact ⟨A, f3, rfl⟩, D2⟩
              · skip
                refine wp_bipush rfl ?_
                refine wp_aload0 rfl ?_
                refine wp_getR rfl (Dance_kd X2.S) (Dance_R8 X2.S) (by first | decide | omega) ?_
                refine wp_getR rfl (Past_kd S2) (Past_R3 S2) (by first | decide | omega) ?_
                refine wp_iload2 rfl ?_
                refine wp_callS2I rfl (Nat.le_of_ble_eq_true rfl) (Cells_atV_ok (Past_k3 S2) (by decide) (Nat.lt_of_lt_of_eq (show q < 12 by omega) (Past_n3 S2).symm) (by rw [Past_n3 S2]; decide) f1) (Nat.le_of_ble_eq_true rfl) ?_
                refine pure_ ?_
                refine wp_iaddE (nI (65 + (fs_ t.1 j (j - (q + 1)) (pt_ t.1 j q)))) (nI_add _ _) rfl ?_
                refine wp_goto rfl ?_
                exact wp_iret rfl ⟨_, rfl, by rw [yes, if_neg hn, if_pos (Classical.not_not.mp c7)], D2⟩
            · skip
              refine wp_bipush rfl ?_
              exact wp_iret rfl ⟨_, rfl, by rw [yes, if_pos ((nw_z h62).mp (Classical.not_not.mp c6))], D2⟩
          · skip
            refine wp_bipush rfl ?_
            exact wp_iret rfl ⟨_, rfl, out (Or.inr (Or.inr c5)), DR_same X⟩
theorem sv_none {m : Nat} {i : Int32} : sv_ none m i = -6 := rfl
theorem sv_out {b m : Nat} {r : List Nat} {i : Int32} (hl : m < 2 ^ 31) (h : i < -1 ∨ (¬ i < -1 ∧ ¬ i < nI m)) : sv_ (some (b, r)) m i = -6 := by
  unfold sv_
  (try dsimp only)
  have h0 : ¬ i = -1 ∧ ¬ (0 ≤ i.toInt ∧ i.toInt < m) := by
    rw [Int32.lt_iff_toInt_lt, Int32.lt_iff_toInt_lt, show (-1 : Int32).toInt = -1 from rfl, nI_toInt hl] at h
    refine ⟨fun z => ?_, fun z => by omega⟩
    rw [z, show (-1 : Int32).toInt = -1 from rfl] at h
    omega
  rw [if_neg h0.1, if_neg h0.2]
theorem sv_at {b m j : Nat} {r : List Nat} (hb : j < 2 ^ 31) (h : j < m) : sv_ (some (b, r)) m (nI j) = nI (65 + r.getD j 0) := by
  unfold sv_
  (try dsimp only)
  rw [if_neg (nI_ne_m1 hb), if_pos ⟨by rw [nI_toInt hb]; omega, by rw [nI_toInt hb]; omega⟩, nI_clamp hb]
set_option maxRecDepth 4000 in
theorem Dance_served_ok {h : Hp_} {t : Rt_} {k : Nat} {m i : Int32} (X : XB_ h t k) : cI 15 mn_RoundDance_served [.ref 1, .int m, .int i] h (fun y h' => an_served_ t m i y ∧ DR_ h h' t (k + 1)) := by
  cases c1 : rg_ 0 6 m with
  | false =>
    have e : an_served_ t m i (-2) := by unfold an_served_; rw [c1]; exact rfl
    refine cq_in (q := mi_RoundDance_served) (L := [some (.ref 1), some (.int m), some (.int i)]) rfl (Nat.le_of_ble_eq_true rfl) rfl ?_
    show wq _ tb_RoundDance_served none 0 _ _ _ _
    refine wp_iload1 rfl ?_
    refine wp_if_lt rfl (fun c2 => ?_) (fun c2 => ?_)
    · skip
      refine wp_bipush rfl ?_
      exact wp_iret rfl ⟨_, rfl, e, DR_same X⟩
    · skip
      refine wp_iload1 rfl ?_
      refine wp_bipush rfl ?_
      refine wp_icmp_le rfl (fun z => absurd z (rg_hi0 (b := 6) (by decide) c1 c2)) (fun _ => ?_)
      refine wp_bipush rfl ?_
      exact wp_iret rfl ⟨_, rfl, e, DR_same X⟩
  | true =>
    obtain ⟨j, _, j1, jb, rfl⟩ := rg_of (a := 0) (b := 6) c1
    have e : ∀ y, an_served_ t (nI j) i y = ∃ o, SV_ t.1 j o ∧ y = sv_ o j i := fun y => by unfold an_served_; rw [c1, if_pos rfl, nI_clamp jb]
    refine cq_in (q := mi_RoundDance_served) (L := [some (.ref 1), some (.int (nI j)), some (.int i)]) rfl (Nat.le_of_ble_eq_true rfl) rfl ?_
    show wq _ tb_RoundDance_served none 0 _ _ _ _
    refine wp_iload1 rfl ?_
    refine wp_if_ltN j 0 (by omega) (by decide) rfl ?_
    refine wp_iload1 rfl ?_
    refine wp_bipush rfl ?_
    refine wp_icmp_leN j 6 (by omega) (by omega) rfl (fun _ => ?_) (fun z => absurd z (by omega))
    refine wp_aload0 rfl ?_
    refine wp_getR rfl (Dance_kd X.S) (Dance_R1 X.S) (by first | decide | omega) ?_
    refine wp_aload0 rfl ?_
    refine wp_getR rfl (Dance_kd X.S) (Dance_R5 X.S) (by first | decide | omega) ?_
    refine wp_callV1V rfl (Nat.le_of_ble_eq_true rfl) (Market_kd (Dance_s1 X.S)) (Market_fillMoves_ok (Dance_s1 X.S) X.M X.w (Dance_k5 X.S) (Dance_n5 X.S) (by decide) (by decide)) (Nat.le_of_ble_eq_true rfl) ?_
    intro h1 e1
    obtain ⟨X1, z1, r1⟩ := Dance_fill X e1
    obtain ⟨_, _, _, _, pa, pb, pcc, pe, pp, pq, pr, py, _, _, _, _, _, _, _, _, ⟨Es, _⟩, _⟩ := X1.2
    refine wp_aload0 rfl ?_
    refine wp_getR rfl (Dance_kd X1.S) (Dance_R9 X1.S) (by first | decide | omega) ?_
    refine wp_aload0 rfl ?_
    refine wp_getR rfl (Dance_kd X1.S) (Dance_R1 X1.S) (by first | decide | omega) ?_
    refine wp_aload0 rfl ?_
    refine wp_getR rfl (Dance_kd X1.S) (Dance_R5 X1.S) (by first | decide | omega) ?_
    refine wp_iload1 rfl ?_
    refine wp_callV3V rfl (Nat.le_of_ble_eq_true rfl) (Even_kd Es) (Dance_serve_ok X1 (by omega) r1) (Nat.le_of_ble_eq_true rfl) ?_
    rintro h2 ⟨X2, A2, S2, O2⟩
    have D2 : DR_ h h2 t (k + 1) := ⟨X2, ag_trans (ag_31 z1) A2 (fun _ _ hv => hv)⟩
    rcases O2 with ⟨g1, g2⟩ | ⟨b, r, g1, g2, g3, g4⟩
    · skip
      refine wp_aload0 rfl ?_
      refine wp_getR rfl (Dance_kd X2.S) (Dance_R9 X2.S) (by first | decide | omega) ?_
      refine wp_getIE rfl (Even_kd S2) (g1) ?_
      refine wp_iconst rfl ?_
      refine wp_icmp_eq rfl (fun _ => ?_) (fun z => absurd z (fun y => y rfl))
      refine wp_bipush rfl ?_
      exact wp_iret rfl ⟨_, rfl, by rw [e]; exact ⟨none, g2, rfl⟩, D2⟩
    · skip
      refine wp_aload0 rfl ?_
      refine wp_getR rfl (Dance_kd X2.S) (Dance_R9 X2.S) (by first | decide | omega) ?_
      refine wp_getIE rfl (Even_kd S2) (show _ = nI b from g3) ?_
      refine wp_iconst rfl ?_
      refine wp_icmp_eq rfl (fun z => absurd z (fun z => nI_ne_m1 (by omega) z)) (fun _ => ?_)
      refine wp_iload2 rfl ?_
      refine wp_iconst rfl ?_
      refine wp_icmp_lt rfl (fun d1 => ?_) (fun d1 => ?_)
      · skip
        refine wp_bipush rfl ?_
        exact wp_iret rfl ⟨_, rfl, by rw [e]; exact ⟨_, g2, (sv_out (by omega) (Or.inl d1)).symm⟩, D2⟩
      · skip
        refine wp_iload2 rfl ?_
        refine wp_iload1 rfl ?_
        refine wp_icmp_lt rfl (fun d2 => ?_) (fun d2 => ?_)
        · skip
          refine wp_iload2 rfl ?_
          refine wp_iconst rfl ?_
          refine wp_icmp_ne rfl (fun d3 => ?_) (fun d3 => ?_)
          · skip
            obtain ⟨q, hqb, rfl⟩ := ge_m1 d1 d3
            have hql : q < j := by
              rw [Int32.lt_iff_toInt_lt, nI_toInt hqb, nI_toInt (by omega)] at d2
              omega
            refine wp_bipush rfl ?_
            refine wp_aload0 rfl ?_
            refine wp_getR rfl (Dance_kd X2.S) (Dance_R9 X2.S) (by first | decide | omega) ?_
            refine wp_getIE rfl (Even_kd S2) (show _ = nI (pq_ (fun i => r.getD i 0) 8) from g4) ?_
            refine wp_iload2 rfl ?_
            refine wp_callS2I rfl (Nat.le_of_ble_eq_true rfl) (Maps_toP_ok (fun i _ => ug_8 g2.1.2 i) (by omega)) (Nat.le_of_ble_eq_true rfl) ?_
            refine pure_ ?_
            refine wp_iaddE (nI (65 + (r.getD q 0))) (nI_add _ _) rfl ?_
            exact wp_iret rfl ⟨_, rfl, by rw [e]; exact ⟨_, g2, (sv_at hqb hql).symm⟩, D2⟩
          · skip
            refine wp_aload0 rfl ?_
            refine wp_getR rfl (Dance_kd X2.S) (Dance_R9 X2.S) (by first | decide | omega) ?_
            refine wp_getIE rfl (Even_kd S2) (show _ = nI b from g3) ?_
            refine wp_goto rfl ?_
            have d3' : i = -1 := Classical.not_not.mp d3
            exact wp_iret rfl ⟨_, rfl, by rw [e]; exact ⟨_, g2, by rw [d3']; rfl⟩, D2⟩
        · skip
          refine wp_bipush rfl ?_
          exact wp_iret rfl ⟨_, rfl, by rw [e]; exact ⟨_, g2, (sv_out (by omega) (Or.inr ⟨d1, d2⟩)).symm⟩, D2⟩
