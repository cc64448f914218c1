-- ===== the class: set, music, judge, dance, home, where, length, sign =====
theorem MK_head {h h2 : Hp_} {s s2 : Sg_} {r : Nat → Int32} (M : MK_ h 4 s) (e : h2 = hp_rI h 4 r) (hr : r 0 = nI (sg_n s2) ∧ r 1 = nI (pq_ (sg_pos s2) 8) ∧ r 2 = nI (sg_lm s2) ∧ r 3 = nI (sg_pl s2) ∧ r 4 = nI (sg_le s2)) (es : s2.2.2.2.2.2 = s.2.2.2.2.2) : MK_ h2 4 s2 := by
  obtain ⟨m1, m2, m3, m4, m5, m6, m7⟩ := M
  rw [e]
  refine ⟨by rw [sd_rI_eq]; exact hr, ?_, ?_, ?_, ?_, ?_, ?_⟩
  · unfold sg_fig; rw [es]; exact m2
  · unfold sg_mu; rw [es]; exact m3
  · unfold sg_wa; rw [es]; exact m4
  · unfold sg_ca; rw [es]; exact m5
  · unfold sg_si; rw [es]; exact m6
  · unfold sg_wi; rw [es]; exact m7
theorem z4_ {h h2 : Hp_} {c : Nat} {r : Nat → Int32} (e : h2 = hp_rI h c r) (h1 : 4 ≤ c) (h3 : c ≤ 12) : fz_ (fun v => 4 ≤ v ∧ v ≤ 12) h h2 := by
  rw [e]
  exact fz_rI (P := fun v => 4 ≤ v ∧ v ≤ 12) (fz_refl _ _) ⟨h1, h3⟩ _
theorem z34 {h h2 : Hp_} (z : fz_ (fun v => 4 ≤ v ∧ v ≤ 12) h h2) : fz_ (fun v => v ≤ 34) h h2 := fz_mono (fun v hv => by omega) z
theorem rg_lt2 {n : Nat} {v : Int32} (hn : n ≤ 8) (h : rg_ 0 (2 ^ n - 1 : Nat) v = false) (h1 : ¬ v < 0) : ¬ v < nI (2 ^ n) := by
  have p1 : 2 ^ n ≤ 2 ^ 8 := Nat.pow_le_pow_right (by decide) hn
  have p2 := Nat.two_pow_pos n
  exact rg_ge0 (b := 2 ^ n - 1) (by omega) (by omega) h h1
theorem Dance_setLame_ok {h : Hp_} {t : Rt_} {k : Nat} {v : Int32} (X : XB_ h t k) : cI 1 mn_RoundDance_setLame [.ref 1, .int v] h (fun y h' => y = (an_set t (nI 0) v).1 ∧ DR_ h h' (an_set t (nI 0) v).2 (k + 1)) := by
  have n8 := X.w.1.2
  have p1 : 2 ^ sg_n t.1 ≤ 2 ^ 8 := Nat.pow_le_pow_right (by decide) n8
  have p2 := Nat.two_pow_pos (sg_n t.1)
  cases c1 : rg_ 0 (2 ^ sg_n t.1 - 1 : Nat) v with
  | false =>
    have e : an_set t (nI 0) v = (-2, t) := by unfold an_set; rw [if_pos rfl, c1]; rfl
    rw [e]
    refine cq_in (q := mi_RoundDance_setLame) (L := [some (.ref 1), some (.int v), none]) rfl (Nat.le_of_ble_eq_true rfl) rfl ?_
    show wq _ tb_RoundDance_setLame none 0 _ _ _ _
    refine wp_iload1 rfl ?_
    refine wp_if_lt rfl (fun c2 => ?_) (fun c2 => ?_)
    · skip
      refine wp_bipush rfl ?_
      exact wp_iret rfl ⟨_, rfl, rfl, DR_same X⟩
    · skip
      refine wp_iload1 rfl ?_
      refine wp_iconst rfl ?_
      refine wp_aload0 rfl ?_
      refine wp_getR rfl (Dance_kd X.S) (Dance_R1 X.S) (by first | decide | omega) ?_
      refine wp_getIE rfl (Market_kd (Dance_s1 X.S)) (show _ = nI (sg_n t.1) from X.n) ?_
      refine wp_ishlE (nI (2 ^ (sg_n t.1))) (nn_shl1 _ (by omega)) rfl ?_
      refine wp_icmp_lt rfl (fun z => absurd z (rg_lt2 n8 c1 c2)) (fun _ => ?_)
      refine wp_bipush rfl ?_
      exact wp_iret rfl ⟨_, rfl, rfl, DR_same X⟩
  | true =>
    obtain ⟨j, j3, j8, jb, rfl⟩ := rg_of (a := 0) (b := 2 ^ sg_n t.1 - 1) c1
    have e : an_set t (nI 0) (nI j) = (nI (sg_lm t.1), (sw_lm t.1 j, t.2)) := by unfold an_set; rw [if_pos rfl, c1, if_pos rfl, nI_clamp jb]
    rw [e]
    refine cq_in (q := mi_RoundDance_setLame) (L := [some (.ref 1), some (.int (nI j)), none]) rfl (Nat.le_of_ble_eq_true rfl) rfl ?_
    show wq _ tb_RoundDance_setLame none 0 _ _ _ _
    refine wp_iload1 rfl ?_
    refine wp_if_ltN j 0 (by omega) (by decide) rfl ?_
    refine wp_iload1 rfl ?_
    refine wp_iconst rfl ?_
    refine wp_aload0 rfl ?_
    refine wp_getR rfl (Dance_kd X.S) (Dance_R1 X.S) (by first | decide | omega) ?_
    refine wp_getIE rfl (Market_kd (Dance_s1 X.S)) (show _ = nI (sg_n t.1) from X.n) ?_
    refine wp_ishlE (nI (2 ^ (sg_n t.1))) (nn_shl1 _ (by omega)) rfl ?_
    refine wp_icmp_ltN j (2 ^ (sg_n t.1)) (by omega) (by omega) rfl (fun _ => ?_) (fun z => absurd z (by omega))
    refine wp_aload0 rfl ?_
    refine wp_getR rfl (Dance_kd X.S) (Dance_R1 X.S) (by first | decide | omega) ?_
    refine wp_getIE rfl (Market_kd (Dance_s1 X.S)) (show _ = nI (sg_lm t.1) from X.M.1.2.2.1) ?_
    refine wp_istore2 rfl rfl ?_
    refine wp_aload0 rfl ?_
    refine wp_getR rfl (Dance_kd X.S) (Dance_R1 X.S) (by first | decide | omega) ?_
    refine wp_iload1 rfl ?_
    refine wp_putI rfl (Market_kd (Dance_s1 X.S)) ?_
    refine wp_iload2 rfl ?_
    refine wq_gen (fun h2 e2 => ?_)
    have M2 := MK_head (s2 := sw_lm t.1 j) X.M e2 ⟨X.n, X.pos, rfl, X.M.1.2.2.2.1, X.M.1.2.2.2.2⟩ rfl
    have z2 := z4_ e2 (by decide) (by decide)
    exact wp_iret rfl ⟨_, rfl, rfl, DR_of X (z34 z2) (XS_mkt X.1 z2 M2 (sw_lm_wf X.w (by omega)))⟩
theorem Dance_setPlayed_ok {h : Hp_} {t : Rt_} {k : Nat} {v : Int32} (X : XB_ h t k) : cI 1 mn_RoundDance_setPlayed [.ref 1, .int v] h (fun y h' => y = (an_set t (nI 1) v).1 ∧ DR_ h h' (an_set t (nI 1) v).2 (k + 1)) := by
  have n8 := X.w.1.2
  cases c1 : rg_ 1 2 v with
  | false =>
    have e : an_set t (nI 1) v = (-2, t) := by unfold an_set; rw [if_neg (by decide), if_pos rfl, c1]; rfl
    rw [e]
    refine cq_in (q := mi_RoundDance_setPlayed) (L := [some (.ref 1), some (.int v), none]) rfl (Nat.le_of_ble_eq_true rfl) rfl ?_
    show wq _ tb_RoundDance_setPlayed none 0 _ _ _ _
    refine wp_iload1 rfl ?_
    refine wp_iconst rfl ?_
    refine wp_icmp_lt rfl (fun c2 => ?_) (fun c2 => ?_)
    · skip
      refine wp_bipush rfl ?_
      exact wp_iret rfl ⟨_, rfl, rfl, DR_same X⟩
    · skip
      refine wp_iload1 rfl ?_
      refine wp_iconst rfl ?_
      refine wp_icmp_le rfl (fun z => absurd z (rg_hi (a := 1) (b := 2) (by decide) (by decide) c1 c2)) (fun _ => ?_)
      refine wp_bipush rfl ?_
      exact wp_iret rfl ⟨_, rfl, rfl, DR_same X⟩
  | true =>
    obtain ⟨j, j3, j8, jb, rfl⟩ := rg_of (a := 1) (b := 2) c1
    have e : an_set t (nI 1) (nI j) = (nI (sg_pl t.1), (sw_pl t.1 j, t.2)) := by unfold an_set; rw [if_neg (by decide), if_pos rfl, c1, if_pos rfl, nI_clamp jb]
    rw [e]
    refine cq_in (q := mi_RoundDance_setPlayed) (L := [some (.ref 1), some (.int (nI j)), none]) rfl (Nat.le_of_ble_eq_true rfl) rfl ?_
    show wq _ tb_RoundDance_setPlayed none 0 _ _ _ _
    refine wp_iload1 rfl ?_
    refine wp_iconst rfl ?_
    refine wp_icmp_ltN j 1 (by omega) (by omega) rfl (fun z => absurd z (by omega)) (fun _ => ?_)
    refine wp_iload1 rfl ?_
    refine wp_iconst rfl ?_
    refine wp_icmp_leN j 2 (by omega) (by omega) rfl (fun _ => ?_) (fun z => absurd z (by omega))
    refine wp_aload0 rfl ?_
    refine wp_getR rfl (Dance_kd X.S) (Dance_R1 X.S) (by first | decide | omega) ?_
    refine wp_getIE rfl (Market_kd (Dance_s1 X.S)) (show _ = nI (sg_pl t.1) from X.M.1.2.2.2.1) ?_
    refine wp_istore2 rfl rfl ?_
    refine wp_aload0 rfl ?_
    refine wp_getR rfl (Dance_kd X.S) (Dance_R1 X.S) (by first | decide | omega) ?_
    refine wp_iload1 rfl ?_
    refine wp_putI rfl (Market_kd (Dance_s1 X.S)) ?_
    refine wp_iload2 rfl ?_
    refine wq_gen (fun h2 e2 => ?_)
    have M2 := MK_head (s2 := sw_pl t.1 j) X.M e2 ⟨X.n, X.pos, X.M.1.2.2.1, rfl, X.M.1.2.2.2.2⟩ rfl
    have z2 := z4_ e2 (by decide) (by decide)
    exact wp_iret rfl ⟨_, rfl, rfl, DR_of X (z34 z2) (XS_mkt X.1 z2 M2 (sw_pl_wf X.w (by omega)))⟩
theorem Dance_setLent_ok {h : Hp_} {t : Rt_} {k : Nat} {v : Int32} (X : XB_ h t k) : cI 1 mn_RoundDance_setLent [.ref 1, .int v] h (fun y h' => y = (an_set t (nI 2) v).1 ∧ DR_ h h' (an_set t (nI 2) v).2 (k + 1)) := by
  have n8 := X.w.1.2
  cases c1 : rg_ 0 63 v with
  | false =>
    have e : an_set t (nI 2) v = (-2, t) := by unfold an_set; rw [if_neg (by decide), if_neg (by decide), if_pos rfl, c1]; rfl
    rw [e]
    refine cq_in (q := mi_RoundDance_setLent) (L := [some (.ref 1), some (.int v), none]) rfl (Nat.le_of_ble_eq_true rfl) rfl ?_
    show wq _ tb_RoundDance_setLent none 0 _ _ _ _
    refine wp_iload1 rfl ?_
    refine wp_if_lt rfl (fun c2 => ?_) (fun c2 => ?_)
    · skip
      refine wp_bipush rfl ?_
      exact wp_iret rfl ⟨_, rfl, rfl, DR_same X⟩
    · skip
      refine wp_iload1 rfl ?_
      refine wp_bipush rfl ?_
      refine wp_icmp_le rfl (fun z => absurd z (rg_hi0 (b := 63) (by decide) c1 c2)) (fun _ => ?_)
      refine wp_bipush rfl ?_
      exact wp_iret rfl ⟨_, rfl, rfl, DR_same X⟩
  | true =>
    obtain ⟨j, j3, j8, jb, rfl⟩ := rg_of (a := 0) (b := 63) c1
    have e : an_set t (nI 2) (nI j) = (nI (sg_le t.1), (sw_le t.1 j, t.2)) := by unfold an_set; rw [if_neg (by decide), if_neg (by decide), if_pos rfl, c1, if_pos rfl, nI_clamp jb]
    rw [e]
    refine cq_in (q := mi_RoundDance_setLent) (L := [some (.ref 1), some (.int (nI j)), none]) rfl (Nat.le_of_ble_eq_true rfl) rfl ?_
    show wq _ tb_RoundDance_setLent none 0 _ _ _ _
    refine wp_iload1 rfl ?_
    refine wp_if_ltN j 0 (by omega) (by decide) rfl ?_
    refine wp_iload1 rfl ?_
    refine wp_bipush rfl ?_
    refine wp_icmp_leN j 63 (by omega) (by omega) rfl (fun _ => ?_) (fun z => absurd z (by omega))
    refine wp_aload0 rfl ?_
    refine wp_getR rfl (Dance_kd X.S) (Dance_R1 X.S) (by first | decide | omega) ?_
    refine wp_getIE rfl (Market_kd (Dance_s1 X.S)) (show _ = nI (sg_le t.1) from X.M.1.2.2.2.2) ?_
    refine wp_istore2 rfl rfl ?_
    refine wp_aload0 rfl ?_
    refine wp_getR rfl (Dance_kd X.S) (Dance_R1 X.S) (by first | decide | omega) ?_
    refine wp_iload1 rfl ?_
    refine wp_putI rfl (Market_kd (Dance_s1 X.S)) ?_
    refine wp_iload2 rfl ?_
    refine wq_gen (fun h2 e2 => ?_)
    have M2 := MK_head (s2 := sw_le t.1 j) X.M e2 ⟨X.n, X.pos, X.M.1.2.2.1, X.M.1.2.2.2.1, rfl⟩ rfl
    have z2 := z4_ e2 (by decide) (by decide)
    exact wp_iret rfl ⟨_, rfl, rfl, DR_of X (z34 z2) (XS_mkt X.1 z2 M2 (sw_le_wf X.w (by omega)))⟩
theorem Dance_set_ok {h : Hp_} {t : Rt_} {k : Nat} {x v : Int32} (X : XB_ h t k) : cI 2 mn_RoundDance_set [.ref 1, .int x, .int v] h (fun y h' => y = (an_set t x v).1 ∧ DR_ h h' (an_set t x v).2 (k + 1)) := by
  refine cq_in (q := mi_RoundDance_set) (L := [some (.ref 1), some (.int x), some (.int v)]) rfl (Nat.le_of_ble_eq_true rfl) rfl ?_
  show wq _ tb_RoundDance_set none 0 _ _ _ _
  refine wp_iload1 rfl ?_
  refine wp_if_ne rfl (fun c1 => ?_) (fun c1 => ?_)
  · skip
    refine wp_iload1 rfl ?_
    refine wp_iconst rfl ?_
    refine wp_icmp_ne rfl (fun c2 => ?_) (fun c2 => ?_)
    · skip
      refine wp_iload1 rfl ?_
      refine wp_iconst rfl ?_
      refine wp_icmp_ne rfl (fun c3 => ?_) (fun c3 => ?_)
      · skip
        refine wp_bipush rfl ?_
        have e : an_set t x v = (-2, t) := by unfold an_set; rw [if_neg (show ¬ x = nI 0 from c1), if_neg (show ¬ x = nI 1 from c2), if_neg (show ¬ x = nI 2 from c3)]
        rw [e]
        exact wp_iret rfl ⟨_, rfl, rfl, DR_same X⟩
      · skip
        refine wp_aload0 rfl ?_
        refine wp_iload2 rfl ?_
        have c3' : x = nI 2 := Classical.not_not.mp c3
        subst c3'
        refine wp_callV1I rfl (Nat.le_of_ble_eq_true rfl) (Dance_kd X.S) (Dance_setLent_ok X) (Nat.le_of_ble_eq_true rfl) ?_
        intro y h2 ⟨e2, D2⟩
        exact wp_iret rfl ⟨_, rfl, e2, D2⟩
    · skip
      refine wp_aload0 rfl ?_
      refine wp_iload2 rfl ?_
      have c2' : x = nI 1 := Classical.not_not.mp c2
      subst c2'
      refine wp_callV1I rfl (Nat.le_of_ble_eq_true rfl) (Dance_kd X.S) (Dance_setPlayed_ok X) (Nat.le_of_ble_eq_true rfl) ?_
      intro y h2 ⟨e2, D2⟩
      exact wp_iret rfl ⟨_, rfl, e2, D2⟩
  · skip
    refine wp_aload0 rfl ?_
    refine wp_iload2 rfl ?_
    have c1' : x = nI 0 := Classical.not_not.mp c1
    subst c1'
    refine wp_callV1I rfl (Nat.le_of_ble_eq_true rfl) (Dance_kd X.S) (Dance_setLame_ok X) (Nat.le_of_ble_eq_true rfl) ?_
    intro y h2 ⟨e2, D2⟩
    exact wp_iret rfl ⟨_, rfl, e2, D2⟩
theorem MK_mu {h h2 : Hp_} {s : Sg_} {f v : Nat} (M : MK_ h 4 s) (e : h2 = hp_rI h 6 (va_up (hp_I h 6) f (nI v))) : MK_ h2 4 (sw_mu s (va_up (sg_mu s) f v)) := by
  obtain ⟨m1, m2, m3, m4, m5, m6, m7⟩ := M
  rw [e]
  refine ⟨m1, m2, fun g hg => ?_, m4, m5, m6, m7⟩
  show hp_I _ 6 g = nI (va_up (sg_mu s) f v g)
  rw [sd_rI_eq, vu_at, vu_at]
  by_cases q : g = f
  · rw [if_pos q, if_pos q]
  · rw [if_neg q, if_neg q]; exact m3 g hg
theorem Dance_music_ok {h : Hp_} {t : Rt_} {k : Nat} {f v : Int32} (X : XB_ h t k) : cI 2 mn_RoundDance_music [.ref 1, .int f, .int v] h (fun y h' => y = (an_music t f v).1 ∧ DR_ h h' (an_music t f v).2 (k + 1)) := by
  have n8 := X.w.1.2
  refine cq_in (q := mi_RoundDance_music) (L := [some (.ref 1), some (.int f), some (.int v), none]) rfl (Nat.le_of_ble_eq_true rfl) rfl ?_
  show wq _ tb_RoundDance_music none 0 _ _ _ _
  refine wp_iload1 rfl ?_
  refine wp_callS1I rfl (Nat.le_of_ble_eq_true rfl) (Dance_isFigure_ok) (Nat.le_of_ble_eq_true rfl) ?_
  refine pure_ ?_
  refine wp_if_neB rfl (fun c1 => ?_) (fun c1 => ?_)
  · skip
    obtain ⟨i, _, i5, ib, rfl⟩ := rg_of (a := 0) (b := 5) c1
    refine wp_iload2 rfl ?_
    refine wp_iconst rfl ?_
    cases c3 : rg_ 1 3 v with
    | false =>
      have e : an_music t (nI i) v = (-2, t) := by unfold an_music; rw [c1, if_pos rfl, c3]; rfl
      rw [e]
      refine wp_icmp_lt rfl (fun c2 => ?_) (fun c2 => ?_)
      · skip
        refine wp_bipush rfl ?_
        exact wp_iret rfl ⟨_, rfl, rfl, DR_same X⟩
      · skip
        refine wp_iload2 rfl ?_
        refine wp_iconst rfl ?_
        refine wp_icmp_le rfl (fun z => absurd z (rg_hi (a := 1) (b := 3) (by decide) (by decide) c3 c2)) (fun _ => ?_)
        refine wp_bipush rfl ?_
        exact wp_iret rfl ⟨_, rfl, rfl, DR_same X⟩
    | true =>
      obtain ⟨j, j3, j8, jb, rfl⟩ := rg_of (a := 1) (b := 3) c3
      have e : an_music t (nI i) (nI j) = (nI (sg_mu t.1 i), (sw_mu t.1 (va_up (sg_mu t.1) i j), t.2)) := by unfold an_music; rw [c1, if_pos rfl, c3, if_pos rfl, nI_clamp jb, nI_clamp ib]
      rw [e]
      refine wp_icmp_ltN j 1 (by omega) (by omega) rfl (fun z => absurd z (by omega)) (fun _ => ?_)
      refine wp_iload2 rfl ?_
      refine wp_iconst rfl ?_
      refine wp_icmp_leN j 3 (by omega) (by omega) rfl (fun _ => ?_) (fun z => absurd z (by omega))
      refine wp_aload0 rfl ?_
      refine wp_getR rfl (Dance_kd X.S) (Dance_R1 X.S) (by first | decide | omega) ?_
      refine wp_getR rfl (Market_kd (Dance_s1 X.S)) (Market_R6 (Dance_s1 X.S)) (by first | decide | omega) ?_
      refine wp_iload1 rfl ?_
      refine wp_callS2I rfl (Nat.le_of_ble_eq_true rfl) (Cells_atV_ok (Market_k6 (Dance_s1 X.S)) (by decide) (Nat.lt_of_lt_of_eq (show i < 6 by omega) (Market_n6 (Dance_s1 X.S)).symm) (by rw [Market_n6 (Dance_s1 X.S)]; decide) (X.M.2.2.1 i (by omega))) (Nat.le_of_ble_eq_true rfl) ?_
      refine pure_ ?_
      refine wp_istore3 rfl rfl ?_
      refine wp_aload0 rfl ?_
      refine wp_getR rfl (Dance_kd X.S) (Dance_R1 X.S) (by first | decide | omega) ?_
      refine wp_getR rfl (Market_kd (Dance_s1 X.S)) (Market_R6 (Dance_s1 X.S)) (by first | decide | omega) ?_
      refine wp_iload1 rfl ?_
      refine wp_iload2 rfl ?_
      refine wp_callS3V rfl (Nat.le_of_ble_eq_true rfl) (Cells_putN_ok (Market_k6 (Dance_s1 X.S)) (by decide) (Market_n6 (Dance_s1 X.S)) (show i < 6 by omega) (by decide)) (Nat.le_of_ble_eq_true rfl) ?_
      intro h2 e2
      have M2 := MK_mu X.M e2
      have z2 := z4_ e2 (by decide) (by decide)
      refine wp_iload3 rfl ?_
      exact wp_iret rfl ⟨_, rfl, rfl, DR_of X (z34 z2) (XS_mkt X.1 z2 M2 (sw_mu_wf X.w (fun g => by rw [vu_at]; split; omega; exact X.w.2.2.2.2.2.2.1 g)))⟩
  · skip
    refine wp_iconst rfl ?_
    have e : an_music t f v = (-1, t) := by unfold an_music; rw [c1]; rfl
    rw [e]
    exact wp_iret rfl ⟨_, rfl, rfl, DR_same X⟩
set_option maxRecDepth 4000 in
theorem Dance_firstForbidden_ok {h : Hp_} {t : Rt_} {k : Nat} (X : XB_ h t k) (hg : ∀ i, i < t.2.2.1 → 65 ≤ t.2.1 i ∧ t.2.1 i < 71) : cI 3 mn_RoundDance_firstForbidden [.ref 1] h (fun y h' => y = fb_ t.1 t.2.1 t.2.2.1 ∧ h' = h) := by
  have c30 := X.c30
  refine cq_in (q := mi_RoundDance_firstForbidden) (L := [some (.ref 1), none]) rfl (Nat.le_of_ble_eq_true rfl) rfl ?_
  show wq _ tb_RoundDance_firstForbidden none 0 _ _ _ _
  refine wp_iconst rfl ?_
  refine wp_istore1 rfl rfl ?_
  refine wq_loop (X := Unit) (fun i x => [some (.ref 1), some (.int (nI i))]) (fun i x h1 => h1 = h ∧ ∀ j, j < i → (!may_ t.1 (t.2.1 j - 65)) = false) (t.2.2.1) (0) (()) ?_ ?_ ?_ ?_
  · omega
  · exact ⟨rfl, fun j hj => absurd hj (Nat.not_lt_zero j)⟩
  · intro i x h1 hi I go
    show wq _ tb_RoundDance_firstForbidden _ 2 [some (.ref 1), some (.int (nI i))] [] h1 _
    obtain ⟨rfl, I1⟩ := I
    have hi2 : i < t.2.2.1 := hi
    have g1 := hg i hi2
    refine wp_iload1 rfl ?_
    refine wp_aload0 rfl ?_
    refine wp_getR rfl (Dance_kd X.S) (Dance_R0 X.S) (by first | decide | omega) ?_
    refine wp_getIE rfl (Pad_kd (Dance_s0 X.S)) (show _ = nI (t.2.2.1) from X.c) ?_
    refine wp_icmp_geN i (t.2.2.1) (by omega) (by omega) rfl (fun z => absurd z (by omega)) (fun _ => ?_)
    refine wp_aload0 rfl ?_
    refine wp_getR rfl (Dance_kd X.S) (Dance_R1 X.S) (by first | decide | omega) ?_
    refine wp_aload0 rfl ?_
    refine wp_getR rfl (Dance_kd X.S) (Dance_R0 X.S) (by first | decide | omega) ?_
    refine wp_iload1 rfl ?_
    refine wp_callV1I rfl (Nat.le_of_ble_eq_true rfl) (Pad_kd (Dance_s0 X.S)) (Pad_signAt_ok (Dance_s0 X.S) (show i < 30 by omega)) (Nat.le_of_ble_eq_true rfl) ?_
    refine pure_ ?_
    rw [show hp_I h1 (2 + 1) i = nI (t.2.1 i) from X.pad hi2]
    refine wp_bipush rfl ?_
    refine wp_isubE (nI ((t.2.1 i) - 65)) (pk_sub (by omega)) rfl ?_
    refine wp_callV1I rfl (Nat.le_of_ble_eq_true rfl) (Market_kd (Dance_s1 X.S)) (Market_may_ok (Dance_s1 X.S) X.M X.w (by omega)) (Nat.le_of_ble_eq_true rfl) ?_
    refine pure_ ?_
    refine wp_if_neB rfl (fun c1 => ?_) (fun c1 => ?_)
    · skip
      refine wp_iinc1N rfl rfl ?_
      refine wp_goto rfl ?_
      exact go () h1 ⟨rfl, fun j hj => by
        rcases Nat.lt_or_ge j i with q | q
        · exact I1 j q
        · obtain rfl : j = i := by omega
          rw [c1]; rfl⟩
    · skip
      refine wp_iload1 rfl ?_
      exact wp_iret rfl ⟨_, rfl, by unfold fb_; rw [ff_at (P := fun i => !may_ t.1 (t.2.1 i - 65)) I1 hi2 (by (try dsimp only); rw [c1]; rfl)], rfl⟩
  · intro x h1 I
    show wq _ tb_RoundDance_firstForbidden _ 2 [some (.ref 1), some (.int (nI (t.2.2.1)))] [] h1 _
    obtain ⟨rfl, I1⟩ := I
    refine wp_iload1 rfl ?_
    refine wp_aload0 rfl ?_
    refine wp_getR rfl (Dance_kd X.S) (Dance_R0 X.S) (by first | decide | omega) ?_
    refine wp_getIE rfl (Pad_kd (Dance_s0 X.S)) (show _ = nI (t.2.2.1) from X.c) ?_
    refine wp_icmp_geN (t.2.2.1) (t.2.2.1) (by omega) (by omega) rfl (fun _ => ?_) (fun z => absurd z (by omega))
    refine wp_bipush rfl ?_
    exact wp_iret rfl ⟨_, rfl, by unfold fb_; rw [ff_no (P := fun i => !may_ t.1 (t.2.1 i - 65)) I1], rfl⟩
theorem Dance_judge_ok {h : Hp_} {t : Rt_} {k : Nat} (X : XB_ h t k) : cI 5 mn_RoundDance_judge [.ref 1] h (fun y h' => y = an_judge t ∧ DR_ h h' t (k + 1)) := by
  have c30 := X.c30
  refine cq_in (q := mi_RoundDance_judge) (L := [some (.ref 1)]) rfl (Nat.le_of_ble_eq_true rfl) rfl ?_
  show wq _ tb_RoundDance_judge none 0 _ _ _ _
  refine wp_aload0 rfl ?_
  refine wp_callV0I rfl (Nat.le_of_ble_eq_true rfl) (Dance_kd X.S) (Dance_rowFault_ok X) (Nat.le_of_ble_eq_true rfl) ?_
  refine pure_ ?_
  refine wp_bipush rfl ?_
  refine wp_icmp_eq rfl (fun c1 => ?_) (fun c1 => ?_)
  · skip
    refine wp_aload0 rfl ?_
    refine wp_callV0I rfl (Nat.le_of_ble_eq_true rfl) (Dance_kd X.S) (Dance_firstForbidden_ok X (fw_none c30 c1).2) (Nat.le_of_ble_eq_true rfl) ?_
    refine pure_ ?_
    exact wp_iret rfl ⟨_, rfl, by unfold an_judge; rw [if_pos c1], DR_same X⟩
  · skip
    refine wp_bipush rfl ?_
    exact wp_iret rfl ⟨_, rfl, by unfold an_judge; rw [if_neg c1], DR_same X⟩
set_option maxRecDepth 4000 in
theorem Dance_rowMap_ok {h : Hp_} {t : Rt_} {k : Nat} (X : XB_ h t k) (hg : ∀ i, i < t.2.2.1 → 65 ≤ t.2.1 i ∧ t.2.1 i < 71) : cI 5 mn_RoundDance_rowMap [.ref 1] h (fun y h' => y = nI (pq_ (ac_ (mv_ t.1) (wd_ t.2.1 t.2.2.1)) 8) ∧ h' = h) := by
  have c30 := X.c30
  refine cq_in (q := mi_RoundDance_rowMap) (L := [some (.ref 1), none, none]) rfl (Nat.le_of_ble_eq_true rfl) rfl ?_
  show wq _ tb_RoundDance_rowMap none 0 _ _ _ _
  refine wp_ldc rfl ?_
  refine wp_istore1 rfl rfl ?_
  refine wp_iconst rfl ?_
  refine wp_istore2 rfl rfl ?_
  refine wq_loc (L' := [some (.ref 1), some (.int (nI (pq_ (ac_ (mv_ t.1) (wd_ t.2.1 0)) 8))), some (.int (nI 0))]) (by rw [show ac_ (mv_ t.1) (wd_ t.2.1 0) = fun p => p from rfl, ← stays_]) ?_
  refine wq_loop (X := Unit) (fun i x => [some (.ref 1), some (.int (nI (pq_ (ac_ (mv_ t.1) (wd_ t.2.1 i)) 8))), some (.int (nI i))]) (fun i x h1 => h1 = h) (t.2.2.1) (0) (()) ?_ ?_ ?_ ?_
  · omega
  · rfl
  · intro i x h1 hi I go
    show wq _ tb_RoundDance_rowMap _ 5 [some (.ref 1), some (.int (nI (pq_ (ac_ (mv_ t.1) (wd_ t.2.1 i)) 8))), some (.int (nI i))] [] h1 _
    obtain rfl := I
    have hi2 : i < t.2.2.1 := hi
    have g1 := hg i hi2
    refine wp_iload2 rfl ?_
    refine wp_aload0 rfl ?_
    refine wp_getR rfl (Dance_kd X.S) (Dance_R0 X.S) (by first | decide | omega) ?_
    refine wp_getIE rfl (Pad_kd (Dance_s0 X.S)) (show _ = nI (t.2.2.1) from X.c) ?_
    refine wp_icmp_geN i (t.2.2.1) (by omega) (by omega) rfl (fun z => absurd z (by omega)) (fun _ => ?_)
    refine wp_iload1 rfl ?_
    refine wp_aload0 rfl ?_
    refine wp_getR rfl (Dance_kd X.S) (Dance_R1 X.S) (by first | decide | omega) ?_
    refine wp_aload0 rfl ?_
    refine wp_getR rfl (Dance_kd X.S) (Dance_R0 X.S) (by first | decide | omega) ?_
    refine wp_iload2 rfl ?_
    refine wp_callV1I rfl (Nat.le_of_ble_eq_true rfl) (Pad_kd (Dance_s0 X.S)) (Pad_signAt_ok (Dance_s0 X.S) (show i < 30 by omega)) (Nat.le_of_ble_eq_true rfl) ?_
    refine pure_ ?_
    rw [show hp_I h1 (2 + 1) i = nI (t.2.1 i) from X.pad hi2]
    refine wp_bipush rfl ?_
    refine wp_isubE (nI ((t.2.1 i) - 65)) (pk_sub (by omega)) rfl ?_
    refine wp_callV1I rfl (Nat.le_of_ble_eq_true rfl) (Market_kd (Dance_s1 X.S)) (Market_danced_ok (Dance_s1 X.S) X.M X.w (by omega)) (Nat.le_of_ble_eq_true rfl) ?_
    refine pure_ ?_
    refine wp_callS2I rfl (Nat.le_of_ble_eq_true rfl) (Maps_then_ok (fun j hj => (ac_P (n := 8) (mv_P8 X.w) _).1 j hj) (mv8 X.w _)) (Nat.le_of_ble_eq_true rfl) ?_
    refine pure_ ?_
    refine wp_istore1 rfl rfl ?_
    refine wp_iinc2N rfl rfl ?_
    refine wp_goto rfl ?_
    rw [show (fun p => mv_ t.1 (t.2.1 i - 65) (ac_ (mv_ t.1) (wd_ t.2.1 i) p)) = ac_ (mv_ t.1) (wd_ t.2.1 (i + 1)) from funext fun p => by rw [wd_succ, ac_snoc]]
    exact go () h1 rfl
  · intro x h1 I
    show wq _ tb_RoundDance_rowMap _ 5 [some (.ref 1), some (.int (nI (pq_ (ac_ (mv_ t.1) (wd_ t.2.1 (t.2.2.1))) 8))), some (.int (nI (t.2.2.1)))] [] h1 _
    obtain rfl := I
    refine wp_iload2 rfl ?_
    refine wp_aload0 rfl ?_
    refine wp_getR rfl (Dance_kd X.S) (Dance_R0 X.S) (by first | decide | omega) ?_
    refine wp_getIE rfl (Pad_kd (Dance_s0 X.S)) (show _ = nI (t.2.2.1) from X.c) ?_
    refine wp_icmp_geN (t.2.2.1) (t.2.2.1) (by omega) (by omega) rfl (fun _ => ?_) (fun z => absurd z (by omega))
    refine wp_iload1 rfl ?_
    exact wp_iret rfl ⟨_, rfl, rfl, rfl⟩
theorem wd_ok {g : Nat → Nat} {c : Nat} (hg : ∀ i, i < c → 65 ≤ g i ∧ g i < 71) : ∀ f ∈ wd_ g c, f < 6 := fun f hf => by
  unfold wd_ at hf
  obtain ⟨i, hi, rfl⟩ := List.mem_map.mp hf
  have := hg i (List.mem_range.mp hi)
  omega
set_option maxRecDepth 4000 in
theorem Dance_dance_ok {h : Hp_} {t : Rt_} {k : Nat} (X : XB_ h t k) : cI 6 mn_RoundDance_dance [.ref 1] h (fun y h' => y = (an_dance t).1 ∧ DR_ h h' (an_dance t).2 (k + 1)) := by
  have c30 := X.c30
  refine cq_in (q := mi_RoundDance_dance) (L := [some (.ref 1), none]) rfl (Nat.le_of_ble_eq_true rfl) rfl ?_
  show wq _ tb_RoundDance_dance none 0 _ _ _ _
  refine wp_aload0 rfl ?_
  refine wp_callV0I rfl (Nat.le_of_ble_eq_true rfl) (Dance_kd X.S) (Dance_rowFault_ok X) (Nat.le_of_ble_eq_true rfl) ?_
  refine pure_ ?_
  refine wp_bipush rfl ?_
  refine wp_icmp_ne rfl (fun c1 => ?_) (fun c1 => ?_)
  · skip
    refine wp_bipush rfl ?_
    have e : an_dance t = (-5, t) := by unfold an_dance; rw [if_neg (fun z => c1 z.1)]
    rw [e]
    exact wp_iret rfl ⟨_, rfl, rfl, DR_same X⟩
  · skip
    have c1' : fw_ t.2.1 t.2.2.1 65 6 = -6 := Classical.not_not.mp c1
    have hg := (fw_none c30 c1').2
    refine wp_aload0 rfl ?_
    refine wp_callV0I rfl (Nat.le_of_ble_eq_true rfl) (Dance_kd X.S) (Dance_firstForbidden_ok X hg) (Nat.le_of_ble_eq_true rfl) ?_
    refine pure_ ?_
    refine wp_bipush rfl ?_
    refine wp_icmp_eq rfl (fun c2 => ?_) (fun c2 => ?_)
    · skip
      refine wp_aload0 rfl ?_
      refine wp_getR rfl (Dance_kd X.S) (Dance_R0 X.S) (by first | decide | omega) ?_
      refine wp_getIE rfl (Pad_kd (Dance_s0 X.S)) (show _ = nI (t.2.2.1) from X.c) ?_
      refine wp_istore1 rfl rfl ?_
      refine wp_aload0 rfl ?_
      refine wp_getR rfl (Dance_kd X.S) (Dance_R1 X.S) (by first | decide | omega) ?_
      refine wp_aload0 rfl ?_
      refine wp_getR rfl (Dance_kd X.S) (Dance_R1 X.S) (by first | decide | omega) ?_
      refine wp_getIE rfl (Market_kd (Dance_s1 X.S)) (show _ = nI (pq_ (sg_pos t.1) 8) from X.pos) ?_
      refine wp_aload0 rfl ?_
      have e : an_dance t = (nI t.2.2.1, (sw_pos t.1 (fun q => ac_ (mv_ t.1) (wd_ t.2.1 t.2.2.1) (sg_pos t.1 q)), t.2.1, 0, t.2.2.2)) := by unfold an_dance; rw [if_pos ⟨c1', c2⟩]
      rw [e]
      refine wp_callV0I rfl (Nat.le_of_ble_eq_true rfl) (Dance_kd X.S) (Dance_rowMap_ok X hg) (Nat.le_of_ble_eq_true rfl) ?_
      refine pure_ ?_
      refine wp_callS2I rfl (Nat.le_of_ble_eq_true rfl) (Maps_then_ok (sg_pos8 X.w) (fun j hj => (ac_P (n := 8) (mv_P8 X.w) _).1 j hj)) (Nat.le_of_ble_eq_true rfl) ?_
      refine pure_ ?_
      refine wp_putI rfl (Market_kd (Dance_s1 X.S)) ?_
      refine wq_gen (fun h2 e2 => ?_)
      have M2 := MK_head (s2 := sw_pos t.1 (fun q => ac_ (mv_ t.1) (wd_ t.2.1 t.2.2.1) (sg_pos t.1 q))) X.M e2 ⟨X.n, rfl, X.M.1.2.2.1, X.M.1.2.2.2.1, X.M.1.2.2.2.2⟩ rfl
      have z2 := z4_ e2 (by decide) (by decide)
      have Y2 := XS_mkt X.1 z2 M2 (sw_pos_wf X.w (X.w.2.1.then (ac_P (mv_P X.w) _)))
      refine wp_aload0 rfl ?_
      refine wp_getR rfl (Dance_kd Y2.1) (Dance_R0 Y2.1) (by first | decide | omega) ?_
      refine wp_callV0V rfl (Nat.le_of_ble_eq_true rfl) (Pad_kd (Dance_s0 Y2.1)) (Pad_clear_ok (Dance_s0 Y2.1)) (Nat.le_of_ble_eq_true rfl) ?_
      intro h3 e3
      have z3 : fz_ (fun v => v = 2 ∨ v = 3) h2 h3 := by rw [e3]; exact fz_rI (P := fun v => v = 2 ∨ v = 3) (fz_refl _ _) (Or.inl rfl) _
      have P3 : P_is h3 2 t.2.1 0 := ⟨by rw [e3, sd_rI_eq, vu_at, if_pos rfl], Nat.zero_le _, fun i hi => absurd hi (Nat.not_lt_zero i), X.g127⟩
      refine wp_iload1 rfl ?_
      exact wp_iret rfl ⟨_, rfl, rfl, DR_of X (fz_trans (fz_mono (fun v hv => by omega) z2) (fz_mono (fun v hv => by omega) z3)) (XS_pad Y2 z3 P3)⟩
    · skip
      refine wp_bipush rfl ?_
      have e : an_dance t = (-5, t) := by unfold an_dance; rw [if_neg (fun z => c2 z.2)]
      rw [e]
      exact wp_iret rfl ⟨_, rfl, rfl, DR_same X⟩
theorem Dance_home_ok {h : Hp_} {t : Rt_} {k : Nat} (X : XB_ h t k) : cI 3 mn_RoundDance_home [.ref 1] h (fun y h' => y = (an_home t).1 ∧ DR_ h h' (an_home t).2 (k + 1)) := by
  have n8 := X.w.1.2
  refine cq_in (q := mi_RoundDance_home) (L := [some (.ref 1), none, none]) rfl (Nat.le_of_ble_eq_true rfl) rfl ?_
  show wq _ tb_RoundDance_home none 0 _ _ _ _
  refine wp_iconst rfl ?_
  refine wp_istore1 rfl rfl ?_
  refine wp_iconst rfl ?_
  refine wp_istore2 rfl rfl ?_
  refine wq_loop (X := Unit) (fun i x => [some (.ref 1), some (.int (nI (hm_ (sg_pos t.1) i))), some (.int (nI i))]) (fun i x h1 => h1 = h) (sg_n t.1) (0) (()) ?_ ?_ ?_ ?_
  · omega
  · rfl
  · intro i x h1 hi I go
    show wq _ tb_RoundDance_home _ 4 [some (.ref 1), some (.int (nI (hm_ (sg_pos t.1) i))), some (.int (nI i))] [] h1 _
    obtain rfl := I
    have hi2 : i < sg_n t.1 := hi
    have hp8 := sg_pos8 X.w i (by omega)
    refine wp_iload2 rfl ?_
    refine wp_aload0 rfl ?_
    refine wp_getR rfl (Dance_kd X.S) (Dance_R1 X.S) (by first | decide | omega) ?_
    refine wp_getIE rfl (Market_kd (Dance_s1 X.S)) (show _ = nI (sg_n t.1) from X.n) ?_
    refine wp_icmp_geN i (sg_n t.1) (by omega) (by omega) rfl (fun z => absurd z (by omega)) (fun _ => ?_)
    refine wp_aload0 rfl ?_
    refine wp_getR rfl (Dance_kd X.S) (Dance_R1 X.S) (by first | decide | omega) ?_
    refine wp_iload2 rfl ?_
    refine wp_callV1I rfl (Nat.le_of_ble_eq_true rfl) (Market_kd (Dance_s1 X.S)) (Market_placeOf_ok (Dance_s1 X.S) (sg_pos8 X.w) X.pos (by omega)) (Nat.le_of_ble_eq_true rfl) ?_
    refine pure_ ?_
    refine wp_iload2 rfl ?_
    refine wp_icmp_eqN (sg_pos t.1 i) i (by omega) (by omega) rfl (fun c1 => ?_) (fun c1 => ?_)
    · skip
      refine wp_iinc2N rfl rfl ?_
      refine wp_goto rfl ?_
      have kk := go () h1 rfl
      (try dsimp only at kk)
      rw [show hm_ (sg_pos t.1) (i + 1) = hm_ (sg_pos t.1) i + 0 by rw [hm_, if_pos c1]] at kk
      exact kk
    · skip
      refine wp_iinc1N rfl rfl ?_
      refine wp_iinc2N rfl rfl ?_
      refine wp_goto rfl ?_
      have kk := go () h1 rfl
      (try dsimp only at kk)
      rw [show hm_ (sg_pos t.1) (i + 1) = hm_ (sg_pos t.1) i + 1 by rw [hm_, if_neg c1]] at kk
      exact kk
  · intro x h1 I
    show wq _ tb_RoundDance_home _ 4 [some (.ref 1), some (.int (nI (hm_ (sg_pos t.1) (sg_n t.1)))), some (.int (nI (sg_n t.1)))] [] h1 _
    obtain rfl := I
    refine wp_iload2 rfl ?_
    refine wp_aload0 rfl ?_
    refine wp_getR rfl (Dance_kd X.S) (Dance_R1 X.S) (by first | decide | omega) ?_
    refine wp_getIE rfl (Market_kd (Dance_s1 X.S)) (show _ = nI (sg_n t.1) from X.n) ?_
    refine wp_icmp_geN (sg_n t.1) (sg_n t.1) (by omega) (by omega) rfl (fun _ => ?_) (fun z => absurd z (by omega))
    refine wp_aload0 rfl ?_
    refine wp_getR rfl (Dance_kd X.S) (Dance_R1 X.S) (by first | decide | omega) ?_
    refine wp_ldc rfl ?_
    refine wp_putI rfl (Market_kd (Dance_s1 X.S)) ?_
    refine wp_iload1 rfl ?_
    refine wq_gen (fun h2 e2 => ?_)
    have M2 := MK_head (s2 := sw_pos t.1 (fun p => p)) X.M e2 ⟨X.n, (by rw [vu_at, if_pos rfl]; exact congrArg nI stays_), X.M.1.2.2.1, X.M.1.2.2.2.1, X.M.1.2.2.2.2⟩ rfl
    have z2 := z4_ e2 (by decide) (by decide)
    exact wp_iret rfl ⟨_, rfl, rfl, DR_of X (z34 z2) (XS_mkt X.1 z2 M2 (sw_pos_wf X.w (IsP.id _)))⟩
theorem Dance_where_ok {h : Hp_} {t : Rt_} {k : Nat} {g v : Int32} (X : XB_ h t k) : cI 3 mn_RoundDance_where [.ref 1, .int g, .int v] h (fun y h' => y = an_where t g v ∧ DR_ h h' t (k + 1)) := by
  have n8 := X.w.1.2
  have P8 := X.w.2.1.mono n8
  refine cq_in (q := mi_RoundDance_where) (L := [some (.ref 1), some (.int g), some (.int v)]) rfl (Nat.le_of_ble_eq_true rfl) rfl ?_
  show wq _ tb_RoundDance_where none 0 _ _ _ _
  refine wp_aload0 rfl ?_
  refine wp_getR rfl (Dance_kd X.S) (Dance_R1 X.S) (by first | decide | omega) ?_
  refine wp_iload1 rfl ?_
  refine wp_callV1I rfl (Nat.le_of_ble_eq_true rfl) (Market_kd (Dance_s1 X.S)) (Market_has_ok (Dance_s1 X.S) X.n n8) (Nat.le_of_ble_eq_true rfl) ?_
  refine pure_ ?_
  refine wp_if_neB rfl (fun c1 => ?_) (fun c1 => ?_)
  · skip
    obtain ⟨j, hj, rfl⟩ := hs_of c1 n8
    have c1' : hs_ t.1 (nI j) = true := c1
    refine wp_iload2 rfl ?_
    refine wp_callS1I rfl (Nat.le_of_ble_eq_true rfl) (Dance_isYesOrNo_ok) (Nat.le_of_ble_eq_true rfl) ?_
    refine pure_ ?_
    refine wp_if_neB rfl (fun c2 => ?_) (fun c2 => ?_)
    · skip
      refine wp_iload2 rfl ?_
      refine wp_if_ne rfl (fun c3 => ?_) (fun c3 => ?_)
      · skip
        refine wp_aload0 rfl ?_
        refine wp_getR rfl (Dance_kd X.S) (Dance_R1 X.S) (by first | decide | omega) ?_
        refine wp_getIE rfl (Market_kd (Dance_s1 X.S)) (show _ = nI (pq_ (sg_pos t.1) 8) from X.pos) ?_
        refine wp_callS1I rfl (Nat.le_of_ble_eq_true rfl) (Maps_undone_ok (sg_pos8 X.w) (fun i hi => (in_P P8).1 i hi) (fun i _ => in_left P8 i) (fun i _ => in_right P8 i)) (Nat.le_of_ble_eq_true rfl) ?_
        refine pure_ ?_
        refine wp_iload1 rfl ?_
        refine wp_callS2I rfl (Nat.le_of_ble_eq_true rfl) (Maps_toP_ok (fun i hi => (in_P P8).1 i hi) (by omega)) (Nat.le_of_ble_eq_true rfl) ?_
        refine pure_ ?_
        exact wp_iret rfl ⟨_, rfl, by unfold an_where; rw [c1', if_pos rfl, if_neg c3, if_pos (show v = nI 1 from (rg_01.mp c2).elim (fun z => absurd z c3) id), nI_clamp (by omega)], DR_same X⟩
      · skip
        refine wp_aload0 rfl ?_
        refine wp_getR rfl (Dance_kd X.S) (Dance_R1 X.S) (by first | decide | omega) ?_
        refine wp_iload1 rfl ?_
        refine wp_callV1I rfl (Nat.le_of_ble_eq_true rfl) (Market_kd (Dance_s1 X.S)) (Market_placeOf_ok (Dance_s1 X.S) (sg_pos8 X.w) X.pos (by omega)) (Nat.le_of_ble_eq_true rfl) ?_
        refine pure_ ?_
        refine wp_goto rfl ?_
        exact wp_iret rfl ⟨_, rfl, by unfold an_where; rw [c1', if_pos rfl, if_pos (Classical.not_not.mp c3), nI_clamp (by omega)], DR_same X⟩
    · skip
      refine wp_bipush rfl ?_
      have n0 : v ≠ 0 := fun z => by rw [rg_01.mpr (Or.inl z)] at c2; cases c2
      have n1 : v ≠ nI 1 := fun z => by rw [rg_01.mpr (Or.inr z)] at c2; cases c2
      exact wp_iret rfl ⟨_, rfl, by unfold an_where; rw [c1', if_pos rfl, if_neg n0, if_neg n1], DR_same X⟩
  · skip
    refine wp_iconst rfl ?_
    exact wp_iret rfl ⟨_, rfl, by unfold an_where; rw [show hs_ t.1 g = false from c1]; rfl, DR_same X⟩
theorem Dance_length_ok {h : Hp_} {t : Rt_} {k : Nat} (X : XB_ h t k) : cI 6 mn_RoundDance_length [.ref 1] h (fun y h' => y = an_length t ∧ DR_ h h' t (k + 1)) := by
  have c30 := X.c30
  refine cq_in (q := mi_RoundDance_length) (L := [some (.ref 1)]) rfl (Nat.le_of_ble_eq_true rfl) rfl ?_
  show wq _ tb_RoundDance_length none 0 _ _ _ _
  refine wp_aload0 rfl ?_
  refine wp_callV0I rfl (Nat.le_of_ble_eq_true rfl) (Dance_kd X.S) (Dance_rowFault_ok X) (Nat.le_of_ble_eq_true rfl) ?_
  refine pure_ ?_
  refine wp_bipush rfl ?_
  refine wp_icmp_eq rfl (fun c1 => ?_) (fun c1 => ?_)
  · skip
    have hg := (fw_none c30 c1).2
    have P8 := ac_P (n := 8) (mv_P8 X.w) (wd_ t.2.1 t.2.2.1)
    obtain ⟨N, hN, h840⟩ := LN_ex P8
    refine wp_aload0 rfl ?_
    refine wp_callV0I rfl (Nat.le_of_ble_eq_true rfl) (Dance_kd X.S) (Dance_rowMap_ok X hg) (Nat.le_of_ble_eq_true rfl) ?_
    refine pure_ ?_
    refine wp_callS1I rfl (Nat.le_of_ble_eq_true rfl) (Maps_timesTillStays_ok (fun i hi => P8.1 i hi) hN.1 (by omega) hN.2.1 hN.2.2) (Nat.le_of_ble_eq_true rfl) ?_
    refine pure_ ?_
    exact wp_iret rfl ⟨_, rfl, by unfold an_length; rw [if_pos c1, ln_eq hN], DR_same X⟩
  · skip
    refine wp_bipush rfl ?_
    exact wp_iret rfl ⟨_, rfl, by unfold an_length; rw [if_neg c1], DR_same X⟩
theorem Dance_sign_ok {h : Hp_} {t : Rt_} {k : Nat} {f : Int32} (X : XB_ h t k) : cI 5 mn_RoundDance_sign [.ref 1, .int f] h (fun y h' => y = an_sign t f ∧ DR_ h h' t (k + 1)) := by
  refine cq_in (q := mi_RoundDance_sign) (L := [some (.ref 1), some (.int f)]) rfl (Nat.le_of_ble_eq_true rfl) rfl ?_
  show wq _ tb_RoundDance_sign none 0 _ _ _ _
  refine wp_iload1 rfl ?_
  refine wp_callS1I rfl (Nat.le_of_ble_eq_true rfl) (Dance_isFigure_ok) (Nat.le_of_ble_eq_true rfl) ?_
  refine pure_ ?_
  refine wp_if_neB rfl (fun c1 => ?_) (fun c1 => ?_)
  · skip
    obtain ⟨i, _, i5, ib, rfl⟩ := rg_of (a := 0) (b := 5) c1
    have e : an_sign t (nI i) = bo_ (decide (iv_ (mv_ t.1 i) 8 % 2 = 0)) := by unfold an_sign; rw [c1, if_pos rfl, nI_clamp ib]
    rw [e]
    refine wp_aload0 rfl ?_
    refine wp_getR rfl (Dance_kd X.S) (Dance_R1 X.S) (by first | decide | omega) ?_
    refine wp_iload1 rfl ?_
    refine wp_callV1I rfl (Nat.le_of_ble_eq_true rfl) (Market_kd (Dance_s1 X.S)) (Market_danced_ok (Dance_s1 X.S) X.M X.w (show i < 6 by omega)) (Nat.le_of_ble_eq_true rfl) ?_
    refine pure_ ?_
    refine wp_callS1I rfl (Nat.le_of_ble_eq_true rfl) (Maps_isEven_ok (mv8 X.w i)) (Nat.le_of_ble_eq_true rfl) ?_
    refine pure_ ?_
    refine wp_if_eqB rfl (fun c2 => ?_) (fun c2 => ?_)
    · skip
      refine wp_iconst rfl ?_
      exact wp_iret rfl ⟨_, rfl, by rw [c2]; rfl, DR_same X⟩
    · skip
      refine wp_iconst rfl ?_
      refine wp_goto rfl ?_
      exact wp_iret rfl ⟨_, rfl, by rw [c2]; rfl, DR_same X⟩
  · skip
    refine wp_iconst rfl ?_
    exact wp_iret rfl ⟨_, rfl, by unfold an_sign; rw [c1]; rfl, DR_same X⟩
