-- ===== the reference: goes, set, music, judge, dance, home, where =====
def an_goes (t : Rt_) (f p d : Int32) : Int32 := if rg_ 0 5 f && hs_ t.1 p then (if rg_ 0 1 d then (if d = 0 then nI (sg_fig t.1 f.toNatClampNeg p.toNatClampNeg) else nI (mv_ t.1 f.toNatClampNeg p.toNatClampNeg)) else -2) else -1
theorem Ref_goes_ok {h0 h : Hp_} {t : Rt_} {f p d : Int32} (B : RB_ h0 h t) : cI 3 mn_Ref_goes [.ref 65, .int f, .int p, .int d] h (fun y h' => y = an_goes t f p d ∧ RB_ h0 h' t) := by
  have n8 := B.n8
  refine cq_in (q := mi_Ref_goes) (L := [some (.ref 65), some (.int f), some (.int p), some (.int d)]) rfl (Nat.le_of_ble_eq_true rfl) rfl ?_
  show wq _ tb_Ref_goes none 0 _ _ _ _
  refine wp_iload1 rfl ?_
  refine wp_callS1I rfl (Nat.le_of_ble_eq_true rfl) (Ref_isFigure_ok) (Nat.le_of_ble_eq_true rfl) ?_
  refine pure_ ?_
  refine wp_if_eqB rfl (fun c1 => ?_) (fun c1 => ?_)
  · skip
    refine wp_iconst rfl ?_
    exact wp_iret rfl ⟨_, rfl, by unfold an_goes; rw [c1]; rfl, B⟩
  · skip
    refine wp_aload0 rfl ?_
    refine wp_iload2 rfl ?_
    refine wp_callV1I rfl (Nat.le_of_ble_eq_true rfl) (Ref_kd B.S) (Ref_isPlace_ok B) (Nat.le_of_ble_eq_true rfl) ?_
    refine pure_ ?_
    refine wp_if_neB rfl (fun c2 => ?_) (fun c2 => ?_)
    · skip
      obtain ⟨f, hf, rfl⟩ := rg05 c1
      obtain ⟨p, hp, rfl⟩ := hs_of c2 n8
      refine wp_iload3 rfl ?_
      refine wp_i2l rfl ?_
      refine wp_lconst rfl ?_
      refine wp_lconst rfl ?_
      refine wp_callS3I rfl (Nat.le_of_ble_eq_true rfl) (Ref_inN_ok (a := 0) (b := 1) (by omega) (by omega)) (Nat.le_of_ble_eq_true rfl) ?_
      refine pure_ ?_
      have e : an_goes t (nI f) (nI p) d = if rg_ 0 1 d then (if d = 0 then nI (sg_fig t.1 f p) else nI (mv_ t.1 f p)) else -2 := by unfold an_goes; rw [c1, c2, nI_clamp (show f < 2 ^ 31 by omega), nI_clamp (show p < 2 ^ 31 by omega)]; rfl
      refine wp_if_neB rfl (fun c3 => ?_) (fun c3 => ?_)
      · skip
        refine wp_aload0 rfl ?_
        refine wp_callV0V rfl (Nat.le_of_ble_eq_true rfl) (Ref_kd B.S) (Ref_findGoes_ok B) (Nat.le_of_ble_eq_true rfl) ?_
        rintro h1 ⟨G, z1⟩
        have B1 : RB_ h0 h1 t := RB_fz B (fz_mono (fun c hc => by omega) z1)
        refine wp_iload3 rfl ?_
        refine wp_if_ne rfl (fun c4 => ?_) (fun c4 => ?_)
        · skip
          refine wp_aload0 rfl ?_
          refine wp_getR rfl (Ref_kd B1.S) (Ref_R19 B1.S) (by first | decide | omega) ?_
          refine wp_bipush rfl ?_
          refine wp_iload1 rfl ?_
          refine wp_imulE (nI (8 * f)) (pk_mul _ _) rfl ?_
          refine wp_iload2 rfl ?_
          refine wp_iaddE (nI ((8 * f) + p)) (nI_add _ _) rfl ?_
          refine wp_ialdE ((8 * f) + p) rfl (Ref_k19 B1.S) (by first | decide | omega) (Nat.lt_of_lt_of_eq (show ((8 * f) + p) < _ by omega) (Eq.symm (Ref_n19 B1.S))) (by omega) (show _ = nI (mv_ t.1 f p) from G f p hf hp) rfl ?_
          exact wp_iret rfl ⟨_, rfl, by rw [e, show rg_ 0 1 d = true from c3, if_pos rfl, if_neg c4], B1⟩
        · skip
          refine wp_aload0 rfl ?_
          refine wp_getR rfl (Ref_kd B1.S) (Ref_R1 B1.S) (by first | decide | omega) ?_
          refine wp_bipush rfl ?_
          refine wp_iload1 rfl ?_
          refine wp_imulE (nI (8 * f)) (pk_mul _ _) rfl ?_
          refine wp_iload2 rfl ?_
          refine wp_iaddE (nI ((8 * f) + p)) (nI_add _ _) rfl ?_
          refine wp_ialdE ((8 * f) + p) rfl (Ref_k1 B1.S) (by first | decide | omega) (Nat.lt_of_lt_of_eq (show ((8 * f) + p) < _ by omega) (Eq.symm (Ref_n1 B1.S))) (by omega) (show _ = nI (sg_fig t.1 f p) from B1.told hf (by omega)) rfl ?_
          refine wp_goto rfl ?_
          exact wp_iret rfl ⟨_, rfl, by rw [e, show rg_ 0 1 d = true from c3, if_pos rfl, if_pos (Classical.not_not.mp c4)], B1⟩
      · skip
        refine wp_bipush rfl ?_
        exact wp_iret rfl ⟨_, rfl, by rw [e, show rg_ 0 1 d = false from c3]; rfl, B⟩
    · skip
      refine wp_iconst rfl ?_
      exact wp_iret rfl ⟨_, rfl, by unfold an_goes; rw [c1, c2]; rfl, B⟩
/-- words of the object's own row put anew: what the state is then -/
theorem RB_set {h0 h : Hp_} {t : Rt_} {s : Sg_} {r : Nat → Int32} (B : RB_ h0 h t) (w : sg_wf s) (h0' : r 0 = nI (sg_n s)) (h4 : r 4 = nI (sg_lm s)) (h5 : r 5 = nI (sg_pl s)) (h6 : r 6 = nI (sg_le s)) (h12 : r 12 = nI (sg_si s).length) (h16 : r 16 = nI (sg_wi s).length) (h18 : r 18 = nI t.2.2.1) (e1 : sg_fig s = sg_fig t.1) (e2 : sg_pos s = sg_pos t.1) (e3 : sg_wa s = sg_wa t.1) (e4 : sg_mu s = sg_mu t.1) (e5 : sg_ca s = sg_ca t.1) (e6 : ∀ (i : Nat) (q : Nat × Nat × Nat), (sg_si s)[i]? = some q → (sg_si t.1)[i]? = some q) (e7 : ∀ (i : Nat) (q : Nat × Nat × Nat), (sg_wi s)[i]? = some q → (sg_wi t.1)[i]? = some q) : RB_ h0 (hp_rI h 65 r) (s, t.2) := by
  obtain ⟨b1, b2, b3, b4, b5, b6, b7, b8⟩ := B.M
  refine ⟨B.S, fz_rI B.z (by omega) _, ⟨⟨?_, ?_, ?_, ?_, ?_, ?_⟩, ?_, ?_, ?_, ?_, ?_, ?_, ?_⟩, w, ⟨?_, B.P.2⟩, IM_cong (sd_rI_ne (by decide)) (sd_rI_ne (by decide)) B.2.2.2.2.2.1, IM_cong (sd_rI_ne (by decide)) (sd_rI_ne (by decide)) B.2.2.2.2.2.2⟩
  · rw [sd_rI_eq]; exact h0'
  · rw [sd_rI_eq]; exact h4
  · rw [sd_rI_eq]; exact h5
  · rw [sd_rI_eq]; exact h6
  · rw [sd_rI_eq]; exact h12
  · rw [sd_rI_eq]; exact h16
  · dsimp only; rw [e1]; exact b2
  · dsimp only; rw [e2]; exact b3
  · dsimp only; rw [e3]; exact b4
  · dsimp only; rw [e4]; exact b5
  · dsimp only; rw [e5]; exact b6
  · intro i q hq; exact b7 i q (e6 i q hq)
  · intro i q hq; exact b8 i q (e7 i q hq)
  · rw [sd_rI_eq]; exact h18
def an_set (t : Rt_) (w v : Int32) : Int32 × Rt_ := if w = nI 0 then (if rg_ 0 (2 ^ sg_n t.1 - 1 : Nat) v then (nI (sg_lm t.1), (sw_lm t.1 v.toNatClampNeg, t.2)) else (-2, t)) else if w = nI 1 then (if rg_ 1 2 v then (nI (sg_pl t.1), (sw_pl t.1 v.toNatClampNeg, t.2)) else (-2, t)) else if w = nI 2 then (if rg_ 0 63 v then (nI (sg_le t.1), (sw_le t.1 v.toNatClampNeg, t.2)) else (-2, t)) else (-2, t)
theorem nI_dec {a b : Nat} (ha : a < 2 ^ 31) (hb : b < 2 ^ 31) (h : a ≠ b) : nI a ≠ nI b := fun z => h (nI_inj ha hb z)
theorem Ref_set_ok {h0 h : Hp_} {t : Rt_} {w v : Int32} (B : RB_ h0 h t) : cI 2 mn_Ref_set [.ref 65, .int w, .int v] h (fun y h' => y = (an_set t w v).1 ∧ RB_ h0 h' (an_set t w v).2) := by
  have n8 := B.n8
  have p8 : 2 ^ sg_n t.1 ≤ 256 := Nat.pow_le_pow_right (by decide) n8
  have p1 := Nat.two_pow_pos (sg_n t.1)
  refine cq_in (q := mi_Ref_set) (L := [some (.ref 65), some (.int w), some (.int v), none]) rfl (Nat.le_of_ble_eq_true rfl) rfl ?_
  show wq _ tb_Ref_set none 0 _ _ _ _
  refine wp_iload1 rfl ?_
  refine wp_i2l rfl ?_
  refine wp_lconst rfl ?_
  refine wp_ldc2_w rfl ?_
  refine wp_callS3I rfl (Nat.le_of_ble_eq_true rfl) (Ref_inN_ok (a := 0) (b := 2) (by omega) (by omega)) (Nat.le_of_ble_eq_true rfl) ?_
  refine pure_ ?_
  refine wp_if_eqB rfl (fun c1 => ?_) (fun c1 => ?_)
  · skip
    refine wp_bipush rfl ?_
    have e : an_set t w v = (-2, t) := by
      have c0 : ∀ j, j < 3 → w ≠ nI j := by
        intro j hj z
        rw [z, rg_nI (by omega)] at c1
        exact absurd (of_decide_eq_false c1) (by omega)
      unfold an_set
      rw [if_neg (c0 0 (by omega)), if_neg (c0 1 (by omega)), if_neg (c0 2 (by omega))]
    rw [e]
    exact wp_iret rfl ⟨_, rfl, rfl, B⟩
  · skip
    obtain ⟨j, -, hj, -, rfl⟩ := rg_of c1
    rcases (show j = 0 ∨ j = 1 ∨ j = 2 by omega) with rfl | rfl | rfl
    · skip
      refine wp_iload2 rfl ?_
      refine wp_i2l rfl ?_
      refine wp_iload1 rfl ?_
      refine wp_iconst rfl ?_
      refine wp_icmp_neN 0 1 (by omega) (by omega) rfl (fun _ => ?_) (fun z => absurd z (by decide))
      refine wp_lconst rfl ?_
      refine wp_iload1 rfl ?_
      refine wp_if_neN 0 0 (by omega) (by decide) rfl (fun z => absurd z (by decide)) (fun _ => ?_)
      refine wp_iconst rfl ?_
      refine wp_aload0 rfl ?_
      refine wp_getIE rfl (Ref_kd B.S) (show _ = nI (sg_n t.1) from B.n) ?_
      refine wp_ishlE (nI (2 ^ (sg_n t.1))) (nn_shl1 _ (by omega)) rfl ?_
      refine wp_iconst rfl ?_
      refine wp_isubE (nI ((2 ^ (sg_n t.1)) - 1)) (pk_sub (by omega)) rfl ?_
      refine wp_i2lE (lN ((2 ^ (sg_n t.1)) - 1)) (nI_l (by omega)) rfl ?_
      refine wp_goto rfl ?_
      refine wp_callS3I rfl (Nat.le_of_ble_eq_true rfl) (Ref_inN_ok (a := 0) (b := 2 ^ sg_n t.1 - 1) (by omega) (by omega)) (Nat.le_of_ble_eq_true rfl) ?_
      refine pure_ ?_
      refine wp_if_neB rfl (fun c2 => ?_) (fun c2 => ?_)
      · skip
        have e : an_set t (nI 0) v = (nI (sg_lm t.1), (sw_lm t.1 v.toNatClampNeg, t.2)) := by unfold an_set; rw [if_pos rfl, show rg_ 0 (2 ^ sg_n t.1 - 1 : Nat) v = true from c2, if_pos rfl]
        rw [e]
        obtain ⟨m, -, hm, hmb, rfl⟩ := rg_of c2
        rw [nI_clamp hmb]
        refine wp_iload1 rfl ?_
        refine wp_if_neN 0 0 (by omega) (by decide) rfl (fun z => absurd z (by decide)) (fun _ => ?_)
        refine wp_aload0 rfl ?_
        refine wp_getIE rfl (Ref_kd B.S) (show _ = nI (sg_lm t.1) from B.lm) ?_
        refine wp_goto rfl ?_
        refine wp_istore3 rfl rfl ?_
        refine wp_aload0 rfl ?_
        refine wp_iload1 rfl ?_
        refine wp_if_neN 0 0 (by omega) (by decide) rfl (fun z => absurd z (by decide)) (fun _ => ?_)
        refine wp_iload2 rfl ?_
        refine wp_goto rfl ?_
        refine wp_putI rfl (Ref_kd B.S) ?_
        refine wp_aload0 rfl ?_
        refine wp_iload1 rfl ?_
        refine wp_iconst rfl ?_
        refine wp_icmp_neN 0 1 (by omega) (by omega) rfl (fun _ => ?_) (fun z => absurd z (by decide))
        refine wp_aload0 rfl ?_
        refine wp_getIE rfl (Ref_kd B.S) (show _ = nI (sg_pl t.1) from by rw [sd_rI_eq]; exact B.pl) ?_
        refine wp_putI rfl (Ref_kd B.S) ?_
        refine wp_aload0 rfl ?_
        refine wp_iload1 rfl ?_
        refine wp_iconst rfl ?_
        refine wp_icmp_neN 0 2 (by omega) (by omega) rfl (fun _ => ?_) (fun z => absurd z (by decide))
        refine wp_aload0 rfl ?_
        refine wp_getIE rfl (Ref_kd B.S) (show _ = nI (sg_le t.1) from by rw [sd_rI_eq, sd_rI_eq]; exact B.le) ?_
        refine wp_putI rfl (Ref_kd B.S) ?_
        refine wp_iload3 rfl ?_
        rw [hp_rI_rI, hp_rI_rI]
        refine wp_iret rfl ?_
        refine ⟨_, rfl, rfl, RB_set B (sw_lm_wf B.w (by omega)) ?_ ?_ ?_ ?_ ?_ ?_ ?_ rfl rfl rfl rfl rfl (fun i q h => h) (fun i q h => h)⟩
        all_goals simp (disch := omega) only [sd_rI_eq, vu_at, if_pos, if_neg]
        · exact B.n
        · rfl
        · rfl
        · rfl
        · exact B.sn
        · exact B.wn
        · exact B.c
      · skip
        refine wp_bipush rfl ?_
        have e : an_set t (nI 0) v = (-2, t) := by unfold an_set; rw [if_pos rfl, show rg_ 0 (2 ^ sg_n t.1 - 1 : Nat) v = false from c2]; rfl
        rw [e]
        exact wp_iret rfl ⟨_, rfl, rfl, B⟩
    · skip
      refine wp_iload2 rfl ?_
      refine wp_i2l rfl ?_
      refine wp_iload1 rfl ?_
      refine wp_iconst rfl ?_
      refine wp_icmp_neN 1 1 (by omega) (by omega) rfl (fun z => absurd z (by decide)) (fun _ => ?_)
      refine wp_lconst rfl ?_
      refine wp_goto rfl ?_
      refine wp_iload1 rfl ?_
      refine wp_if_neN 1 0 (by omega) (by decide) rfl (fun _ => ?_) (fun z => absurd z (by decide))
      refine wp_iload1 rfl ?_
      refine wp_iconst rfl ?_
      refine wp_icmp_neN 1 1 (by omega) (by omega) rfl (fun z => absurd z (by decide)) (fun _ => ?_)
      refine wp_ldc2_w rfl ?_
      refine wp_goto rfl ?_
      refine wp_callS3I rfl (Nat.le_of_ble_eq_true rfl) (Ref_inN_ok (a := 1) (b := 2) (by omega) (by omega)) (Nat.le_of_ble_eq_true rfl) ?_
      refine pure_ ?_
      have e0 : an_set t (nI 1) v = if rg_ 1 2 v then (nI (sg_pl t.1), (sw_pl t.1 v.toNatClampNeg, t.2)) else (-2, t) := by unfold an_set; rw [if_neg (by decide), if_pos rfl]
      refine wp_if_neB rfl (fun c2 => ?_) (fun c2 => ?_)
      · skip
        have e : an_set t (nI 1) v = (nI (sg_pl t.1), (sw_pl t.1 v.toNatClampNeg, t.2)) := by rw [e0, show rg_ 1 2 v = true from c2, if_pos rfl]
        rw [e]
        obtain ⟨m, m1, hm, hmb, rfl⟩ := rg_of c2
        rw [nI_clamp hmb]
        refine wp_iload1 rfl ?_
        refine wp_if_neN 1 0 (by omega) (by decide) rfl (fun _ => ?_) (fun z => absurd z (by decide))
        refine wp_iload1 rfl ?_
        refine wp_iconst rfl ?_
        refine wp_icmp_neN 1 1 (by omega) (by omega) rfl (fun z => absurd z (by decide)) (fun _ => ?_)
        refine wp_aload0 rfl ?_
        refine wp_getIE rfl (Ref_kd B.S) (show _ = nI (sg_pl t.1) from B.pl) ?_
        refine wp_goto rfl ?_
        refine wp_istore3 rfl rfl ?_
        refine wp_aload0 rfl ?_
        refine wp_iload1 rfl ?_
        refine wp_if_neN 1 0 (by omega) (by decide) rfl (fun _ => ?_) (fun z => absurd z (by decide))
        refine wp_aload0 rfl ?_
        refine wp_getIE rfl (Ref_kd B.S) (show _ = nI (sg_lm t.1) from B.lm) ?_
        refine wp_putI rfl (Ref_kd B.S) ?_
        refine wp_aload0 rfl ?_
        refine wp_iload1 rfl ?_
        refine wp_iconst rfl ?_
        refine wp_icmp_neN 1 1 (by omega) (by omega) rfl (fun z => absurd z (by decide)) (fun _ => ?_)
        refine wp_iload2 rfl ?_
        refine wp_goto rfl ?_
        refine wp_putI rfl (Ref_kd B.S) ?_
        refine wp_aload0 rfl ?_
        refine wp_iload1 rfl ?_
        refine wp_iconst rfl ?_
        refine wp_icmp_neN 1 2 (by omega) (by omega) rfl (fun _ => ?_) (fun z => absurd z (by decide))
        refine wp_aload0 rfl ?_
        refine wp_getIE rfl (Ref_kd B.S) (show _ = nI (sg_le t.1) from by rw [sd_rI_eq, sd_rI_eq]; exact B.le) ?_
        refine wp_putI rfl (Ref_kd B.S) ?_
        refine wp_iload3 rfl ?_
        rw [hp_rI_rI, hp_rI_rI]
        refine wp_iret rfl ?_
        refine ⟨_, rfl, rfl, RB_set B (sw_pl_wf B.w (by omega)) ?_ ?_ ?_ ?_ ?_ ?_ ?_ rfl rfl rfl rfl rfl (fun i q h => h) (fun i q h => h)⟩
        all_goals simp (disch := omega) only [sd_rI_eq, vu_at, if_pos, if_neg]
        · exact B.n
        · rfl
        · rfl
        · rfl
        · exact B.sn
        · exact B.wn
        · exact B.c
      · skip
        refine wp_bipush rfl ?_
        have e : an_set t (nI 1) v = (-2, t) := by rw [e0, show rg_ 1 2 v = false from c2]; rfl
        rw [e]
        exact wp_iret rfl ⟨_, rfl, rfl, B⟩
    · skip
      refine wp_iload2 rfl ?_
      refine wp_i2l rfl ?_
      refine wp_iload1 rfl ?_
      refine wp_iconst rfl ?_
      refine wp_icmp_neN 2 1 (by omega) (by omega) rfl (fun _ => ?_) (fun z => absurd z (by decide))
      refine wp_lconst rfl ?_
      refine wp_iload1 rfl ?_
      refine wp_if_neN 2 0 (by omega) (by decide) rfl (fun _ => ?_) (fun z => absurd z (by decide))
      refine wp_iload1 rfl ?_
      refine wp_iconst rfl ?_
      refine wp_icmp_neN 2 1 (by omega) (by omega) rfl (fun _ => ?_) (fun z => absurd z (by decide))
      refine wp_ldc2_w rfl ?_
      refine wp_callS3I rfl (Nat.le_of_ble_eq_true rfl) (Ref_inN_ok (a := 0) (b := 63) (by omega) (by omega)) (Nat.le_of_ble_eq_true rfl) ?_
      refine pure_ ?_
      have e0 : an_set t (nI 2) v = if rg_ 0 63 v then (nI (sg_le t.1), (sw_le t.1 v.toNatClampNeg, t.2)) else (-2, t) := by unfold an_set; rw [if_neg (by decide), if_neg (by decide), if_pos rfl]
      refine wp_if_neB rfl (fun c2 => ?_) (fun c2 => ?_)
      · skip
        have e : an_set t (nI 2) v = (nI (sg_le t.1), (sw_le t.1 v.toNatClampNeg, t.2)) := by rw [e0, show rg_ 0 63 v = true from c2, if_pos rfl]
        rw [e]
        obtain ⟨m, m1, hm, hmb, rfl⟩ := rg_of c2
        rw [nI_clamp hmb]
        refine wp_iload1 rfl ?_
        refine wp_if_neN 2 0 (by omega) (by decide) rfl (fun _ => ?_) (fun z => absurd z (by decide))
        refine wp_iload1 rfl ?_
        refine wp_iconst rfl ?_
        refine wp_icmp_neN 2 1 (by omega) (by omega) rfl (fun _ => ?_) (fun z => absurd z (by decide))
        refine wp_aload0 rfl ?_
        refine wp_getIE rfl (Ref_kd B.S) (show _ = nI (sg_le t.1) from B.le) ?_
        refine wp_istore3 rfl rfl ?_
        refine wp_aload0 rfl ?_
        refine wp_iload1 rfl ?_
        refine wp_if_neN 2 0 (by omega) (by decide) rfl (fun _ => ?_) (fun z => absurd z (by decide))
        refine wp_aload0 rfl ?_
        refine wp_getIE rfl (Ref_kd B.S) (show _ = nI (sg_lm t.1) from B.lm) ?_
        refine wp_putI rfl (Ref_kd B.S) ?_
        refine wp_aload0 rfl ?_
        refine wp_iload1 rfl ?_
        refine wp_iconst rfl ?_
        refine wp_icmp_neN 2 1 (by omega) (by omega) rfl (fun _ => ?_) (fun z => absurd z (by decide))
        refine wp_aload0 rfl ?_
        refine wp_getIE rfl (Ref_kd B.S) (show _ = nI (sg_pl t.1) from by rw [sd_rI_eq]; exact B.pl) ?_
        refine wp_putI rfl (Ref_kd B.S) ?_
        refine wp_aload0 rfl ?_
        refine wp_iload1 rfl ?_
        refine wp_iconst rfl ?_
        refine wp_icmp_neN 2 2 (by omega) (by omega) rfl (fun z => absurd z (by decide)) (fun _ => ?_)
        refine wp_iload2 rfl ?_
        refine wp_goto rfl ?_
        refine wp_putI rfl (Ref_kd B.S) ?_
        refine wp_iload3 rfl ?_
        rw [hp_rI_rI, hp_rI_rI]
        refine wp_iret rfl ?_
        refine ⟨_, rfl, rfl, RB_set B (sw_le_wf B.w (by omega)) ?_ ?_ ?_ ?_ ?_ ?_ ?_ rfl rfl rfl rfl rfl (fun i q h => h) (fun i q h => h)⟩
        all_goals simp (disch := omega) only [sd_rI_eq, vu_at, if_pos, if_neg]
        · exact B.n
        · rfl
        · rfl
        · rfl
        · exact B.sn
        · exact B.wn
        · exact B.c
      · skip
        refine wp_bipush rfl ?_
        have e : an_set t (nI 2) v = (-2, t) := by rw [e0, show rg_ 0 63 v = false from c2]; rfl
        rw [e]
        exact wp_iret rfl ⟨_, rfl, rfl, B⟩
def an_music (t : Rt_) (f v : Int32) : Int32 × Rt_ := if rg_ 0 5 f then (if rg_ 1 3 v then (nI (sg_mu t.1 f.toNatClampNeg), (sw_mu t.1 (va_up (sg_mu t.1) f.toNatClampNeg v.toNatClampNeg), t.2)) else (-2, t)) else (-1, t)
/-- one of the rows put anew -/
theorem RB_row {h0 h : Hp_} {t : Rt_} {s : Sg_} {c : Nat} {r : Nat → Int32} (B : RB_ h0 h t) (w : sg_wf s) (hc : 66 ≤ c ∧ c ≤ 76) (e0 : sg_n s = sg_n t.1) (e4 : sg_lm s = sg_lm t.1) (e5 : sg_pl s = sg_pl t.1) (e6 : sg_le s = sg_le t.1) (e12 : (sg_si s).length = (sg_si t.1).length) (e16 : (sg_wi s).length = (sg_wi t.1).length) (hfig : ∀ f p, f < 6 → p < 8 → hp_I (hp_rI h c r) 66 (8 * f + p) = nI (sg_fig s f p)) (hpos : ∀ p, p < 8 → hp_I (hp_rI h c r) 67 p = nI (in_ (sg_pos s) p)) (hwa : ∀ g, g < 8 → hp_I (hp_rI h c r) 68 g = wr_ (sg_wa s g)) (hmu : ∀ f, f < 6 → hp_I (hp_rI h c r) 69 f = nI (sg_mu s f)) (hca : ∀ k, k < 2 → hp_I (hp_rI h c r) 70 k = nI (sg_ca s k)) (hsi : ∀ (i : Nat) (q : Nat × Nat × Nat), (sg_si s)[i]? = some q → hp_I (hp_rI h c r) 71 i = nI q.1 ∧ hp_I (hp_rI h c r) 72 i = nI q.2.1 ∧ hp_I (hp_rI h c r) 73 i = nI q.2.2) (hwi : ∀ (i : Nat) (q : Nat × Nat × Nat), (sg_wi s)[i]? = some q → hp_I (hp_rI h c r) 76 i = nI q.1 ∧ hp_I (hp_rI h c r) 74 i = nI q.2.1 ∧ hp_I (hp_rI h c r) 75 i = nI q.2.2) : RB_ h0 (hp_rI h c r) (s, t.2) := by
  have e : hp_I (hp_rI h c r) 65 = hp_I h 65 := sd_rI_ne (by omega)
  refine ⟨B.S, fz_rI B.z (by omega) _, ⟨⟨?_, ?_, ?_, ?_, ?_, ?_⟩, hfig, hpos, hwa, hmu, hca, hsi, hwi⟩, w, ⟨?_, B.c30, ?_, B.g127⟩, IM_cong (sd_rI_ne (by omega)) (sd_rI_ne (by omega)) B.2.2.2.2.2.1, IM_cong (sd_rI_ne (by omega)) (sd_rI_ne (by omega)) B.2.2.2.2.2.2⟩
  · rw [e]; dsimp only; rw [e0]; exact B.n
  · rw [e]; dsimp only; rw [e4]; exact B.lm
  · rw [e]; dsimp only; rw [e5]; exact B.pl
  · rw [e]; dsimp only; rw [e6]; exact B.le
  · rw [e]; dsimp only; rw [e12]; exact B.sn
  · rw [e]; dsimp only; rw [e16]; exact B.wn
  · rw [e]; exact B.c
  · rw [sd_rI_ne (by omega)]; exact B.P.2.2.1
theorem Ref_music_ok {h0 h : Hp_} {t : Rt_} {f v : Int32} (B : RB_ h0 h t) : cI 3 mn_Ref_music [.ref 65, .int f, .int v] h (fun y h' => y = (an_music t f v).1 ∧ RB_ h0 h' (an_music t f v).2) := by
  refine cq_in (q := mi_Ref_music) (L := [some (.ref 65), some (.int f), some (.int v), none]) rfl (Nat.le_of_ble_eq_true rfl) rfl ?_
  show wq _ tb_Ref_music none 0 _ _ _ _
  refine wp_iload1 rfl ?_
  refine wp_callS1I rfl (Nat.le_of_ble_eq_true rfl) (Ref_isFigure_ok) (Nat.le_of_ble_eq_true rfl) ?_
  refine pure_ ?_
  refine wp_if_neB rfl (fun c1 => ?_) (fun c1 => ?_)
  · skip
    obtain ⟨f, hf, rfl⟩ := rg05 c1
    refine wp_iload2 rfl ?_
    refine wp_i2l rfl ?_
    refine wp_lconst rfl ?_
    refine wp_ldc2_w rfl ?_
    refine wp_callS3I rfl (Nat.le_of_ble_eq_true rfl) (Ref_inN_ok (a := 1) (b := 3) (by omega) (by omega)) (Nat.le_of_ble_eq_true rfl) ?_
    refine pure_ ?_
    have e0 : an_music t (nI f) v = if rg_ 1 3 v then (nI (sg_mu t.1 f), (sw_mu t.1 (va_up (sg_mu t.1) f v.toNatClampNeg), t.2)) else (-2, t) := by unfold an_music; rw [show rg_ 0 5 (nI f) = true from c1, if_pos rfl, nI_clamp (show f < 2 ^ 31 by omega)]
    refine wp_if_neB rfl (fun c2 => ?_) (fun c2 => ?_)
    · skip
      have e : an_music t (nI f) v = (nI (sg_mu t.1 f), (sw_mu t.1 (va_up (sg_mu t.1) f v.toNatClampNeg), t.2)) := by rw [e0, show rg_ 1 3 v = true from c2, if_pos rfl]
      rw [e]
      obtain ⟨m, m1, hm, hmb, rfl⟩ := rg_of (a := 1) (b := 3) c2
      rw [nI_clamp hmb]
      refine wp_aload0 rfl ?_
      refine wp_getR rfl (Ref_kd B.S) (Ref_R7 B.S) (by first | decide | omega) ?_
      refine wp_iload1 rfl ?_
      refine wp_ialdE f rfl (Ref_k7 B.S) (by first | decide | omega) (Nat.lt_of_lt_of_eq (show f < _ by omega) (Eq.symm (Ref_n7 B.S))) (by omega) (show _ = nI (sg_mu t.1 f) from B.mu hf) rfl ?_
      refine wp_istore3 rfl rfl ?_
      refine wp_aload0 rfl ?_
      refine wp_getR rfl (Ref_kd B.S) (Ref_R7 B.S) (by first | decide | omega) ?_
      refine wp_iload1 rfl ?_
      refine wp_iload2 rfl ?_
      refine wp_iast f rfl (Ref_k7 B.S) (Nat.lt_of_lt_of_eq (show f < _ by omega) (Eq.symm (Ref_n7 B.S))) (by omega) rfl ?_
      refine wp_iload3 rfl ?_
      refine wp_iret rfl ?_
      refine ⟨_, rfl, rfl, RB_row B (sw_mu_wf B.w (fun f2 => ?_)) (by omega) rfl rfl rfl rfl rfl rfl ?_ ?_ ?_ ?_ ?_ ?_ ?_⟩
      · rw [vu_at]
        split
        · omega
        · exact B.w.2.2.2.2.2.2.1 f2
      · intro f2 p h1 h2; rw [sd_rI_ne (by decide)]; exact B.told h1 h2
      · intro p h1; rw [sd_rI_ne (by decide)]; exact B.good h1
      · intro p h1; rw [sd_rI_ne (by decide)]; exact B.wa h1
      · intro f2 h2
        rw [sd_rI_eq, vu_at]
        show _ = nI (va_up (sg_mu t.1) f m f2)
        rw [vu_at]
        split
        · rfl
        · exact B.mu h2
      · intro p h1; rw [sd_rI_ne (by decide)]; exact B.ca h1
      · intro i q hq; rw [sd_rI_ne (by decide), sd_rI_ne (by decide), sd_rI_ne (by decide)]; exact B.si hq
      · intro i q hq; rw [sd_rI_ne (by decide), sd_rI_ne (by decide), sd_rI_ne (by decide)]; exact B.wi hq
    · skip
      refine wp_bipush rfl ?_
      have e : an_music t (nI f) v = (-2, t) := by rw [e0, show rg_ 1 3 v = false from c2]; rfl
      rw [e]
      exact wp_iret rfl ⟨_, rfl, rfl, B⟩
  · skip
    refine wp_iconst rfl ?_
    have e : an_music t f v = (-1, t) := by unfold an_music; rw [show rg_ 0 5 f = false from c1]; rfl
    rw [e]
    exact wp_iret rfl ⟨_, rfl, rfl, B⟩
/-- the first figure of a row that may not be -/
def fb_ (s : Sg_) (g : Nat → Nat) (c : Nat) : Int32 := match ff_ (fun i => !may_ s (g i - 65)) c 0 with
  | some i => nI i
  | none => -6
theorem fb_cases (s : Sg_) (g : Nat → Nat) {c : Nat} (hc : c ≤ 30) : fb_ s g c = -6 ∨ ∃ i, i ≤ 30 ∧ fb_ s g c = nI i := by
  unfold fb_
  cases e : ff_ (fun i => !may_ s (g i - 65)) c 0 with
  | some i => exact Or.inr ⟨i, by have := ff_some _ _ _ e; omega, rfl⟩
  | none => exact Or.inl rfl
theorem fb_lt (s : Sg_) (g : Nat → Nat) {c : Nat} (hc : c ≤ 30) : fb_ s g c < 0 ↔ fb_ s g c = -6 := by
  rcases fb_cases s g hc with e | ⟨i, hi, e⟩
  · rw [e]; exact ⟨fun _ => rfl, fun _ => by decide⟩
  · rw [e]; exact ⟨fun z => absurd z (nI_pos (by omega)), fun z => absurd z (m6_ne (by omega))⟩
theorem fw_none {g : Nat → Nat} {c : Nat} (hc : c ≤ 30) (h : fw_ g c 65 6 = -6) : c ≤ 20 ∧ ∀ i, i < c → 65 ≤ g i ∧ g i < 71 := by
  unfold fw_ at h
  cases e : ff_ (rb_ g 65 6) c 0 with
  | some i =>
    rw [e] at h
    have := ff_some _ _ _ e
    exact absurd h (m6_ne (by omega))
  | none =>
    have h1 : ∀ i, i < c → ¬ 20 ≤ i ∧ ¬ g i < 65 ∧ ¬ 65 + 6 ≤ g i := by
      intro i hi
      have := ff_none _ _ e i (Nat.zero_le _) (by omega)
      unfold rb_ at this
      rw [Bool.or_eq_false_iff, Bool.or_eq_false_iff] at this
      exact ⟨of_decide_eq_false this.1.1, of_decide_eq_false this.1.2, of_decide_eq_false this.2⟩
    refine ⟨?_, fun i hi => by have := h1 i hi; omega⟩
    rcases Nat.lt_or_ge 20 c with q | q
    · have := h1 20 q
      omega
    · exact q
theorem Ref_badFigure_ok {h0 h : Hp_} {t : Rt_} (B : RB_ h0 h t) (hg : ∀ i, i < t.2.2.1 → 65 ≤ t.2.1 i ∧ t.2.1 i < 71) : cI 2 mn_Ref_badFigure [.ref 65] h (fun x h' => x = fb_ t.1 t.2.1 t.2.2.1 ∧ h' = h) := by
  have c30 := B.c30
  refine cq_in (q := mi_Ref_badFigure) (L := [some (.ref 65), none]) rfl (Nat.le_of_ble_eq_true rfl) rfl ?_
  show wq _ tb_Ref_badFigure none 0 _ _ _ _
  refine wp_iconst rfl ?_
  refine wp_istore1 rfl rfl ?_
  refine wq_loop (X := Unit) (fun i x => [some (.ref 65), some (.int (nI i))]) (fun i x h1 => h1 = h ∧ ∀ j, j < i → (!may_ t.1 (t.2.1 j - 65)) = false) (t.2.2.1) (0) (()) ?_ ?_ ?_ ?_
  · omega
  · exact ⟨rfl, fun j hj => by omega⟩
  · intro i x h1 hi I k
    show wq _ tb_Ref_badFigure _ 2 [some (.ref 65), some (.int (nI i))] [] h1 _
    obtain ⟨rfl, a1⟩ := I
    have hgi := hg i hi
    refine wp_iload1 rfl ?_
    refine wp_aload0 rfl ?_
    refine wp_getIE rfl (Ref_kd B.S) (show _ = nI (t.2.2.1) from B.c) ?_
    refine wp_icmp_geN i (t.2.2.1) (by omega) (by omega) rfl (fun z => absurd z (by omega)) (fun _ => ?_)
    refine wp_aload0 rfl ?_
    refine wp_aload0 rfl ?_
    refine wp_getR rfl (Ref_kd B.S) (Ref_R17 B.S) (by first | decide | omega) ?_
    refine wp_iload1 rfl ?_
    refine wp_ialdE i rfl (Ref_k17 B.S) (by first | decide | omega) (Nat.lt_of_lt_of_eq (show i < _ by omega) (Eq.symm (Ref_n17 B.S))) (by omega) (show _ = nI (t.2.1 i) from B.pad hi) rfl ?_
    refine wp_bipush rfl ?_
    refine wp_isubE (nI ((t.2.1 i) - 65)) (pk_sub (by omega)) rfl ?_
    refine wp_callV1I rfl (Nat.le_of_ble_eq_true rfl) (Ref_kd B.S) (Ref_may_ok B (show t.2.1 i - 65 < 6 by omega)) (Nat.le_of_ble_eq_true rfl) ?_
    refine pure_ ?_
    refine wp_if_neB rfl (fun c1 => ?_) (fun c1 => ?_)
    · skip
      refine wp_iinc1N rfl rfl ?_
      refine wp_goto rfl ?_
      exact k () _ ⟨rfl, fun j hj => by
        rcases Nat.lt_or_ge j i with q | q
        · exact a1 j q
        · obtain rfl : j = i := by omega
          rw [c1]; rfl⟩
    · skip
      refine wp_iload1 rfl ?_
      exact wp_iret rfl ⟨_, rfl, by unfold fb_; rw [ff_at a1 hi (by rw [c1]; rfl)], rfl⟩
  · intro x h1 I
    show wq _ tb_Ref_badFigure _ 2 [some (.ref 65), some (.int (nI (t.2.2.1)))] [] h1 _
    obtain ⟨rfl, a1⟩ := I
    refine wp_iload1 rfl ?_
    refine wp_aload0 rfl ?_
    refine wp_getIE rfl (Ref_kd B.S) (show _ = nI (t.2.2.1) from B.c) ?_
    refine wp_icmp_geN (t.2.2.1) (t.2.2.1) (by omega) (by omega) rfl (fun _ => ?_) (fun z => absurd z (by omega))
    refine wp_bipush rfl ?_
    exact wp_iret rfl ⟨_, rfl, by unfold fb_; rw [ff_no a1], rfl⟩
def an_judge (t : Rt_) : Int32 := if fw_ t.2.1 t.2.2.1 65 6 = -6 then fb_ t.1 t.2.1 t.2.2.1 else -5
theorem Ref_judge_ok {h0 h : Hp_} {t : Rt_} (B : RB_ h0 h t) : cI 4 mn_Ref_judge [.ref 65] h (fun y h' => y = an_judge t ∧ h' = h) := by
  have c30 := B.c30
  refine cq_in (q := mi_Ref_judge) (L := [some (.ref 65)]) rfl (Nat.le_of_ble_eq_true rfl) rfl ?_
  show wq _ tb_Ref_judge none 0 _ _ _ _
  refine wp_aload0 rfl ?_
  refine wp_callV0I rfl (Nat.le_of_ble_eq_true rfl) (Ref_kd B.S) (Ref_faultOfRow_ok B) (Nat.le_of_ble_eq_true rfl) ?_
  refine pure_ ?_
  refine wp_if_lt rfl (fun c1 => ?_) (fun c1 => ?_)
  · skip
    have c2 := (fw_lt t.2.1 c30).mp c1
    refine wp_aload0 rfl ?_
    refine wp_callV0I rfl (Nat.le_of_ble_eq_true rfl) (Ref_kd B.S) (Ref_badFigure_ok B (fw_none c30 c2).2) (Nat.le_of_ble_eq_true rfl) ?_
    refine pure_ ?_
    exact wp_iret rfl ⟨_, rfl, by unfold an_judge; rw [if_pos c2], rfl⟩
  · skip
    refine wp_bipush rfl ?_
    refine wp_goto rfl ?_
    exact wp_iret rfl ⟨_, rfl, by unfold an_judge; rw [if_neg (fun z => c1 ((fw_lt t.2.1 c30).mpr z))], rfl⟩
