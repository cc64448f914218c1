-- ===== the class: places, say, wipe, fault, figure, goes =====
theorem rg_t {a b : Nat} {x : Int32} (ha : a < 2 ^ 31) (hb : b < 2 ^ 31) (h1 : ¬ x < nI a) (h2 : x ≤ nI b) : rg_ a b x = true := by
  rw [Int32.lt_iff_toInt_lt, nI_toInt ha] at h1
  rw [Int32.le_iff_toInt_le, nI_toInt hb] at h2
  exact decide_eq_true (by omega)
theorem rg_t2 {a b : Nat} {x : Int32} (ha : a < 2 ^ 31) (hb : b + 1 < 2 ^ 31) (h1 : ¬ x < nI a) (h2 : ¬ nI (b + 1) ≤ x) : rg_ a b x = true := by
  rw [Int32.lt_iff_toInt_lt, nI_toInt ha] at h1
  rw [Int32.le_iff_toInt_le, nI_toInt hb] at h2
  exact decide_eq_true (by omega)
theorem rg_f1 {a b : Nat} {x : Int32} (ha : a < 2 ^ 31) (h1 : x < nI a) : rg_ a b x = false := by
  rw [Int32.lt_iff_toInt_lt, nI_toInt ha] at h1
  exact decide_eq_false (by omega)
theorem rg_f2 {a b : Nat} {x : Int32} (hb : b + 1 < 2 ^ 31) (h2 : nI (b + 1) ≤ x) : rg_ a b x = false := by
  rw [Int32.le_iff_toInt_le, nI_toInt hb] at h2
  exact decide_eq_false (by omega)
theorem Dance_isFigure_ok {h : Hp_} {x : Int32} : cI 1 mn_RoundDance_isFigure [.int x] h (fun y h' => y = bo_ (rg_ 0 5 x) ∧ h' = h) := by
  refine cq_in (q := mi_RoundDance_isFigure) (L := [some (.int x)]) rfl (Nat.le_of_ble_eq_true rfl) rfl ?_
  show wq _ tb_RoundDance_isFigure none 0 _ _ _ _
  refine wp_iload0 rfl ?_
  refine wp_if_lt rfl (fun c1 => ?_) (fun c1 => ?_)
  · skip
    refine wp_iconst rfl ?_
    exact wp_zret rfl (by first | exact bo_01 _ | exact Or.inl rfl | exact Or.inr rfl) ⟨_, rfl, by rw [show rg_ 0 5 x = false from rg_f1 (a := 0) (b := 5) (by decide) c1]; rfl, rfl⟩
  · skip
    refine wp_iload0 rfl ?_
    refine wp_bipush rfl ?_
    refine wp_icmp_ge rfl (fun c2 => ?_) (fun c2 => ?_)
    · skip
      refine wp_iconst rfl ?_
      exact wp_zret rfl (by first | exact bo_01 _ | exact Or.inl rfl | exact Or.inr rfl) ⟨_, rfl, by rw [show rg_ 0 5 x = false from rg_f2 (a := 0) (b := 5) (by decide) c2]; rfl, rfl⟩
    · skip
      refine wp_iconst rfl ?_
      refine wp_goto rfl ?_
      exact wp_zret rfl (by first | exact bo_01 _ | exact Or.inl rfl | exact Or.inr rfl) ⟨_, rfl, by rw [show rg_ 0 5 x = true from rg_t2 (a := 0) (b := 5) (by decide) (by decide) c1 c2]; rfl, rfl⟩
theorem rg_01 {x : Int32} : rg_ 0 1 x = true ↔ x = 0 ∨ x = 1 := by
  constructor
  · intro h
    obtain ⟨j, _, j1, jb, rfl⟩ := rg_of (a := 0) (b := 1) h
    have : j = 0 ∨ j = 1 := by omega
    rcases this with rfl | rfl
    · exact Or.inl rfl
    · exact Or.inr rfl
  · rintro (rfl | rfl) <;> decide
theorem Dance_isYesOrNo_ok {h : Hp_} {x : Int32} : cI 1 mn_RoundDance_isYesOrNo [.int x] h (fun y h' => y = bo_ (rg_ 0 1 x) ∧ h' = h) := by
  refine cq_in (q := mi_RoundDance_isYesOrNo) (L := [some (.int x)]) rfl (Nat.le_of_ble_eq_true rfl) rfl ?_
  show wq _ tb_RoundDance_isYesOrNo none 0 _ _ _ _
  refine wp_iload0 rfl ?_
  refine wp_if_eq rfl (fun c1 => ?_) (fun c1 => ?_)
  · skip
    refine wp_iconst rfl ?_
    refine wp_goto rfl ?_
    exact wp_zret rfl (by first | exact bo_01 _ | exact Or.inl rfl | exact Or.inr rfl) ⟨_, rfl, by rw [rg_01.mpr (Or.inl c1)]; rfl, rfl⟩
  · skip
    refine wp_iload0 rfl ?_
    refine wp_iconst rfl ?_
    refine wp_icmp_ne rfl (fun c2 => ?_) (fun c2 => ?_)
    · skip
      refine wp_iconst rfl ?_
      exact wp_zret rfl (by first | exact bo_01 _ | exact Or.inl rfl | exact Or.inr rfl) ⟨_, rfl, by rw [show rg_ 0 1 x = false from Bool.eq_false_iff.mpr (fun z => (rg_01.mp z).elim c1 c2)]; rfl, rfl⟩
    · skip
      refine wp_iconst rfl ?_
      refine wp_goto rfl ?_
      exact wp_zret rfl (by first | exact bo_01 _ | exact Or.inl rfl | exact Or.inr rfl) ⟨_, rfl, by rw [rg_01.mpr (Or.inr (Classical.not_not.mp c2))]; rfl, rfl⟩
theorem Dance_places_ok {h : Hp_} {t : Rt_} {k : Nat} {x : Int32} (X : XB_ h t k) : cI 3 mn_RoundDance_places [.ref 1, .int x] h (fun y h' => y = (an_places t x).1 ∧ DR_ h h' (an_places t x).2 (k + 1)) := by
  have n8 := X.w.1.2
  cases c1 : rg_ 3 8 x with
  | false =>
    have e : an_places t x = (-2, t) := by unfold an_places; rw [c1]; rfl
    rw [e]
    refine cq_in (q := mi_RoundDance_places) (L := [some (.ref 1), some (.int x), none]) rfl (Nat.le_of_ble_eq_true rfl) rfl ?_
    show wq _ tb_RoundDance_places none 0 _ _ _ _
    refine wp_iload1 rfl ?_
    refine wp_iconst rfl ?_
    refine wp_icmp_lt rfl (fun c2 => ?_) (fun c2 => ?_)
    · skip
      refine wp_bipush rfl ?_
      exact wp_iret rfl ⟨_, rfl, rfl, DR_same X⟩
    · skip
      refine wp_iload1 rfl ?_
      refine wp_bipush rfl ?_
      refine wp_icmp_le rfl (fun z => absurd z (rg_hi (a := 3) (b := 8) (by decide) (by decide) c1 c2)) (fun _ => ?_)
      refine wp_bipush rfl ?_
      exact wp_iret rfl ⟨_, rfl, rfl, DR_same X⟩
  | true =>
    obtain ⟨j, j3, j8, jb, rfl⟩ := rg_of (a := 3) (b := 8) c1
    have e : an_places t (nI j) = (nI (sg_n t.1), (op_ t.1 j, t.2)) := by unfold an_places; rw [c1, if_pos rfl, nI_clamp jb]
    rw [e]
    refine cq_in (q := mi_RoundDance_places) (L := [some (.ref 1), some (.int (nI j)), none]) rfl (Nat.le_of_ble_eq_true rfl) rfl ?_
    show wq _ tb_RoundDance_places none 0 _ _ _ _
    refine wp_iload1 rfl ?_
    refine wp_iconst rfl ?_
    refine wp_icmp_ltN j 3 (by omega) (by omega) rfl (fun z => absurd z (by omega)) (fun _ => ?_)
    refine wp_iload1 rfl ?_
    refine wp_bipush rfl ?_
    refine wp_icmp_leN j 8 (by omega) (by omega) rfl (fun _ => ?_) (fun z => absurd z (by omega))
    refine wp_aload0 rfl ?_
    refine wp_getR rfl (Dance_kd X.S) (Dance_R1 X.S) (by first | decide | omega) ?_
    refine wp_getIE rfl (Market_kd (Dance_s1 X.S)) (show _ = nI (sg_n t.1) from X.n) ?_
    refine wp_istore2 rfl rfl ?_
    refine wp_aload0 rfl ?_
    refine wp_getR rfl (Dance_kd X.S) (Dance_R1 X.S) (by first | decide | omega) ?_
    refine wp_iload1 rfl ?_
    refine wp_callV1V rfl (Nat.le_of_ble_eq_true rfl) (Market_kd (Dance_s1 X.S)) (Market_open_ok (Dance_s1 X.S) X.M.1.2.2.2.1 X.M.1.2.2.2.2 (fun f hf => X.M.2.2.1 f hf) (fun c hc => X.M.2.2.2.2.1 c hc)) (Nat.le_of_ble_eq_true rfl) ?_
    intro h2 ⟨M2, f2⟩
    have z2 := fz_fr f2
    refine wp_iload2 rfl ?_
    obtain ⟨S, P, ⟨M, w⟩, K, A, B⟩ := X.1
    have Y : XS_ h2 (op_ t.1 j, t.2) := ⟨Dance_fz S z2, ⟨by rw [fr_I f2 (by omega)]; exact P.1, P.2.1, by rw [fr_I f2 (by omega)]; exact P.2.2.1, P.2.2.2⟩, ⟨M2, op_wf w (by omega) (by omega)⟩, by rw [fr_I f2 (by omega)]; exact K, fun s hs => ⟨MK_cg (A s hs).1 (fun v v1 v2 => fr_I f2 (by omega)), (A s hs).2⟩, fun s hs => ⟨MK_cg (B s hs).1 (fun v v1 v2 => fr_I f2 (by omega)), (B s hs).2⟩⟩
    exact wp_iret rfl ⟨_, rfl, rfl, DR_of X (fz_mono (fun v hv => by omega) z2) Y⟩
/-- the pad has changed -/
theorem XS_pad {h h2 : Hp_} {t : Rt_} {g : Nat → Nat} {c : Nat} (X : XS_ h t) (z : fz_ (fun v => v = 2 ∨ v = 3) h h2) (P : P_is h2 2 g c) : XS_ h2 (t.1, g, c, t.2.2.2) := by
  obtain ⟨S, _, ⟨M, w⟩, K, A, B⟩ := X
  exact ⟨Dance_fz S z, P, ⟨MK_cg M (fun v v1 v2 => fz_I z (by omega)), w⟩, by rw [fz_I z (by omega)]; exact K, fun s hs => ⟨MK_cg (A s hs).1 (fun v v1 v2 => fz_I z (by omega)), (A s hs).2⟩, fun s hs => ⟨MK_cg (B s hs).1 (fun v v1 v2 => fz_I z (by omega)), (B s hs).2⟩⟩
theorem Dance_say_ok {h : Hp_} {t : Rt_} {k : Nat} {x : Int32} (X : XB_ h t k) : cI 3 mn_RoundDance_say [.ref 1, .int x] h (fun y h' => y = (an_say t x).1 ∧ DR_ h h' (an_say t x).2 (k + 1)) := by
  have c30 := X.c30
  cases c1 : rg_ 33 126 x with
  | false =>
    have e : an_say t x = (-2, t) := by unfold an_say; rw [c1]; rfl
    rw [e]
    refine cq_in (q := mi_RoundDance_say) (L := [some (.ref 1), some (.int x)]) rfl (Nat.le_of_ble_eq_true rfl) rfl ?_
    show wq _ tb_RoundDance_say none 0 _ _ _ _
    refine wp_iload1 rfl ?_
    refine wp_bipush rfl ?_
    refine wp_icmp_lt rfl (fun c2 => ?_) (fun c2 => ?_)
    · skip
      refine wp_bipush rfl ?_
      exact wp_iret rfl ⟨_, rfl, rfl, DR_same X⟩
    · skip
      refine wp_iload1 rfl ?_
      refine wp_bipush rfl ?_
      refine wp_icmp_le rfl (fun z => absurd z (rg_hi (a := 33) (b := 126) (by decide) (by decide) c1 c2)) (fun _ => ?_)
      refine wp_bipush rfl ?_
      exact wp_iret rfl ⟨_, rfl, rfl, DR_same X⟩
  | true =>
    obtain ⟨j, j3, j8, jb, rfl⟩ := rg_of (a := 33) (b := 126) c1
    refine cq_in (q := mi_RoundDance_say) (L := [some (.ref 1), some (.int (nI j))]) rfl (Nat.le_of_ble_eq_true rfl) rfl ?_
    show wq _ tb_RoundDance_say none 0 _ _ _ _
    refine wp_iload1 rfl ?_
    refine wp_bipush rfl ?_
    refine wp_icmp_ltN j 33 (by omega) (by omega) rfl (fun z => absurd z (by omega)) (fun _ => ?_)
    refine wp_iload1 rfl ?_
    refine wp_bipush rfl ?_
    refine wp_icmp_leN j 126 (by omega) (by omega) rfl (fun _ => ?_) (fun z => absurd z (by omega))
    refine wp_aload0 rfl ?_
    refine wp_getR rfl (Dance_kd X.S) (Dance_R0 X.S) (by first | decide | omega) ?_
    refine wp_getIE rfl (Pad_kd (Dance_s0 X.S)) (show _ = nI (t.2.2.1) from X.c) ?_
    refine wp_bipush rfl ?_
    refine wp_icmp_ltN (t.2.2.1) 30 (by omega) (by omega) rfl (fun c2 => ?_) (fun c2 => ?_)
    · skip
      refine wp_aload0 rfl ?_
      refine wp_getR rfl (Dance_kd X.S) (Dance_R0 X.S) (by first | decide | omega) ?_
      refine wp_iload1 rfl ?_
      have e : an_say t (nI j) = (nI (t.2.2.1 + 1), (t.1, va_up t.2.1 t.2.2.1 j, t.2.2.1 + 1, t.2.2.2)) := by unfold an_say; rw [c1, if_pos rfl, if_neg (by omega), nI_clamp jb]
      rw [e]
      refine wp_callV1V rfl (Nat.le_of_ble_eq_true rfl) (Pad_kd (Dance_s0 X.S)) (Pad_write_ok (Dance_s0 X.S) X.c c2) (Nat.le_of_ble_eq_true rfl) ?_
      intro h2 e2
      have z2 : fz_ (fun v => v = 2 ∨ v = 3) h h2 := by rw [e2]; exact fz_rI (P := fun v => v = 2 ∨ v = 3) (fz_rI (P := fun v => v = 2 ∨ v = 3) (fz_refl _ _) (Or.inr rfl) _) (Or.inl rfl) _
      have P2 : P_is h2 2 (va_up t.2.1 t.2.2.1 j) (t.2.2.1 + 1) := by
        refine ⟨by rw [e2, sd_rI_eq, vu_at, if_pos rfl], by omega, fun i hi => ?_, fun i => ?_⟩
        · rw [e2, sd_rI_ne (by decide), sd_rI_eq, vu_at, vu_at]
          by_cases q : i = t.2.2.1
          · rw [if_pos q, if_pos q]
          · rw [if_neg q, if_neg q]; exact X.pad (by omega)
        · rw [vu_at]
          split
          · omega
          · exact X.g127 i
      have S2 := Dance_fz X.S z2
      refine wp_aload0 rfl ?_
      refine wp_getR rfl (Dance_kd S2) (Dance_R0 S2) (by first | decide | omega) ?_
      refine wp_getIE rfl (Pad_kd (Dance_s0 S2)) (show _ = nI (t.2.2.1 + 1) from P2.1) ?_
      exact wp_iret rfl ⟨_, rfl, rfl, DR_of X (fz_mono (fun v hv => by omega) z2) (XS_pad X.1 z2 P2)⟩
    · skip
      refine wp_bipush rfl ?_
      have e : an_say t (nI j) = (-4, t) := by unfold an_say; rw [c1, if_pos rfl, if_pos (by omega)]
      rw [e]
      exact wp_iret rfl ⟨_, rfl, rfl, DR_same X⟩
theorem Dance_wipe_ok {h : Hp_} {t : Rt_} {k : Nat} (X : XB_ h t k) : cI 2 mn_RoundDance_wipe [.ref 1] h (fun y h' => y = (an_wipe t).1 ∧ DR_ h h' (an_wipe t).2 (k + 1)) := by
  refine cq_in (q := mi_RoundDance_wipe) (L := [some (.ref 1), none]) rfl (Nat.le_of_ble_eq_true rfl) rfl ?_
  show wq _ tb_RoundDance_wipe none 0 _ _ _ _
  refine wp_aload0 rfl ?_
  refine wp_getR rfl (Dance_kd X.S) (Dance_R0 X.S) (by first | decide | omega) ?_
  refine wp_getIE rfl (Pad_kd (Dance_s0 X.S)) (show _ = nI (t.2.2.1) from X.c) ?_
  refine wp_istore1 rfl rfl ?_
  refine wp_aload0 rfl ?_
  refine wp_getR rfl (Dance_kd X.S) (Dance_R0 X.S) (by first | decide | omega) ?_
  refine wp_callV0V rfl (Nat.le_of_ble_eq_true rfl) (Pad_kd (Dance_s0 X.S)) (Pad_clear_ok (Dance_s0 X.S)) (Nat.le_of_ble_eq_true rfl) ?_
  intro h2 e2
  have z2 : fz_ (fun v => v = 2 ∨ v = 3) h h2 := by rw [e2]; exact fz_rI (P := fun v => v = 2 ∨ v = 3) (fz_refl _ _) (Or.inl rfl) _
  have P2 : P_is h2 2 t.2.1 0 := ⟨by rw [e2, sd_rI_eq, vu_at, if_pos rfl], Nat.zero_le _, fun i hi => absurd hi (Nat.not_lt_zero i), X.g127⟩
  refine wp_iload1 rfl ?_
  exact wp_iret rfl ⟨_, rfl, rfl, DR_of X (fz_mono (fun v hv => by omega) z2) (XS_pad X.1 z2 P2)⟩
theorem Dance_figureFault_ok {h : Hp_} {t : Rt_} {k : Nat} (X : XB_ h t k) : cI 4 mn_RoundDance_figureFault [.ref 1] h (fun y h' => y = fo_ t.2.1 t.2.2.1 48 (sg_n t.1) ∧ h' = h) := by
  refine cq_in (q := mi_RoundDance_figureFault) (L := [some (.ref 1)]) rfl (Nat.le_of_ble_eq_true rfl) rfl ?_
  show wq _ tb_RoundDance_figureFault none 0 _ _ _ _
  refine wp_aload0 rfl ?_
  refine wp_getR rfl (Dance_kd X.S) (Dance_R0 X.S) (by first | decide | omega) ?_
  refine wp_bipush rfl ?_
  refine wp_aload0 rfl ?_
  refine wp_getR rfl (Dance_kd X.S) (Dance_R1 X.S) (by first | decide | omega) ?_
  refine wp_getIE rfl (Market_kd (Dance_s1 X.S)) (show _ = nI (sg_n t.1) from X.n) ?_
  refine wp_callV2I rfl (Nat.le_of_ble_eq_true rfl) (Pad_kd (Dance_s0 X.S)) (Pad_faultEachOnce_ok (Dance_s0 X.S) X.P (by decide) X.w.1.2) (Nat.le_of_ble_eq_true rfl) ?_
  refine pure_ ?_
  exact wp_iret rfl ⟨_, rfl, rfl, rfl⟩
theorem Dance_standingFault_ok {h : Hp_} {t : Rt_} {k : Nat} (X : XB_ h t k) : cI 4 mn_RoundDance_standingFault [.ref 1] h (fun y h' => y = fo_ t.2.1 t.2.2.1 97 (sg_n t.1) ∧ h' = h) := by
  refine cq_in (q := mi_RoundDance_standingFault) (L := [some (.ref 1)]) rfl (Nat.le_of_ble_eq_true rfl) rfl ?_
  show wq _ tb_RoundDance_standingFault none 0 _ _ _ _
  refine wp_aload0 rfl ?_
  refine wp_getR rfl (Dance_kd X.S) (Dance_R0 X.S) (by first | decide | omega) ?_
  refine wp_bipush rfl ?_
  refine wp_aload0 rfl ?_
  refine wp_getR rfl (Dance_kd X.S) (Dance_R1 X.S) (by first | decide | omega) ?_
  refine wp_getIE rfl (Market_kd (Dance_s1 X.S)) (show _ = nI (sg_n t.1) from X.n) ?_
  refine wp_callV2I rfl (Nat.le_of_ble_eq_true rfl) (Pad_kd (Dance_s0 X.S)) (Pad_faultEachOnce_ok (Dance_s0 X.S) X.P (by decide) X.w.1.2) (Nat.le_of_ble_eq_true rfl) ?_
  refine pure_ ?_
  exact wp_iret rfl ⟨_, rfl, rfl, rfl⟩
theorem Dance_rowFault_ok {h : Hp_} {t : Rt_} {k : Nat} (X : XB_ h t k) : cI 4 mn_RoundDance_rowFault [.ref 1] h (fun y h' => y = fw_ t.2.1 t.2.2.1 65 6 ∧ h' = h) := by
  refine cq_in (q := mi_RoundDance_rowFault) (L := [some (.ref 1)]) rfl (Nat.le_of_ble_eq_true rfl) rfl ?_
  show wq _ tb_RoundDance_rowFault none 0 _ _ _ _
  refine wp_aload0 rfl ?_
  refine wp_getR rfl (Dance_kd X.S) (Dance_R0 X.S) (by first | decide | omega) ?_
  refine wp_bipush rfl ?_
  refine wp_bipush rfl ?_
  refine wp_callV2I rfl (Nat.le_of_ble_eq_true rfl) (Pad_kd (Dance_s0 X.S)) (Pad_faultRow_ok (Dance_s0 X.S) X.P (by decide) (by decide)) (Nat.le_of_ble_eq_true rfl) ?_
  refine pure_ ?_
  exact wp_iret rfl ⟨_, rfl, rfl, rfl⟩
theorem Dance_fault_ok {h : Hp_} {t : Rt_} {k : Nat} {x : Int32} (X : XB_ h t k) : cI 5 mn_RoundDance_fault [.ref 1, .int x] h (fun y h' => y = an_fault t x ∧ DR_ h h' t (k + 1)) := by
  refine cq_in (q := mi_RoundDance_fault) (L := [some (.ref 1), some (.int x)]) rfl (Nat.le_of_ble_eq_true rfl) rfl ?_
  show wq _ tb_RoundDance_fault none 0 _ _ _ _
  refine wp_iload1 rfl ?_
  refine wp_if_ne rfl (fun c1 => ?_) (fun c1 => ?_)
  · skip
    refine wp_iload1 rfl ?_
    refine wp_iconst rfl ?_
    refine wp_icmp_ne rfl (fun c2 => ?_) (fun c2 => ?_)
    · skip
      refine wp_iload1 rfl ?_
      refine wp_iconst rfl ?_
      refine wp_icmp_ne rfl (fun c3 => ?_) (fun c3 => ?_)
      · skip
        refine wp_bipush rfl ?_
        exact wp_iret rfl ⟨_, rfl, by unfold an_fault; rw [if_neg c1, if_neg c2, if_neg c3], DR_same X⟩
      · skip
        refine wp_aload0 rfl ?_
        refine wp_callV0I rfl (Nat.le_of_ble_eq_true rfl) (Dance_kd X.S) (Dance_standingFault_ok X) (Nat.le_of_ble_eq_true rfl) ?_
        refine pure_ ?_
        exact wp_iret rfl ⟨_, rfl, by unfold an_fault; rw [if_neg c1, if_neg c2, if_pos (Classical.not_not.mp c3)], DR_same X⟩
    · skip
      refine wp_aload0 rfl ?_
      refine wp_callV0I rfl (Nat.le_of_ble_eq_true rfl) (Dance_kd X.S) (Dance_rowFault_ok X) (Nat.le_of_ble_eq_true rfl) ?_
      refine pure_ ?_
      exact wp_iret rfl ⟨_, rfl, by unfold an_fault; rw [if_neg c1, if_pos (Classical.not_not.mp c2)], DR_same X⟩
  · skip
    refine wp_aload0 rfl ?_
    refine wp_callV0I rfl (Nat.le_of_ble_eq_true rfl) (Dance_kd X.S) (Dance_figureFault_ok X) (Nat.le_of_ble_eq_true rfl) ?_
    refine pure_ ?_
    exact wp_iret rfl ⟨_, rfl, by unfold an_fault; rw [if_pos (Classical.not_not.mp c1)], DR_same X⟩
/-- the market has changed -/
theorem XS_mkt {h h2 : Hp_} {t : Rt_} {s : Sg_} (X : XS_ h t) (z : fz_ (fun v => 4 ≤ v ∧ v ≤ 12) h h2) (M2 : MK_ h2 4 s) (w2 : sg_wf s) : XS_ h2 (s, t.2) := by
  obtain ⟨S, P, ⟨M, w⟩, K, A, B⟩ := X
  exact ⟨Dance_fz S z, ⟨by rw [fz_I z (by omega)]; exact P.1, P.2.1, by rw [fz_I z (by omega)]; exact P.2.2.1, P.2.2.2⟩, ⟨M2, w2⟩, by rw [fz_I z (by omega)]; exact K, fun s hs => ⟨MK_cg (A s hs).1 (fun v v1 v2 => fz_I z (by omega)), (A s hs).2⟩, fun s hs => ⟨MK_cg (B s hs).1 (fun v v1 v2 => fz_I z (by omega)), (B s hs).2⟩⟩
theorem MK_fig {h h2 : Hp_} {s : Sg_} {f : Nat} {m : Nat → Nat} (M : MK_ h 4 s) (e : h2 = hp_rI h 5 (va_up (hp_I h 5) f (nI (pq_ m 8)))) : MK_ h2 4 (sw_fig s (va_up (sg_fig s) f m)) := by
  obtain ⟨m1, m2, m3, m4, m5, m6, m7⟩ := M
  rw [e]
  refine ⟨m1, fun g hg => ?_, m3, m4, m5, m6, m7⟩
  show hp_I _ 5 g = nI (pq_ (va_up (sg_fig s) f m g) 8)
  rw [sd_rI_eq, vu_at, vu_at]
  by_cases q : g = f
  · rw [if_pos q, if_pos q]
  · rw [if_neg q, if_neg q]; exact m2 g hg
set_option maxRecDepth 4000 in
theorem Dance_figure_ok {h : Hp_} {t : Rt_} {k : Nat} {x : Int32} (X : XB_ h t k) : cI 5 mn_RoundDance_figure [.ref 1, .int x] h (fun y h' => y = (an_figure t x).1 ∧ DR_ h h' (an_figure t x).2 (k + 1)) := by
  have n8 := X.w.1.2
  have c30 := X.c30
  refine cq_in (q := mi_RoundDance_figure) (L := [some (.ref 1), some (.int x), none, none]) rfl (Nat.le_of_ble_eq_true rfl) rfl ?_
  show wq _ tb_RoundDance_figure none 0 _ _ _ _
  refine wp_iload1 rfl ?_
  refine wp_callS1I rfl (Nat.le_of_ble_eq_true rfl) (Dance_isFigure_ok) (Nat.le_of_ble_eq_true rfl) ?_
  refine pure_ ?_
  refine wp_if_neB rfl (fun c1 => ?_) (fun c1 => ?_)
  · skip
    obtain ⟨j, _, j5, jb, rfl⟩ := rg_of (a := 0) (b := 5) c1
    refine wp_aload0 rfl ?_
    refine wp_callV0I rfl (Nat.le_of_ble_eq_true rfl) (Dance_kd X.S) (Dance_figureFault_ok X) (Nat.le_of_ble_eq_true rfl) ?_
    refine pure_ ?_
    refine wp_bipush rfl ?_
    refine wp_icmp_eq rfl (fun c2 => ?_) (fun c2 => ?_)
    · skip
      have F := fo_none c30 c2
      have e : an_figure t (nI j) = (nI 1, (sw_fig t.1 (va_up (sg_fig t.1) j (pm_ t.2.1 48 (sg_n t.1))), t.2.1, 0, t.2.2.2)) := by unfold an_figure; rw [c1, if_pos rfl, if_pos c2, nI_clamp jb]
      rw [e]
      refine wp_ldc rfl ?_
      refine wp_istore2 rfl rfl ?_
      refine wp_iconst rfl ?_
      refine wp_istore3 rfl rfl ?_
      refine wq_loc (L' := [some (.ref 1), some (.int (nI j)), some (.int (nI (pq_ (fun p => if p < 0 then t.2.1 p - 48 else p) 8))), some (.int (nI 0))]) (by rw [show (fun p => if p < 0 then t.2.1 p - 48 else p) = fun p => p from funext fun p => if_neg (Nat.not_lt_zero p), ← stays_]) ?_
      refine wq_loop (X := Unit) (fun i x => [some (.ref 1), some (.int (nI j)), some (.int (nI (pq_ (fun p => if p < i then t.2.1 p - 48 else p) 8))), some (.int (nI i))]) (fun i x h1 => h1 = h) (sg_n t.1) (0) (()) ?_ ?_ ?_ ?_
      · omega
      · rfl
      · intro i x h1 hi I go
        show wq _ tb_RoundDance_figure _ 26 [some (.ref 1), some (.int (nI j)), some (.int (nI (pq_ (fun p => if p < i then t.2.1 p - 48 else p) 8))), some (.int (nI i))] [] h1 _
        obtain rfl := I
        have hin : i < sg_n t.1 := hi
        have g1 := F.2.1 i (by omega)
        have hpd := X.pad (show i < t.2.2.1 by omega)
        refine wp_iload3 rfl ?_
        refine wp_aload0 rfl ?_
        refine wp_getR rfl (Dance_kd X.S) (Dance_R1 X.S) (by first | decide | omega) ?_
        refine wp_getIE rfl (Market_kd (Dance_s1 X.S)) (show _ = nI (sg_n t.1) from X.n) ?_
        refine wp_icmp_geN i (sg_n t.1) (by omega) (by omega) rfl (fun z => absurd z (by omega)) (fun _ => ?_)
        refine wp_iload2 rfl ?_
        refine wp_iload3 rfl ?_
        refine wp_aload0 rfl ?_
        refine wp_getR rfl (Dance_kd X.S) (Dance_R0 X.S) (by first | decide | omega) ?_
        refine wp_iload3 rfl ?_
        refine wp_callV1I rfl (Nat.le_of_ble_eq_true rfl) (Pad_kd (Dance_s0 X.S)) (Pad_signAt_ok (Dance_s0 X.S) (show i < 30 by omega)) (Nat.le_of_ble_eq_true rfl) ?_
        refine pure_ ?_
        rw [show hp_I h1 (2 + 1) i = nI (t.2.1 i) from hpd]
        refine wp_bipush rfl ?_
        refine wp_isubE (nI ((t.2.1 i) - 48)) (pk_sub (by omega)) rfl ?_
        refine wp_callS3I rfl (Nat.le_of_ble_eq_true rfl) (Maps_with_ok (fun q _ => by (try dsimp only); split; have := F.2.1 q (by omega); omega; omega) (by omega) (by omega)) (Nat.le_of_ble_eq_true rfl) ?_
        refine pure_ ?_
        refine wp_istore2 rfl rfl ?_
        refine wp_iinc3N rfl rfl ?_
        refine wp_goto rfl ?_
        have ev : va_up (fun p => if p < i then t.2.1 p - 48 else p) i (t.2.1 i - 48) = fun p => if p < i + 1 then t.2.1 p - 48 else p := funext fun p => by
          rw [vu_at]
          by_cases q : p = i
          · rw [if_pos q, if_pos (by omega), q]
          · rw [if_neg q]
            by_cases q2 : p < i
            · rw [if_pos q2, if_pos (by omega)]
            · rw [if_neg q2, if_neg (by omega)]
        rw [ev]
        exact go () h1 rfl
      · intro x h1 I
        show wq _ tb_RoundDance_figure _ 26 [some (.ref 1), some (.int (nI j)), some (.int (nI (pq_ (fun p => if p < (sg_n t.1) then t.2.1 p - 48 else p) 8))), some (.int (nI (sg_n t.1)))] [] h1 _
        obtain rfl := I
        refine wp_iload3 rfl ?_
        refine wp_aload0 rfl ?_
        refine wp_getR rfl (Dance_kd X.S) (Dance_R1 X.S) (by first | decide | omega) ?_
        refine wp_getIE rfl (Market_kd (Dance_s1 X.S)) (show _ = nI (sg_n t.1) from X.n) ?_
        refine wp_icmp_geN (sg_n t.1) (sg_n t.1) (by omega) (by omega) rfl (fun _ => ?_) (fun z => absurd z (by omega))
        refine wp_aload0 rfl ?_
        refine wp_getR rfl (Dance_kd X.S) (Dance_R1 X.S) (by first | decide | omega) ?_
        refine wp_getR rfl (Market_kd (Dance_s1 X.S)) (Market_R5 (Dance_s1 X.S)) (by first | decide | omega) ?_
        refine wp_iload1 rfl ?_
        refine wp_iload2 rfl ?_
        refine wp_callS3V rfl (Nat.le_of_ble_eq_true rfl) (Cells_putN_ok (Market_k5 (Dance_s1 X.S)) (by decide) (Market_n5 (Dance_s1 X.S)) (show j < 6 by omega) (by decide)) (Nat.le_of_ble_eq_true rfl) ?_
        intro h2 e2
        have z2 : fz_ (fun v => 4 ≤ v ∧ v ≤ 12) h1 h2 := by rw [e2]; exact fz_rI (P := fun v => 4 ≤ v ∧ v ≤ 12) (fz_refl _ _) (by decide) _
        have M2 := MK_fig (f := j) (m := pm_ t.2.1 48 (sg_n t.1)) X.M e2
        have Y2 := XS_mkt X.1 z2 M2 (sw_fig_wf X.w (fun f => by
          rw [vu_at]
          split
          · exact pm_P c30 c2
          · exact X.w.2.2.2.2.2.1 f))
        refine wp_aload0 rfl ?_
        refine wp_getR rfl (Dance_kd Y2.1) (Dance_R0 Y2.1) (by first | decide | omega) ?_
        refine wp_callV0V rfl (Nat.le_of_ble_eq_true rfl) (Pad_kd (Dance_s0 Y2.1)) (Pad_clear_ok (Dance_s0 Y2.1)) (Nat.le_of_ble_eq_true rfl) ?_
        intro h3 e3
        have z3 : fz_ (fun v => v = 2 ∨ v = 3) h2 h3 := by rw [e3]; exact fz_rI (P := fun v => v = 2 ∨ v = 3) (fz_refl _ _) (Or.inl rfl) _
        have P3 : P_is h3 2 t.2.1 0 := ⟨by rw [e3, sd_rI_eq, vu_at, if_pos rfl], Nat.zero_le _, fun i hi => absurd hi (Nat.not_lt_zero i), X.g127⟩
        refine wp_iconst rfl ?_
        exact wp_iret rfl ⟨_, rfl, rfl, DR_of X (fz_trans (fz_mono (fun v hv => by omega) z2) (fz_mono (fun v hv => by omega) z3)) (XS_pad Y2 z3 P3)⟩
    · skip
      refine wp_bipush rfl ?_
      have e : an_figure t (nI j) = (-5, t) := by unfold an_figure; rw [c1, if_pos rfl, if_neg c2]
      rw [e]
      exact wp_iret rfl ⟨_, rfl, rfl, DR_same X⟩
  · skip
    refine wp_iconst rfl ?_
    have e : an_figure t x = (-1, t) := by unfold an_figure; rw [c1]; rfl
    rw [e]
    exact wp_iret rfl ⟨_, rfl, rfl, DR_same X⟩
set_option maxRecDepth 4000 in
theorem Dance_goes_ok {h : Hp_} {t : Rt_} {k : Nat} {f p d : Int32} (X : XB_ h t k) : cI 5 mn_RoundDance_goes [.ref 1, .int f, .int p, .int d] h (fun y h' => y = an_goes t f p d ∧ DR_ h h' t (k + 1)) := by
  have n8 := X.w.1.2
  refine cq_in (q := mi_RoundDance_goes) (L := [some (.ref 1), some (.int f), some (.int p), some (.int d), none]) rfl (Nat.le_of_ble_eq_true rfl) rfl ?_
  show wq _ tb_RoundDance_goes none 0 _ _ _ _
  refine wp_iload1 rfl ?_
  refine wp_callS1I rfl (Nat.le_of_ble_eq_true rfl) (Dance_isFigure_ok) (Nat.le_of_ble_eq_true rfl) ?_
  refine pure_ ?_
  refine wp_if_eqB rfl (fun c1 => ?_) (fun c1 => ?_)
  · skip
    refine wp_iconst rfl ?_
    exact wp_iret rfl ⟨_, rfl, by unfold an_goes; rw [c1]; rfl, DR_same X⟩
  · skip
    obtain ⟨j, _, j5, jb, rfl⟩ := rg_of (a := 0) (b := 5) c1
    refine wp_aload0 rfl ?_
    refine wp_getR rfl (Dance_kd X.S) (Dance_R1 X.S) (by first | decide | omega) ?_
    refine wp_iload2 rfl ?_
    refine wp_callV1I rfl (Nat.le_of_ble_eq_true rfl) (Market_kd (Dance_s1 X.S)) (Market_has_ok (Dance_s1 X.S) X.n n8) (Nat.le_of_ble_eq_true rfl) ?_
    refine pure_ ?_
    refine wp_if_neB rfl (fun c2 => ?_) (fun c2 => ?_)
    · skip
      obtain ⟨q, hq, rfl⟩ := hs_of c2 n8
      have c2' : hs_ t.1 (nI q) = true := c2
      refine wp_iload3 rfl ?_
      refine wp_callS1I rfl (Nat.le_of_ble_eq_true rfl) (Dance_isYesOrNo_ok) (Nat.le_of_ble_eq_true rfl) ?_
      refine pure_ ?_
      refine wp_if_neB rfl (fun c3 => ?_) (fun c3 => ?_)
      · skip
        have e : an_goes t (nI j) (nI q) d = if d = 0 then nI (sg_fig t.1 j q) else nI (mv_ t.1 j q) := by unfold an_goes; rw [c1, c2', Bool.true_and, if_pos rfl, c3, if_pos rfl, nI_clamp jb, nI_clamp (by omega)]
        refine wp_iload3 rfl ?_
        refine wp_iconst rfl ?_
        refine wp_icmp_ne rfl (fun c4 => ?_) (fun c4 => ?_)
        · skip
          refine wp_aload0 rfl ?_
          refine wp_getR rfl (Dance_kd X.S) (Dance_R1 X.S) (by first | decide | omega) ?_
          refine wp_getR rfl (Market_kd (Dance_s1 X.S)) (Market_R5 (Dance_s1 X.S)) (by first | decide | omega) ?_
          refine wp_iload1 rfl ?_
          refine wp_callS2I rfl (Nat.le_of_ble_eq_true rfl) (Cells_atV_ok (Market_k5 (Dance_s1 X.S)) (by decide) (Nat.lt_of_lt_of_eq (show j < 6 by omega) (Market_n5 (Dance_s1 X.S)).symm) (by rw [Market_n5 (Dance_s1 X.S)]; decide) (X.M.2.1 j (by omega))) (Nat.le_of_ble_eq_true rfl) ?_
          refine pure_ ?_
          refine wp_istore4 rfl rfl ?_
          refine wp_iload4 rfl ?_
          refine wp_iload2 rfl ?_
          refine wp_callS2I rfl (Nat.le_of_ble_eq_true rfl) (Maps_toP_ok (sg_fig8 X.w j) (by omega)) (Nat.le_of_ble_eq_true rfl) ?_
          refine pure_ ?_
          exact wp_iret rfl ⟨_, rfl, by rw [e, if_pos ((rg_01.mp c3).elim id (fun z => absurd z c4))], DR_same X⟩
        · skip
          refine wp_aload0 rfl ?_
          refine wp_getR rfl (Dance_kd X.S) (Dance_R1 X.S) (by first | decide | omega) ?_
          refine wp_iload1 rfl ?_
          refine wp_callV1I rfl (Nat.le_of_ble_eq_true rfl) (Market_kd (Dance_s1 X.S)) (Market_danced_ok (Dance_s1 X.S) X.M X.w (show j < 6 by omega)) (Nat.le_of_ble_eq_true rfl) ?_
          refine pure_ ?_
          refine wp_goto rfl ?_
          refine wp_istore4 rfl rfl ?_
          refine wp_iload4 rfl ?_
          refine wp_iload2 rfl ?_
          refine wp_callS2I rfl (Nat.le_of_ble_eq_true rfl) (Maps_toP_ok (mv8 X.w j) (by omega)) (Nat.le_of_ble_eq_true rfl) ?_
          refine pure_ ?_
          exact wp_iret rfl ⟨_, rfl, by rw [e, if_neg (by rw [Classical.not_not.mp c4]; decide)], DR_same X⟩
      · skip
        refine wp_bipush rfl ?_
        exact wp_iret rfl ⟨_, rfl, by unfold an_goes; rw [c1, c2', Bool.true_and, if_pos rfl, c3]; rfl, DR_same X⟩
    · skip
      refine wp_iconst rfl ?_
      exact wp_iret rfl ⟨_, rfl, by unfold an_goes; rw [c1, show hs_ t.1 p = false from c2]; rfl, DR_same X⟩
