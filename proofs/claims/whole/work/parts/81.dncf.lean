-- ===== the class: standings, canBe, sure, forced, night =====
/-- the moves and the table have changed -/
theorem XB_grp {h h1 : Hp_} {t : Rt_} {k : Nat} {P : Nat → Prop} (X : XB_ h t k) (z : fz_ P h h1) (hP : ∀ v, P v → 31 ≤ v ∧ v ≤ 34) : XB_ h1 t k := ⟨XS_fz X.1 z (fun v hv hp => by have := hP v hp; omega), CX_fz X.2 z (fun v hv => by have := hP v hv; omega)⟩
theorem Dance_standings_ok {h : Hp_} {t : Rt_} {k : Nat} (X : XB_ h t k) : cI 7 mn_RoundDance_standings [.ref 1] h (fun y h' => an_standings_ t y ∧ DR_ h h' t (k + 1)) := by
  refine cq_in (q := mi_RoundDance_standings) (L := [some (.ref 1)]) rfl (Nat.le_of_ble_eq_true rfl) rfl ?_
  show wq _ tb_RoundDance_standings none 0 _ _ _ _
  refine wp_aload0 rfl ?_
  refine wp_getR rfl (Dance_kd X.S) (Dance_R1 X.S) (by first | decide | omega) ?_
  refine wp_aload0 rfl ?_
  refine wp_getR rfl (Dance_kd X.S) (Dance_R5 X.S) (by first | decide | omega) ?_
  refine wp_callV1V rfl (Nat.le_of_ble_eq_true rfl) (Market_kd (Dance_s1 X.S)) (Market_fillMoves_ok (Dance_s1 X.S) X.M X.w (Dance_k5 X.S) (Dance_n5 X.S) (by decide) (by decide)) (Nat.le_of_ble_eq_true rfl) ?_
  intro h1 e1
  obtain ⟨X1, z1, r1⟩ := Dance_fill X e1
  refine wp_aload0 rfl ?_
  refine wp_getR rfl (Dance_kd X1.S) (Dance_R6 X1.S) (by first | decide | omega) ?_
  refine wp_aload0 rfl ?_
  refine wp_getR rfl (Dance_kd X1.S) (Dance_R5 X1.S) (by first | decide | omega) ?_
  refine wp_callV1V rfl (Nat.le_of_ble_eq_true rfl) (Group_kd (Dance_s6 X1.S)) (Group_gather_ok (Dance_s6 X1.S) X1.w (Dance_k5 X1.S) (Dance_n5 X1.S) (by decide) (by decide) r1) (Nat.le_of_ble_eq_true rfl) ?_
  rintro h2 ⟨T, hT, hG, hSS, f2⟩
  have z2 := fz_fr f2
  have X2 := XB_grp X1 z2 (fun v hv => by omega)
  have D2 : DR_ h h2 t (k + 1) := DR_of X (fz_trans (fz_mono (fun v hv => by omega) z1) (fz_mono (fun v hv => by omega) z2)) X2.1
  refine wp_aload0 rfl ?_
  refine wp_getR rfl (Dance_kd X2.S) (Dance_R6 X2.S) (by first | decide | omega) ?_
  refine wp_callV0I rfl (Nat.le_of_ble_eq_true rfl) (Group_kd (Dance_s6 X2.S)) (Group_members_ok (Dance_s6 X2.S) hT hG) (Nat.le_of_ble_eq_true rfl) ?_
  refine pure_ ?_
  exact wp_iret rfl ⟨_, rfl, ⟨_, ⟨LL_ T 8, LL_nodup hT 8 (Nat.le_refl 8), fun m => (LL_mem hT 8 m).trans (hSS m), (LL_len8 T).symm⟩, rfl⟩, D2⟩
/-- where goods are by the first i letters -/
def tk_ (w : Nat → Nat) (i : Nat) : Nat → Nat := fun g => if in_ w g < i then in_ w g else g
theorem tk_next {w : Nat → Nat} {i : Nat} (hw : IsP 8 w) : va_up (tk_ w i) (w i) i = tk_ w (i + 1) := funext fun g => by
  rw [vu_at]
  unfold tk_
  by_cases z : g = w i
  · rw [if_pos z, z, in_left hw, if_pos (Nat.lt_succ_self i)]
  · rw [if_neg z]
    have hne : in_ w g ≠ i := fun y => z (by rw [← y, in_right hw])
    by_cases q : in_ w g < i
    · rw [if_pos q, if_pos (by omega)]
    · rw [if_neg q, if_neg (by omega)]
theorem tk_all {w : Nat → Nat} {n : Nat} (hn : n ≤ 8) (hw : IsP n w) : tk_ w n = in_ w := funext fun g => by
  unfold tk_
  by_cases q : in_ w g < n
  · rw [if_pos q]
  · rw [if_neg q]
    have P := in_Pn hn hw
    rcases Nat.lt_or_ge g n with z | z
    · exact absurd (P.1 g z) q
    · rw [P.2.2 g z]
set_option maxRecDepth 4000 in
theorem Dance_canBe_ok {h : Hp_} {t : Rt_} {k : Nat} (X : XB_ h t k) : cI 8 mn_RoundDance_canBe [.ref 1] h (fun y h' => an_canBe_ t y ∧ DR_ h h' t (k + 1)) := by
  have n8 := X.w.1.2
  have c30 := X.c30
  refine cq_in (q := mi_RoundDance_canBe) (L := [some (.ref 1), none, none]) rfl (Nat.le_of_ble_eq_true rfl) rfl ?_
  show wq _ tb_RoundDance_canBe none 0 _ _ _ _
  refine wp_aload0 rfl ?_
  refine wp_callV0I rfl (Nat.le_of_ble_eq_true rfl) (Dance_kd X.S) (Dance_standingFault_ok X) (Nat.le_of_ble_eq_true rfl) ?_
  refine pure_ ?_
  refine wp_bipush rfl ?_
  refine wp_icmp_eq rfl (fun c1 => ?_) (fun c1 => ?_)
  · skip
    have F := fo_none c30 c1
    have WP := pm_P c30 c1
    have W8 := WP.mono n8
    have e : ∀ y, an_canBe_ t y = ∃ b, CB_ t.1 (pm_ t.2.1 97 (sg_n t.1)) b ∧ y = bo_ b := fun y => by unfold an_canBe_; rw [if_pos c1]
    refine wp_ldc rfl ?_
    refine wp_istore1 rfl rfl ?_
    refine wp_iconst rfl ?_
    refine wp_istore2 rfl rfl ?_
    refine wq_loc (L' := [some (.ref 1), some (.int (nI (pq_ (tk_ (pm_ t.2.1 97 (sg_n t.1)) 0) 8))), some (.int (nI 0))]) (by rw [show tk_ (pm_ t.2.1 97 (sg_n t.1)) 0 = fun p => p from funext fun p => if_neg (Nat.not_lt_zero _), ← stays_]) ?_
    refine wq_loop (X := Unit) (fun i x => [some (.ref 1), some (.int (nI (pq_ (tk_ (pm_ t.2.1 97 (sg_n t.1)) i) 8))), some (.int (nI i))]) (fun i x h1 => h1 = h) (sg_n t.1) (0) (()) ?_ ?_ ?_ ?_
    · omega
    · rfl
    · intro i x h1 hi I go
      show wq _ tb_RoundDance_canBe _ 17 [some (.ref 1), some (.int (nI (pq_ (tk_ (pm_ t.2.1 97 (sg_n t.1)) i) 8))), some (.int (nI i))] [] h1 _
      obtain rfl := I
      have hin : i < sg_n t.1 := hi
      have g1 := F.2.1 i (by omega)
      have hpd := X.pad (show i < t.2.2.1 by omega)
      have ew : pm_ t.2.1 97 (sg_n t.1) i = t.2.1 i - 97 := if_pos hin
      refine wp_iload2 rfl ?_
      refine wp_aload0 rfl ?_
      refine wp_getR rfl (Dance_kd X.S) (Dance_R1 X.S) (by first | decide | omega) ?_
      refine wp_getIE rfl (Market_kd (Dance_s1 X.S)) (show _ = nI (sg_n t.1) from X.n) ?_
      refine wp_icmp_geN i (sg_n t.1) (by omega) (by omega) rfl (fun z => absurd z (by omega)) (fun _ => ?_)
      refine wp_iload1 rfl ?_
      refine wp_aload0 rfl ?_
      refine wp_getR rfl (Dance_kd X.S) (Dance_R0 X.S) (by first | decide | omega) ?_
      refine wp_iload2 rfl ?_
      refine wp_callV1I rfl (Nat.le_of_ble_eq_true rfl) (Pad_kd (Dance_s0 X.S)) (Pad_signAt_ok (Dance_s0 X.S) (show i < 30 by omega)) (Nat.le_of_ble_eq_true rfl) ?_
      refine pure_ ?_
      rw [show hp_I h1 (2 + 1) i = nI (t.2.1 i) from hpd]
      refine wp_bipush rfl ?_
      refine wp_isubE (nI ((t.2.1 i) - 97)) (pk_sub (by omega)) rfl ?_
      refine wp_iload2 rfl ?_
      refine wp_callS3I rfl (Nat.le_of_ble_eq_true rfl) (Maps_with_ok (fun q hq => by unfold tk_; split; omega; omega) (by omega) (by omega)) (Nat.le_of_ble_eq_true rfl) ?_
      refine pure_ ?_
      refine wp_istore1 rfl rfl ?_
      refine wp_iinc2N rfl rfl ?_
      refine wp_goto rfl ?_
      rw [← ew, tk_next W8]
      exact go () h1 rfl
    · intro x h1 I
      show wq _ tb_RoundDance_canBe _ 17 [some (.ref 1), some (.int (nI (pq_ (tk_ (pm_ t.2.1 97 (sg_n t.1)) (sg_n t.1)) 8))), some (.int (nI (sg_n t.1)))] [] h1 _
      obtain rfl := I
      rw [tk_all n8 WP]
      refine wp_iload2 rfl ?_
      refine wp_aload0 rfl ?_
      refine wp_getR rfl (Dance_kd X.S) (Dance_R1 X.S) (by first | decide | omega) ?_
      refine wp_getIE rfl (Market_kd (Dance_s1 X.S)) (show _ = nI (sg_n t.1) from X.n) ?_
      refine wp_icmp_geN (sg_n t.1) (sg_n t.1) (by omega) (by omega) rfl (fun _ => ?_) (fun z => absurd z (by omega))
      refine wp_aload0 rfl ?_
      refine wp_getR rfl (Dance_kd X.S) (Dance_R1 X.S) (by first | decide | omega) ?_
      refine wp_aload0 rfl ?_
      refine wp_getR rfl (Dance_kd X.S) (Dance_R5 X.S) (by first | decide | omega) ?_
      refine wp_callV1V rfl (Nat.le_of_ble_eq_true rfl) (Market_kd (Dance_s1 X.S)) (Market_fillMoves_ok (Dance_s1 X.S) X.M X.w (Dance_k5 X.S) (Dance_n5 X.S) (by decide) (by decide)) (Nat.le_of_ble_eq_true rfl) ?_
      intro h2 e1
      obtain ⟨X1, z1, r1⟩ := Dance_fill X e1
      refine wp_aload0 rfl ?_
      refine wp_getR rfl (Dance_kd X1.S) (Dance_R6 X1.S) (by first | decide | omega) ?_
      refine wp_aload0 rfl ?_
      refine wp_getR rfl (Dance_kd X1.S) (Dance_R5 X1.S) (by first | decide | omega) ?_
      refine wp_callV1V rfl (Nat.le_of_ble_eq_true rfl) (Group_kd (Dance_s6 X1.S)) (Group_gather_ok (Dance_s6 X1.S) X1.w (Dance_k5 X1.S) (Dance_n5 X1.S) (by decide) (by decide) r1) (Nat.le_of_ble_eq_true rfl) ?_
      rintro h3 ⟨T, hT, hG, hSS, f2⟩
      have z2 := fz_fr f2
      have X2 := XB_grp X1 z2 (fun v hv => by omega)
      have D2 : DR_ h1 h3 t (k + 1) := DR_of X (fz_trans (fz_mono (fun v hv => by omega) z1) (fz_mono (fun v hv => by omega) z2)) X2.1
      have P8 := X.w.2.1.mono n8
      have U8 : IsP 8 (fun p => in_ (pm_ t.2.1 97 (sg_n t.1)) (in_ (sg_pos t.1) p)) := (in_P P8).then (in_P W8)
      obtain ⟨b, hb⟩ : ∃ b : Bool, b = true ↔ GG_ (mv_ t.1) (may_ t.1) (fun p => in_ (pm_ t.2.1 97 (sg_n t.1)) (in_ (sg_pos t.1) p)) := by
        by_cases z : GG_ (mv_ t.1) (may_ t.1) (fun p => in_ (pm_ t.2.1 97 (sg_n t.1)) (in_ (sg_pos t.1) p))
        · exact ⟨true, fun _ => z, fun _ => rfl⟩
        · exact ⟨false, fun y => (by cases y), fun y => absurd y z⟩
      refine wp_aload0 rfl ?_
      refine wp_getR rfl (Dance_kd X2.S) (Dance_R6 X2.S) (by first | decide | omega) ?_
      refine wp_aload0 rfl ?_
      refine wp_getR rfl (Dance_kd X2.S) (Dance_R1 X2.S) (by first | decide | omega) ?_
      refine wp_getIE rfl (Market_kd (Dance_s1 X2.S)) (show _ = nI (pq_ (sg_pos t.1) 8) from X2.pos) ?_
      refine wp_callS1I rfl (Nat.le_of_ble_eq_true rfl) (Maps_undone_ok (sg_pos8 X.w) (fun i hi => (in_P P8).1 i hi) (fun i _ => in_left P8 i) (fun i _ => in_right P8 i)) (Nat.le_of_ble_eq_true rfl) ?_
      refine pure_ ?_
      refine wp_iload1 rfl ?_
      refine wp_callS2I rfl (Nat.le_of_ble_eq_true rfl) (Maps_then_ok (fun i hi => (in_P P8).1 i hi) (fun i hi => (in_P W8).1 i hi)) (Nat.le_of_ble_eq_true rfl) ?_
      refine pure_ ?_
      refine wp_callV1I rfl (Nat.le_of_ble_eq_true rfl) (Group_kd (Dance_s6 X2.S)) (Group_has_ok (b := b) (Dance_s6 X2.S) hT hG U8 (hb.trans (hSS _).symm)) (Nat.le_of_ble_eq_true rfl) ?_
      refine pure_ ?_
      refine wp_if_eqB rfl (fun c5 => ?_) (fun c5 => ?_)
      · skip
        refine wp_iconst rfl ?_
        exact wp_iret rfl ⟨_, rfl, by rw [e]; exact ⟨b, hb, by rw [c5]; rfl⟩, D2⟩
      · skip
        refine wp_iconst rfl ?_
        refine wp_goto rfl ?_
        exact wp_iret rfl ⟨_, rfl, by rw [e]; exact ⟨b, hb, by rw [c5]; rfl⟩, D2⟩
  · skip
    refine wp_bipush rfl ?_
    exact wp_iret rfl ⟨_, rfl, by unfold an_canBe_; rw [if_neg c1], DR_same X⟩
/-- where some figures that may be take what is at p: bits -/
def NX_ (s : Sg_) (F p N : Nat) : Prop := N < 256 ∧ ∀ q, N.testBit q = true ↔ (∃ f, f < 6 ∧ (may_ s f = true ∧ F.testBit f = true) ∧ mv_ s f p = q) ∨ ((∀ f, f < 6 → ¬ (may_ s f = true ∧ F.testBit f = true)) ∧ q = p)
theorem or_bt {A q j : Nat} : (A ||| 2 ^ q).testBit j = true ↔ A.testBit j = true ∨ q = j := by
  rw [Nat.testBit_or, Bool.or_eq_true, Nat.testBit_two_pow, decide_eq_true_iff]
set_option maxRecDepth 4000 in
theorem Dance_nextPlaces_ok {h : Hp_} {t : Rt_} {k F p : Nat} (X : XB_ h t k) (hr : ∀ f, f < 6 → hp_I h 31 f = ms_ t.1 f) (hF : F < 2 ^ 32) (hp : p < 8) : cI 2 mn_RoundDance_nextPlaces [.ref 1, .int (nI p), .int (nI F)] h (fun y h' => (∃ N, y = nI N ∧ NX_ t.1 F p N) ∧ h' = h) := by
  have k5 := Dance_k5 X.S
  have n5 := Dance_n5 X.S
  refine cq_in (q := mi_RoundDance_nextPlaces) (L := [some (.ref 1), some (.int (nI p)), some (.int (nI F)), none, none, none]) rfl (Nat.le_of_ble_eq_true rfl) rfl ?_
  show wq _ tb_RoundDance_nextPlaces none 0 _ _ _ _
  refine wq_genQ (fun Q eQ => ?_)
  refine wp_iconst rfl ?_
  refine wp_istore3 rfl rfl ?_
  refine wp_iconst rfl ?_
  refine wp_istore4 rfl rfl ?_
  refine wq_loop (X := Nat × Option Value) (fun f x => [some (.ref 1), some (.int (nI p)), some (.int (nI F)), some (.int (nI x.1)), some (.int (nI f)), x.2]) (fun f x h1 => h1 = h ∧ x.1 < 256 ∧ ∀ q, x.1.testBit q = true ↔ ∃ g, g < f ∧ (may_ t.1 g = true ∧ F.testBit g = true) ∧ mv_ t.1 g p = q) (6) (0) ((0, none)) ?_ ?_ ?_ ?_
  · omega
  · exact ⟨rfl, by decide, fun q => ⟨fun z => (by rw [Nat.zero_testBit] at z; cases z), fun ⟨g, z, _⟩ => absurd z (Nat.not_lt_zero g)⟩⟩
  · intro f x h1 hi I go
    show wq _ tb_RoundDance_nextPlaces _ 5 [some (.ref 1), some (.int (nI p)), some (.int (nI F)), some (.int (nI x.1)), some (.int (nI f)), x.2] [] h1 _
    obtain ⟨A, v⟩ := x
    obtain ⟨e1, A1, I1⟩ := I
    subst e1
    have A1' : A < 256 := A1
    have I1' : ∀ q, A.testBit q = true ↔ ∃ g, g < f ∧ (may_ t.1 g = true ∧ F.testBit g = true) ∧ mv_ t.1 g p = q := I1
    have hf : f < 6 := hi
    have no : ¬ (may_ t.1 f = true ∧ F.testBit f = true) → ∀ v, wq 1 tb_RoundDance_nextPlaces none 49 [some (.ref 1), some (.int (nI p)), some (.int (nI F)), some (.int (nI A)), some (.int (nI f)), v] [] h1 Q := by
      intro hn v
      refine wp_iinc4N rfl rfl ?_
      refine wp_goto rfl ?_
      refine go (A, v) h1 ⟨rfl, A1', fun q => (I1' q).trans ⟨fun ⟨g, g1, g2⟩ => ⟨g, by omega, g2⟩, fun ⟨g, g1, g2, g3⟩ => ?_⟩⟩
      rcases Nat.lt_or_ge g f with z | z
      · exact ⟨g, z, g2, g3⟩
      · obtain rfl : g = f := by omega
        exact absurd g2 hn
    show wq 1 tb_RoundDance_nextPlaces none 5 [some (.ref 1), some (.int (nI p)), some (.int (nI F)), some (.int (nI A)), some (.int (nI f)), v] [] h1 Q
    refine wp_iload4 rfl ?_
    refine wp_bipush rfl ?_
    refine wp_icmp_geN f 6 (by omega) (by omega) rfl (fun z => absurd z (by omega)) (fun _ => ?_)
    refine wp_aload0 rfl ?_
    refine wp_getR rfl (Dance_kd X.S) (Dance_R5 X.S) (by first | decide | omega) ?_
    refine wp_iload4 rfl ?_
    refine wp_callS2I rfl (Nat.le_of_ble_eq_true rfl) (Cells_atV_ok k5 (by decide) (show f < hp_ln h1 31 by omega) (by omega) (hr f hf)) (Nat.le_of_ble_eq_true rfl) ?_
    refine pure_ ?_
    cases hmf : may_ t.1 f with
    | false =>
      rw [show ms_ t.1 f = -1 from (ms_may X.w f).mpr hmf]
      refine wp_istore5 rfl rfl ?_
      refine wp_iload5 rfl ?_
      refine wp_iconst rfl ?_
      refine wp_icmp_eq rfl (fun _ => ?_) (fun z => absurd z (fun y => y rfl))
      exact no (fun z => by rw [hmf] at z; cases z.1) _
    | true =>
      rw [show ms_ t.1 f = nI (pq_ (mv_ t.1 f) 8) by unfold ms_; rw [hmf, if_pos rfl]]
      have l24 := pq_lt24 (mv8 X.w f)
      have hm8 := mv8 X.w f p hp
      refine wp_istore5 rfl rfl ?_
      refine wp_iload5 rfl ?_
      refine wp_iconst rfl ?_
      refine wp_icmp_eq rfl (fun z => absurd z (fun z => nI_ne_m1 (by omega) z)) (fun _ => ?_)
      refine wp_iload2 rfl ?_
      refine wp_iload4 rfl ?_
      refine wp_callS2I rfl (Nat.le_of_ble_eq_true rfl) (Cells_isIn_ok hF (by omega)) (Nat.le_of_ble_eq_true rfl) ?_
      refine pure_ ?_
      refine wp_if_eqB rfl (fun c1 => ?_) (fun c1 => ?_)
      · exact no (fun z => by rw [z.2] at c1; cases c1) _
      · skip
        refine wp_iload3 rfl ?_
        refine wp_iconst rfl ?_
        refine wp_iload5 rfl ?_
        refine wp_iload1 rfl ?_
        refine wp_callS2I rfl (Nat.le_of_ble_eq_true rfl) (Maps_toP_ok (mv8 X.w f) hp) (Nat.le_of_ble_eq_true rfl) ?_
        refine pure_ ?_
        refine wp_ishlE (nI (2 ^ (mv_ t.1 f p))) (nn_shl1 _ (by omega)) rfl ?_
        refine wp_iorE (nI (A ||| (2 ^ (mv_ t.1 f p)))) (nn_or _ _) rfl ?_
        refine wp_istore3 rfl rfl ?_
        refine wp_iinc4N rfl rfl ?_
        refine wp_goto rfl ?_
        refine go (A ||| 2 ^ mv_ t.1 f p, _) h1 ⟨rfl, Nat.or_lt_two_pow (n := 8) A1' (Nat.pow_lt_pow_right (by decide) hm8), fun q => or_bt.trans ?_⟩
        rw [I1' q]
        constructor
        · rintro (⟨g, g1, g2⟩ | z)
          · exact ⟨g, by omega, g2⟩
          · exact ⟨f, Nat.lt_succ_self f, ⟨hmf, c1⟩, z⟩
        · rintro ⟨g, g1, g2, g3⟩
          rcases Nat.lt_or_ge g f with z | z
          · exact Or.inl ⟨g, z, g2, g3⟩
          · obtain rfl : g = f := by omega
            exact Or.inr g3
  · intro x h1 I
    show wq _ tb_RoundDance_nextPlaces _ 5 [some (.ref 1), some (.int (nI p)), some (.int (nI F)), some (.int (nI x.1)), some (.int (nI 6)), x.2] [] h1 _
    obtain ⟨A, v⟩ := x
    obtain ⟨e1, A1, I1⟩ := I
    subst e1
    have A1' : A < 256 := A1
    have I1' : ∀ q, A.testBit q = true ↔ ∃ g, g < 6 ∧ (may_ t.1 g = true ∧ F.testBit g = true) ∧ mv_ t.1 g p = q := I1
    show wq 1 tb_RoundDance_nextPlaces none 5 [some (.ref 1), some (.int (nI p)), some (.int (nI F)), some (.int (nI A)), some (.int (nI 6)), v] [] h1 Q
    refine wp_iload4 rfl ?_
    refine wp_bipush rfl ?_
    refine wp_icmp_geN 6 6 (by omega) (by omega) rfl (fun _ => ?_) (fun z => absurd z (by omega))
    refine wp_iload3 rfl ?_
    refine wp_if_neN A 0 (by omega) (by decide) rfl (fun c2 => ?_) (fun c2 => ?_)
    · skip
      refine wp_iload3 rfl ?_
      have hex : ∃ f, f < 6 ∧ may_ t.1 f = true ∧ F.testBit f = true := by
        refine Classical.byContradiction fun z => c2 (Nat.eq_of_testBit_eq fun i => ?_)
        rw [Nat.zero_testBit]
        cases q : A.testBit i with
        | false => rfl
        | true =>
          obtain ⟨g, g1, g2, _⟩ := (I1' i).mp q
          exact absurd ⟨g, g1, g2⟩ z
      exact wp_iret rfl (by rw [eQ]; exact ⟨_, rfl, ⟨A, rfl, A1', fun q => (I1' q).trans ⟨fun z => Or.inl z, fun z => z.elim id (fun y => by obtain ⟨f, f1, f2⟩ := hex; exact absurd f2 (y.1 f f1))⟩⟩, rfl⟩)
    · skip
      refine wp_iconst rfl ?_
      refine wp_iload1 rfl ?_
      refine wp_ishlE (nI (2 ^ p)) (nn_shl1 _ (by omega)) rfl ?_
      refine wp_goto rfl ?_
      have hno : ∀ f, f < 6 → ¬ (may_ t.1 f = true ∧ F.testBit f = true) := fun f hf z => by
        have := (I1' (mv_ t.1 f p)).mpr ⟨f, hf, z, rfl⟩
        rw [c2, Nat.zero_testBit] at this
        cases this
      exact wp_iret rfl (by rw [eQ]; exact ⟨_, rfl, ⟨2 ^ p, rfl, Nat.pow_lt_pow_right (n := 8) (by decide) hp, fun q => by rw [Nat.testBit_two_pow, decide_eq_true_iff]; exact ⟨fun z => Or.inr ⟨hno, z.symm⟩, fun z => z.elim (fun ⟨f, f1, f2, _⟩ => absurd f2 (hno f f1)) (fun y => y.2.symm)⟩⟩, rfl⟩)
