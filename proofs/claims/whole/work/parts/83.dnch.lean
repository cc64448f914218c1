-- ===== the class: forced, night =====
theorem gt_ge {b : Nat} {x : Int32} (hb : b + 1 < 2 ^ 31) (h : nI b < x) : nI (b + 1) ≤ x := by
  rw [Int32.lt_iff_toInt_lt, nI_toInt (by omega)] at h
  rw [Int32.le_iff_toInt_le, nI_toInt hb]
  omega
theorem nle_ {a b : Nat} (ha : a < 2 ^ 31) (hb : b < 2 ^ 31) (h : ¬ nI b < nI a) : a ≤ b := by
  rw [Int32.lt_iff_toInt_lt, nI_toInt ha, nI_toInt hb] at h
  omega
/-- places won within c calls -/
def WB_ (s : Sg_) (a c t A : Nat) : Prop := PB_ (sg_n s) (WN_ s a c t) A
theorem WB_0 {s : Sg_} {a t : Nat} (w : sg_wf s) (ha : a < sg_n s) : WB_ s a 0 t (2 ^ a) := by
  have n8 := w.1.2
  refine ⟨Nat.pow_lt_pow_right (n := 8) (by decide) (by omega), fun q => ?_⟩
  rw [Nat.testBit_two_pow, decide_eq_true_iff]
  constructor
  · intro z
    rw [← z]
    exact ⟨ha, rfl⟩
  · rintro ⟨_, z⟩
    exact (show q = a from z).symm
theorem WB_some {s : Sg_} {a c A W : Nat} (w : sg_wf s) (ha : a < sg_n s) (H : WB_ s a c 1 W) (B : PB_ (sg_n s) (fun p => ∃ q, nx_ s 0 p q ∧ W.testBit q = true) A) : WB_ s a (c + 1) 0 (2 ^ a ||| A) := by
  have n8 := w.1.2
  refine ⟨Nat.or_lt_two_pow (n := 8) (Nat.pow_lt_pow_right (by decide) (by omega)) B.1, fun q => ?_⟩
  rw [Nat.testBit_or, Bool.or_eq_true, Nat.testBit_two_pow, decide_eq_true_iff, B.2 q]
  constructor
  · rintro (z | ⟨z, q2, y1, y2⟩)
    · rw [← z]; exact ⟨ha, Or.inl rfl⟩
    · exact ⟨z, Or.inr (Or.inl ⟨rfl, q2, y1, ((H.2 q2).mp y2).2⟩)⟩
  · rintro ⟨z, y⟩
    rcases y with y | ⟨_, q2, y1, y2⟩ | ⟨y, _⟩
    · exact Or.inl y.symm
    · exact Or.inr ⟨z, q2, y1, (H.2 q2).mpr ⟨nx_lt w z y1, y2⟩⟩
    · cases y
theorem WB_all {s : Sg_} {a c A W : Nat} (w : sg_wf s) (ha : a < sg_n s) (H : WB_ s a c 0 W) (B : PB_ (sg_n s) (fun p => ∀ q, nx_ s 1 p q → W.testBit q = true) A) : WB_ s a (c + 1) 1 (2 ^ a ||| A) := by
  have n8 := w.1.2
  refine ⟨Nat.or_lt_two_pow (n := 8) (Nat.pow_lt_pow_right (by decide) (by omega)) B.1, fun q => ?_⟩
  rw [Nat.testBit_or, Bool.or_eq_true, Nat.testBit_two_pow, decide_eq_true_iff, B.2 q]
  constructor
  · rintro (z | ⟨z, y⟩)
    · rw [← z]; exact ⟨ha, Or.inl rfl⟩
    · exact ⟨z, Or.inr (Or.inr ⟨rfl, fun q2 y1 => ((H.2 q2).mp (y q2 y1)).2⟩)⟩
  · rintro ⟨z, y⟩
    rcases y with y | ⟨y, _⟩ | ⟨_, y⟩
    · exact Or.inl y.symm
    · cases y
    · exact Or.inr ⟨z, fun q2 y1 => (H.2 q2).mpr ⟨nx_lt w z y1, y q2 y1⟩⟩
set_option maxRecDepth 4000 in
theorem Dance_forced_ok {h : Hp_} {t : Rt_} {k : Nat} {g p : Int32} (X : XB_ h t k) : cI 6 mn_RoundDance_forced [.ref 1, .int g, .int p] h (fun y h' => an_forced_ t g p y ∧ DR_ h h' t (k + 1)) := by
  have n8 := X.w.1.2
  refine cq_in (q := mi_RoundDance_forced) (L := [some (.ref 1), some (.int g), some (.int p), none, none, none, none, none]) rfl (Nat.le_of_ble_eq_true rfl) rfl ?_
  show wq _ tb_RoundDance_forced none 0 _ _ _ _
  refine wp_aload0 rfl ?_
  refine wp_getR rfl (Dance_kd X.S) (Dance_R1 X.S) (by first | decide | omega) ?_
  refine wp_iload1 rfl ?_
  refine wp_callV1I rfl (Nat.le_of_ble_eq_true rfl) (Market_kd (Dance_s1 X.S)) (Market_has_ok (Dance_s1 X.S) X.n n8) (Nat.le_of_ble_eq_true rfl) ?_
  refine pure_ ?_
  refine wp_if_eqB rfl (fun c1 => ?_) (fun c1 => ?_)
  · skip
    refine wp_iconst rfl ?_
    exact wp_iret rfl ⟨_, rfl, by unfold an_forced_; rw [show hs_ t.1 g = false from c1]; exact rfl, DR_same X⟩
  · skip
    obtain ⟨j, hj, rfl⟩ := hs_of c1 n8
    have c1' : hs_ t.1 (nI j) = true := c1
    refine wp_aload0 rfl ?_
    refine wp_getR rfl (Dance_kd X.S) (Dance_R1 X.S) (by first | decide | omega) ?_
    refine wp_iload2 rfl ?_
    refine wp_callV1I rfl (Nat.le_of_ble_eq_true rfl) (Market_kd (Dance_s1 X.S)) (Market_has_ok (Dance_s1 X.S) X.n n8) (Nat.le_of_ble_eq_true rfl) ?_
    refine pure_ ?_
    refine wp_if_neB rfl (fun c2 => ?_) (fun c2 => ?_)
    · skip
      obtain ⟨a, ha, rfl⟩ := hs_of c2 n8
      have c2' : hs_ t.1 (nI a) = true := c2
      have e : ∀ y, an_forced_ t (nI j) (nI a) y = ∃ o, FO_ t.1 a (sg_pos t.1 j) o ∧ y = vo_ o := fun y => by unfold an_forced_; rw [c1', c2', Bool.true_and, if_pos rfl, nI_clamp (by omega), nI_clamp (by omega)]
      have hpj := X.w.2.1.1 j hj
      refine wp_aload0 rfl ?_
      refine wp_getR rfl (Dance_kd X.S) (Dance_R1 X.S) (by first | decide | omega) ?_
      refine wp_aload0 rfl ?_
      refine wp_getR rfl (Dance_kd X.S) (Dance_R5 X.S) (by first | decide | omega) ?_
      refine wp_callV1V rfl (Nat.le_of_ble_eq_true rfl) (Market_kd (Dance_s1 X.S)) (Market_fillMoves_ok (Dance_s1 X.S) X.M X.w (Dance_k5 X.S) (Dance_n5 X.S) (by decide) (by decide)) (Nat.le_of_ble_eq_true rfl) ?_
      intro h1 e1
      obtain ⟨X1, z1, r1⟩ := Dance_fill X e1
      have D1 : DR_ h h1 t (k + 1) := DR_of X (fz_mono (fun v hv => by omega) z1) X1.1
      have n2 := Market_n8 (Dance_s1 X1.S)
      refine wp_iconst rfl ?_
      refine wp_iload2 rfl ?_
      refine wp_ishlE (nI (2 ^ a)) (nn_shl1 _ (by omega)) rfl ?_
      refine wp_istore3 rfl rfl ?_
      refine wp_iload3 rfl ?_
      refine wp_istore4 rfl rfl ?_
      refine wp_iload3 rfl ?_
      refine wp_istore5 rfl rfl ?_
      refine wp_iconst rfl ?_
      refine wp_istore6 rfl rfl ?_
      refine wq_loop (X := (Nat × Nat) × Option Value) (fun c x => [some (.ref 1), some (.int (nI j)), some (.int (nI a)), some (.int (nI (2 ^ a))), some (.int (nI x.1.1)), some (.int (nI x.1.2)), some (.int (nI c)), x.2]) (fun c x h2 => h2 = h1 ∧ WB_ t.1 a c 0 x.1.1 ∧ WB_ t.1 a c 1 x.1.2 ∧ ∀ d, d < c → ¬ WN_ t.1 a d 0 (sg_pos t.1 j)) (17) (0) (((2 ^ a, 2 ^ a), none)) ?_ ?_ ?_ ?_
      · omega
      · exact ⟨rfl, WB_0 X.w ha, WB_0 X.w ha, fun d hd => absurd hd (Nat.not_lt_zero d)⟩
      · intro c x h2 hi I go
        show wq _ tb_RoundDance_forced _ 48 [some (.ref 1), some (.int (nI j)), some (.int (nI a)), some (.int (nI (2 ^ a))), some (.int (nI x.1.1)), some (.int (nI x.1.2)), some (.int (nI c)), x.2] [] h2 _
        obtain ⟨⟨U, V⟩, v7⟩ := x
        obtain ⟨e2, I1, I2, I3⟩ := I
        subst e2
        have I1' : WB_ t.1 a c 0 U := I1
        have I2' : WB_ t.1 a c 1 V := I2
        have u8 := I1'.1
        have v8 := I2'.1
        show wq 5 tb_RoundDance_forced none 48 [some (.ref 1), some (.int (nI j)), some (.int (nI a)), some (.int (nI (2 ^ a))), some (.int (nI U)), some (.int (nI V)), some (.int (nI c)), v7] [] h2 _
        refine wp_iload6 rfl ?_
        refine wp_bipush rfl ?_
        refine wp_icmp_gtN c 16 (by omega) (by omega) rfl (fun z => absurd z (by omega)) (fun _ => ?_)
        refine wp_iload4 rfl ?_
        refine wp_aload0 rfl ?_
        refine wp_getR rfl (Dance_kd X1.S) (Dance_R1 X1.S) (by first | decide | omega) ?_
        refine wp_iload1 rfl ?_
        refine wp_callV1I rfl (Nat.le_of_ble_eq_true rfl) (Market_kd (Dance_s1 X1.S)) (Market_placeOf_ok (Dance_s1 X1.S) (sg_pos8 X.w) X1.pos (by omega)) (Nat.le_of_ble_eq_true rfl) ?_
        refine pure_ ?_
        refine wp_callS2I rfl (Nat.le_of_ble_eq_true rfl) (Cells_isIn_ok (show U < 2 ^ 32 by omega) (by omega)) (Nat.le_of_ble_eq_true rfl) ?_
        refine pure_ ?_
        refine wp_if_eqB rfl (fun c3 => ?_) (fun c3 => ?_)
        · skip
          refine wp_iload3 rfl ?_
          refine wp_aload0 rfl ?_
          refine wp_aload0 rfl ?_
          refine wp_getR rfl (Dance_kd X1.S) (Dance_R1 X1.S) (by first | decide | omega) ?_
          refine wp_getR rfl (Market_kd (Dance_s1 X1.S)) (Market_R8 (Dance_s1 X1.S)) (by first | decide | omega) ?_
          refine wp_iconst rfl ?_
          have hno : ¬ WN_ t.1 a c 0 (sg_pos t.1 j) := fun z => by rw [(I1'.2 _).mpr ⟨hpj, z⟩] at c3; cases c3
          refine wp_callS2I rfl (Nat.le_of_ble_eq_true rfl) (Cells_atV_ok (Market_k8 (Dance_s1 X1.S)) (by decide) (Nat.lt_of_lt_of_eq (show 0 < 2 by decide) n2.symm) (by rw [n2]; decide) (X1.M.2.2.2.2.1 0 (by decide))) (Nat.le_of_ble_eq_true rfl) ?_
          refine pure_ ?_
          refine wp_iload5 rfl ?_
          refine wp_callV2I rfl (Nat.le_of_ble_eq_true rfl) (Dance_kd X1.S) (Dance_some_ok (c := 0) X1 r1) (Nat.le_of_ble_eq_true rfl) ?_
          rintro _ hx ⟨⟨A, rfl, HA⟩, e4⟩
          rw [e4]
          refine wp_iorE (nI ((2 ^ a) ||| A)) (nn_or _ _) rfl ?_
          refine wp_istore7 rfl rfl ?_
          refine wp_iload3 rfl ?_
          refine wp_aload0 rfl ?_
          refine wp_aload0 rfl ?_
          refine wp_getR rfl (Dance_kd X1.S) (Dance_R1 X1.S) (by first | decide | omega) ?_
          refine wp_getR rfl (Market_kd (Dance_s1 X1.S)) (Market_R8 (Dance_s1 X1.S)) (by first | decide | omega) ?_
          refine wp_iconst rfl ?_
          refine wp_callS2I rfl (Nat.le_of_ble_eq_true rfl) (Cells_atV_ok (Market_k8 (Dance_s1 X1.S)) (by decide) (Nat.lt_of_lt_of_eq (show 1 < 2 by decide) n2.symm) (by rw [n2]; decide) (X1.M.2.2.2.2.1 1 (by decide))) (Nat.le_of_ble_eq_true rfl) ?_
          refine pure_ ?_
          refine wp_iload4 rfl ?_
          refine wp_callV2I rfl (Nat.le_of_ble_eq_true rfl) (Dance_kd X1.S) (Dance_all_ok (c := 1) X1 r1) (Nat.le_of_ble_eq_true rfl) ?_
          rintro _ hy ⟨⟨B, rfl, HB⟩, e5⟩
          rw [e5]
          refine wp_iorE (nI ((2 ^ a) ||| B)) (nn_or _ _) rfl ?_
          refine wp_istore5 rfl rfl ?_
          refine wp_iload7 rfl ?_
          refine wp_istore4 rfl rfl ?_
          refine wp_iinc6N rfl rfl ?_
          refine wp_goto rfl ?_
          refine go ((2 ^ a ||| A, 2 ^ a ||| B), _) h2 ⟨rfl, WB_some X.w ha I2' HA, WB_all X.w ha I1' HB, fun d hd => ?_⟩
          rcases Nat.lt_or_ge d c with u | u
          · exact I3 d u
          · obtain rfl : d = c := by omega
            exact hno
        · skip
          refine wp_iload6 rfl ?_
          exact wp_iret rfl ⟨_, rfl, by rw [e]; exact ⟨some c, ⟨((I1'.2 _).mp c3).2, I3⟩, rfl⟩, D1⟩
      · intro x h2 I
        show wq _ tb_RoundDance_forced _ 48 [some (.ref 1), some (.int (nI j)), some (.int (nI a)), some (.int (nI (2 ^ a))), some (.int (nI x.1.1)), some (.int (nI x.1.2)), some (.int (nI 17)), x.2] [] h2 _
        obtain ⟨⟨U, V⟩, v7⟩ := x
        obtain ⟨e2, I1, I2, I3⟩ := I
        subst e2
        show wq 5 tb_RoundDance_forced none 48 [some (.ref 1), some (.int (nI j)), some (.int (nI a)), some (.int (nI (2 ^ a))), some (.int (nI U)), some (.int (nI V)), some (.int (nI 17)), v7] [] h2 _
        refine wp_iload6 rfl ?_
        refine wp_bipush rfl ?_
        refine wp_icmp_gtN 17 16 (by omega) (by omega) rfl (fun _ => ?_) (fun z => absurd z (by omega))
        refine wp_bipush rfl ?_
        exact wp_iret rfl ⟨_, rfl, by rw [e]; exact ⟨none, fun c z => I3 15 (by omega) (WN_15 X.w (by decide) hpj z), rfl⟩, D1⟩
    · skip
      refine wp_iconst rfl ?_
      exact wp_iret rfl ⟨_, rfl, by unfold an_forced_; rw [c1', show hs_ t.1 p = false from c2]; exact rfl, DR_same X⟩
-- a night
def ma_ (s : Sg_) (f : Nat) : List Nat := (List.range f).filter (may_ s)
theorem ma_nx {s : Sg_} {f : Nat} : ma_ s (f + 1) = ma_ s f ++ (if may_ s f then [f] else []) := by
  unfold ma_
  rw [List.range_succ, List.filter_append]
  cases e : may_ s f with
  | true => rw [List.filter_cons_of_pos e, List.filter_nil, if_pos rfl]
  | false => rw [List.filter_cons_of_neg (by rw [e]; decide), List.filter_nil, if_neg (by decide)]
theorem ma_pre {s : Sg_} {f : Nat} : ∀ d, ma_ s f <+: ma_ s (f + d)
  | 0 => List.prefix_rfl
  | d + 1 => (ma_pre d).trans (by
    show ma_ s (f + d) <+: ma_ s (f + d + 1)
    rw [ma_nx]
    exact List.prefix_append _ _)
theorem ma_le {s : Sg_} (f : Nat) : (ma_ s f).length ≤ f := by
  have := List.length_filter_le (may_ s) (List.range f)
  rw [List.length_range] at this
  exact this
theorem ma_at {s : Sg_} {f : Nat} (hf : f < 6) (hm : may_ s f = true) : (MA_ s).getD (ma_ s f).length 0 = f ∧ (ma_ s f).length < (MA_ s).length := by
  have h1 : ma_ s (f + 1) <+: MA_ s := by
    have := ma_pre (s := s) (f := f + 1) (6 - (f + 1))
    rw [show f + 1 + (6 - (f + 1)) = 6 by omega] at this
    exact this
  have e1 : ma_ s (f + 1) = ma_ s f ++ [f] := by rw [ma_nx, if_pos hm]
  have hl : (ma_ s (f + 1)).length = (ma_ s f).length + 1 := by rw [e1, List.length_append]; rfl
  have hle := h1.length_le
  refine ⟨?_, by omega⟩
  rw [List.getD_eq_getElem?_getD, pre_get h1 (show (ma_ s (f + 1))[(ma_ s f).length]? = some f by rw [e1, List.getElem?_concat_length])]
  rfl
theorem Dance_allowedMoves_ok {h : Hp_} {t : Rt_} {k : Nat} (X : XB_ h t k) (hr : ∀ f, f < 6 → hp_I h 31 f = ms_ t.1 f) : cI 2 mn_RoundDance_allowedMoves [.ref 1] h (fun y h' => y = nI (MA_ t.1).length ∧ h' = h) := by
  have k5 := Dance_k5 X.S
  have n5 := Dance_n5 X.S
  refine cq_in (q := mi_RoundDance_allowedMoves) (L := [some (.ref 1), none, none]) rfl (Nat.le_of_ble_eq_true rfl) rfl ?_
  show wq _ tb_RoundDance_allowedMoves none 0 _ _ _ _
  refine wp_iconst rfl ?_
  refine wp_istore1 rfl rfl ?_
  refine wp_iconst rfl ?_
  refine wp_istore2 rfl rfl ?_
  refine wq_loop (X := Unit) (fun f x => [some (.ref 1), some (.int (nI (ma_ t.1 f).length)), some (.int (nI f))]) (fun f x h1 => h1 = h) (6) (0) (()) ?_ ?_ ?_ ?_
  · omega
  · rfl
  · intro f x h1 hi I go
    show wq _ tb_RoundDance_allowedMoves _ 4 [some (.ref 1), some (.int (nI (ma_ t.1 f).length)), some (.int (nI f))] [] h1 _
    subst I
    have hf : f < 6 := hi
    have hml := ma_le (s := t.1) f
    refine wp_iload2 rfl ?_
    refine wp_bipush rfl ?_
    refine wp_icmp_geN f 6 (by omega) (by omega) rfl (fun z => absurd z (by omega)) (fun _ => ?_)
    refine wp_aload0 rfl ?_
    refine wp_getR rfl (Dance_kd X.S) (Dance_R5 X.S) (by first | decide | omega) ?_
    refine wp_iload2 rfl ?_
    refine wp_callS2I rfl (Nat.le_of_ble_eq_true rfl) (Cells_atV_ok k5 (by decide) (show f < hp_ln h1 31 by omega) (by omega) (hr f hf)) (Nat.le_of_ble_eq_true rfl) ?_
    refine pure_ ?_
    refine wp_iconst rfl ?_
    have kk := go () h1 rfl
    (try dsimp only at kk)
    rw [ma_nx, List.length_append] at kk
    refine wp_icmp_eq rfl (fun c1 => ?_) (fun c1 => ?_)
    · skip
      refine wp_iinc2N rfl rfl ?_
      refine wp_goto rfl ?_
      rw [(ms_may X.w f).mp c1] at kk
      exact kk
    · skip
      refine wp_iinc1N rfl rfl ?_
      refine wp_iinc2N rfl rfl ?_
      refine wp_goto rfl ?_
      have hm : may_ t.1 f = true := by
        cases e : may_ t.1 f with
        | true => rfl
        | false => exact absurd ((ms_may X.w f).mpr e) c1
      rw [hm] at kk
      exact kk
  · intro x h1 I
    show wq _ tb_RoundDance_allowedMoves _ 4 [some (.ref 1), some (.int (nI (ma_ t.1 6).length)), some (.int (nI 6))] [] h1 _
    subst I
    refine wp_iload2 rfl ?_
    refine wp_bipush rfl ?_
    refine wp_icmp_geN 6 6 (by omega) (by omega) rfl (fun _ => ?_) (fun z => absurd z (by omega))
    refine wp_iload1 rfl ?_
    exact wp_iret rfl ⟨_, rfl, rfl, rfl⟩
set_option maxRecDepth 4000 in
theorem Dance_allowedMove_ok {h : Hp_} {t : Rt_} {k i : Nat} (X : XB_ h t k) (hr : ∀ f, f < 6 → hp_I h 31 f = ms_ t.1 f) (hil : i < (MA_ t.1).length) : cI 2 mn_RoundDance_allowedMove [.ref 1, .int (nI i)] h (fun y h' => y = nI (pq_ (mv_ t.1 ((MA_ t.1).getD i 0)) 8) ∧ h' = h) := by
  have k5 := Dance_k5 X.S
  have n5 := Dance_n5 X.S
  have hm6 := MA_len t.1
  refine cq_in (q := mi_RoundDance_allowedMove) (L := [some (.ref 1), some (.int (nI i)), none, none, none]) rfl (Nat.le_of_ble_eq_true rfl) rfl ?_
  show wq _ tb_RoundDance_allowedMove none 0 _ _ _ _
  refine wp_iload1 rfl ?_
  refine wp_istore2 rfl rfl ?_
  refine wp_iconst rfl ?_
  refine wp_istore3 rfl rfl ?_
  refine wq_loc (L' := [some (.ref 1), some (.int (nI i)), some (.int (nI (i - (ma_ t.1 0).length))), some (.int (nI 0)), none]) rfl ?_
  refine wq_loop (X := Option Value) (fun f x => [some (.ref 1), some (.int (nI i)), some (.int (nI (i - (ma_ t.1 f).length))), some (.int (nI f)), x]) (fun f x h1 => h1 = h ∧ (ma_ t.1 f).length ≤ i) (6) (0) (none) ?_ ?_ ?_ ?_
  · omega
  · exact ⟨rfl, Nat.zero_le _⟩
  · intro f x h1 hi I go
    show wq _ tb_RoundDance_allowedMove _ 4 [some (.ref 1), some (.int (nI i)), some (.int (nI (i - (ma_ t.1 f).length))), some (.int (nI f)), x] [] h1 _
    obtain ⟨e1, I1⟩ := I
    subst e1
    have hf : f < 6 := hi
    have hml := ma_le (s := t.1) f
    refine wp_iload3 rfl ?_
    refine wp_bipush rfl ?_
    refine wp_icmp_geN f 6 (by omega) (by omega) rfl (fun z => absurd z (by omega)) (fun _ => ?_)
    refine wp_aload0 rfl ?_
    refine wp_getR rfl (Dance_kd X.S) (Dance_R5 X.S) (by first | decide | omega) ?_
    refine wp_iload3 rfl ?_
    refine wp_callS2I rfl (Nat.le_of_ble_eq_true rfl) (Cells_atV_ok k5 (by decide) (show f < hp_ln h1 31 by omega) (by omega) (hr f hf)) (Nat.le_of_ble_eq_true rfl) ?_
    refine pure_ ?_
    cases hm : may_ t.1 f with
    | false =>
      rw [show ms_ t.1 f = -1 from (ms_may X.w f).mpr hm]
      refine wp_istore4 rfl rfl ?_
      refine wp_iload4 rfl ?_
      refine wp_iconst rfl ?_
      refine wp_icmp_eq rfl (fun _ => ?_) (fun z => absurd z (fun y => y rfl))
      refine wp_iinc3N rfl rfl ?_
      refine wp_goto rfl ?_
      have kk := go (some (.int (-1))) h1 ⟨rfl, by rw [ma_nx, hm, if_neg (by decide), List.append_nil]; exact I1⟩
      (try dsimp only at kk)
      rw [ma_nx, hm, if_neg (by decide), List.append_nil] at kk
      exact kk
    | true =>
      rw [show ms_ t.1 f = nI (pq_ (mv_ t.1 f) 8) by unfold ms_; rw [hm, if_pos rfl]]
      have l24 := pq_lt24 (mv8 X.w f)
      obtain ⟨m1, m2⟩ := ma_at hf hm
      have hl1 : (ma_ t.1 (f + 1)).length = (ma_ t.1 f).length + 1 := by rw [ma_nx, if_pos hm, List.length_append]; rfl
      refine wp_istore4 rfl rfl ?_
      refine wp_iload4 rfl ?_
      refine wp_iconst rfl ?_
      refine wp_icmp_eq rfl (fun z => absurd z (fun z => nI_ne_m1 (by omega) z)) (fun _ => ?_)
      refine wp_iload2 rfl ?_
      refine wp_if_neN (i - (ma_ t.1 f).length) 0 (by omega) (by decide) rfl (fun c1 => ?_) (fun c1 => ?_)
      · skip
        rw [show i - (ma_ t.1 f).length = (i - (ma_ t.1 (f + 1)).length) + 1 by omega]
        refine wp_iinc2M rfl rfl ?_
        refine wp_iinc3N rfl rfl ?_
        refine wp_goto rfl ?_
        exact go _ h1 ⟨rfl, by omega⟩
      · skip
        refine wp_iload4 rfl ?_
        have ei : i = (ma_ t.1 f).length := by omega
        exact wp_iret rfl ⟨_, rfl, by rw [ei, m1], rfl⟩
  · intro x h1 I
    show wq _ tb_RoundDance_allowedMove _ 4 [some (.ref 1), some (.int (nI i)), some (.int (nI (i - (ma_ t.1 6).length))), some (.int (nI 6)), x] [] h1 _
    obtain ⟨e1, I1⟩ := I
    exact absurd (show (MA_ t.1).length ≤ i from I1) (by omega)
theorem nt_nx {s : Sg_} {sd p k : Nat} (hl : (MA_ s).length ≠ 0) : nt_ s sd p (k + 1) = ((75 * (nt_ s sd p k).1 + 74) % 65537, mv_ s ((MA_ s).getD ((75 * (nt_ s sd p k).1 + 74) % 65537 % (MA_ s).length) 0) (nt_ s sd p k).2.1, (nt_ s sd p k).2.2 ||| 2 ^ mv_ s ((MA_ s).getD ((75 * (nt_ s sd p k).1 + 74) % 65537 % (MA_ s).length) 0) (nt_ s sd p k).2.1) := by
  rw [nt_, if_neg hl]
theorem nt_no {s : Sg_} {sd p : Nat} (hl : (MA_ s).length = 0) : ∀ k, nt_ s sd p k = (sd, p, 2 ^ p)
  | 0 => rfl
  | k + 1 => by rw [nt_, if_pos hl]; exact nt_no hl k
set_option maxRecDepth 4000 in
set_option maxHeartbeats 1000000 in
theorem Dance_night_ok {h : Hp_} {t : Rt_} {k : Nat} {sd m g v : Int32} (X : XB_ h t k) : cI 6 mn_RoundDance_night [.ref 1, .int sd, .int m, .int g, .int v] h (fun y h' => y = an_night t sd m g v ∧ DR_ h h' t (k + 1)) := by
  have n8 := X.w.1.2
  refine cq_in (q := mi_RoundDance_night) (L := [some (.ref 1), some (.int sd), some (.int m), some (.int g), some (.int v), none, none, none, none, none]) rfl (Nat.le_of_ble_eq_true rfl) rfl ?_
  show wq _ tb_RoundDance_night none 0 _ _ _ _
  refine wq_genQ (fun Q eQ => ?_)
  refine wp_aload0 rfl ?_
  refine wp_getR rfl (Dance_kd X.S) (Dance_R1 X.S) (by first | decide | omega) ?_
  refine wp_iload3 rfl ?_
  refine wp_callV1I rfl (Nat.le_of_ble_eq_true rfl) (Market_kd (Dance_s1 X.S)) (Market_has_ok (Dance_s1 X.S) X.n n8) (Nat.le_of_ble_eq_true rfl) ?_
  refine pure_ ?_
  refine wp_if_neB rfl (fun c1 => ?_) (fun c1 => ?_)
  · skip
    obtain ⟨j, hj, rfl⟩ := hs_of c1 n8
    have c1' : hs_ t.1 (nI j) = true := c1
    have out : rg_ 0 9999 sd = false ∨ rg_ 0 99 m = false ∨ rg_ 0 1 v = false → Q (some (.int (-2))) h := fun z => by
      have e : an_night t sd m (nI j) v = -2 := by
        unfold an_night
        rw [c1', if_pos rfl]
        rcases z with z | z | z
        · rw [z]; rfl
        · rw [z, Bool.false_and, Bool.and_false]; rfl
        · rw [z, Bool.and_false, Bool.and_false]; rfl
      rw [eQ, e]
      exact ⟨_, rfl, rfl, DR_same X⟩
    have hpj := X.w.2.1.1 j hj
    refine wp_iload1 rfl ?_
    refine wp_if_lt rfl (fun d1 => ?_) (fun d1 => ?_)
    · skip
      refine wp_bipush rfl ?_
      exact wp_iret rfl (out (Or.inl (rg_f1 (a := 0) (b := 9999) (by decide) d1)))
    · skip
      refine wp_iload1 rfl ?_
      refine wp_sipush rfl ?_
      refine wp_icmp_gt rfl (fun d2 => ?_) (fun d2 => ?_)
      · skip
        refine wp_bipush rfl ?_
        exact wp_iret rfl (out (Or.inl (rg_f2 (a := 0) (b := 9999) (by decide) (gt_ge (by decide) d2))))
      · skip
        refine wp_iload2 rfl ?_
        refine wp_if_lt rfl (fun d3 => ?_) (fun d3 => ?_)
        · skip
          refine wp_bipush rfl ?_
          exact wp_iret rfl (out (Or.inr (Or.inl (rg_f1 (a := 0) (b := 99) (by decide) d3))))
        · skip
          refine wp_iload2 rfl ?_
          refine wp_bipush rfl ?_
          refine wp_icmp_gt rfl (fun d4 => ?_) (fun d4 => ?_)
          · skip
            refine wp_bipush rfl ?_
            exact wp_iret rfl (out (Or.inr (Or.inl (rg_f2 (a := 0) (b := 99) (by decide) (gt_ge (by decide) d4)))))
          · skip
            refine wp_iload4 rfl ?_
            refine wp_callS1I rfl (Nat.le_of_ble_eq_true rfl) (Dance_isYesOrNo_ok) (Nat.le_of_ble_eq_true rfl) ?_
            refine pure_ ?_
            refine wp_if_neB rfl (fun d5 => ?_) (fun d5 => ?_)
            · skip
              obtain ⟨x0, hxb, rfl⟩ := nI_of d1
              obtain ⟨M, hMb, rfl⟩ := nI_of d3
              have hx0 : x0 ≤ 9999 := nle_ hxb (by decide) d2
              have hM : M ≤ 99 := nle_ hMb (by decide) d4
              have e : an_night t (nI x0) (nI M) (nI j) v = if v = 0 then nI (nt_ t.1 x0 (sg_pos t.1 j) M).2.2 else nI (nt_ t.1 x0 (sg_pos t.1 j) M).2.1 := by
                unfold an_night
                rw [c1', if_pos rfl, show rg_ 0 9999 (nI x0) = true from (rg_nI (a := 0) (b := 9999) hxb).trans (decide_eq_true (by omega)), show rg_ 0 99 (nI M) = true from (rg_nI (a := 0) (b := 99) hMb).trans (decide_eq_true (by omega)), d5, Bool.true_and, Bool.true_and, if_pos rfl, nI_clamp hxb, nI_clamp hMb, nI_clamp (by omega)]
              refine wp_aload0 rfl ?_
              refine wp_getR rfl (Dance_kd X.S) (Dance_R1 X.S) (by first | decide | omega) ?_
              refine wp_aload0 rfl ?_
              refine wp_getR rfl (Dance_kd X.S) (Dance_R5 X.S) (by first | decide | omega) ?_
              refine wp_callV1V rfl (Nat.le_of_ble_eq_true rfl) (Market_kd (Dance_s1 X.S)) (Market_fillMoves_ok (Dance_s1 X.S) X.M X.w (Dance_k5 X.S) (Dance_n5 X.S) (by decide) (by decide)) (Nat.le_of_ble_eq_true rfl) ?_
              intro h1 e1
              obtain ⟨X1, z1, r1⟩ := Dance_fill X e1
              have D1 : DR_ h h1 t (k + 1) := DR_of X (fz_mono (fun v hv => by omega) z1) X1.1
              have hm6 := MA_len t.1
              refine wp_aload0 rfl ?_
              refine wp_callV0I rfl (Nat.le_of_ble_eq_true rfl) (Dance_kd X1.S) (Dance_allowedMoves_ok X1 r1) (Nat.le_of_ble_eq_true rfl) ?_
              refine pure_ ?_
              refine wp_istore5 rfl rfl ?_
              refine wp_aload0 rfl ?_
              refine wp_getR rfl (Dance_kd X1.S) (Dance_R1 X1.S) (by first | decide | omega) ?_
              refine wp_iload3 rfl ?_
              refine wp_callV1I rfl (Nat.le_of_ble_eq_true rfl) (Market_kd (Dance_s1 X1.S)) (Market_placeOf_ok (Dance_s1 X1.S) (sg_pos8 X.w) X1.pos (by omega)) (Nat.le_of_ble_eq_true rfl) ?_
              refine pure_ ?_
              refine wp_istore6 rfl rfl ?_
              refine wp_iconst rfl ?_
              refine wp_iload6 rfl ?_
              refine wp_ishlE (nI (2 ^ (sg_pos t.1 j))) (nn_shl1 _ (by omega)) rfl ?_
              refine wp_istore7 rfl rfl ?_
              refine wp_iload1 rfl ?_
              refine wp_istore8 rfl rfl ?_
              refine wp_iconst rfl ?_
              refine wp_istore9 rfl rfl ?_
              have fin : ∀ (a8 : Option Value) (d : Nat), wq 5 tb_RoundDance_night none 139 [some (.ref 1), some (.int (nI x0)), some (.int (nI M)), some (.int (nI j)), some (.int v), some (.int (nI (MA_ t.1).length)), some (.int (nI (nt_ t.1 x0 (sg_pos t.1 j) M).2.1)), some (.int (nI (nt_ t.1 x0 (sg_pos t.1 j) M).2.2)), a8, some (.int (nI d))] [] h1 Q := by
                intro a8 d
                refine wp_iload4 rfl ?_
                refine wp_if_ne rfl (fun d6 => ?_) (fun d6 => ?_)
                · skip
                  refine wp_iload6 rfl ?_
                  exact wp_iret rfl (by rw [eQ, e, if_neg d6]; exact ⟨_, rfl, rfl, D1⟩)
                · skip
                  refine wp_iload7 rfl ?_
                  refine wp_goto rfl ?_
                  exact wp_iret rfl (by rw [eQ, e, if_pos (Classical.not_not.mp d6)]; exact ⟨_, rfl, rfl, D1⟩)
              by_cases hz : (MA_ t.1).length = 0
              · have fin' := fin (some (.int (nI x0))) 0
                rw [nt_no hz M] at fin'
                refine wp_iload9 rfl ?_
                refine wp_iload2 rfl ?_
                refine wp_icmp_geN 0 M (by omega) (by omega) rfl (fun d7 => ?_) (fun d7 => ?_)
                · exact fin'
                · skip
                  refine wp_iload5 rfl ?_
                  refine wp_if_leN ((MA_ t.1).length) 0 (by omega) (by decide) rfl (fun _ => ?_) (fun z => absurd z (by omega))
                  exact fin'
              · skip
                refine wq_loop (X := Unit) (fun d x => [some (.ref 1), some (.int (nI x0)), some (.int (nI M)), some (.int (nI j)), some (.int v), some (.int (nI (MA_ t.1).length)), some (.int (nI (nt_ t.1 x0 (sg_pos t.1 j) d).2.1)), some (.int (nI (nt_ t.1 x0 (sg_pos t.1 j) d).2.2)), some (.int (nI (nt_ t.1 x0 (sg_pos t.1 j) d).1)), some (.int (nI d))]) (fun d x h2 => h2 = h1) (M) (0) (()) ?_ ?_ ?_ ?_
                · omega
                · rfl
                · intro d x h2 hi I go
                  show wq _ tb_RoundDance_night _ 84 [some (.ref 1), some (.int (nI x0)), some (.int (nI M)), some (.int (nI j)), some (.int v), some (.int (nI (MA_ t.1).length)), some (.int (nI (nt_ t.1 x0 (sg_pos t.1 j) d).2.1)), some (.int (nI (nt_ t.1 x0 (sg_pos t.1 j) d).2.2)), some (.int (nI (nt_ t.1 x0 (sg_pos t.1 j) d).1)), some (.int (nI d))] [] h2 _
                  subst I
                  have hd : d < M := hi
                  obtain ⟨o1, o2, o3⟩ := nt_ok (sd := x0) X.w (by omega) hpj d
                  have kk := go () h2 rfl
                  (try dsimp only at kk)
                  rw [nt_nx hz] at kk
                  generalize nt_ t.1 x0 (sg_pos t.1 j) d = S0 at o1 o2 o3 kk
                  obtain ⟨xx, pl, hd0⟩ := S0
                  have o1' : xx < 65537 := o1
                  have o2' : pl < sg_n t.1 := o2
                  show wq 5 tb_RoundDance_night none 84 [some (.ref 1), some (.int (nI x0)), some (.int (nI M)), some (.int (nI j)), some (.int v), some (.int (nI (MA_ t.1).length)), some (.int (nI pl)), some (.int (nI hd0)), some (.int (nI xx)), some (.int (nI d))] [] h2 Q
                  have hmod := Nat.mod_lt (75 * xx + 74) (show 65537 > 0 by decide)
                  have hmo2 := Nat.mod_lt ((75 * xx + 74) % 65537) (show (MA_ t.1).length > 0 by omega)
                  refine wp_iload9 rfl ?_
                  refine wp_iload2 rfl ?_
                  refine wp_icmp_geN d M (by omega) (by omega) rfl (fun z => absurd z (by omega)) (fun _ => ?_)
                  refine wp_iload5 rfl ?_
                  refine wp_if_leN ((MA_ t.1).length) 0 (by omega) (by decide) rfl (fun z => absurd z (by omega)) (fun _ => ?_)
                  refine wp_bipush rfl ?_
                  refine wp_iload8 rfl ?_
                  refine wp_imulE (nI (75 * xx)) (pk_mul _ _) rfl ?_
                  refine wp_bipush rfl ?_
                  refine wp_iaddE (nI ((75 * xx) + 74)) (nI_add _ _) rfl ?_
                  refine wp_ldc rfl ?_
                  refine wp_iremE (nI (((75 * xx) + 74) % 65537)) (nI_ne0 (by omega) (by omega)) (pk_rem (by omega) (by omega) (by omega)) rfl ?_
                  refine wp_istore8 rfl rfl ?_
                  refine wp_aload0 rfl ?_
                  refine wp_iload8 rfl ?_
                  refine wp_iload5 rfl ?_
                  refine wp_iremE (nI ((((75 * xx) + 74) % 65537) % ((MA_ t.1).length))) (nI_ne0 (by omega) (by omega)) (pk_rem (by omega) (by omega) (by omega)) rfl ?_
                  refine wp_callV1I rfl (Nat.le_of_ble_eq_true rfl) (Dance_kd X1.S) (Dance_allowedMove_ok X1 r1 hmo2) (Nat.le_of_ble_eq_true rfl) ?_
                  refine pure_ ?_
                  refine wp_iload6 rfl ?_
                  refine wp_callS2I rfl (Nat.le_of_ble_eq_true rfl) (Maps_toP_ok (mv8 X.w _) (by omega)) (Nat.le_of_ble_eq_true rfl) ?_
                  refine pure_ ?_
                  have h8 := mv8 X.w ((MA_ t.1).getD ((75 * xx + 74) % 65537 % (MA_ t.1).length) 0) pl (by omega)
                  refine wp_istore6 rfl rfl ?_
                  refine wp_iload7 rfl ?_
                  refine wp_iconst rfl ?_
                  refine wp_iload6 rfl ?_
                  refine wp_ishlE (nI (2 ^ (mv_ t.1 ((MA_ t.1).getD ((75 * xx + 74) % 65537 % (MA_ t.1).length) 0) pl))) (nn_shl1 _ (by omega)) rfl ?_
                  refine wp_iorE (nI (hd0 ||| (2 ^ (mv_ t.1 ((MA_ t.1).getD ((75 * xx + 74) % 65537 % (MA_ t.1).length) 0) pl)))) (nn_or _ _) rfl ?_
                  refine wp_istore7 rfl rfl ?_
                  refine wp_iinc9N rfl rfl ?_
                  refine wp_goto rfl ?_
                  exact kk
                · intro x h2 I
                  show wq _ tb_RoundDance_night _ 84 [some (.ref 1), some (.int (nI x0)), some (.int (nI M)), some (.int (nI j)), some (.int v), some (.int (nI (MA_ t.1).length)), some (.int (nI (nt_ t.1 x0 (sg_pos t.1 j) M).2.1)), some (.int (nI (nt_ t.1 x0 (sg_pos t.1 j) M).2.2)), some (.int (nI (nt_ t.1 x0 (sg_pos t.1 j) M).1)), some (.int (nI M))] [] h2 _
                  subst I
                  show wq 5 tb_RoundDance_night none 84 [some (.ref 1), some (.int (nI x0)), some (.int (nI M)), some (.int (nI j)), some (.int v), some (.int (nI (MA_ t.1).length)), some (.int (nI (nt_ t.1 x0 (sg_pos t.1 j) M).2.1)), some (.int (nI (nt_ t.1 x0 (sg_pos t.1 j) M).2.2)), some (.int (nI (nt_ t.1 x0 (sg_pos t.1 j) M).1)), some (.int (nI M))] [] h2 Q
                  refine wp_iload9 rfl ?_
                  refine wp_iload2 rfl ?_
                  refine wp_icmp_geN M M (by omega) (by omega) rfl (fun _ => ?_) (fun z => absurd z (by omega))
                  exact fin _ M
            · skip
              refine wp_bipush rfl ?_
              exact wp_iret rfl (out (Or.inr (Or.inr d5)))
  · skip
    refine wp_iconst rfl ?_
    have e : an_night t sd m g v = -1 := by unfold an_night; rw [show hs_ t.1 g = false from c1]; rfl
    exact wp_iret rfl (by rw [eQ, e]; exact ⟨_, rfl, rfl, DR_same X⟩)
