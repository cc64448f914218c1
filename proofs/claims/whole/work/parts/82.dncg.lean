-- ===== the class: sure, forced, night =====
theorem bt_8 {u q : Nat} (hu : u < 256) (hq : u.testBit q = true) : q < 8 := by
  rcases Nat.lt_or_ge q 8 with z | z
  · exact z
  · rw [Nat.testBit_lt_two_pow (Nat.lt_of_lt_of_le hu (Nat.pow_le_pow_right (by decide) z : 2 ^ 8 ≤ 2 ^ q))] at hq
    cases hq
set_option maxRecDepth 4000 in
theorem Dance_sure_ok {h : Hp_} {t : Rt_} {k : Nat} {g : Int32} (X : XB_ h t k) : cI 6 mn_RoundDance_sure [.ref 1, .int g] h (fun y h' => an_sure_ t g y ∧ DR_ h h' t (k + 1)) := by
  have n8 := X.w.1.2
  refine cq_in (q := mi_RoundDance_sure) (L := [some (.ref 1), some (.int g), none, none, none]) rfl (Nat.le_of_ble_eq_true rfl) rfl ?_
  show wq _ tb_RoundDance_sure none 0 _ _ _ _
  refine wp_aload0 rfl ?_
  refine wp_getR rfl (Dance_kd X.S) (Dance_R1 X.S) (by first | decide | omega) ?_
  refine wp_iload1 rfl ?_
  refine wp_callV1I rfl (Nat.le_of_ble_eq_true rfl) (Market_kd (Dance_s1 X.S)) (Market_has_ok (Dance_s1 X.S) X.n n8) (Nat.le_of_ble_eq_true rfl) ?_
  refine pure_ ?_
  refine wp_if_neB rfl (fun c1 => ?_) (fun c1 => ?_)
  · skip
    obtain ⟨j, hj, rfl⟩ := hs_of c1 n8
    have c1' : hs_ t.1 (nI j) = true := c1
    have e : ∀ y, an_sure_ t (nI j) y = ∃ u, SU_ t.1 j u ∧ y = nI u := fun y => by unfold an_sure_; rw [c1', if_pos rfl, nI_clamp (by omega)]
    have hpj := X.w.2.1.1 j hj
    refine wp_aload0 rfl ?_
    refine wp_getR rfl (Dance_kd X.S) (Dance_R1 X.S) (by first | decide | omega) ?_
    refine wp_aload0 rfl ?_
    refine wp_getR rfl (Dance_kd X.S) (Dance_R5 X.S) (by first | decide | omega) ?_
    refine wp_callV1V rfl (Nat.le_of_ble_eq_true rfl) (Market_kd (Dance_s1 X.S)) (Market_fillMoves_ok (Dance_s1 X.S) X.M X.w (Dance_k5 X.S) (Dance_n5 X.S) (by decide) (by decide)) (Nat.le_of_ble_eq_true rfl) ?_
    intro h1 e1
    obtain ⟨X1, z1, r1⟩ := Dance_fill X e1
    have D1 : DR_ h h1 t (k + 1) := DR_of X (fz_mono (fun v hv => by omega) z1) X1.1
    refine wp_iconst rfl ?_
    refine wp_aload0 rfl ?_
    refine wp_getR rfl (Dance_kd X1.S) (Dance_R1 X1.S) (by first | decide | omega) ?_
    refine wp_iload1 rfl ?_
    refine wp_callV1I rfl (Nat.le_of_ble_eq_true rfl) (Market_kd (Dance_s1 X1.S)) (Market_placeOf_ok (Dance_s1 X1.S) (sg_pos8 X.w) X1.pos (by omega)) (Nat.le_of_ble_eq_true rfl) ?_
    refine pure_ ?_
    refine wp_ishlE (nI (2 ^ (sg_pos t.1 j))) (nn_shl1 _ (by omega)) rfl ?_
    refine wp_istore2 rfl rfl ?_
    refine wp_iconst rfl ?_
    refine wp_istore3 rfl rfl ?_
    have pw : ∀ i u, SI_ t.1 j i u → u < 256 := fun i u hu => Nat.lt_of_lt_of_le (SI_lt X.w hj hu) (Nat.pow_le_pow_right (by decide) n8 : 2 ^ sg_n t.1 ≤ 2 ^ 8)
    refine wq_loop (X := Nat × Option Value) (fun i x => [some (.ref 1), some (.int (nI j)), some (.int (nI x.1)), some (.int (nI i)), x.2]) (fun i x h2 => h2 = h1 ∧ SI_ t.1 j i x.1) (8) (0) ((2 ^ sg_pos t.1 j, none)) ?_ ?_ ?_ ?_
    · omega
    · exact ⟨rfl, SI_0⟩
    · intro i x h2 hi I go
      show wq _ tb_RoundDance_sure _ 37 [some (.ref 1), some (.int (nI j)), some (.int (nI x.1)), some (.int (nI i)), x.2] [] h2 _
      obtain ⟨u, v4⟩ := x
      obtain ⟨e2, I1⟩ := I
      subst e2
      have I1' : SI_ t.1 j i u := I1
      have u8 := pw i u I1'
      show wq 5 tb_RoundDance_sure none 37 [some (.ref 1), some (.int (nI j)), some (.int (nI u)), some (.int (nI i)), v4] [] h2 _
      refine wp_iload3 rfl ?_
      refine wp_bipush rfl ?_
      refine wp_icmp_geN i 8 (by omega) (by omega) rfl (fun z => absurd z (by omega)) (fun _ => ?_)
      refine wp_iconst rfl ?_
      refine wp_istore4 rfl rfl ?_
      refine wq_loop (X := Nat) (fun p x => [some (.ref 1), some (.int (nI j)), some (.int (nI x)), some (.int (nI i)), some (.int (nI p))]) (fun p x h3 => h3 = h2 ∧ x < 256 ∧ (∀ q, x.testBit q = true → ∃ w, wok_ (may_ t.1) w ∧ ac_ (mv_ t.1) w (sg_pos t.1 j) = q) ∧ (∀ q, u.testBit q = true → x.testBit q = true) ∧ ∀ q, q < p → u.testBit q = true → ∀ f, f < 6 → may_ t.1 f = true → x.testBit (mv_ t.1 f q) = true) (8) (0) (u) ?_ ?_ ?_ ?_
      · omega
      · exact ⟨rfl, u8, I1'.1, fun q hq => hq, fun q hq => absurd hq (Nat.not_lt_zero q)⟩
      · intro p x h3 hi J go2
        show wq _ tb_RoundDance_sure _ 46 [some (.ref 1), some (.int (nI j)), some (.int (nI x)), some (.int (nI i)), some (.int (nI p))] [] h3 _
        obtain ⟨e3, J1, J2, J3, J4⟩ := J
        subst e3
        have hp8 : p < 8 := hi
        refine wp_iload4 rfl ?_
        refine wp_bipush rfl ?_
        refine wp_icmp_geN p 8 (by omega) (by omega) rfl (fun z => absurd z (by omega)) (fun _ => ?_)
        refine wp_iload2 rfl ?_
        refine wp_iload4 rfl ?_
        refine wp_callS2I rfl (Nat.le_of_ble_eq_true rfl) (Cells_isIn_ok (show x < 2 ^ 32 by omega) (by omega)) (Nat.le_of_ble_eq_true rfl) ?_
        refine pure_ ?_
        refine wp_if_eqB rfl (fun c2 => ?_) (fun c2 => ?_)
        · skip
          refine wp_iinc4N rfl rfl ?_
          refine wp_goto rfl ?_
          refine go2 x h3 ⟨rfl, J1, J2, J3, fun q hq hu f hf hm => ?_⟩
          rcases Nat.lt_or_ge q p with z | z
          · exact J4 q z hu f hf hm
          · obtain rfl : q = p := by omega
            rw [J3 q hu] at c2; cases c2
        · skip
          refine wp_iload2 rfl ?_
          refine wp_aload0 rfl ?_
          refine wp_iload4 rfl ?_
          refine wp_bipush rfl ?_
          refine wp_callV2I rfl (Nat.le_of_ble_eq_true rfl) (Dance_kd X1.S) (Dance_nextPlaces_ok (F := 63) X1 r1 (by decide) hp8) (Nat.le_of_ble_eq_true rfl) ?_
          rintro _ hx ⟨⟨N, rfl, N1, N2⟩, e4⟩
          rw [e4]
          refine wp_iorE (nI (x ||| N)) (nn_or _ _) rfl ?_
          refine wp_istore2 rfl rfl ?_
          refine wp_iinc4N rfl rfl ?_
          refine wp_goto rfl ?_
          have b63 : ∀ f, f < 6 → (63 : Nat).testBit f = true := fun f hf => by
            have : ∀ q : Fin 6, (63 : Nat).testBit q.1 = true := by decide
            exact this ⟨f, hf⟩
          refine go2 (x ||| N) h3 ⟨rfl, Nat.or_lt_two_pow (n := 8) J1 N1, fun q hq => ?_, fun q hu => by rw [Nat.testBit_or, J3 q hu]; rfl, fun q hq hu f hf hm => ?_⟩
          · rw [Nat.testBit_or, Bool.or_eq_true] at hq
            rcases hq with z | z
            · exact J2 q z
            · rcases (N2 q).mp z with ⟨f, f1, f2, f3⟩ | ⟨_, y⟩
              · rw [← f3]; exact SI_step f1 f2.1 (J2 p c2)
              · rw [y]; exact J2 p c2
          · rw [Nat.testBit_or, Bool.or_eq_true]
            rcases Nat.lt_or_ge q p with z | z
            · exact Or.inl (J4 q z hu f hf hm)
            · obtain rfl : q = p := by omega
              exact Or.inr ((N2 _).mpr (Or.inl ⟨f, hf, ⟨hm, b63 f hf⟩, rfl⟩))
      · intro x h3 J
        show wq _ tb_RoundDance_sure _ 46 [some (.ref 1), some (.int (nI j)), some (.int (nI x)), some (.int (nI i)), some (.int (nI 8))] [] h3 _
        obtain ⟨e3, J1, J2, J3, J4⟩ := J
        subst e3
        refine wp_iload4 rfl ?_
        refine wp_bipush rfl ?_
        refine wp_icmp_geN 8 8 (by omega) (by omega) rfl (fun _ => ?_) (fun z => absurd z (by omega))
        refine wp_iinc3N rfl rfl ?_
        refine wp_goto rfl ?_
        exact go (x, _) h3 ⟨rfl, SI_next I1' J2 J3 (fun f p hf hm hu => J4 p (bt_8 u8 hu) hu f hf hm)⟩
    · intro x h2 I
      show wq _ tb_RoundDance_sure _ 37 [some (.ref 1), some (.int (nI j)), some (.int (nI x.1)), some (.int (nI 8)), x.2] [] h2 _
      obtain ⟨u, v4⟩ := x
      obtain ⟨e2, I1⟩ := I
      subst e2
      have I1' : SI_ t.1 j 8 u := I1
      show wq 5 tb_RoundDance_sure none 37 [some (.ref 1), some (.int (nI j)), some (.int (nI u)), some (.int (nI 8)), v4] [] h2 _
      refine wp_iload3 rfl ?_
      refine wp_bipush rfl ?_
      refine wp_icmp_geN 8 8 (by omega) (by omega) rfl (fun _ => ?_) (fun z => absurd z (by omega))
      refine wp_iload2 rfl ?_
      exact wp_iret rfl ⟨_, rfl, by rw [e]; exact ⟨u, SI_8 X.w hj I1', rfl⟩, D1⟩
  · skip
    refine wp_iconst rfl ?_
    exact wp_iret rfl ⟨_, rfl, by unfold an_sure_; rw [show hs_ t.1 g = false from c1]; exact rfl, DR_same X⟩
-- forced
theorem NX_nx {s : Sg_} {c p N : Nat} (H : NX_ s (sg_ca s c) p N) (q : Nat) : N.testBit q = true ↔ nx_ s c p q := by
  rw [H.2 q]
  unfold nx_ el_
  constructor
  · rintro (⟨f, f1, f2, f3⟩ | ⟨z, y⟩)
    · exact Or.inl ⟨f, f1, ⟨f2.2, f2.1⟩, f3⟩
    · exact Or.inr ⟨fun f hf w => z f hf ⟨w.2, w.1⟩, y⟩
  · rintro (⟨f, f1, f2, f3⟩ | ⟨z, y⟩)
    · exact Or.inl ⟨f, f1, ⟨f2.2, f2.1⟩, f3⟩
    · exact Or.inr ⟨fun f hf w => z f hf ⟨w.2, w.1⟩, y⟩
theorem and_ne {N W : Nat} : N &&& W ≠ 0 ↔ ∃ q, N.testBit q = true ∧ W.testBit q = true := by
  constructor
  · intro z
    refine Classical.byContradiction fun y => z (Nat.eq_of_testBit_eq fun i => ?_)
    rw [Nat.zero_testBit, Nat.testBit_and]
    cases a : N.testBit i with
    | false => rfl
    | true =>
      cases b : W.testBit i with
      | false => rfl
      | true => exact absurd ⟨i, a, b⟩ y
  · rintro ⟨q, a, b⟩ z
    have := congrArg (fun v => v.testBit q) z
    (try dsimp only at this)
    rw [Nat.testBit_and, a, b, Nat.zero_testBit] at this
    cases this
theorem nn_not {N W : Nat} (hN : N < 256) : nI N &&& (nI W ^^^ (-1)) = nI (N &&& (W ^^^ 255)) := b_ext fun i hi => by
  rw [b_and, b_xor, bt_nI N hi, bt_nI W hi, b_m1 i hi, bt_nI _ hi, Nat.testBit_and, Nat.testBit_xor]
  rcases Nat.lt_or_ge i 8 with z | z
  · have : ∀ q : Fin 8, (255 : Nat).testBit q.1 = true := by decide
    rw [show (255 : Nat).testBit i = true from this ⟨i, z⟩]
  · rw [Nat.testBit_lt_two_pow (Nat.lt_of_lt_of_le hN (Nat.pow_le_pow_right (by decide) z : 2 ^ 8 ≤ 2 ^ i)), Bool.false_and, Bool.false_and]
theorem not_z {N W : Nat} (hN : N < 256) : N &&& (W ^^^ 255) = 0 ↔ ∀ q, N.testBit q = true → W.testBit q = true := by
  have b255 : ∀ q, q < 8 → (255 : Nat).testBit q = true := fun q hq => by
    have : ∀ i : Fin 8, (255 : Nat).testBit i.1 = true := by decide
    exact this ⟨q, hq⟩
  constructor
  · intro z q hq
    have := congrArg (fun v => v.testBit q) z
    (try dsimp only at this)
    rw [Nat.testBit_and, Nat.testBit_xor, hq, b255 q (bt_8 hN hq), Nat.zero_testBit, Bool.true_and] at this
    cases e : W.testBit q with
    | true => rfl
    | false => rw [e] at this; cases this
  · intro z
    refine Nat.eq_of_testBit_eq fun q => ?_
    rw [Nat.zero_testBit, Nat.testBit_and, Nat.testBit_xor]
    cases e : N.testBit q with
    | false => rfl
    | true => rw [z q e, b255 q (bt_8 hN e)]; rfl
/-- places of which something holds, as bits -/
def PB_ (n : Nat) (P : Nat → Prop) (A : Nat) : Prop := A < 256 ∧ ∀ q, A.testBit q = true ↔ q < n ∧ P q
theorem PB_add {i A : Nat} {P : Nat → Prop} (h8 : i < 8) (H : PB_ i P A) : (P i → PB_ (i + 1) P (A ||| 2 ^ i)) ∧ (¬ P i → PB_ (i + 1) P A) := by
  constructor
  · intro hP
    refine ⟨Nat.or_lt_two_pow (n := 8) H.1 (Nat.pow_lt_pow_right (by decide) h8), fun q => or_bt.trans ?_⟩
    rw [H.2 q]
    constructor
    · rintro (⟨z, y⟩ | z)
      · exact ⟨by omega, y⟩
      · rw [← z]; exact ⟨Nat.lt_succ_self i, hP⟩
    · rintro ⟨z, y⟩
      rcases Nat.lt_or_ge q i with u | u
      · exact Or.inl ⟨u, y⟩
      · exact Or.inr (by omega)
  · intro hP
    refine ⟨H.1, fun q => (H.2 q).trans ⟨fun z => ⟨by omega, z.2⟩, fun z => ⟨?_, z.2⟩⟩⟩
    rcases Nat.lt_or_ge q i with u | u
    · exact u
    · obtain rfl : q = i := by omega
      exact absurd z.2 hP
set_option maxRecDepth 4000 in
theorem Dance_some_ok {h : Hp_} {t : Rt_} {k c W : Nat} (X : XB_ h t k) (hr : ∀ f, f < 6 → hp_I h 31 f = ms_ t.1 f) : cI 3 mn_RoundDance_placesWithSome [.ref 1, .int (nI (sg_ca t.1 c)), .int (nI W)] h (fun y h' => (∃ A, y = nI A ∧ PB_ (sg_n t.1) (fun p => ∃ q, nx_ t.1 c p q ∧ W.testBit q = true) A) ∧ h' = h) := by
  have n8 := X.w.1.2
  have hF := X.w.2.2.2.2.2.2.2.2.1 c
  refine cq_in (q := mi_RoundDance_placesWithSome) (L := [some (.ref 1), some (.int (nI (sg_ca t.1 c))), some (.int (nI W)), none, none]) rfl (Nat.le_of_ble_eq_true rfl) rfl ?_
  show wq _ tb_RoundDance_placesWithSome none 0 _ _ _ _
  refine wp_iconst rfl ?_
  refine wp_istore3 rfl rfl ?_
  refine wp_iconst rfl ?_
  refine wp_istore4 rfl rfl ?_
  refine wq_loop (X := Nat) (fun p x => [some (.ref 1), some (.int (nI (sg_ca t.1 c))), some (.int (nI W)), some (.int (nI x)), some (.int (nI p))]) (fun p x h1 => h1 = h ∧ PB_ p (fun p => ∃ q, nx_ t.1 c p q ∧ W.testBit q = true) x) (sg_n t.1) (0) (0) ?_ ?_ ?_ ?_
  · omega
  · exact ⟨rfl, by decide, fun q => ⟨fun z => (by rw [Nat.zero_testBit] at z; cases z), fun z => absurd z.1 (Nat.not_lt_zero q)⟩⟩
  · intro p x h1 hi I go
    show wq _ tb_RoundDance_placesWithSome _ 5 [some (.ref 1), some (.int (nI (sg_ca t.1 c))), some (.int (nI W)), some (.int (nI x)), some (.int (nI p))] [] h1 _
    obtain ⟨e1, I1⟩ := I
    subst e1
    have hp : p < sg_n t.1 := hi
    refine wp_iload4 rfl ?_
    refine wp_aload0 rfl ?_
    refine wp_getR rfl (Dance_kd X.S) (Dance_R1 X.S) (by first | decide | omega) ?_
    refine wp_getIE rfl (Market_kd (Dance_s1 X.S)) (show _ = nI (sg_n t.1) from X.n) ?_
    refine wp_icmp_geN p (sg_n t.1) (by omega) (by omega) rfl (fun z => absurd z (by omega)) (fun _ => ?_)
    refine wp_aload0 rfl ?_
    refine wp_iload4 rfl ?_
    refine wp_iload1 rfl ?_
    refine wp_callV2I rfl (Nat.le_of_ble_eq_true rfl) (Dance_kd X.S) (Dance_nextPlaces_ok (F := sg_ca t.1 c) X hr (by omega) (by omega)) (Nat.le_of_ble_eq_true rfl) ?_
    rintro _ hx ⟨⟨N, rfl, H⟩, e4⟩
    rw [e4]
    refine wp_iload2 rfl ?_
    refine wp_iandE (nI (N &&& W)) (nn_and _ _) rfl ?_
    have hN := H.1
    have hl : N &&& W < 256 := Nat.lt_of_le_of_lt Nat.and_le_left hN
    have hPQ : (N &&& W ≠ 0) ↔ ∃ q, nx_ t.1 c p q ∧ W.testBit q = true := and_ne.trans (exists_congr fun q => and_congr (NX_nx H q) Iff.rfl)
    refine wp_if_eqN (N &&& W) 0 (by omega) (by decide) rfl (fun c2 => ?_) (fun c2 => ?_)
    · skip
      refine wp_iinc4N rfl rfl ?_
      refine wp_goto rfl ?_
      exact go x h1 ⟨rfl, (PB_add (by omega) I1).2 (fun z => hPQ.mpr z c2)⟩
    · skip
      refine wp_iload3 rfl ?_
      refine wp_iconst rfl ?_
      refine wp_iload4 rfl ?_
      refine wp_ishlE (nI (2 ^ p)) (nn_shl1 _ (by omega)) rfl ?_
      refine wp_iorE (nI (x ||| (2 ^ p))) (nn_or _ _) rfl ?_
      refine wp_istore3 rfl rfl ?_
      refine wp_iinc4N rfl rfl ?_
      refine wp_goto rfl ?_
      exact go _ h1 ⟨rfl, (PB_add (by omega) I1).1 (hPQ.mp c2)⟩
  · intro x h1 I
    show wq _ tb_RoundDance_placesWithSome _ 5 [some (.ref 1), some (.int (nI (sg_ca t.1 c))), some (.int (nI W)), some (.int (nI x)), some (.int (nI (sg_n t.1)))] [] h1 _
    obtain ⟨e1, I1⟩ := I
    subst e1
    refine wp_iload4 rfl ?_
    refine wp_aload0 rfl ?_
    refine wp_getR rfl (Dance_kd X.S) (Dance_R1 X.S) (by first | decide | omega) ?_
    refine wp_getIE rfl (Market_kd (Dance_s1 X.S)) (show _ = nI (sg_n t.1) from X.n) ?_
    refine wp_icmp_geN (sg_n t.1) (sg_n t.1) (by omega) (by omega) rfl (fun _ => ?_) (fun z => absurd z (by omega))
    refine wp_iload3 rfl ?_
    exact wp_iret rfl ⟨_, rfl, ⟨x, rfl, I1⟩, rfl⟩
set_option maxRecDepth 4000 in
theorem Dance_all_ok {h : Hp_} {t : Rt_} {k c W : Nat} (X : XB_ h t k) (hr : ∀ f, f < 6 → hp_I h 31 f = ms_ t.1 f) : cI 3 mn_RoundDance_placesWithAll [.ref 1, .int (nI (sg_ca t.1 c)), .int (nI W)] h (fun y h' => (∃ A, y = nI A ∧ PB_ (sg_n t.1) (fun p => ∀ q, nx_ t.1 c p q → W.testBit q = true) A) ∧ h' = h) := by
  have n8 := X.w.1.2
  have hF := X.w.2.2.2.2.2.2.2.2.1 c
  refine cq_in (q := mi_RoundDance_placesWithAll) (L := [some (.ref 1), some (.int (nI (sg_ca t.1 c))), some (.int (nI W)), none, none]) rfl (Nat.le_of_ble_eq_true rfl) rfl ?_
  show wq _ tb_RoundDance_placesWithAll none 0 _ _ _ _
  refine wp_iconst rfl ?_
  refine wp_istore3 rfl rfl ?_
  refine wp_iconst rfl ?_
  refine wp_istore4 rfl rfl ?_
  refine wq_loop (X := Nat) (fun p x => [some (.ref 1), some (.int (nI (sg_ca t.1 c))), some (.int (nI W)), some (.int (nI x)), some (.int (nI p))]) (fun p x h1 => h1 = h ∧ PB_ p (fun p => ∀ q, nx_ t.1 c p q → W.testBit q = true) x) (sg_n t.1) (0) (0) ?_ ?_ ?_ ?_
  · omega
  · exact ⟨rfl, by decide, fun q => ⟨fun z => (by rw [Nat.zero_testBit] at z; cases z), fun z => absurd z.1 (Nat.not_lt_zero q)⟩⟩
  · intro p x h1 hi I go
    show wq _ tb_RoundDance_placesWithAll _ 5 [some (.ref 1), some (.int (nI (sg_ca t.1 c))), some (.int (nI W)), some (.int (nI x)), some (.int (nI p))] [] h1 _
    obtain ⟨e1, I1⟩ := I
    subst e1
    have hp : p < sg_n t.1 := hi
    refine wp_iload4 rfl ?_
    refine wp_aload0 rfl ?_
    refine wp_getR rfl (Dance_kd X.S) (Dance_R1 X.S) (by first | decide | omega) ?_
    refine wp_getIE rfl (Market_kd (Dance_s1 X.S)) (show _ = nI (sg_n t.1) from X.n) ?_
    refine wp_icmp_geN p (sg_n t.1) (by omega) (by omega) rfl (fun z => absurd z (by omega)) (fun _ => ?_)
    refine wp_aload0 rfl ?_
    refine wp_iload4 rfl ?_
    refine wp_iload1 rfl ?_
    refine wp_callV2I rfl (Nat.le_of_ble_eq_true rfl) (Dance_kd X.S) (Dance_nextPlaces_ok (F := sg_ca t.1 c) X hr (by omega) (by omega)) (Nat.le_of_ble_eq_true rfl) ?_
    rintro _ hx ⟨⟨N, rfl, H⟩, e4⟩
    rw [e4]
    refine wp_iload2 rfl ?_
    refine wp_iconst rfl ?_
    refine wp_ixor rfl ?_
    refine wp_iand rfl ?_
    have hN := H.1
    rw [show nI N &&& (nI W ^^^ (-1)) = nI (N &&& (W ^^^ 255)) from nn_not hN]
    have hl : N &&& (W ^^^ 255) < 256 := Nat.lt_of_le_of_lt Nat.and_le_left hN
    have hPQ : (N &&& (W ^^^ 255) = 0) ↔ ∀ q, nx_ t.1 c p q → W.testBit q = true := (not_z hN).trans (forall_congr' fun q => imp_congr (NX_nx H q) Iff.rfl)
    refine wp_if_neN (N &&& (W ^^^ 255)) 0 (by omega) (by decide) rfl (fun c2 => ?_) (fun c2 => ?_)
    · skip
      refine wp_iinc4N rfl rfl ?_
      refine wp_goto rfl ?_
      exact go x h1 ⟨rfl, (PB_add (by omega) I1).2 (fun z => c2 (hPQ.mpr z))⟩
    · skip
      refine wp_iload3 rfl ?_
      refine wp_iconst rfl ?_
      refine wp_iload4 rfl ?_
      refine wp_ishlE (nI (2 ^ p)) (nn_shl1 _ (by omega)) rfl ?_
      refine wp_iorE (nI (x ||| (2 ^ p))) (nn_or _ _) rfl ?_
      refine wp_istore3 rfl rfl ?_
      refine wp_iinc4N rfl rfl ?_
      refine wp_goto rfl ?_
      exact go _ h1 ⟨rfl, (PB_add (by omega) I1).1 (hPQ.mp c2)⟩
  · intro x h1 I
    show wq _ tb_RoundDance_placesWithAll _ 5 [some (.ref 1), some (.int (nI (sg_ca t.1 c))), some (.int (nI W)), some (.int (nI x)), some (.int (nI (sg_n t.1)))] [] h1 _
    obtain ⟨e1, I1⟩ := I
    subst e1
    refine wp_iload4 rfl ?_
    refine wp_aload0 rfl ?_
    refine wp_getR rfl (Dance_kd X.S) (Dance_R1 X.S) (by first | decide | omega) ?_
    refine wp_getIE rfl (Market_kd (Dance_s1 X.S)) (show _ = nI (sg_n t.1) from X.n) ?_
    refine wp_icmp_geN (sg_n t.1) (sg_n t.1) (by omega) (by omega) rfl (fun _ => ?_) (fun z => absurd z (by omega))
    refine wp_iload3 rfl ?_
    exact wp_iret rfl ⟨_, rfl, ⟨x, rfl, I1⟩, rfl⟩
