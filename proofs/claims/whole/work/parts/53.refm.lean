-- ===== the reference: came =====
theorem nw_z {a : Nat} (ha : a < 2 ^ 62) : lg_cmp (lN a) (lN 0) = 0 ↔ a = 0 := by
  rw [lg_cmp_eq]
  exact pk_lEQ (by omega) (by decide)
theorem nw_p {a : Nat} (ha : a < 2 ^ 62) : lg_cmp (lN a) (lN 0) ≤ 0 ↔ a = 0 := by
  rw [lg_cmp_le, pk_lLE (by omega) (by decide)]
  omega
theorem Ref_firstFrom_ok {h0 h : Hp_} {t : Rt_} {m i : Nat} {u : Nat → Nat} (B : RB_ h0 h t) (F : FN_ h t.1) (R : RO_ h t.1 m 0) (hm : m ≤ 12) (hi : i < m) (hu : IsP (sg_n t.1) u) (hp : 0 < nw_ t.1 m (m - i) u) : cI 2 mn_Ref_firstFrom [.ref 65, .int (nI i), .int (nI (ru_ t.1 u))] h (fun x h' => x = nI (fs_ t.1 m (m - (i + 1)) u) ∧ h' = h) := by
  have ws := B.w
  have hrl := ru_lt ws hu
  rw [show m - i = (m - (i + 1)) + 1 by omega] at hp
  obtain ⟨f1, f2, f3, f4⟩ := fs_ok hp
  have hl : ∀ f, hp_J h 88 (40320 * (i + 1) + ru_ t.1 (fun g => mv_ t.1 f (u g))) = lN (nw_ t.1 m (m - (i + 1)) (fun g => mv_ t.1 f (u g))) := fun f => R (i + 1) (Nat.zero_le _) (by omega) _ (hu.then (mv_P ws f))
  have h12 : ∀ f, nw_ t.1 m (m - (i + 1)) (fun g => mv_ t.1 f (u g)) < 2 ^ 62 := fun f => nw_12 _ _ (by omega) _
  have hnv0 := FN_nv ws F hu (show 0 < 6 by omega)
  rw [Nat.mul_zero, Nat.zero_add] at hnv0
  refine cq_in (q := mi_Ref_firstFrom) (L := [some (.ref 65), some (.int (nI i)), some (.int (nI (ru_ t.1 u))), none, none]) rfl (Nat.le_of_ble_eq_true rfl) rfl ?_
  show wq _ tb_Ref_firstFrom none 0 _ _ _ _
  refine wp_iconst rfl ?_
  refine wp_istore3 rfl rfl ?_
  refine wp_aload0 rfl ?_
  refine wp_getR rfl (Ref_kd B.S) (Ref_R23 B.S) (by first | decide | omega) ?_
  refine wp_iload2 rfl ?_
  refine wp_ialdE (ru_ t.1 u) rfl (Ref_k23 B.S) (by first | decide | omega) (Nat.lt_of_lt_of_eq (show (ru_ t.1 u) < _ by omega) (Eq.symm (Ref_n23 B.S))) (by omega) (hnv0) rfl ?_
  refine wp_istore4 rfl rfl ?_
  refine wq_loop (X := Unit) (fun f x => [some (.ref 65), some (.int (nI i)), some (.int (nI (ru_ t.1 u))), some (.int (nI f)), some (.int (nv_ t.1 u f))]) (fun f x h1 => h1 = h) (fs_ t.1 m (m - (i + 1)) u) (0) (()) ?_ ?_ ?_ ?_
  · omega
  · rfl
  · intro f x h1 hi I k
    show wq _ tb_Ref_firstFrom _ 10 [some (.ref 65), some (.int (nI i)), some (.int (nI (ru_ t.1 u))), some (.int (nI f)), some (.int (nv_ t.1 u f))] [] h1 _
    obtain rfl := I
    have hff := hi
    have hlt : f < fs_ t.1 m (m - (i + 1)) u := by assumption
    have hno := f4 f hlt
    have hnv := FN_nv ws F hu (show f + 1 < 6 by omega)
    cases hmf : may_ t.1 f with
    | false =>
      rw [show nv_ t.1 u f = -6 by unfold nv_; rw [hmf]; rfl]
      refine wp_iload4 rfl ?_
      refine wp_if_lt rfl (fun _ => ?_) (fun z => absurd z (by decide))
      refine wp_iinc3N rfl rfl ?_
      refine wp_aload0 rfl ?_
      refine wp_getR rfl (Ref_kd B.S) (Ref_R23 B.S) (by first | decide | omega) ?_
      refine wp_ldc rfl ?_
      refine wp_iload3 rfl ?_
      refine wp_imulE (nI (40320 * (f + 1))) (pk_mul _ _) rfl ?_
      refine wp_iload2 rfl ?_
      refine wp_iaddE (nI ((40320 * (f + 1)) + (ru_ t.1 u))) (nI_add _ _) rfl ?_
      refine wp_ialdE ((40320 * (f + 1)) + (ru_ t.1 u)) rfl (Ref_k23 B.S) (by first | decide | omega) (Nat.lt_of_lt_of_eq (show ((40320 * (f + 1)) + (ru_ t.1 u)) < _ by omega) (Eq.symm (Ref_n23 B.S))) (by omega) (hnv) rfl ?_
      refine wp_istore4 rfl rfl ?_
      refine wp_goto rfl ?_
      exact k () _ rfl
    | true =>
      rw [show nv_ t.1 u f = nI (ru_ t.1 (fun g => mv_ t.1 f (u g))) by unfold nv_; rw [hmf]; rfl]
      have hr2 := ru_lt ws (hu.then (mv_P ws f))
      have hz : nw_ t.1 m (m - (i + 1)) (fun g => mv_ t.1 f (u g)) = 0 := by
        rcases Nat.eq_zero_or_pos (nw_ t.1 m (m - (i + 1)) (fun g => mv_ t.1 f (u g))) with z | z
        · exact z
        · exact absurd ⟨hmf, z⟩ hno
      refine wp_iload4 rfl ?_
      refine wp_if_ltN (ru_ t.1 (fun g => mv_ t.1 f (u g))) 0 (by omega) (by decide) rfl ?_
      refine wp_aload0 rfl ?_
      refine wp_iload1 rfl ?_
      refine wp_iconst rfl ?_
      refine wp_iaddE (nI (i + 1)) (nI_add _ _) rfl ?_
      refine wp_iload4 rfl ?_
      refine wp_callV2J rfl (Nat.le_of_ble_eq_true rfl) (Ref_kd B.S) (Ref_onFrom_ok B (show i + 1 ≤ 12 by omega) hr2 (hl f)) (Nat.le_of_ble_eq_true rfl) ?_
      refine pure_ ?_
      refine wp_lconst rfl ?_
      refine wp_lcmp rfl ?_
      refine wp_if_ne rfl (fun z => absurd z (fun z => z ((nw_z (h12 f)).mpr hz))) (fun _ => ?_)
      refine wp_iinc3N rfl rfl ?_
      refine wp_aload0 rfl ?_
      refine wp_getR rfl (Ref_kd B.S) (Ref_R23 B.S) (by first | decide | omega) ?_
      refine wp_ldc rfl ?_
      refine wp_iload3 rfl ?_
      refine wp_imulE (nI (40320 * (f + 1))) (pk_mul _ _) rfl ?_
      refine wp_iload2 rfl ?_
      refine wp_iaddE (nI ((40320 * (f + 1)) + (ru_ t.1 u))) (nI_add _ _) rfl ?_
      refine wp_ialdE ((40320 * (f + 1)) + (ru_ t.1 u)) rfl (Ref_k23 B.S) (by first | decide | omega) (Nat.lt_of_lt_of_eq (show ((40320 * (f + 1)) + (ru_ t.1 u)) < _ by omega) (Eq.symm (Ref_n23 B.S))) (by omega) (hnv) rfl ?_
      refine wp_istore4 rfl rfl ?_
      refine wp_goto rfl ?_
      exact k () _ rfl
  · intro x h1 I
    show wq _ tb_Ref_firstFrom _ 10 [some (.ref 65), some (.int (nI i)), some (.int (nI (ru_ t.1 u))), some (.int (nI (fs_ t.1 m (m - (i + 1)) u))), some (.int (nv_ t.1 u (fs_ t.1 m (m - (i + 1)) u)))] [] h1 _
    obtain rfl := I
    have hr2 := ru_lt ws (hu.then (mv_P ws (fs_ t.1 m (m - (i + 1)) u)))
    rw [show nv_ t.1 u (fs_ t.1 m (m - (i + 1)) u) = nI (ru_ t.1 (fun g => mv_ t.1 (fs_ t.1 m (m - (i + 1)) u) (u g))) by unfold nv_; rw [f2]; rfl]
    refine wp_iload4 rfl ?_
    refine wp_if_ltN (ru_ t.1 (fun g => mv_ t.1 (fs_ t.1 m (m - (i + 1)) u) (u g))) 0 (by omega) (by decide) rfl ?_
    refine wp_aload0 rfl ?_
    refine wp_iload1 rfl ?_
    refine wp_iconst rfl ?_
    refine wp_iaddE (nI (i + 1)) (nI_add _ _) rfl ?_
    refine wp_iload4 rfl ?_
    refine wp_callV2J rfl (Nat.le_of_ble_eq_true rfl) (Ref_kd B.S) (Ref_onFrom_ok B (show i + 1 ≤ 12 by omega) hr2 (hl _)) (Nat.le_of_ble_eq_true rfl) ?_
    refine pure_ ?_
    refine wp_lconst rfl ?_
    refine wp_lcmp rfl ?_
    refine wp_if_ne rfl (fun _ => ?_) (fun z => absurd z (fun z => z (fun y => by have := (nw_z (h12 _)).mp y; omega)))
    refine wp_iload3 rfl ?_
    exact wp_iret rfl ⟨_, rfl, rfl, rfl⟩
theorem Ref_firstAt_ok {h0 h : Hp_} {t : Rt_} {m i : Nat} (B : RB_ h0 h t) (F : FN_ h t.1) (R : RO_ h t.1 m 0) (hm : m ≤ 12) (hi : i < m) (hp : 0 < nw_ t.1 m m (fun g => g)) : cI 3 mn_Ref_firstAt [.ref 65, .int (nI i)] h (fun x h' => x = nI (65 + fs_ t.1 m (m - (i + 1)) (pt_ t.1 m i)) ∧ h' = h) := by
  have ws := B.w
  have him := hi
  refine cq_in (q := mi_Ref_firstAt) (L := [some (.ref 65), some (.int (nI i)), none, none]) rfl (Nat.le_of_ble_eq_true rfl) rfl ?_
  show wq _ tb_Ref_firstAt none 0 _ _ _ _
  refine wp_iconst rfl ?_
  refine wp_istore2 rfl rfl ?_
  refine wp_iconst rfl ?_
  refine wp_istore3 rfl rfl ?_
  refine wq_loc (L' := [some (.ref 65), some (.int (nI i)), some (.int (nI (ru_ t.1 (pt_ t.1 m 0)))), some (.int (nI 0))]) (by rw [show ru_ t.1 (pt_ t.1 m 0) = 0 from ru_id ws]) ?_
  refine wq_loop (X := Unit) (fun j x => [some (.ref 65), some (.int (nI i)), some (.int (nI (ru_ t.1 (pt_ t.1 m j)))), some (.int (nI j))]) (fun j x h1 => h1 = h) (i) (0) (()) ?_ ?_ ?_ ?_
  · omega
  · rfl
  · intro j x h1 hi I k
    show wq _ tb_Ref_firstAt _ 4 [some (.ref 65), some (.int (nI i)), some (.int (nI (ru_ t.1 (pt_ t.1 m j)))), some (.int (nI j))] [] h1 _
    obtain rfl := I
    have hji : j < i := by assumption
    have hpos := pt_pos hp j (by omega)
    have hrl := ru_lt ws (pt_P ws m j)
    have hpos2 := hpos
    rw [show m - j = (m - (j + 1)) + 1 by omega] at hpos2
    obtain ⟨f1, f2, f3, f4⟩ := fs_ok hpos2
    have hnv := FN_nv ws F (pt_P ws m j) f1
    rw [show nv_ t.1 (pt_ t.1 m j) (fs_ t.1 m (m - (j + 1)) (pt_ t.1 m j)) = nI (ru_ t.1 (pt_ t.1 m (j + 1))) by unfold nv_; rw [f2]; rfl] at hnv
    refine wp_iload3 rfl ?_
    refine wp_iload1 rfl ?_
    refine wp_icmp_geN j i (by omega) (by omega) rfl (fun z => absurd z (by omega)) (fun _ => ?_)
    refine wp_aload0 rfl ?_
    refine wp_getR rfl (Ref_kd B.S) (Ref_R23 B.S) (by first | decide | omega) ?_
    refine wp_ldc rfl ?_
    refine wp_aload0 rfl ?_
    refine wp_iload3 rfl ?_
    refine wp_iload2 rfl ?_
    refine wp_callV2I rfl (Nat.le_of_ble_eq_true rfl) (Ref_kd B.S) (Ref_firstFrom_ok B F R hm (show j < m by omega) (pt_P ws m j) hpos) (Nat.le_of_ble_eq_true rfl) ?_
    refine pure_ ?_
    refine wp_imulE (nI (40320 * (fs_ t.1 m (m - (j + 1)) (pt_ t.1 m j)))) (pk_mul _ _) rfl ?_
    refine wp_iload2 rfl ?_
    refine wp_iaddE (nI ((40320 * (fs_ t.1 m (m - (j + 1)) (pt_ t.1 m j))) + (ru_ t.1 (pt_ t.1 m j)))) (nI_add _ _) rfl ?_
    refine wp_ialdE ((40320 * (fs_ t.1 m (m - (j + 1)) (pt_ t.1 m j))) + (ru_ t.1 (pt_ t.1 m j))) rfl (Ref_k23 B.S) (by first | decide | omega) (Nat.lt_of_lt_of_eq (show ((40320 * (fs_ t.1 m (m - (j + 1)) (pt_ t.1 m j))) + (ru_ t.1 (pt_ t.1 m j))) < _ by omega) (Eq.symm (Ref_n23 B.S))) (by omega) (show _ = nI (ru_ t.1 (pt_ t.1 m (j + 1))) from hnv) rfl ?_
    refine wp_istore2 rfl rfl ?_
    refine wp_iinc3N rfl rfl ?_
    refine wp_goto rfl ?_
    exact k () _ rfl
  · intro x h1 I
    show wq _ tb_Ref_firstAt _ 4 [some (.ref 65), some (.int (nI i)), some (.int (nI (ru_ t.1 (pt_ t.1 m i)))), some (.int (nI i))] [] h1 _
    obtain rfl := I
    have hpos := pt_pos hp i (by omega)
    refine wp_iload3 rfl ?_
    refine wp_iload1 rfl ?_
    refine wp_icmp_geN i i (by omega) (by omega) rfl (fun _ => ?_) (fun z => absurd z (by omega))
    refine wp_bipush rfl ?_
    refine wp_aload0 rfl ?_
    refine wp_iload1 rfl ?_
    refine wp_iload2 rfl ?_
    refine wp_callV2I rfl (Nat.le_of_ble_eq_true rfl) (Ref_kd B.S) (Ref_firstFrom_ok B F R hm him (pt_P ws m i) hpos) (Nat.le_of_ble_eq_true rfl) ?_
    refine pure_ ?_
    refine wp_iaddE (nI (65 + (fs_ t.1 m (m - (i + 1)) (pt_ t.1 m i)))) (nI_add _ _) rfl ?_
    exact wp_iret rfl ⟨_, rfl, rfl, rfl⟩
/-- a row of booleans tells which ones -/
def ic_ (h : Hp_) (s : Sg_) (c : Nat) (P : (Nat → Nat) → Prop) : Prop := ∀ u, IsP (sg_n s) u → ∃ b : Bool, hp_I h c (ru_ s u) = bo_ b ∧ (b = true ↔ P u)
/-- what the pairs of D have brought -/
def ci_ (h : Hp_) (s : Sg_) (m l x : Nat) (D : (Nat → Nat) → Nat → Prop) : Prop := x < 64 ∧ ic_ h s 90 (fun v => ∃ u f, D u f ∧ rc_ s m l u ∧ f < 6 ∧ may_ s f = true ∧ v = (fun g => mv_ s f (u g)) ∧ 0 < nw_ s m (m - (l + 1)) v) ∧ ∀ f, x.testBit f = true ↔ ∃ u, D u f ∧ rc_ s m l u ∧ f < 6 ∧ may_ s f = true ∧ 0 < nw_ s m (m - (l + 1)) (fun g => mv_ s f (u g))
theorem ci_same {h : Hp_} {s : Sg_} {m l x : Nat} {D E : (Nat → Nat) → Nat → Prop} (hDE : ∀ u f, rc_ s m l u → f < 6 → may_ s f = true → 0 < nw_ s m (m - (l + 1)) (fun g => mv_ s f (u g)) → (D u f ↔ E u f)) (C : ci_ h s m l x D) : ci_ h s m l x E := by
  obtain ⟨a, b, c⟩ := C
  refine ⟨a, fun v hv => ?_, fun f => ?_⟩
  · obtain ⟨b0, h1, h2⟩ := b v hv
    refine ⟨b0, h1, h2.trans ⟨?_, ?_⟩⟩
    · rintro ⟨u, f, d, r, hf, hm, e, hn⟩
      exact ⟨u, f, (hDE u f r hf hm (by rw [← e]; exact hn)).mp d, r, hf, hm, e, hn⟩
    · rintro ⟨u, f, d, r, hf, hm, e, hn⟩
      exact ⟨u, f, (hDE u f r hf hm (by rw [← e]; exact hn)).mpr d, r, hf, hm, e, hn⟩
  · refine (c f).trans ⟨?_, ?_⟩
    · rintro ⟨u, d, r, hf, hm, hn⟩
      exact ⟨u, (hDE u f r hf hm hn).mp d, r, hf, hm, hn⟩
    · rintro ⟨u, d, r, hf, hm, hn⟩
      exact ⟨u, (hDE u f r hf hm hn).mpr d, r, hf, hm, hn⟩
theorem ci_more {h : Hp_} {s : Sg_} {m l x f0 : Nat} {u0 : Nat → Nat} {D : (Nat → Nat) → Nat → Prop} (ws : sg_wf s) (hu : IsP (sg_n s) u0) (hr : rc_ s m l u0) (hf : f0 < 6) (hm : may_ s f0 = true) (hn : 0 < nw_ s m (m - (l + 1)) (fun g => mv_ s f0 (u0 g))) (C : ci_ h s m l x D) : ci_ (hp_rI h 90 (va_up (hp_I h 90) (ru_ s (fun g => mv_ s f0 (u0 g))) (nI 1))) s m l (x ||| 2 ^ f0) (fun u f => D u f ∨ (u = u0 ∧ f = f0)) := by
  obtain ⟨a, b, c⟩ := C
  have hP := hu.then (mv_P ws f0)
  refine ⟨Nat.or_lt_two_pow (n := 6) a (Nat.pow_lt_pow_right (by decide) hf), fun v hv => ?_, fun f => ?_⟩
  · obtain ⟨b0, h1, h2⟩ := b v hv
    by_cases y : v = (fun g => mv_ s f0 (u0 g))
    · refine ⟨true, by rw [y, sd_rI_eq, sd_up_eq]; rfl, fun _ => ⟨u0, f0, Or.inr ⟨rfl, rfl⟩, hr, hf, hm, y, by rw [y]; exact hn⟩, fun _ => rfl⟩
    · refine ⟨b0, by rw [sd_rI_eq, sd_up_ne (fun z => y (ru_inj ws hv hP z))]; exact h1, h2.trans ⟨?_, ?_⟩⟩
      · rintro ⟨u, f, d, r⟩
        exact ⟨u, f, Or.inl d, r⟩
      · rintro ⟨u, f, d | ⟨d1, d2⟩, r1, r2, r3, r4, r5⟩
        · exact ⟨u, f, d, r1, r2, r3, r4, r5⟩
        · rw [d1, d2] at r4
          exact absurd r4 y
  · rw [or_bit, c f]
    constructor
    · rintro (⟨u, d, r⟩ | y)
      · exact ⟨u, Or.inl d, r⟩
      · rw [y]; exact ⟨u0, Or.inr ⟨rfl, rfl⟩, hr, hf, hm, hn⟩
    · rintro ⟨u, d | ⟨d1, d2⟩, r⟩
      · exact Or.inl ⟨u, d, r⟩
      · exact Or.inr d2
set_option maxRecDepth 4000 in
theorem Ref_bitsAt_ok {h0 h : Hp_} {t : Rt_} {m i : Nat} (B : RB_ h0 h t) (F : FN_ h t.1) (R : RO_ h t.1 m 0) (hm : m ≤ 12) (hi : i < m) : cI 3 mn_Ref_bitsAt [.ref 65, .int (nI i)] h (fun x h' => (∃ b, x = nI b ∧ cb_ t.1 m i b) ∧ RB_ h0 h' t) := by
  have n8 := B.n8
  have ws := B.w
  have hce := ce_le n8 (sg_n t.1)
  have him := hi
  refine cq_in (q := mi_Ref_bitsAt) (L := [some (.ref 65), some (.int (nI i)), none, none, none, none, none]) rfl (Nat.le_of_ble_eq_true rfl) rfl ?_
  show wq _ tb_Ref_bitsAt none 0 _ _ _ _
  refine wp_iconst rfl ?_
  refine wp_istore2 rfl rfl ?_
  refine wq_loop (X := Unit) (fun s x => [some (.ref 65), some (.int (nI i)), some (.int (nI s)), none, none, none, none]) (fun s x h1 => fz_ (fun c => c = 89 ∨ c = 90) h h1 ∧ ∀ j, j < s → hp_I h1 89 j = bo_ (decide (j = 0))) (ce_ (sg_n t.1) (sg_n t.1)) (0) (()) ?_ ?_ ?_ ?_
  · omega
  · exact ⟨fz_refl _ _, fun j hj => absurd hj (Nat.not_lt_zero j)⟩
  · intro s x h1 hi I k
    show wq _ tb_Ref_bitsAt _ 2 [some (.ref 65), some (.int (nI i)), some (.int (nI s)), none, none, none, none] [] h1 _
    obtain ⟨z1, a1⟩ := I
    have B1 : RB_ h0 h1 t := RB_fz B (fz_mono (fun c hc => by omega) z1)
    have hsn : s < ce_ (sg_n t.1) (sg_n t.1) := by assumption
    have nxt : ∀ b : Bool, b = decide (s = 0) → ∀ j, j < s + 1 → hp_I (hp_rI h1 89 (va_up (hp_I h1 89) s (bo_ b))) 89 j = bo_ (decide (j = 0)) := by
      intro b hb j hj
      rw [sd_rI_eq, vu_at]
      by_cases y : j = s
      · rw [if_pos y, hb, y]
      · rw [if_neg y]; exact a1 j (by omega)
    refine wp_iload2 rfl ?_
    refine wp_aload0 rfl ?_
    refine wp_getIE rfl (Ref_kd B1.S) (show _ = nI (ce_ (sg_n t.1) (sg_n t.1)) from by rw [fz_I z1 (by decide)]; exact F.1) ?_
    refine wp_icmp_geN s (ce_ (sg_n t.1) (sg_n t.1)) (by omega) (by omega) rfl (fun z => absurd z (by omega)) (fun _ => ?_)
    refine wp_aload0 rfl ?_
    refine wp_getR rfl (Ref_kd B1.S) (Ref_R33 B1.S) (by first | decide | omega) ?_
    refine wp_iload2 rfl ?_
    refine wp_iload2 rfl ?_
    refine wp_if_neN s 0 (by omega) (by decide) rfl (fun c1 => ?_) (fun c1 => ?_)
    · skip
      refine wp_iconst rfl ?_
      refine wp_zast s rfl (Ref_k33 B1.S) (by first | exact Or.inl rfl | exact Or.inr rfl | exact bo_01 _) (Nat.lt_of_lt_of_eq (show s < _ by omega) (Eq.symm (Ref_n33 B1.S))) (by omega) rfl ?_
      refine wp_iinc2N rfl rfl ?_
      refine wp_goto rfl ?_
      exact k () _ ⟨fz_rI z1 (Or.inl rfl) _, nxt false (decide_eq_false c1).symm⟩
    · skip
      refine wp_iconst rfl ?_
      refine wp_goto rfl ?_
      refine wp_zast s rfl (Ref_k33 B1.S) (by first | exact Or.inl rfl | exact Or.inr rfl | exact bo_01 _) (Nat.lt_of_lt_of_eq (show s < _ by omega) (Eq.symm (Ref_n33 B1.S))) (by omega) rfl ?_
      refine wp_iinc2N rfl rfl ?_
      refine wp_goto rfl ?_
      exact k () _ ⟨fz_rI z1 (Or.inl rfl) _, nxt true (decide_eq_true c1).symm⟩
  · intro x h1 I
    show wq _ tb_Ref_bitsAt _ 2 [some (.ref 65), some (.int (nI i)), some (.int (nI (ce_ (sg_n t.1) (sg_n t.1)))), none, none, none, none] [] h1 _
    obtain ⟨z1, a1⟩ := I
    have B1 : RB_ h0 h1 t := RB_fz B (fz_mono (fun c hc => by omega) z1)
    have F1 : FN_ h1 t.1 := FN_cong (by rw [fz_I z1 (by decide)]) (fz_I z1 (by decide)) (fz_I z1 (by decide)) F
    have R1 : RO_ h1 t.1 m 0 := fun l a b u c => by rw [fz_J z1 (by decide)]; exact R l a b u c
    have I0 : ic_ h1 t.1 89 (rc_ t.1 m 0) := fun u hu => ⟨decide (ru_ t.1 u = 0), a1 _ (ru_ce ws hu), by
      rw [decide_eq_true_iff]
      constructor
      · intro z
        rw [← ru_id ws] at z
        exact ru_inj ws hu (IsP.id _) z
      · intro z
        rw [show u = fun g => g from z]
        exact ru_id ws⟩
    refine wp_iload2 rfl ?_
    refine wp_aload0 rfl ?_
    refine wp_getIE rfl (Ref_kd B1.S) (show _ = nI (ce_ (sg_n t.1) (sg_n t.1)) from F1.1) ?_
    refine wp_icmp_geN (ce_ (sg_n t.1) (sg_n t.1)) (ce_ (sg_n t.1) (sg_n t.1)) (by omega) (by omega) rfl (fun _ => ?_) (fun z => absurd z (by omega))
    refine wp_iconst rfl ?_
    refine wp_istore2 rfl rfl ?_
    refine wp_iconst rfl ?_
    refine wp_istore3 rfl rfl ?_
    refine wq_loop (X := Nat × Option Value × Option Value × Option Value) (fun l x => [some (.ref 65), some (.int (nI i)), some (.int (nI x.1)), some (.int (nI l)), x.2.1, x.2.2.1, x.2.2.2]) (fun l x h2 => fz_ (fun c => c = 89 ∨ c = 90) h1 h2 ∧ ic_ h2 t.1 89 (rc_ t.1 m l) ∧ ∀ l2, l = l2 + 1 → cb_ t.1 m l2 x.1) (i + 1) (0) ((0, none, none, none)) ?_ ?_ ?_ ?_
    · omega
    · exact ⟨fz_refl _ _, I0, fun l2 h => by omega⟩
    · intro l x h2 hi J k
      show wq _ tb_Ref_bitsAt _ 35 [some (.ref 65), some (.int (nI i)), some (.int (nI x.1)), some (.int (nI l)), x.2.1, x.2.2.1, x.2.2.2] [] h2 _
      obtain ⟨z2, a2, b2⟩ := J
      have B2 : RB_ h0 h2 t := RB_fz B1 (fz_mono (fun c hc => by omega) z2)
      have F2 : FN_ h2 t.1 := FN_cong (by rw [fz_I z2 (by decide)]) (fz_I z2 (by decide)) (fz_I z2 (by decide)) F1
      have R2 : RO_ h2 t.1 m 0 := fun l a b u c => by rw [fz_J z2 (by decide)]; exact R1 l a b u c
      have hli : l < i + 1 := by assumption
      refine wp_iload3 rfl ?_
      refine wp_iload1 rfl ?_
      refine wp_icmp_gtN l i (by omega) (by omega) rfl (fun z => absurd z (by omega)) (fun _ => ?_)
      refine wp_iconst rfl ?_
      refine wp_istore2 rfl rfl ?_
      refine wp_iconst rfl ?_
      refine wp_istore4 rfl rfl ?_
      refine wq_loop (X := Option Value × Option Value) (fun s x => [some (.ref 65), some (.int (nI i)), some (.int (nI 0)), some (.int (nI l)), some (.int (nI s)), x.1, x.2]) (fun s x h3 => fz_ (fun c => c = 90) h2 h3 ∧ ∀ j, j < s → hp_I h3 90 j = nI 0) (ce_ (sg_n t.1) (sg_n t.1)) (0) ((x.2.2.1, x.2.2.2)) ?_ ?_ ?_ ?_
      · omega
      · exact ⟨fz_refl _ _, fun j hj => absurd hj (Nat.not_lt_zero j)⟩
      · intro s x h3 hi K k
        show wq _ tb_Ref_bitsAt _ 45 [some (.ref 65), some (.int (nI i)), some (.int (nI 0)), some (.int (nI l)), some (.int (nI s)), x.1, x.2] [] h3 _
        obtain ⟨z3, a3⟩ := K
        have B3 : RB_ h0 h3 t := RB_fz B2 (fz_mono (fun c hc => by omega) z3)
        refine wp_iload4 rfl ?_
        refine wp_aload0 rfl ?_
        refine wp_getIE rfl (Ref_kd B3.S) (show _ = nI (ce_ (sg_n t.1) (sg_n t.1)) from by rw [fz_I z3 (by decide)]; exact F2.1) ?_
        refine wp_icmp_geN s (ce_ (sg_n t.1) (sg_n t.1)) (by omega) (by omega) rfl (fun z => absurd z (by omega)) (fun _ => ?_)
        refine wp_aload0 rfl ?_
        refine wp_getR rfl (Ref_kd B3.S) (Ref_R34 B3.S) (by first | decide | omega) ?_
        refine wp_iload4 rfl ?_
        refine wp_iconst rfl ?_
        refine wp_zast s rfl (Ref_k34 B3.S) (by first | exact Or.inl rfl | exact Or.inr rfl | exact bo_01 _) (Nat.lt_of_lt_of_eq (show s < _ by omega) (Eq.symm (Ref_n34 B3.S))) (by omega) rfl ?_
        refine wp_iinc4N rfl rfl ?_
        refine wp_goto rfl ?_
        refine k x _ ⟨fz_rI z3 rfl _, fun j hj => ?_⟩
        rw [sd_rI_eq, vu_at]
        split
        · rfl
        · exact a3 j (by omega)
      · intro x h3 K
        show wq _ tb_Ref_bitsAt _ 45 [some (.ref 65), some (.int (nI i)), some (.int (nI 0)), some (.int (nI l)), some (.int (nI (ce_ (sg_n t.1) (sg_n t.1)))), x.1, x.2] [] h3 _
        obtain ⟨z3, a3⟩ := K
        have B3 : RB_ h0 h3 t := RB_fz B2 (fz_mono (fun c hc => by omega) z3)
        have C3 : ci_ h3 t.1 m l 0 (fun u f => ru_ t.1 u < 0) := ⟨by decide, fun v hv => ⟨false, a3 _ (ru_ce ws hv), fun z => absurd z Bool.false_ne_true, fun ⟨u, f, d, _⟩ => absurd d (Nat.not_lt_zero _)⟩, fun f => ⟨fun z => (by rw [Nat.zero_testBit] at z; cases z), fun ⟨u, d, _⟩ => absurd d (Nat.not_lt_zero _)⟩⟩
        refine wp_iload4 rfl ?_
        refine wp_aload0 rfl ?_
        refine wp_getIE rfl (Ref_kd B3.S) (show _ = nI (ce_ (sg_n t.1) (sg_n t.1)) from by rw [fz_I z3 (by decide)]; exact F2.1) ?_
        refine wp_icmp_geN (ce_ (sg_n t.1) (sg_n t.1)) (ce_ (sg_n t.1) (sg_n t.1)) (by omega) (by omega) rfl (fun _ => ?_) (fun z => absurd z (by omega))
        refine wp_iconst rfl ?_
        refine wp_istore4 rfl rfl ?_
        refine wq_loop (X := Nat × Option Value × Option Value) (fun s x => [some (.ref 65), some (.int (nI i)), some (.int (nI x.1)), some (.int (nI l)), some (.int (nI s)), x.2.1, x.2.2]) (fun s x h4 => fz_ (fun c => c = 90) h2 h4 ∧ ci_ h4 t.1 m l x.1 (fun u f => ru_ t.1 u < s)) (ce_ (sg_n t.1) (sg_n t.1)) (0) ((0, x.1, x.2)) ?_ ?_ ?_ ?_
        · omega
        · exact ⟨z3, C3⟩
        · intro s x h4 hi M k
          show wq _ tb_Ref_bitsAt _ 71 [some (.ref 65), some (.int (nI i)), some (.int (nI x.1)), some (.int (nI l)), some (.int (nI s)), x.2.1, x.2.2] [] h4 _
          obtain ⟨z4, C4⟩ := M
          have B4 : RB_ h0 h4 t := RB_fz B2 (fz_mono (fun c hc => by omega) z4)
          have hsn : s < ce_ (sg_n t.1) (sg_n t.1) := by assumption
          obtain ⟨u, uP, us⟩ := ru_surj ws hsn
          obtain ⟨b0, hb1, hb2⟩ := a2 u uP
          rw [us] at hb1
          have eD : ∀ v, rc_ t.1 m l v → (ru_ t.1 v < s + 1 ↔ ru_ t.1 v < s ∨ v = u) := fun v hv => ⟨fun z => by
            rcases Nat.lt_or_ge (ru_ t.1 v) s with q | q
            · exact Or.inl q
            · exact Or.inr (ru_inj ws (rc_P ws m l v hv) uP (by omega)), fun z => by
            rcases z with q | q
            · omega
            · rw [q]; omega⟩
          refine wp_iload4 rfl ?_
          refine wp_aload0 rfl ?_
          refine wp_getIE rfl (Ref_kd B4.S) (show _ = nI (ce_ (sg_n t.1) (sg_n t.1)) from by rw [fz_I z4 (by decide)]; exact F2.1) ?_
          refine wp_icmp_geN s (ce_ (sg_n t.1) (sg_n t.1)) (by omega) (by omega) rfl (fun z => absurd z (by omega)) (fun _ => ?_)
          refine wp_iconst rfl ?_
          refine wp_istore5 rfl rfl ?_
          have kS := k
          refine wq_loop (X := Nat × Option Value) (fun f x => [some (.ref 65), some (.int (nI i)), some (.int (nI x.1)), some (.int (nI l)), some (.int (nI s)), some (.int (nI f)), x.2]) (fun f x h5 => fz_ (fun c => c = 90) h2 h5 ∧ ci_ h5 t.1 m l x.1 (fun v f2 => ru_ t.1 v < s ∨ (v = u ∧ f2 < f))) (6) (0) ((x.1, x.2.2)) ?_ ?_ ?_ ?_
          · omega
          · exact ⟨z4, ci_same (fun v f2 _ _ _ _ => ⟨Or.inl, fun y => y.elim id (fun y => absurd y.2 (Nat.not_lt_zero f2))⟩) C4⟩
          · intro f x h5 hi N k
            show wq _ tb_Ref_bitsAt _ 83 [some (.ref 65), some (.int (nI i)), some (.int (nI x.1)), some (.int (nI l)), some (.int (nI s)), some (.int (nI f)), x.2] [] h5 _
            obtain ⟨z5, C5⟩ := N
            have B5 : RB_ h0 h5 t := RB_fz B2 (fz_mono (fun c hc => by omega) z5)
            have hf6 : f < 6 := by assumption
            have uf : (2 : Nat) ^ f < 64 := Nat.pow_lt_pow_right (a := 2) (n := 6) (by decide) hf6
            refine wp_iload5 rfl ?_
            refine wp_bipush rfl ?_
            refine wp_icmp_geN f 6 (by omega) (by omega) rfl (fun z => absurd z (by omega)) (fun _ => ?_)
            refine wp_aload0 rfl ?_
            refine wp_getR rfl (Ref_kd B5.S) (Ref_R33 B5.S) (by first | decide | omega) ?_
            refine wp_iload4 rfl ?_
            refine wp_zaldE s rfl (Ref_k33 B5.S) (Nat.lt_of_lt_of_eq (show s < _ by omega) (Eq.symm (Ref_n33 B5.S))) (by omega) (show _ = bo_ b0 from by rw [fz_I z5 (by decide)]; exact hb1) rfl ?_
            refine wp_if_eqB rfl (fun c1 => ?_) (fun c1 => ?_)
            · skip
              refine wp_iinc4N rfl rfl ?_
              refine wp_goto rfl ?_
              refine kS (x.1, some (.int (nI f)), x.2) _ ⟨z5, ci_same (fun v f2 hv _ _ _ => ?_) C5⟩
              rw [eD v hv]
              refine or_congr Iff.rfl ⟨fun y => y.1, fun y => ?_⟩
              rw [y] at hv
              rw [hb2.mpr hv] at c1
              cases c1
            · skip
              refine wp_aload0 rfl ?_
              refine wp_getR rfl (Ref_kd B5.S) (Ref_R23 B5.S) (by first | decide | omega) ?_
              refine wp_ldc rfl ?_
              refine wp_iload5 rfl ?_
              refine wp_imulE (nI (40320 * f)) (pk_mul _ _) rfl ?_
              refine wp_iload4 rfl ?_
              refine wp_iaddE (nI ((40320 * f) + s)) (nI_add _ _) rfl ?_
              have hru := hb2.mp c1
              have hnv := FN_nv ws F2 uP hf6
              rw [us] at hnv
              have hnv5 : hp_I h5 81 (40320 * f + s) = nv_ t.1 u f := by rw [fz_I z5 (by decide)]; exact hnv
              have keep : ∀ (hno : ¬ (may_ t.1 f = true ∧ 0 < nw_ t.1 m (m - (l + 1)) (fun g => mv_ t.1 f (u g)))), ci_ h5 t.1 m l x.1 (fun v f2 => ru_ t.1 v < s ∨ (v = u ∧ f2 < f + 1)) := fun hno => ci_same (fun v f2 hv hf hm hn => or_congr Iff.rfl ⟨fun y => ⟨y.1, by omega⟩, fun y => ⟨y.1, by
                rcases Nat.lt_or_ge f2 f with q | q
                · exact q
                · obtain rfl : f2 = f := by omega
                  rw [y.1] at hn
                  exact absurd ⟨hm, hn⟩ hno⟩⟩) C5
              cases hmf : may_ t.1 f with
              | false =>
                rw [show nv_ t.1 u f = -6 by unfold nv_; rw [hmf]; rfl] at hnv5
                refine wp_ialdE ((40320 * f) + s) rfl (Ref_k23 B5.S) (by first | decide | omega) (Nat.lt_of_lt_of_eq (show ((40320 * f) + s) < _ by omega) (Eq.symm (Ref_n23 B5.S))) (by omega) (hnv5) rfl ?_
                refine wp_istore6 rfl rfl ?_
                refine wp_iload6 rfl ?_
                refine wp_if_lt rfl (fun _ => ?_) (fun z => absurd z (by decide))
                refine wp_iinc5N rfl rfl ?_
                refine wp_goto rfl ?_
                exact k (x.1, some (.int (-6))) _ ⟨z5, keep (fun y => by rw [hmf] at y; exact absurd y.1 Bool.false_ne_true)⟩
              | true =>
                have mP := uP.then (mv_P ws f)
                have hr2 := ru_lt ws mP
                have h12 := nw_12 t.1 m (show m - (l + 1) ≤ 12 by omega) (fun g => mv_ t.1 f (u g))
                rw [show nv_ t.1 u f = nI (ru_ t.1 (fun g => mv_ t.1 f (u g))) by unfold nv_; rw [hmf]; rfl] at hnv5
                refine wp_ialdE ((40320 * f) + s) rfl (Ref_k23 B5.S) (by first | decide | omega) (Nat.lt_of_lt_of_eq (show ((40320 * f) + s) < _ by omega) (Eq.symm (Ref_n23 B5.S))) (by omega) (show _ = nI (ru_ t.1 (fun g => mv_ t.1 f (u g))) from hnv5) rfl ?_
                refine wp_istore6 rfl rfl ?_
                refine wp_iload6 rfl ?_
                refine wp_if_ltN (ru_ t.1 (fun g => mv_ t.1 f (u g))) 0 (by omega) (by decide) rfl ?_
                refine wp_aload0 rfl ?_
                refine wp_iload3 rfl ?_
                refine wp_iconst rfl ?_
                refine wp_iaddE (nI (l + 1)) (nI_add _ _) rfl ?_
                refine wp_iload6 rfl ?_
                refine wp_callV2J rfl (Nat.le_of_ble_eq_true rfl) (Ref_kd B5.S) (Ref_onFrom_ok B5 (show l + 1 ≤ 12 by omega) hr2 (show hp_J h5 88 (40320 * (l + 1) + ru_ t.1 (fun g => mv_ t.1 f (u g))) = lN (nw_ t.1 m (m - (l + 1)) (fun g => mv_ t.1 f (u g))) from by rw [fz_J z5 (by decide)]; exact R2 (l + 1) (Nat.zero_le _) (by omega) _ mP)) (Nat.le_of_ble_eq_true rfl) ?_
                refine pure_ ?_
                refine wp_lconst rfl ?_
                refine wp_lcmp rfl ?_
                refine wp_if_le rfl (fun c3 => ?_) (fun c3 => ?_)
                · skip
                  refine wp_iinc5N rfl rfl ?_
                  refine wp_goto rfl ?_
                  have hz := (nw_p h12).mp c3
                  exact k (x.1, some (.int (nI (ru_ t.1 (fun g => mv_ t.1 f (u g)))))) _ ⟨z5, keep (fun y => by omega)⟩
                · skip
                  refine wp_aload0 rfl ?_
                  refine wp_getR rfl (Ref_kd B5.S) (Ref_R34 B5.S) (by first | decide | omega) ?_
                  refine wp_iload6 rfl ?_
                  refine wp_iconst rfl ?_
                  have hz : 0 < nw_ t.1 m (m - (l + 1)) (fun g => mv_ t.1 f (u g)) := by
                    rcases Nat.eq_zero_or_pos (nw_ t.1 m (m - (l + 1)) (fun g => mv_ t.1 f (u g))) with y | y
                    · exact absurd ((nw_p h12).mpr y) c3
                    · exact y
                  refine wp_zast (ru_ t.1 (fun g => mv_ t.1 f (u g))) rfl (Ref_k34 B5.S) (by first | exact Or.inl rfl | exact Or.inr rfl | exact bo_01 _) (Nat.lt_of_lt_of_eq (show (ru_ t.1 (fun g => mv_ t.1 f (u g))) < _ by omega) (Eq.symm (Ref_n34 B5.S))) (by omega) rfl ?_
                  refine wp_iload2 rfl ?_
                  refine wp_iconst rfl ?_
                  refine wp_iload5 rfl ?_
                  refine wp_ishlE (nI (2 ^ f)) (nn_shl1 _ (by omega)) rfl ?_
                  refine wp_iorE (nI ((x.1) ||| (2 ^ f))) (nn_or _ _) rfl ?_
                  refine wp_istore2 rfl rfl ?_
                  refine wp_iinc5N rfl rfl ?_
                  refine wp_goto rfl ?_
                  refine k (x.1 ||| 2 ^ f, some (.int (nI (ru_ t.1 (fun g => mv_ t.1 f (u g)))))) _ ⟨fz_rI z5 rfl _, ci_same (fun v f2 hv hf hm hn => ?_) (ci_more ws uP hru hf6 hmf hz C5)⟩
                  constructor
                  · rintro ((y | y) | y)
                    · exact Or.inl y
                    · exact Or.inr ⟨y.1, by omega⟩
                    · exact Or.inr ⟨y.1, by omega⟩
                  · rintro (y | y)
                    · exact Or.inl (Or.inl y)
                    · rcases Nat.lt_or_ge f2 f with q | q
                      · exact Or.inl (Or.inr ⟨y.1, q⟩)
                      · exact Or.inr ⟨y.1, by omega⟩
          · intro x h5 N
            show wq _ tb_Ref_bitsAt _ 83 [some (.ref 65), some (.int (nI i)), some (.int (nI x.1)), some (.int (nI l)), some (.int (nI s)), some (.int (nI 6)), x.2] [] h5 _
            obtain ⟨z5, C5⟩ := N
            refine wp_iload5 rfl ?_
            refine wp_bipush rfl ?_
            refine wp_icmp_geN 6 6 (by omega) (by omega) rfl (fun _ => ?_) (fun z => absurd z (by omega))
            refine wp_iinc4N rfl rfl ?_
            refine wp_goto rfl ?_
            exact k (x.1, some (.int (nI 6)), x.2) _ ⟨z5, ci_same (fun v f2 hv hf _ _ => by
              rw [eD v hv]
              exact or_congr Iff.rfl ⟨fun y => y.1, fun y => ⟨y, hf⟩⟩) C5⟩
        · intro x h4 M
          show wq _ tb_Ref_bitsAt _ 71 [some (.ref 65), some (.int (nI i)), some (.int (nI x.1)), some (.int (nI l)), some (.int (nI (ce_ (sg_n t.1) (sg_n t.1)))), x.2.1, x.2.2] [] h4 _
          obtain ⟨z4, C4⟩ := M
          obtain ⟨xb, x5, x6⟩ := x
          dsimp only at C4
          show wq _ tb_Ref_bitsAt _ 71 [some (.ref 65), some (.int (nI i)), some (.int (nI xb)), some (.int (nI l)), some (.int (nI (ce_ (sg_n t.1) (sg_n t.1)))), x5, x6] [] h4 _
          have B4 : RB_ h0 h4 t := RB_fz B2 (fz_mono (fun c hc => by omega) z4)
          have C4b : cb_ t.1 m l xb := ⟨C4.1, fun f => (C4.2.2 f).trans ⟨fun ⟨u, d, r, hf, hm, hn⟩ => ⟨hf, hm, u, r, hn⟩, fun ⟨hf, hm, u, r, hn⟩ => ⟨u, ru_ce ws (rc_P ws m l u r), r, hf, hm, hn⟩⟩⟩
          have C4c : ic_ h4 t.1 90 (rc_ t.1 m (l + 1)) := fun v hv => by
            obtain ⟨b0, h1, h2⟩ := C4.2.1 v hv
            refine ⟨b0, h1, h2.trans ⟨?_, ?_⟩⟩
            · rintro ⟨u, f, d, r, hf, hm, e, hn⟩
              exact ⟨u, f, r, hf, hm, e, hn⟩
            · rintro ⟨u, f, r, hf, hm, e, hn⟩
              exact ⟨u, f, ru_ce ws (rc_P ws m l u r), r, hf, hm, e, hn⟩
          refine wp_iload4 rfl ?_
          refine wp_aload0 rfl ?_
          refine wp_getIE rfl (Ref_kd B4.S) (show _ = nI (ce_ (sg_n t.1) (sg_n t.1)) from by rw [fz_I z4 (by decide)]; exact F2.1) ?_
          refine wp_icmp_geN (ce_ (sg_n t.1) (sg_n t.1)) (ce_ (sg_n t.1) (sg_n t.1)) (by omega) (by omega) rfl (fun _ => ?_) (fun z => absurd z (by omega))
          refine wp_iconst rfl ?_
          refine wp_istore4 rfl rfl ?_
          refine wq_loop (X := Unit) (fun s x => [some (.ref 65), some (.int (nI i)), some (.int (nI xb)), some (.int (nI l)), some (.int (nI s)), x5, x6]) (fun s x h5 => fz_ (fun c => c = 89) h4 h5 ∧ ∀ j, j < s → hp_I h5 89 j = hp_I h4 90 j) (ce_ (sg_n t.1) (sg_n t.1)) (0) (()) ?_ ?_ ?_ ?_
          · omega
          · exact ⟨fz_refl _ _, fun j hj => absurd hj (Nat.not_lt_zero j)⟩
          · intro s x h5 hi N k
            show wq _ tb_Ref_bitsAt _ 164 [some (.ref 65), some (.int (nI i)), some (.int (nI xb)), some (.int (nI l)), some (.int (nI s)), x5, x6] [] h5 _
            obtain ⟨z5, a5⟩ := N
            have B5 : RB_ h0 h5 t := RB_fz B4 (fz_mono (fun c hc => by omega) z5)
            have hsn : s < ce_ (sg_n t.1) (sg_n t.1) := by assumption
            obtain ⟨u, uP, us⟩ := ru_surj ws hsn
            obtain ⟨b0, hb1, hb2⟩ := C4c u uP
            rw [us] at hb1
            refine wp_iload4 rfl ?_
            refine wp_aload0 rfl ?_
            refine wp_getIE rfl (Ref_kd B5.S) (show _ = nI (ce_ (sg_n t.1) (sg_n t.1)) from by rw [fz_I z5 (by decide), fz_I z4 (by decide)]; exact F2.1) ?_
            refine wp_icmp_geN s (ce_ (sg_n t.1) (sg_n t.1)) (by omega) (by omega) rfl (fun z => absurd z (by omega)) (fun _ => ?_)
            refine wp_aload0 rfl ?_
            refine wp_getR rfl (Ref_kd B5.S) (Ref_R33 B5.S) (by first | decide | omega) ?_
            refine wp_iload4 rfl ?_
            refine wp_aload0 rfl ?_
            refine wp_getR rfl (Ref_kd B5.S) (Ref_R34 B5.S) (by first | decide | omega) ?_
            refine wp_iload4 rfl ?_
            refine wp_zaldE s rfl (Ref_k34 B5.S) (Nat.lt_of_lt_of_eq (show s < _ by omega) (Eq.symm (Ref_n34 B5.S))) (by omega) (show _ = bo_ b0 from by rw [fz_I z5 (by decide)]; exact hb1) rfl ?_
            refine wp_zast s rfl (Ref_k33 B5.S) (by first | exact Or.inl rfl | exact Or.inr rfl | exact bo_01 _) (Nat.lt_of_lt_of_eq (show s < _ by omega) (Eq.symm (Ref_n33 B5.S))) (by omega) rfl ?_
            refine wp_iinc4N rfl rfl ?_
            refine wp_goto rfl ?_
            refine k () _ ⟨fz_rI z5 rfl _, fun j hj => ?_⟩
            rw [sd_rI_eq, vu_at]
            by_cases y : j = s
            · rw [if_pos y, y, hb1]
            · rw [if_neg y]; exact a5 j (by omega)
          · intro x h5 N
            show wq _ tb_Ref_bitsAt _ 164 [some (.ref 65), some (.int (nI i)), some (.int (nI xb)), some (.int (nI l)), some (.int (nI (ce_ (sg_n t.1) (sg_n t.1)))), x5, x6] [] h5 _
            obtain ⟨z5, a5⟩ := N
            have B5 : RB_ h0 h5 t := RB_fz B4 (fz_mono (fun c hc => by omega) z5)
            refine wp_iload4 rfl ?_
            refine wp_aload0 rfl ?_
            refine wp_getIE rfl (Ref_kd B5.S) (show _ = nI (ce_ (sg_n t.1) (sg_n t.1)) from by rw [fz_I z5 (by decide), fz_I z4 (by decide)]; exact F2.1) ?_
            refine wp_icmp_geN (ce_ (sg_n t.1) (sg_n t.1)) (ce_ (sg_n t.1) (sg_n t.1)) (by omega) (by omega) rfl (fun _ => ?_) (fun z => absurd z (by omega))
            refine wp_iinc3N rfl rfl ?_
            refine wp_goto rfl ?_
            refine k (_, _, _, _) _ ⟨fz_trans z2 (fz_trans (fz_mono (fun c hc => Or.inr hc) z4) (fz_mono (fun c hc => Or.inl hc) z5)), fun v hv => ?_, fun l2 h => ?_⟩
            · obtain ⟨b0, h1, h2⟩ := C4c v hv
              exact ⟨b0, by rw [a5 _ (ru_ce ws hv)]; exact h1, h2⟩
            · obtain rfl : l2 = l := by omega
              exact C4b
    · intro x h2 J
      show wq _ tb_Ref_bitsAt _ 35 [some (.ref 65), some (.int (nI i)), some (.int (nI x.1)), some (.int (nI (i + 1))), x.2.1, x.2.2.1, x.2.2.2] [] h2 _
      obtain ⟨z2, a2, b2⟩ := J
      have B2 : RB_ h0 h2 t := RB_fz B1 (fz_mono (fun c hc => by omega) z2)
      refine wp_iload3 rfl ?_
      refine wp_iload1 rfl ?_
      refine wp_icmp_gtN (i + 1) i (by omega) (by omega) rfl (fun _ => ?_) (fun z => absurd z (by omega))
      refine wp_iload2 rfl ?_
      exact wp_iret rfl ⟨_, rfl, ⟨_, rfl, b2 i rfl⟩, B2⟩
def an_came_ (t : Rt_) (m i w : Int32) (x : Int32) : Prop := if rg_ 0 12 m && (decide (0 ≤ i.toInt ∧ i.toInt < m.toInt) && rg_ 0 1 w) then (if nw_ t.1 m.toNatClampNeg m.toNatClampNeg (fun g => g) = 0 then x = -6 else if w = 0 then x = nI (65 + fs_ t.1 m.toNatClampNeg (m.toNatClampNeg - (i.toNatClampNeg + 1)) (pt_ t.1 m.toNatClampNeg i.toNatClampNeg)) else ∃ b, cb_ t.1 m.toNatClampNeg i.toNatClampNeg b ∧ x = nI b) else x = -2
theorem Ref_came_ok {h0 h : Hp_} {t : Rt_} {m i w : Int32} (B : RB_ h0 h t) : cI 5 mn_Ref_came [.ref 65, .int m, .int i, .int w] h (fun y h' => an_came_ t m i w y ∧ RB_ h0 h' t) := by
  refine cq_in (q := mi_Ref_came) (L := [some (.ref 65), some (.int m), some (.int i), some (.int w)]) rfl (Nat.le_of_ble_eq_true rfl) rfl ?_
  show wq _ tb_Ref_came none 0 _ _ _ _
  refine wp_iload1 rfl ?_
  refine wp_i2l rfl ?_
  refine wp_lconst rfl ?_
  refine wp_ldc2_w rfl ?_
  refine wp_callS3I rfl (Nat.le_of_ble_eq_true rfl) (Ref_inN_ok (a := 0) (b := 12) (by omega) (by omega)) (Nat.le_of_ble_eq_true rfl) ?_
  refine pure_ ?_
  refine wp_if_eqB rfl (fun c1 => ?_) (fun c1 => ?_)
  · skip
    refine wp_bipush rfl ?_
    exact wp_iret rfl ⟨_, rfl, by unfold an_came_; rw [show rg_ 0 12 m = false from c1]; rfl, B⟩
  · skip
    obtain ⟨m, _, hm, hmb, rfl⟩ := rg_of (a := 0) (b := 12) c1
    refine wp_iload2 rfl ?_
    refine wp_i2l rfl ?_
    refine wp_lconst rfl ?_
    refine wp_iload1 rfl ?_
    refine wp_iconst rfl ?_
    refine wp_isub rfl ?_
    refine wp_i2l rfl ?_
    refine wp_callS3I rfl (Nat.le_of_ble_eq_true rfl) (Ref_in_ok) (Nat.le_of_ble_eq_true rfl) ?_
    refine pure_ ?_
    have erg : decide ((lN 0).toInt ≤ i.toInt64.toInt ∧ i.toInt64.toInt ≤ (nI m - nI 1).toInt64.toInt) = decide (0 ≤ i.toInt ∧ i.toInt < (nI m).toInt) := by
      rw [Int32.toInt_toInt64, Int32.toInt_toInt64, pk_sub_toInt (by omega) (by omega), lN_toInt (by omega), nI_toInt hmb]
      exact decide_eq_decide.mpr (by omega)
    rw [erg]
    refine wp_if_eqB rfl (fun c2 => ?_) (fun c2 => ?_)
    · skip
      refine wp_bipush rfl ?_
      exact wp_iret rfl ⟨_, rfl, by unfold an_came_; rw [c2, Bool.false_and, Bool.and_false]; rfl, B⟩
    · skip
      refine wp_iload3 rfl ?_
      refine wp_i2l rfl ?_
      refine wp_lconst rfl ?_
      refine wp_lconst rfl ?_
      refine wp_callS3I rfl (Nat.le_of_ble_eq_true rfl) (Ref_inN_ok (a := 0) (b := 1) (by omega) (by omega)) (Nat.le_of_ble_eq_true rfl) ?_
      refine pure_ ?_
      refine wp_if_neB rfl (fun c3 => ?_) (fun c3 => ?_)
      · skip
        have c4 := of_decide_eq_true c2
        obtain ⟨i, hib, rfl⟩ := nI_of (x := i) (by rw [Int32.lt_iff_toInt_lt]; show ¬ i.toInt < 0; omega)
        rw [nI_toInt hib, nI_toInt hmb] at c4
        have hi : i < m := by omega
        have e0 : ∀ y, an_came_ t (nI m) (nI i) w y = (if nw_ t.1 m m (fun g => g) = 0 then y = -6 else if w = 0 then y = nI (65 + fs_ t.1 m (m - (i + 1)) (pt_ t.1 m i)) else ∃ b, cb_ t.1 m i b ∧ y = nI b) := fun y => by unfold an_came_; rw [show rg_ 0 12 (nI m) = true from c1, c2, show rg_ 0 1 w = true from c3, nI_clamp hmb, nI_clamp hib]; rfl
        refine wp_aload0 rfl ?_
        refine wp_iload1 rfl ?_
        refine wp_callV1V rfl (Nat.le_of_ble_eq_true rfl) (Ref_kd B.S) (Ref_findRows_ok B hm) (Nat.le_of_ble_eq_true rfl) ?_
        rintro h1 ⟨B1, F1, R1⟩
        have h12 := nw_12 t.1 m hm (fun g => g)
        refine wp_aload0 rfl ?_
        refine wp_getR rfl (Ref_kd B1.S) (Ref_R32 B1.S) (by first | decide | omega) ?_
        refine wp_iconst rfl ?_
        refine wp_laldE 0 rfl (Ref_k32 B1.S) (Nat.lt_of_lt_of_eq (show 0 < _ by omega) (Eq.symm (Ref_n32 B1.S))) (by omega) (show _ = lN (nw_ t.1 m m (fun g => g)) from RO_0 B1.w R1) rfl ?_
        refine wp_lconst rfl ?_
        refine wp_lcmp rfl ?_
        refine wp_if_ne rfl (fun c5 => ?_) (fun c5 => ?_)
        · skip
          have hnz : ¬ nw_ t.1 m m (fun g => g) = 0 := fun z => c5 ((nw_z h12).mpr z)
          refine wp_iload3 rfl ?_
          refine wp_if_ne rfl (fun c6 => ?_) (fun c6 => ?_)
          · skip
            refine wp_aload0 rfl ?_
            refine wp_iload2 rfl ?_
            refine wp_callV1I rfl (Nat.le_of_ble_eq_true rfl) (Ref_kd B1.S) (Ref_bitsAt_ok B1 F1 R1 hm hi) (Nat.le_of_ble_eq_true rfl) ?_
            rintro _ h2 ⟨⟨b, rfl, hb⟩, B2⟩
            exact wp_iret rfl ⟨_, rfl, by rw [e0, if_neg hnz, if_neg c6]; exact ⟨b, hb, rfl⟩, B2⟩
          · skip
            refine wp_aload0 rfl ?_
            refine wp_iload2 rfl ?_
            refine wp_callV1I rfl (Nat.le_of_ble_eq_true rfl) (Ref_kd B1.S) (Ref_firstAt_ok B1 F1 R1 hm hi (by omega)) (Nat.le_of_ble_eq_true rfl) ?_
            refine pure_ ?_
            refine wp_goto rfl ?_
            exact wp_iret rfl ⟨_, rfl, by rw [e0, if_neg hnz, if_pos (Classical.not_not.mp c6)], B1⟩
        · skip
          refine wp_bipush rfl ?_
          exact wp_iret rfl ⟨_, rfl, by rw [e0, if_pos ((nw_z h12).mp (Classical.not_not.mp c5))], B1⟩
      · skip
        refine wp_bipush rfl ?_
        exact wp_iret rfl ⟨_, rfl, by unfold an_came_; rw [show rg_ 0 1 w = false from c3, Bool.and_false, Bool.and_false]; rfl, B⟩
