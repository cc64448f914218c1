-- ===== Evening: compare, tryRows =====
/-- best and bestRow alone have changed -/
def EF_ (h h' : Hp_) : Prop := fz_ (fun v => v = 59) h h' ∧ ∀ k, k ≠ 5 → k ≠ 6 → hp_I h' 59 k = hp_I h 59 k
theorem EF_refl (h : Hp_) : EF_ h h := ⟨fz_refl _ _, fun _ _ _ => rfl⟩
theorem EF_trans {h h1 h2 : Hp_} (a : EF_ h h1) (b : EF_ h1 h2) : EF_ h h2 := ⟨fz_trans a.1 b.1, fun k k5 k6 => (b.2 k k5 k6).trans (a.2 k k5 k6)⟩
/-- what tryRows goes by -/
def EC_ (h : Hp_) (s : Sg_) (m : Nat) : Prop := NS_ h 63 (sg_wi s) ∧ hp_I h 59 3 = nI m ∧ hp_I h 59 4 = nI (aw_ s) ∧ ∀ f, f < 6 → hp_I h 62 f = em_ s f
theorem EC_ef {h h2 : Hp_} {s : Sg_} {m : Nat} (C : EC_ h s m) (F : EF_ h h2) : EC_ h2 s m := by
  unfold EC_ NS_ at C ⊢
  rw [fz_I F.1 (show ¬ (63 : Nat) = 59 by decide), show 63 + 1 = 64 from rfl, fz_I F.1 (show ¬ (64 : Nat) = 59 by decide), F.2 3 (by decide) (by decide), F.2 4 (by decide) (by decide), fz_I F.1 (show ¬ (62 : Nat) = 59 by decide)]
  exact C
theorem EB_set {h h2 : Hp_} {x y : Int32} (e : h2 = hp_rI (hp_rI h 59 (va_up (hp_I h 59) 5 x)) 59 (va_up (hp_I (hp_rI h 59 (va_up (hp_I h 59) 5 x)) 59) 6 y)) : EF_ h h2 ∧ hp_I h2 59 5 = x ∧ hp_I h2 59 6 = y := by
  refine ⟨⟨by rw [e]; exact fz_rI (P := fun v => v = 59) (fz_rI (P := fun v => v = 59) (fz_refl _ _) rfl _) rfl _, fun k k5 k6 => ?_⟩, ?_, ?_⟩
  · rw [e, sd_rI_eq, vu_at, if_neg k6, sd_rI_eq, vu_at, if_neg k5]
  · rw [e, sd_rI_eq, vu_at, if_neg (by decide), sd_rI_eq, vu_at, if_pos rfl]
  · rw [e, sd_rI_eq, vu_at, if_pos rfl]
set_option maxRecDepth 4000 in
theorem Evening_compare_ok {h : Hp_} {s : Sg_} {m : Nat} {u : List Nat} {V : List Nat → Prop} (S : S_Even h) (w : sg_wf s) (T : TB_ h s m V) (hu : RW_ s m u) (hord : ∀ r, RW_ s m r → V r → va_w r < va_w u) : cV 2 mn_Evening_compare [.ref 59, .int (nI (wo_ s u)), .int (nI (pq_ (fun i => u.getD i 0) 8))] h (fun h' => EF_ h h' ∧ TB_ h' s m (fun r => V r ∨ r = u)) := by
  have hwu := wo_le w u
  refine cq_in (q := mi_Evening_compare) (L := [some (.ref 59), some (.int (nI (wo_ s u))), some (.int (nI (pq_ (fun i => u.getD i 0) 8)))]) rfl (Nat.le_of_ble_eq_true rfl) rfl ?_
  show wq _ tb_Evening_compare none 0 _ _ _ _
  rcases T with ⟨a, b⟩ | ⟨r, a1, a2, a3, a4, a5⟩
  · skip
    refine wp_iload1 rfl ?_
    refine wp_aload0 rfl ?_
    refine wp_getIE rfl (Even_kd S) (a) ?_
    refine wp_icmp_le rfl (fun z => absurd z (by rw [Int32.le_iff_toInt_le, nI_toInt (by omega), show (-1 : Int32).toInt = -1 from rfl]; omega)) (fun _ => ?_)
    refine wp_aload0 rfl ?_
    refine wp_iload1 rfl ?_
    refine wp_putI rfl (Even_kd S) ?_
    refine wp_aload0 rfl ?_
    refine wp_iload2 rfl ?_
    refine wp_putI rfl (Even_kd S) ?_
    refine wq_gen (fun h2 e2 => ?_)
    obtain ⟨F2, b5, b6⟩ := EB_set e2
    exact wp_vret rfl ⟨rfl, F2, Or.inr ⟨u, hu, Or.inr rfl, b5, b6, fun r2 h1 h3 => h3.elim (fun k => absurd k (b r2 h1)) (fun k => by rw [k]; exact ⟨Nat.le_refl _, fun _ => Nat.le_refl _⟩)⟩⟩
  · skip
    have hwr := wo_le w r
    refine wp_iload1 rfl ?_
    refine wp_aload0 rfl ?_
    refine wp_getIE rfl (Even_kd S) (show _ = nI (wo_ s r) from a3) ?_
    refine wp_icmp_leN (wo_ s u) (wo_ s r) (by omega) (by omega) rfl (fun c1 => ?_) (fun c1 => ?_)
    · skip
      exact wp_vret rfl ⟨rfl, EF_refl h, Or.inr ⟨r, a1, Or.inl a2, a3, a4, fun r2 h1 h3 => h3.elim (a5 r2 h1) (fun k => by rw [k]; exact ⟨c1, fun _ => Nat.le_of_lt (hord r a1 a2)⟩)⟩⟩
    · skip
      refine wp_aload0 rfl ?_
      refine wp_iload1 rfl ?_
      refine wp_putI rfl (Even_kd S) ?_
      refine wp_aload0 rfl ?_
      refine wp_iload2 rfl ?_
      refine wp_putI rfl (Even_kd S) ?_
      refine wq_gen (fun h2 e2 => ?_)
      obtain ⟨F2, b5, b6⟩ := EB_set e2
      exact wp_vret rfl ⟨rfl, F2, Or.inr ⟨u, hu, Or.inr rfl, b5, b6, fun r2 h1 h3 => h3.elim (fun k => by have := (a5 r2 h1 k).1; exact ⟨by omega, fun z => by omega⟩) (fun k => by rw [k]; exact ⟨Nat.le_refl _, fun _ => Nat.le_refl _⟩)⟩⟩
set_option maxRecDepth 4000 in
theorem tr_head {h : Hp_} {s : Sg_} {m n b0 : Nat} {u : List Nat} {V : List Nat → Prop} {Q : Option Value → Hp_ → Prop} (w : sg_wf s) (hm : m ≤ 6) (hu : u.length + n = m) (S : S_Even h) (C : EC_ h s m) (hb : b0 ||| hb_ s (fun g => ac_ (mv_ s) u (sg_pos s g)) = hz_ s u) (T : TB_ h s m V) (hord : ∀ r r2, RW_ s m r → RW_ s m r2 → V r → u <+: r2 → va_w r < va_w r2) (stop : TB_ h s m (fun r => V r ∨ u <+: r) → Q none h) (on : wq (n + 5) tb_Evening_tryRows none 27 [some (.ref 59), some (.int (nI u.length)), some (.int (nI (pq_ (fun g => ac_ (mv_ s) u (sg_pos s g)) 8))), some (.int (nI b0)), some (.int (nI (pq_ (fun i => u.getD i 0) 8))), some (.int (nI (hz_ s u))), none, none] [] h Q) : wq (n + 5) tb_Evening_tryRows none 0 [some (.ref 59), some (.int (nI u.length)), some (.int (nI (pq_ (fun g => ac_ (mv_ s) u (sg_pos s g)) 8))), some (.int (nI b0)), some (.int (nI (pq_ (fun i => u.getD i 0) 8))), none, none, none] [] h Q := by
  have st8 : ∀ i, i < 8 → ac_ (mv_ s) u (sg_pos s i) < 8 := fun i hi => (ac_P (n := 8) (mv_P8 w) u).1 _ (sg_pos8 w i hi)
  refine wp_iload1 rfl ?_
  refine wp_bipush rfl ?_
  refine wp_icmp_gtN (u.length) 6 (by omega) (by omega) rfl (fun z => absurd z (by omega)) (fun _ => ?_)
  refine wp_aload0 rfl ?_
  refine wp_getI rfl (Even_kd S) ?_
  refine wp_aload0 rfl ?_
  refine wp_getIE rfl (Even_kd S) (C.2.2.1) ?_
  refine wp_icmp_ne rfl (fun c1 => ?_) (fun c1 => ?_)
  · skip
    refine wp_iload3 rfl ?_
    refine wp_aload0 rfl ?_
    refine wp_iload2 rfl ?_
    refine wp_callV1I rfl (Nat.le_of_ble_eq_true rfl) (Even_kd S) (Evening_holding_ok S w C.1 st8) (Nat.le_of_ble_eq_true rfl) ?_
    refine pure_ ?_
    refine wp_iorE (nI (b0 ||| (hb_ s (fun g => ac_ (mv_ s) u (sg_pos s g))))) (nn_or _ _) rfl ?_
    rw [hb]
    refine wp_istore5 rfl rfl ?_
    exact on
  · skip
    exact wp_vret rfl (stop (TB_full w T (Classical.not_not.mp c1) hord))
set_option maxRecDepth 4000 in
set_option maxHeartbeats 4000000 in
theorem Evening_tryRows_ok {s : Sg_} {m : Nat} (w : sg_wf s) (hm : m ≤ 6) : ∀ (n : Nat) (u : List Nat), u.length + n = m → ∀ {h : Hp_} {b0 : Nat} {V : List Nat → Prop}, S_Even h → EC_ h s m → wok_ (may_ s) u → b0 ||| hb_ s (fun g => ac_ (mv_ s) u (sg_pos s g)) = hz_ s u → TB_ h s m V → (∀ r r2, RW_ s m r → RW_ s m r2 → V r → u <+: r2 → va_w r < va_w r2) → cV (n + 6) mn_Evening_tryRows [.ref 59, .int (nI u.length), .int (nI (pq_ (fun g => ac_ (mv_ s) u (sg_pos s g)) 8)), .int (nI b0), .int (nI (pq_ (fun i => u.getD i 0) 8))] h (fun h' => EF_ h h' ∧ TB_ h' s m (fun r => V r ∨ u <+: r)) := by
  intro n
  induction n with
  | zero =>
    intro u hu h b0 V S C hok hb T hord
    have hz := hz_64 w u
    refine cq_in (q := mi_Evening_tryRows) (L := [some (.ref 59), some (.int (nI u.length)), some (.int (nI (pq_ (fun g => ac_ (mv_ s) u (sg_pos s g)) 8))), some (.int (nI b0)), some (.int (nI (pq_ (fun i => u.getD i 0) 8))), none, none, none]) rfl (Nat.le_of_ble_eq_true rfl) rfl ?_
    show wq _ tb_Evening_tryRows none 0 _ _ _ _
    refine tr_head (n := 0) w hm hu S C hb T hord (fun k => ⟨rfl, EF_refl h, k⟩) ?_
    refine wp_iload1 rfl ?_
    refine wp_aload0 rfl ?_
    refine wp_getIE rfl (Even_kd S) (show _ = nI m from C.2.1) ?_
    refine wp_icmp_ltN (u.length) m (by omega) (by omega) rfl (fun z => absurd z (by omega)) (fun _ => ?_)
    refine wp_aload0 rfl ?_
    refine wp_aload0 rfl ?_
    refine wp_iload5 rfl ?_
    refine wp_callV1I rfl (Nat.le_of_ble_eq_true rfl) (Even_kd S) (Evening_worth_ok S w C.1 (show hz_ s u < 2 ^ 32 by omega)) (Nat.le_of_ble_eq_true rfl) ?_
    refine pure_ ?_
    refine wp_iload4 rfl ?_
    have hru : RW_ s m u := ⟨by omega, hok⟩
    refine wp_callV2V rfl (Nat.le_of_ble_eq_true rfl) (Even_kd S) (Evening_compare_ok S w T hru (fun r hr k => hord r u hr hru k List.prefix_rfl)) (Nat.le_of_ble_eq_true rfl) ?_
    intro h2 ⟨F2, T2⟩
    exact wp_vret rfl ⟨rfl, F2, TB_cg T2 rfl rfl (fun r hr => or_congr Iff.rfl (pre_end hr hru.1).symm)⟩
  | succ n ih =>
    intro u hu h b0 V S C hok hb T hord
    have hz := hz_64 w u
    have st8 : ∀ i, i < 8 → ac_ (mv_ s) u (sg_pos s i) < 8 := fun i hi => (ac_P (n := 8) (mv_P8 w) u).1 _ (sg_pos8 w i hi)
    refine cq_in (q := mi_Evening_tryRows) (L := [some (.ref 59), some (.int (nI u.length)), some (.int (nI (pq_ (fun g => ac_ (mv_ s) u (sg_pos s g)) 8))), some (.int (nI b0)), some (.int (nI (pq_ (fun i => u.getD i 0) 8))), none, none, none]) rfl (Nat.le_of_ble_eq_true rfl) rfl ?_
    show wq _ tb_Evening_tryRows none 0 _ _ _ _
    refine tr_head (n := n + 1) w hm hu S C hb T hord (fun k => ⟨rfl, EF_refl h, k⟩) ?_
    refine wp_iload1 rfl ?_
    refine wp_aload0 rfl ?_
    refine wp_getIE rfl (Even_kd S) (show _ = nI m from C.2.1) ?_
    refine wp_icmp_ltN (u.length) m (by omega) (by omega) rfl (fun _ => ?_) (fun z => absurd z (by omega))
    refine wp_iconst rfl ?_
    refine wp_istore6 rfl rfl ?_
    refine wq_loop (X := Option Value) (fun f x => [some (.ref 59), some (.int (nI u.length)), some (.int (nI (pq_ (fun g => ac_ (mv_ s) u (sg_pos s g)) 8))), some (.int (nI b0)), some (.int (nI (pq_ (fun i => u.getD i 0) 8))), some (.int (nI (hz_ s u))), some (.int (nI f)), x]) (fun f x h1 => EF_ h h1 ∧ TB_ h1 s m (fun r => V r ∨ ∃ g, g < f ∧ (u ++ [g]) <+: r)) (6) (0) (none) ?_ ?_ ?_ ?_
    · omega
    · exact ⟨EF_refl h, TB_cg T rfl rfl (fun r _ => ⟨fun k => Or.inl k, fun k => k.elim id (fun ⟨g, k1, _⟩ => absurd k1 (Nat.not_lt_zero g))⟩)⟩
    · intro f x h1 hi I go
      show wq _ tb_Evening_tryRows _ 51 [some (.ref 59), some (.int (nI u.length)), some (.int (nI (pq_ (fun g => ac_ (mv_ s) u (sg_pos s g)) 8))), some (.int (nI b0)), some (.int (nI (pq_ (fun i => u.getD i 0) 8))), some (.int (nI (hz_ s u))), some (.int (nI f)), x] [] h1 _
      obtain ⟨F1, T1⟩ := I
      have hf : f < 6 := hi
      have S1 := Even_fz S F1.1
      have C1 := EC_ef C F1
      have n1 := Even_n1 S1
      refine wp_iload6 rfl ?_
      refine wp_bipush rfl ?_
      refine wp_icmp_geN f 6 (by omega) (by omega) rfl (fun z => absurd z (by omega)) (fun _ => ?_)
      refine wp_aload0 rfl ?_
      refine wp_getR rfl (Even_kd S1) (Even_R1 S1) (by first | decide | omega) ?_
      refine wp_iload6 rfl ?_
      refine wp_callS2I rfl (Nat.le_of_ble_eq_true rfl) (Cells_atV_ok (Even_k1 S1) (by decide) (show f < hp_ln h1 62 by omega) (by omega) (C1.2.2.2 f hf)) (Nat.le_of_ble_eq_true rfl) ?_
      refine pure_ ?_
      by_cases he : em_ s f = -1
      · skip
        refine wp_istore7 rfl rfl ?_
        refine wp_iload7 rfl ?_
        refine wp_iconst rfl ?_
        refine wp_icmp_eq rfl (fun _ => ?_) (fun z => absurd z (fun z2 => z2 he))
        refine wp_iinc6N rfl rfl ?_
        refine wp_goto rfl ?_
        exact go _ h1 ⟨F1, TB_skip w hf he T1⟩
      · skip
        obtain ⟨hmf, e1⟩ := em_yes w he
        rw [e1]
        have l24 := pq_lt24 (mv8 w f)
        refine wp_istore7 rfl rfl ?_
        refine wp_iload7 rfl ?_
        refine wp_iconst rfl ?_
        refine wp_icmp_eq rfl (fun z => absurd z (fun z => nI_ne_m1 (by omega) z)) (fun _ => ?_)
        refine wp_aload0 rfl ?_
        refine wp_iload1 rfl ?_
        refine wp_iconst rfl ?_
        refine wp_iaddE (nI ((u.length) + 1)) (nI_add _ _) rfl ?_
        refine wp_iload2 rfl ?_
        refine wp_iload7 rfl ?_
        refine wp_callS2I rfl (Nat.le_of_ble_eq_true rfl) (Maps_then_ok st8 (mv8 w f)) (Nat.le_of_ble_eq_true rfl) ?_
        refine pure_ ?_
        refine wp_iload5 rfl ?_
        refine wp_iload4 rfl ?_
        refine wp_iload1 rfl ?_
        refine wp_iload6 rfl ?_
        refine wp_callS3I rfl (Nat.le_of_ble_eq_true rfl) (Maps_with_ok (fun i _ => ug_8 hok i) (by omega) (by omega)) (Nat.le_of_ble_eq_true rfl) ?_
        refine pure_ ?_
        rw [ug_snoc (by omega), show (fun p => mv_ s f (ac_ (mv_ s) u (sg_pos s p))) = fun g => ac_ (mv_ s) (u ++ [f]) (sg_pos s g) from funext fun g => (ac_snoc _ _ _ _).symm, show u.length + 1 = (u ++ [f]).length by rw [List.length_append]; rfl]
        have hl1 : (u ++ [f]).length = u.length + 1 := List.length_append
        refine wp_callS5V rfl (Nat.le_of_ble_eq_true rfl) (ih (u ++ [f]) (by omega) S1 C1 (wok_snoc.mpr ⟨hok, hf, hmf⟩) (hz_snoc u f).symm T1 (fun r r2 h1 h2 h3 h4 => h3.elim (fun k => hord r r2 h1 h2 k ((List.prefix_append _ _).trans h4)) (fun ⟨g, k1, k2⟩ => va_pre k1 h1 h2 k2 h4))) (Nat.le_refl _) ?_
        intro h2 ⟨F2, T2⟩
        refine wp_iinc6N rfl rfl ?_
        refine wp_goto rfl ?_
        refine go _ h2 ⟨EF_trans F1 F2, TB_cg T2 rfl rfl (fun r _ => ⟨?_, ?_⟩)⟩
        · rintro ((k | ⟨g, k1, k2⟩) | k)
          · exact Or.inl k
          · exact Or.inr ⟨g, by omega, k2⟩
          · exact Or.inr ⟨f, Nat.lt_succ_self f, k⟩
        · rintro (k | ⟨g, k1, k2⟩)
          · exact Or.inl (Or.inl k)
          · rcases Nat.lt_or_ge g f with z | z
            · exact Or.inl (Or.inr ⟨g, z, k2⟩)
            · obtain rfl : g = f := by omega
              exact Or.inr k2
    · intro x h1 I
      show wq _ tb_Evening_tryRows _ 51 [some (.ref 59), some (.int (nI u.length)), some (.int (nI (pq_ (fun g => ac_ (mv_ s) u (sg_pos s g)) 8))), some (.int (nI b0)), some (.int (nI (pq_ (fun i => u.getD i 0) 8))), some (.int (nI (hz_ s u))), some (.int (nI 6)), x] [] h1 _
      obtain ⟨F1, T1⟩ := I
      refine wp_iload6 rfl ?_
      refine wp_bipush rfl ?_
      refine wp_icmp_geN 6 6 (by omega) (by omega) rfl (fun _ => ?_) (fun z => absurd z (by omega))
      exact wp_vret rfl ⟨rfl, F1, TB_cg T1 rfl rfl (fun r hr => or_congr Iff.rfl (pre_six hr (by omega)).symm)⟩
