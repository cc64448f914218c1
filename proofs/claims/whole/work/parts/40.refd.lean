-- ===== the reference: dance, home, where, want, caller, seen, forget, wish, drop =====
theorem RB_new {h0 h h1 : Hp_} {t : Rt_} {s : Sg_} {g : Nat → Nat} {c : Nat} (B : RB_ h0 h t) (z : fz_ (fun q => 65 ≤ q ∧ q ≤ 91) h h1) (M : MR_ h1 s) (w : sg_wf s) (P : PD_ h1 g c) : RB_ h0 h1 (s, g, c, t.2.2.2) := ⟨S_Ref_fz z B.S, fz_trans B.z (fz_mono (fun q hq => by omega) z), M, w, P, IM_cong (fz_I z (by omega)) (fz_I z (by omega)) B.2.2.2.2.2.1, IM_cong (fz_I z (by omega)) (fz_I z (by omega)) B.2.2.2.2.2.2⟩
theorem MR_sub {h h1 : Hp_} {s : Sg_} {c : Nat} (z : fz_ (fun q => q = c ∨ (78 ≤ q ∧ q ≤ 91)) h h1) (hc : 66 ≤ c ∧ c ≤ 76) (M : MR_ h s) : MR_ (hp_rI h1 c (hp_I h c)) s := MR_cong (fun q h1 h2 => by
  by_cases e : q = c
  · rw [e, sd_rI_eq]
  · rw [sd_rI_ne e, fz_I z (by omega)]) (fun k hk => by rw [sd_rI_ne (by omega), fz_I z (by omega)]) M
def wd_ (g : Nat → Nat) (c : Nat) : List Nat := (List.range c).map (fun i => g i - 65)
theorem wd_succ (g : Nat → Nat) (c : Nat) : wd_ g (c + 1) = wd_ g c ++ [g c - 65] := by
  unfold wd_
  rw [List.range_succ, List.map_append]
  rfl
theorem in_comp {m p : Nat → Nat} (hm : IsP 8 m) (hp : IsP 8 p) (q : Nat) : in_ (fun i => m (p i)) q = in_ p (in_ m q) := by
  have h : (fun i => m (p i)) (in_ p (in_ m q)) = q := by
    show m (p (in_ p (in_ m q))) = q
    rw [in_right hp, in_right hm]
  have h2 := in_left (hp.then hm) (in_ p (in_ m q))
  have h3 : m (p (in_ p (in_ m q))) = q := h
  rw [h3] at h2
  exact h2
def an_dance (t : Rt_) : Int32 × Rt_ := if fw_ t.2.1 t.2.2.1 65 6 = -6 ∧ fb_ t.1 t.2.1 t.2.2.1 = -6 then (nI t.2.2.1, (sw_pos t.1 (fun q => ac_ (mv_ t.1) (wd_ t.2.1 t.2.2.1) (sg_pos t.1 q)), t.2.1, 0, t.2.2.2)) else (-5, t)
theorem Ref_dance_ok {h0 h : Hp_} {t : Rt_} (B : RB_ h0 h t) : cI 4 mn_Ref_dance [.ref 65] h (fun y h' => y = (an_dance t).1 ∧ RB_ h0 h' (an_dance t).2) := by
  have c30 := B.c30
  have n8 := B.n8
  refine cq_in (q := mi_Ref_dance) (L := [some (.ref 65), none, none, none]) rfl (Nat.le_of_ble_eq_true rfl) rfl ?_
  show wq _ tb_Ref_dance none 0 _ _ _ _
  refine wp_aload0 rfl ?_
  refine wp_callV0I rfl (Nat.le_of_ble_eq_true rfl) (Ref_kd B.S) (Ref_faultOfRow_ok B) (Nat.le_of_ble_eq_true rfl) ?_
  refine pure_ ?_
  refine wp_if_ge rfl (fun c1 => ?_) (fun c1 => ?_)
  · skip
    refine wp_bipush rfl ?_
    have c0 : fw_ t.2.1 t.2.2.1 65 6 ≠ -6 := fun z => absurd c1 (by rw [z]; decide)
    have e : an_dance t = (-5, t) := by unfold an_dance; rw [if_neg (fun z => c0 z.1)]
    rw [e]
    exact wp_iret rfl ⟨_, rfl, rfl, B⟩
  · skip
    have c2 : fw_ t.2.1 t.2.2.1 65 6 = -6 := (fw_lt t.2.1 c30).mp (Int32.not_le.mp c1)
    have hg := (fw_none c30 c2).2
    refine wp_aload0 rfl ?_
    refine wp_callV0I rfl (Nat.le_of_ble_eq_true rfl) (Ref_kd B.S) (Ref_badFigure_ok B hg) (Nat.le_of_ble_eq_true rfl) ?_
    refine pure_ ?_
    refine wp_if_lt rfl (fun c3 => ?_) (fun c3 => ?_)
    · skip
      have c4 := (fb_lt t.1 t.2.1 c30).mp c3
      have e : an_dance t = (nI t.2.2.1, (sw_pos t.1 (fun q => ac_ (mv_ t.1) (wd_ t.2.1 t.2.2.1) (sg_pos t.1 q)), t.2.1, 0, t.2.2.2)) := by unfold an_dance; rw [if_pos ⟨c2, c4⟩]
      rw [e]
      refine wp_aload0 rfl ?_
      refine wp_callV0V rfl (Nat.le_of_ble_eq_true rfl) (Ref_kd B.S) (Ref_findGoes_ok B) (Nat.le_of_ble_eq_true rfl) ?_
      rintro h1 ⟨G, z1⟩
      have B1 : RB_ h0 h1 t := RB_fz B (fz_mono (fun c hc => by omega) z1)
      refine wp_iconst rfl ?_
      refine wp_istore1 rfl rfl ?_
      refine wq_loop (X := Option Value × Option Value) (fun i x => [some (.ref 65), some (.int (nI i)), x.1, x.2]) (fun i x h2 => fz_ (fun q => q = 67 ∨ q = 79) h1 h2 ∧ ∀ p, p < 8 → hp_I h2 67 p = nI (in_ (fun q => ac_ (mv_ t.1) (wd_ t.2.1 i) (sg_pos t.1 q)) p)) (t.2.2.1) (0) ((none, none)) ?_ ?_ ?_ ?_
      · omega
      · exact ⟨fz_refl _ _, fun p hp => B1.good hp⟩
      · intro i x h2 hi I k
        show wq _ tb_Ref_dance _ 23 [some (.ref 65), some (.int (nI i)), x.1, x.2] [] h2 _
        obtain ⟨z2, a2⟩ := I
        have S2 := S_Ref_fz z2 B1.S
        have hgi := hg i hi
        have mP := mv_P B.w (t.2.1 i - 65)
        have mP8 := mP.mono n8
        have pP : IsP (sg_n t.1) (fun q => ac_ (mv_ t.1) (wd_ t.2.1 i) (sg_pos t.1 q)) := IsP.then B.w.2.1 (ac_P (mv_P B.w) _)
        have pP8 := pP.mono n8
        refine wp_iload1 rfl ?_
        refine wp_aload0 rfl ?_
        refine wp_getIE rfl (Ref_kd S2) (show _ = nI (t.2.2.1) from by rw [fz_I z2 (by decide)]; exact B1.c) ?_
        refine wp_icmp_geN i (t.2.2.1) (by omega) (by omega) rfl (fun z => absurd z (by omega)) (fun _ => ?_)
        refine wp_aload0 rfl ?_
        refine wp_getR rfl (Ref_kd S2) (Ref_R17 S2) (by first | decide | omega) ?_
        refine wp_iload1 rfl ?_
        refine wp_ialdE i rfl (Ref_k17 S2) (by first | decide | omega) (Nat.lt_of_lt_of_eq (show i < _ by omega) (Eq.symm (Ref_n17 S2))) (by omega) (show _ = nI (t.2.1 i) from by rw [fz_I z2 (by decide)]; exact B1.pad hi) rfl ?_
        refine wp_bipush rfl ?_
        refine wp_isubE (nI ((t.2.1 i) - 65)) (pk_sub (by omega)) rfl ?_
        refine wp_istore2 rfl rfl ?_
        refine wp_iconst rfl ?_
        refine wp_istore3 rfl rfl ?_
        refine wq_loop (X := Unit) (fun p x => [some (.ref 65), some (.int (nI i)), some (.int (nI (t.2.1 i - 65))), some (.int (nI p))]) (fun p x h3 => fz_ (fun q => q = 67 ∨ q = 79) h1 h3 ∧ hp_I h3 67 = hp_I h2 67 ∧ ∀ q, q < p → hp_I h3 79 (mv_ t.1 (t.2.1 i - 65) q) = hp_I h2 67 q) (sg_n t.1) (0) (()) ?_ ?_ ?_ ?_
        · omega
        · exact ⟨z2, rfl, fun q hq => by omega⟩
        · intro p x h3 hi J k
          show wq _ tb_Ref_dance _ 43 [some (.ref 65), some (.int (nI i)), some (.int (nI (t.2.1 i - 65))), some (.int (nI p))] [] h3 _
          obtain ⟨z3, e3, a3⟩ := J
          have S3 := S_Ref_fz z3 B1.S
          have hmp := mP.1 p hi
          refine wp_iload3 rfl ?_
          refine wp_aload0 rfl ?_
          refine wp_getIE rfl (Ref_kd S3) (show _ = nI (sg_n t.1) from by rw [fz_I z3 (by decide)]; exact B1.n) ?_
          refine wp_icmp_geN p (sg_n t.1) (by omega) (by omega) rfl (fun z => absurd z (by omega)) (fun _ => ?_)
          refine wp_aload0 rfl ?_
          refine wp_getR rfl (Ref_kd S3) (Ref_R20 S3) (by first | decide | omega) ?_
          refine wp_aload0 rfl ?_
          refine wp_getR rfl (Ref_kd S3) (Ref_R19 S3) (by first | decide | omega) ?_
          refine wp_bipush rfl ?_
          refine wp_iload2 rfl ?_
          refine wp_imulE (nI (8 * (t.2.1 i - 65))) (pk_mul _ _) rfl ?_
          refine wp_iload3 rfl ?_
          refine wp_iaddE (nI ((8 * (t.2.1 i - 65)) + p)) (nI_add _ _) rfl ?_
          refine wp_ialdE ((8 * (t.2.1 i - 65)) + p) rfl (Ref_k19 S3) (by first | decide | omega) (Nat.lt_of_lt_of_eq (show ((8 * (t.2.1 i - 65)) + p) < _ by omega) (Eq.symm (Ref_n19 S3))) (by omega) (show _ = nI (mv_ t.1 (t.2.1 i - 65) p) from by rw [fz_I z3 (by decide)]; exact G _ p (by omega) hi) rfl ?_
          refine wp_aload0 rfl ?_
          refine wp_getR rfl (Ref_kd S3) (Ref_R2 S3) (by first | decide | omega) ?_
          refine wp_iload3 rfl ?_
          refine wp_ialdE p rfl (Ref_k2 S3) (by first | decide | omega) (Nat.lt_of_lt_of_eq (show p < _ by omega) (Eq.symm (Ref_n2 S3))) (by omega) (show _ = nI (in_ (fun q => ac_ (mv_ t.1) (wd_ t.2.1 i) (sg_pos t.1 q)) p) from by rw [e3]; exact a2 p (by omega)) rfl ?_
          refine wp_iast (mv_ t.1 (t.2.1 i - 65) p) rfl (Ref_k20 S3) (Nat.lt_of_lt_of_eq (show (mv_ t.1 (t.2.1 i - 65) p) < _ by omega) (Eq.symm (Ref_n20 S3))) (by omega) rfl ?_
          refine wp_iinc3N rfl rfl ?_
          refine wp_goto rfl ?_
          refine k () _ ⟨fz_rI z3 (Or.inr rfl) _, by rw [sd_rI_ne (by decide)]; exact e3, fun q hq => ?_⟩
          rw [sd_rI_eq, vu_at]
          by_cases y : q = p
          · rw [if_pos (by rw [y]), y]; exact (a2 p (by omega)).symm
          · rw [if_neg (fun z => y (mP8.inj8 _ _ z))]; exact a3 q (by omega)
        · intro x h3 J
          show wq _ tb_Ref_dance _ 43 [some (.ref 65), some (.int (nI i)), some (.int (nI (t.2.1 i - 65))), some (.int (nI (sg_n t.1)))] [] h3 _
          obtain ⟨z3, e3, a3⟩ := J
          have S3 := S_Ref_fz z3 B1.S
          refine wp_iload3 rfl ?_
          refine wp_aload0 rfl ?_
          refine wp_getIE rfl (Ref_kd S3) (show _ = nI (sg_n t.1) from by rw [fz_I z3 (by decide)]; exact B1.n) ?_
          refine wp_icmp_geN (sg_n t.1) (sg_n t.1) (by omega) (by omega) rfl (fun _ => ?_) (fun z => absurd z (by omega))
          refine wp_iconst rfl ?_
          refine wp_istore3 rfl rfl ?_
          refine wq_loop (X := Unit) (fun p x => [some (.ref 65), some (.int (nI i)), some (.int (nI (t.2.1 i - 65))), some (.int (nI p))]) (fun p x h4 => fz_ (fun q => q = 67 ∨ q = 79) h1 h4 ∧ hp_I h4 79 = hp_I h3 79 ∧ ∀ q, hp_I h4 67 q = if q < p then hp_I h3 79 q else hp_I h2 67 q) (sg_n t.1) (0) (()) ?_ ?_ ?_ ?_
          · omega
          · exact ⟨z3, rfl, fun q => by rw [if_neg (Nat.not_lt_zero q), e3]⟩
          · intro p x h4 hi K k
            show wq _ tb_Ref_dance _ 81 [some (.ref 65), some (.int (nI i)), some (.int (nI (t.2.1 i - 65))), some (.int (nI p))] [] h4 _
            obtain ⟨z4, e4, a4⟩ := K
            have S4 := S_Ref_fz z4 B1.S
            refine wp_iload3 rfl ?_
            refine wp_aload0 rfl ?_
            refine wp_getIE rfl (Ref_kd S4) (show _ = nI (sg_n t.1) from by rw [fz_I z4 (by decide)]; exact B1.n) ?_
            refine wp_icmp_geN p (sg_n t.1) (by omega) (by omega) rfl (fun z => absurd z (by omega)) (fun _ => ?_)
            refine wp_aload0 rfl ?_
            refine wp_getR rfl (Ref_kd S4) (Ref_R2 S4) (by first | decide | omega) ?_
            refine wp_iload3 rfl ?_
            refine wp_aload0 rfl ?_
            refine wp_getR rfl (Ref_kd S4) (Ref_R20 S4) (by first | decide | omega) ?_
            refine wp_iload3 rfl ?_
            refine wp_iald p rfl (Ref_k20 S4) (by first | decide | omega) (Nat.lt_of_lt_of_eq (show p < _ by omega) (Eq.symm (Ref_n20 S4))) (by omega) rfl ?_
            refine wp_iast p rfl (Ref_k2 S4) (Nat.lt_of_lt_of_eq (show p < _ by omega) (Eq.symm (Ref_n2 S4))) (by omega) rfl ?_
            refine wp_iinc3N rfl rfl ?_
            refine wp_goto rfl ?_
            refine k () _ ⟨fz_rI z4 (Or.inl rfl) _, by rw [sd_rI_ne (by decide)]; exact e4, fun q => ?_⟩
            rw [sd_rI_eq, vu_at]
            by_cases y : q = p
            · rw [if_pos y, if_pos (by omega), y, e4]
            · rw [if_neg y, a4 q]
              by_cases y2 : q < p
              · rw [if_pos y2, if_pos (by omega)]
              · rw [if_neg y2, if_neg (by omega)]
          · intro x h4 K
            show wq _ tb_Ref_dance _ 81 [some (.ref 65), some (.int (nI i)), some (.int (nI (t.2.1 i - 65))), some (.int (nI (sg_n t.1)))] [] h4 _
            obtain ⟨z4, e4, a4⟩ := K
            have S4 := S_Ref_fz z4 B1.S
            refine wp_iload3 rfl ?_
            refine wp_aload0 rfl ?_
            refine wp_getIE rfl (Ref_kd S4) (show _ = nI (sg_n t.1) from by rw [fz_I z4 (by decide)]; exact B1.n) ?_
            refine wp_icmp_geN (sg_n t.1) (sg_n t.1) (by omega) (by omega) rfl (fun _ => ?_) (fun z => absurd z (by omega))
            refine wp_iinc1N rfl rfl ?_
            refine wp_goto rfl ?_
            refine k (_, _) _ ⟨z4, fun p hp => ?_⟩
            have en : (fun q => ac_ (mv_ t.1) (wd_ t.2.1 (i + 1)) (sg_pos t.1 q)) = (fun q => mv_ t.1 (t.2.1 i - 65) ((fun q => ac_ (mv_ t.1) (wd_ t.2.1 i) (sg_pos t.1 q)) q)) := funext fun q => by rw [wd_succ, ac_app]; rfl
            rw [en, in_comp mP8 pP8, a4 p]
            by_cases y : p < sg_n t.1
            · rw [if_pos y]
              have h5 := a3 (in_ (mv_ t.1 (t.2.1 i - 65)) p) ((in_Pn n8 mP).1 p y)
              rw [in_right mP8] at h5
              rw [h5]
              exact a2 _ ((in_P mP8).1 p hp)
            · rw [if_neg y, (in_Pn n8 mP).2.2 p (by omega)]
              exact a2 p hp
      · intro x h2 I
        show wq _ tb_Ref_dance _ 23 [some (.ref 65), some (.int (nI (t.2.2.1))), x.1, x.2] [] h2 _
        obtain ⟨z2, a2⟩ := I
        have S2 := S_Ref_fz z2 B1.S
        refine wp_iload1 rfl ?_
        refine wp_aload0 rfl ?_
        refine wp_getIE rfl (Ref_kd S2) (show _ = nI (t.2.2.1) from by rw [fz_I z2 (by decide)]; exact B1.c) ?_
        refine wp_icmp_geN (t.2.2.1) (t.2.2.1) (by omega) (by omega) rfl (fun _ => ?_) (fun z => absurd z (by omega))
        refine wp_aload0 rfl ?_
        refine wp_getIE rfl (Ref_kd S2) (show _ = nI (t.2.2.1) from by rw [fz_I z2 (by decide)]; exact B1.c) ?_
        refine wp_istore1 rfl rfl ?_
        refine wp_aload0 rfl ?_
        refine wp_iconst rfl ?_
        refine wp_putI rfl (Ref_kd S2) ?_
        refine wp_iload1 rfl ?_
        refine wp_iret rfl ?_
        have M0 := MR_sub (c := 67) (fz_mono (fun q hq => by omega) z2) (by decide) B1.M
        have B2 : RB_ h0 h2 (sw_pos t.1 (fun q => ac_ (mv_ t.1) (wd_ t.2.1 t.2.2.1) (sg_pos t.1 q)), t.2) := RB_new B1 (fz_mono (fun q hq => by omega) z2) ⟨M0.1, M0.2.1, a2, M0.2.2.2⟩ (sw_pos_wf B.w (IsP.then B.w.2.1 (ac_P (mv_P B.w) _))) ⟨by rw [fz_I z2 (by decide)]; exact B1.c, c30, by rw [fz_I z2 (by decide)]; exact B1.P.2.2.1, B.g127⟩
        exact ⟨_, rfl, rfl, RB_clear B2⟩
    · skip
      refine wp_bipush rfl ?_
      have e : an_dance t = (-5, t) := by unfold an_dance; rw [if_neg (fun z => c3 ((fb_lt t.1 t.2.1 c30).mpr z.2))]
      rw [e]
      exact wp_iret rfl ⟨_, rfl, rfl, B⟩
/-- how many are not at home -/
def hm_ (p : Nat → Nat) : Nat → Nat
  | 0 => 0
  | k + 1 => hm_ p k + if p k = k then 0 else 1
theorem hm_le (p : Nat → Nat) : ∀ k, hm_ p k ≤ k
  | 0 => Nat.le_refl _
  | k + 1 => by
    have := hm_le p k
    unfold hm_
    split <;> omega
theorem in_fix {p : Nat → Nat} (hp : IsP 8 p) (k : Nat) : in_ p k = k ↔ p k = k := by
  refine ⟨fun h => ?_, fun h => ?_⟩
  · have := in_right hp k
    rw [h] at this
    exact this
  · have := in_left hp k
    rw [h] at this
    exact this
def an_home (t : Rt_) : Int32 × Rt_ := (nI (hm_ (sg_pos t.1) (sg_n t.1)), (sw_pos t.1 (fun p => p), t.2))
theorem Ref_home_ok {h0 h : Hp_} {t : Rt_} (B : RB_ h0 h t) : cI 1 mn_Ref_home [.ref 65] h (fun y h' => y = (an_home t).1 ∧ RB_ h0 h' (an_home t).2) := by
  have n8 := B.n8
  have pP8 := B.w.2.1.mono n8
  have hle := hm_le (sg_pos t.1)
  refine cq_in (q := mi_Ref_home) (L := [some (.ref 65), none, none]) rfl (Nat.le_of_ble_eq_true rfl) rfl ?_
  show wq _ tb_Ref_home none 0 _ _ _ _
  refine wp_iconst rfl ?_
  refine wp_istore1 rfl rfl ?_
  refine wp_iconst rfl ?_
  refine wp_istore2 rfl rfl ?_
  refine wq_loop (X := Unit) (fun p x => [some (.ref 65), some (.int (nI (hm_ (sg_pos t.1) p))), some (.int (nI p))]) (fun p x h1 => fz_ (fun q => q = 67) h h1 ∧ ∀ q, q < 8 → hp_I h1 67 q = if q < p then nI q else nI (in_ (sg_pos t.1) q)) (sg_n t.1) (0) (()) ?_ ?_ ?_ ?_
  · omega
  · exact ⟨fz_refl _ _, fun q hq => by rw [if_neg (Nat.not_lt_zero q)]; exact B.good hq⟩
  · intro p x h1 hi I k
    show wq _ tb_Ref_home _ 4 [some (.ref 65), some (.int (nI (hm_ (sg_pos t.1) p))), some (.int (nI p))] [] h1 _
    obtain ⟨z1, a1⟩ := I
    have S1 := S_Ref_fz z1 B.S
    have hin := (in_P pP8).1 p (by omega)
    have hl := hle p
    refine wp_iload2 rfl ?_
    refine wp_aload0 rfl ?_
    refine wp_getIE rfl (Ref_kd S1) (show _ = nI (sg_n t.1) from by rw [fz_I z1 (by decide)]; exact B.n) ?_
    refine wp_icmp_geN p (sg_n t.1) (by omega) (by omega) rfl (fun z => absurd z (by omega)) (fun _ => ?_)
    refine wp_iload1 rfl ?_
    refine wp_aload0 rfl ?_
    refine wp_getR rfl (Ref_kd S1) (Ref_R2 S1) (by first | decide | omega) ?_
    refine wp_iload2 rfl ?_
    refine wp_ialdE p rfl (Ref_k2 S1) (by first | decide | omega) (Nat.lt_of_lt_of_eq (show p < _ by omega) (Eq.symm (Ref_n2 S1))) (by omega) (show _ = nI (in_ (sg_pos t.1) p) from by rw [a1 p (by omega), if_neg (Nat.lt_irrefl p)]) rfl ?_
    refine wp_iload2 rfl ?_
    have inv : fz_ (fun q => q = 67) h (hp_rI h1 67 (va_up (hp_I h1 67) p (nI p))) ∧ ∀ q, q < 8 → hp_I (hp_rI h1 67 (va_up (hp_I h1 67) p (nI p))) 67 q = if q < p + 1 then nI q else nI (in_ (sg_pos t.1) q) := by
      refine ⟨fz_rI z1 rfl _, fun q hq => ?_⟩
      rw [sd_rI_eq, vu_at]
      by_cases y : q = p
      · rw [if_pos y, if_pos (by omega), y]
      · rw [if_neg y, a1 q hq]
        by_cases y2 : q < p
        · rw [if_pos y2, if_pos (by omega)]
        · rw [if_neg y2, if_neg (by omega)]
    refine wp_icmp_neN (in_ (sg_pos t.1) p) p (by omega) (by omega) rfl (fun c1 => ?_) (fun c1 => ?_)
    · skip
      refine wp_iconst rfl ?_
      refine wp_iaddE (nI ((hm_ (sg_pos t.1) p) + 1)) (nI_add _ _) rfl ?_
      refine wp_istore1 rfl rfl ?_
      refine wp_aload0 rfl ?_
      refine wp_getR rfl (Ref_kd S1) (Ref_R2 S1) (by first | decide | omega) ?_
      refine wp_iload2 rfl ?_
      refine wp_iload2 rfl ?_
      refine wp_iast p rfl (Ref_k2 S1) (Nat.lt_of_lt_of_eq (show p < _ by omega) (Eq.symm (Ref_n2 S1))) (by omega) rfl ?_
      refine wp_iinc2N rfl rfl ?_
      refine wp_goto rfl ?_
      have := k () _ inv
      rw [show hm_ (sg_pos t.1) (p + 1) = hm_ (sg_pos t.1) p + 1 by rw [hm_, if_neg (fun z => c1 ((in_fix pP8 p).mpr z))]] at this
      exact this
    · skip
      refine wp_iconst rfl ?_
      refine wp_goto rfl ?_
      refine wp_iaddE (nI ((hm_ (sg_pos t.1) p) + 0)) (nI_add _ _) rfl ?_
      refine wp_istore1 rfl rfl ?_
      refine wp_aload0 rfl ?_
      refine wp_getR rfl (Ref_kd S1) (Ref_R2 S1) (by first | decide | omega) ?_
      refine wp_iload2 rfl ?_
      refine wp_iload2 rfl ?_
      refine wp_iast p rfl (Ref_k2 S1) (Nat.lt_of_lt_of_eq (show p < _ by omega) (Eq.symm (Ref_n2 S1))) (by omega) rfl ?_
      refine wp_iinc2N rfl rfl ?_
      refine wp_goto rfl ?_
      have := k () _ inv
      rw [show hm_ (sg_pos t.1) (p + 1) = hm_ (sg_pos t.1) p + 0 by rw [hm_, if_pos ((in_fix pP8 p).mp c1)]] at this
      exact this
  · intro x h1 I
    show wq _ tb_Ref_home _ 4 [some (.ref 65), some (.int (nI (hm_ (sg_pos t.1) (sg_n t.1)))), some (.int (nI (sg_n t.1)))] [] h1 _
    obtain ⟨z1, a1⟩ := I
    have S1 := S_Ref_fz z1 B.S
    refine wp_iload2 rfl ?_
    refine wp_aload0 rfl ?_
    refine wp_getIE rfl (Ref_kd S1) (show _ = nI (sg_n t.1) from by rw [fz_I z1 (by decide)]; exact B.n) ?_
    refine wp_icmp_geN (sg_n t.1) (sg_n t.1) (by omega) (by omega) rfl (fun _ => ?_) (fun z => absurd z (by omega))
    refine wp_iload1 rfl ?_
    have M0 := MR_sub (c := 67) (fz_mono (fun q hq => by omega) z1) (by decide) B.M
    exact wp_iret rfl ⟨_, rfl, rfl, RB_new B (fz_mono (fun q hq => by omega) z1) ⟨M0.1, M0.2.1, fun p hp => by
      rw [a1 p hp]
      show _ = nI (in_ (fun p => p) p)
      rw [in_id]
      by_cases y : p < sg_n t.1
      · rw [if_pos y]
      · rw [if_neg y, (in_Pn n8 B.w.2.1).2.2 p (by omega)], M0.2.2.2⟩ (sw_pos_wf B.w (IsP.id _)) ⟨by rw [fz_I z1 (by decide)]; exact B.c, B.c30, by rw [fz_I z1 (by decide)]; exact B.P.2.2.1, B.g127⟩⟩
theorem Ref_placeOf_ok {h0 h : Hp_} {t : Rt_} {g : Nat} (B : RB_ h0 h t) (hg : g < 8) : cI 1 mn_Ref_placeOf [.ref 65, .int (nI g)] h (fun y h' => y = nI (sg_pos t.1 g) ∧ h' = h) := by
  have n8 := B.n8
  have pP8 := B.w.2.1.mono n8
  have hpg := pP8.1 g hg
  refine cq_in (q := mi_Ref_placeOf) (L := [some (.ref 65), some (.int (nI g)), none]) rfl (Nat.le_of_ble_eq_true rfl) rfl ?_
  show wq _ tb_Ref_placeOf none 0 _ _ _ _
  refine wp_iconst rfl ?_
  refine wp_istore2 rfl rfl ?_
  refine wq_loop (X := Unit) (fun p x => [some (.ref 65), some (.int (nI g)), some (.int (nI p))]) (fun p x h1 => h1 = h) (sg_pos t.1 g) (0) (()) ?_ ?_ ?_ ?_
  · omega
  · rfl
  · intro p x h1 hi I k
    show wq _ tb_Ref_placeOf _ 2 [some (.ref 65), some (.int (nI g)), some (.int (nI p))] [] h1 _
    obtain rfl := I
    have hin := (in_P pP8).1 p (by omega)
    refine wp_aload0 rfl ?_
    refine wp_getR rfl (Ref_kd B.S) (Ref_R2 B.S) (by first | decide | omega) ?_
    refine wp_iload2 rfl ?_
    refine wp_ialdE p rfl (Ref_k2 B.S) (by first | decide | omega) (Nat.lt_of_lt_of_eq (show p < _ by omega) (Eq.symm (Ref_n2 B.S))) (by omega) (show _ = nI (in_ (sg_pos t.1) p) from B.good (by omega)) rfl ?_
    refine wp_iload1 rfl ?_
    refine wp_icmp_eqN (in_ (sg_pos t.1) p) g (by omega) (by omega) rfl (fun z => absurd z (by intro z; have := in_right pP8 p; rw [z] at this; omega)) (fun _ => ?_)
    refine wp_iinc2N rfl rfl ?_
    refine wp_goto rfl ?_
    exact k () _ rfl
  · intro x h1 I
    show wq _ tb_Ref_placeOf _ 2 [some (.ref 65), some (.int (nI g)), some (.int (nI (sg_pos t.1 g)))] [] h1 _
    obtain rfl := I
    refine wp_aload0 rfl ?_
    refine wp_getR rfl (Ref_kd B.S) (Ref_R2 B.S) (by first | decide | omega) ?_
    refine wp_iload2 rfl ?_
    refine wp_ialdE (sg_pos t.1 g) rfl (Ref_k2 B.S) (by first | decide | omega) (Nat.lt_of_lt_of_eq (show (sg_pos t.1 g) < _ by omega) (Eq.symm (Ref_n2 B.S))) (by omega) (show _ = nI g from by rw [B.good (by omega), in_left pP8]) rfl ?_
    refine wp_iload1 rfl ?_
    refine wp_icmp_eqN g g (by omega) (by omega) rfl (fun _ => ?_) (fun z => absurd z (fun z => z rfl))
    refine wp_iload2 rfl ?_
    exact wp_iret rfl ⟨_, rfl, rfl, rfl⟩
def an_where (t : Rt_) (k w : Int32) : Int32 := if hs_ t.1 k then (if w = 0 then nI (sg_pos t.1 k.toNatClampNeg) else if w = nI 1 then nI (in_ (sg_pos t.1) k.toNatClampNeg) else -2) else -1
theorem Ref_where_ok {h0 h : Hp_} {t : Rt_} {k w : Int32} (B : RB_ h0 h t) : cI 3 mn_Ref_where [.ref 65, .int k, .int w] h (fun y h' => y = an_where t k w ∧ h' = h) := by
  have n8 := B.n8
  refine cq_in (q := mi_Ref_where) (L := [some (.ref 65), some (.int k), some (.int w)]) rfl (Nat.le_of_ble_eq_true rfl) rfl ?_
  show wq _ tb_Ref_where none 0 _ _ _ _
  refine wp_aload0 rfl ?_
  refine wp_iload1 rfl ?_
  refine wp_callV1I rfl (Nat.le_of_ble_eq_true rfl) (Ref_kd B.S) (Ref_isPlace_ok B) (Nat.le_of_ble_eq_true rfl) ?_
  refine pure_ ?_
  refine wp_if_neB rfl (fun c1 => ?_) (fun c1 => ?_)
  · skip
    obtain ⟨p, hp, rfl⟩ := hs_of c1 n8
    have e : an_where t (nI p) w = if w = 0 then nI (sg_pos t.1 p) else if w = nI 1 then nI (in_ (sg_pos t.1) p) else -2 := by unfold an_where; rw [c1, nI_clamp (show p < 2 ^ 31 by omega), if_pos rfl]
    refine wp_iload2 rfl ?_
    refine wp_if_ne rfl (fun c2 => ?_) (fun c2 => ?_)
    · skip
      refine wp_iload2 rfl ?_
      refine wp_iconst rfl ?_
      refine wp_icmp_ne rfl (fun c3 => ?_) (fun c3 => ?_)
      · skip
        refine wp_bipush rfl ?_
        exact wp_iret rfl ⟨_, rfl, by rw [e, if_neg c2, if_neg c3], rfl⟩
      · skip
        refine wp_aload0 rfl ?_
        refine wp_getR rfl (Ref_kd B.S) (Ref_R2 B.S) (by first | decide | omega) ?_
        refine wp_iload1 rfl ?_
        refine wp_ialdE p rfl (Ref_k2 B.S) (by first | decide | omega) (Nat.lt_of_lt_of_eq (show p < _ by omega) (Eq.symm (Ref_n2 B.S))) (by omega) (show _ = nI (in_ (sg_pos t.1) p) from B.good (by omega)) rfl ?_
        refine wp_goto rfl ?_
        exact wp_iret rfl ⟨_, rfl, by rw [e, if_neg c2, if_pos (Classical.not_not.mp c3)], rfl⟩
    · skip
      refine wp_aload0 rfl ?_
      refine wp_iload1 rfl ?_
      refine wp_callV1I rfl (Nat.le_of_ble_eq_true rfl) (Ref_kd B.S) (Ref_placeOf_ok B (by omega)) (Nat.le_of_ble_eq_true rfl) ?_
      refine pure_ ?_
      refine wp_goto rfl ?_
      exact wp_iret rfl ⟨_, rfl, by rw [e, if_pos (Classical.not_not.mp c2)], rfl⟩
  · skip
    refine wp_iconst rfl ?_
    exact wp_iret rfl ⟨_, rfl, by unfold an_where; rw [c1]; rfl, rfl⟩
