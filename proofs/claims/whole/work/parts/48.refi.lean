-- ===== the reference: numbers of standings, what follows what =====
theorem pc_256 : ∀ u : Fin 256, 0 < u.1 → bc_ (u.1 &&& (u.1 - 1)) 8 + 1 = bc_ u.1 8 ∧ (u.1 &&& (u.1 - 1)) < u.1 := by decide +kernel
theorem bc_0 : ∀ p, bc_ 0 p = 0
  | 0 => rfl
  | p + 1 => by
    show bc_ 0 p + (if (0 : Nat).testBit p then 1 else 0) = 0
    rw [bc_0 p, Nat.zero_testBit]
    rfl
theorem Ref_ones_ok {h : Hp_} {u : Nat} (hu : u < 256) : cI 1 mn_Ref_ones [.int (nI u)] h (fun x h' => x = nI (bc_ u 8) ∧ h' = h) := by
  refine cq_in (q := mi_Ref_ones) (L := [some (.int (nI u)), none, none]) rfl (Nat.le_of_ble_eq_true rfl) rfl ?_
  show wq _ tb_Ref_ones none 0 _ _ _ _
  have loop : ∀ (l c : Nat), l < 256 → c + bc_ l 8 = bc_ u 8 → wq 0 tb_Ref_ones none 4 [some (.int (nI u)), some (.int (nI c)), some (.int (nI l))] [] h (fun r h' => ∃ v, r = some (.int v) ∧ v = nI (bc_ u 8) ∧ h' = h) := by
    intro l
    induction l using Nat.strongRecOn with
    | ind l ih =>
      intro c hl hc
      refine wp_iload2 rfl ?_
      refine wp_if_eqN l 0 (by omega) (by decide) rfl (fun c1 => ?_) (fun c1 => ?_)
      · skip
        refine wp_iload1 rfl ?_
        rw [c1, bc_0] at hc
        exact wp_iret rfl ⟨_, rfl, by rw [← hc]; rfl, rfl⟩
      · skip
        refine wp_iinc1N rfl rfl ?_
        refine wp_iload2 rfl ?_
        refine wp_iload2 rfl ?_
        refine wp_iconst rfl ?_
        refine wp_isubE (nI (l - 1)) (pk_sub (by omega)) rfl ?_
        refine wp_iandE (nI (l &&& (l - 1))) (nn_and _ _) rfl ?_
        refine wp_istore2 rfl rfl ?_
        refine wp_goto rfl ?_
        have h1 := pc_256 ⟨l, hl⟩ (by show 0 < l; omega)
        dsimp only at h1
        exact ih (l &&& (l - 1)) h1.2 (c + 1) (by omega) (by omega)
  refine wp_iconst rfl ?_
  refine wp_istore1 rfl rfl ?_
  refine wp_iload0 rfl ?_
  refine wp_istore2 rfl rfl ?_
  exact loop u 0 hu (by omega)
theorem Lz_lt {n : Nat} {w : Nat → Nat} (hn : n ≤ 8) (W : Lz_ n n w) : ∀ i, w i < 8 := fun i => by
  rcases Nat.lt_or_ge i n with z | z
  · have := W.1.1 i z; omega
  · rw [W.2 i z]; omega
theorem pq_8n {f : Nat → Nat} {n : Nat} (hn : n ≤ 8) (h : ∀ i, i < n → f i < 8) : pq_ f n < 16777216 := Nat.lt_of_lt_of_le (pq_lt n h) (show 8 ^ n ≤ 8 ^ 8 from Nat.pow_le_pow_right (by decide) hn)
theorem Ref_numberOf_ok {h0 h : Hp_} {t : Rt_} {w : Nat → Nat} (B : RB_ h0 h t) (W : Lz_ (sg_n t.1) (sg_n t.1) w) : cI 2 mn_Ref_numberOf [.ref 65, .int (nI (pq_ w (sg_n t.1)))] h (fun x h' => x = nI (rk_ (sg_n t.1) w (sg_n t.1)) ∧ h' = h) := by
  have n8 := B.n8
  have W8 := Lz_lt n8 W
  have hpq := pq_8n n8 (fun i _ => W8 i)
  refine cq_in (q := mi_Ref_numberOf) (L := [some (.ref 65), some (.int (nI (pq_ w (sg_n t.1)))), none, none, none, none]) rfl (Nat.le_of_ble_eq_true rfl) rfl ?_
  show wq _ tb_Ref_numberOf none 0 _ _ _ _
  refine wp_iconst rfl ?_
  refine wp_istore2 rfl rfl ?_
  refine wp_iconst rfl ?_
  refine wp_istore3 rfl rfl ?_
  refine wp_iconst rfl ?_
  refine wp_istore4 rfl rfl ?_
  refine wq_loop (X := Option Value) (fun p x => [some (.ref 65), some (.int (nI (pq_ w (sg_n t.1)))), some (.int (nI (rk_ (sg_n t.1) w p))), some (.int (nI (us_ w p))), some (.int (nI p)), x]) (fun p x h1 => h1 = h) (sg_n t.1) (0) (none) ?_ ?_ ?_ ?_
  · omega
  · rfl
  · intro p x h1 hi I k
    show wq _ tb_Ref_numberOf _ 7 [some (.ref 65), some (.int (nI (pq_ w (sg_n t.1)))), some (.int (nI (rk_ (sg_n t.1) w p))), some (.int (nI (us_ w p))), some (.int (nI p)), x] [] h1 _
    obtain rfl := I
    have hw := W.1.1 p hi
    have hus := us_lt W.1 p (by omega)
    have hus8 : us_ w p < 256 := Nat.lt_of_lt_of_le hus (Nat.pow_le_pow_right (by decide) n8)
    have hrk := rk_lt W.1 p (by omega)
    have hce := ce_le n8 p
    have hbc := bc_le (us_ w p) (w p)
    have hdig : pq_ w (sg_n t.1) / 2 ^ (3 * p) % 8 = w p := by rw [← p8]; exact pq_get _ _ (fun i _ => W8 i) hi
    have hand : us_ w p &&& (2 ^ w p - 1) = us_ w p % 2 ^ w p := Nat.and_two_pow_sub_one_eq_mod _ _
    have hmod : us_ w p % 2 ^ w p < 256 := Nat.lt_of_le_of_lt (Nat.mod_le _ _) hus8
    refine wp_iload4 rfl ?_
    refine wp_aload0 rfl ?_
    refine wp_getIE rfl (Ref_kd B.S) (show _ = nI (sg_n t.1) from B.n) ?_
    refine wp_icmp_geN p (sg_n t.1) (by omega) (by omega) rfl (fun z => absurd z (by omega)) (fun _ => ?_)
    have hpos := Nat.two_pow_pos (w p)
    refine wp_iload1 rfl ?_
    refine wp_iconst rfl ?_
    refine wp_iload4 rfl ?_
    refine wp_imulE (nI (3 * p)) (pk_mul _ _) rfl ?_
    refine wp_ishrE (nI ((pq_ w (sg_n t.1)) / 2 ^ (3 * p))) (nn_sshr _ _ (by omega) (by omega)) rfl ?_
    refine wp_bipush rfl ?_
    refine wp_iandE (nI (((pq_ w (sg_n t.1)) / 2 ^ (3 * p)) % 8)) (nn_7 _) rfl ?_
    rw [hdig]
    refine wp_istore5 rfl rfl ?_
    refine wp_iload2 rfl ?_
    refine wp_aload0 rfl ?_
    refine wp_getIE rfl (Ref_kd B.S) (show _ = nI (sg_n t.1) from B.n) ?_
    refine wp_iload4 rfl ?_
    refine wp_isubE (nI ((sg_n t.1) - p)) (pk_sub (by omega)) rfl ?_
    refine wp_imulE (nI ((rk_ (sg_n t.1) w p) * ((sg_n t.1) - p))) (pk_mul _ _) rfl ?_
    refine wp_iload5 rfl ?_
    refine wp_iaddE (nI (((rk_ (sg_n t.1) w p) * ((sg_n t.1) - p)) + (w p))) (nI_add _ _) rfl ?_
    refine wp_iload3 rfl ?_
    refine wp_iconst rfl ?_
    refine wp_iload5 rfl ?_
    refine wp_ishlE (nI (2 ^ (w p))) (nn_shl1 _ (by omega)) rfl ?_
    refine wp_iconst rfl ?_
    refine wp_isubE (nI ((2 ^ (w p)) - 1)) (pk_sub (by omega)) rfl ?_
    refine wp_iandE (nI ((us_ w p) &&& ((2 ^ (w p)) - 1))) (nn_and _ _) rfl ?_
    rw [hand]
    refine wp_callS1I rfl (Nat.le_of_ble_eq_true rfl) (Ref_ones_ok hmod) (Nat.le_of_ble_eq_true rfl) ?_
    refine pure_ ?_
    rw [show bc_ (us_ w p % 2 ^ w p) 8 = bc_ (us_ w p) (w p) by rw [bc_mod, Nat.min_eq_right (by omega)]]
    refine wp_isubE (nI ((((rk_ (sg_n t.1) w p) * ((sg_n t.1) - p)) + (w p)) - (bc_ (us_ w p) (w p)))) (pk_sub (by omega)) rfl ?_
    refine wp_istore2 rfl rfl ?_
    refine wp_iload3 rfl ?_
    refine wp_iconst rfl ?_
    refine wp_iload5 rfl ?_
    refine wp_ishlE (nI (2 ^ (w p))) (nn_shl1 _ (by omega)) rfl ?_
    refine wp_iorE (nI ((us_ w p) ||| (2 ^ (w p)))) (nn_or _ _) rfl ?_
    refine wp_istore3 rfl rfl ?_
    refine wp_iinc4N rfl rfl ?_
    refine wp_goto rfl ?_
    have := k (some (.int (nI (w p)))) _ rfl
    rw [show rk_ (sg_n t.1) w (p + 1) = rk_ (sg_n t.1) w p * (sg_n t.1 - p) + w p - bc_ (us_ w p) (w p) by show rk_ (sg_n t.1) w p * (sg_n t.1 - p) + (w p - bc_ (us_ w p) (w p)) = _; omega] at this
    exact this
  · intro x h1 I
    show wq _ tb_Ref_numberOf _ 7 [some (.ref 65), some (.int (nI (pq_ w (sg_n t.1)))), some (.int (nI (rk_ (sg_n t.1) w (sg_n t.1)))), some (.int (nI (us_ w (sg_n t.1)))), some (.int (nI (sg_n t.1))), x] [] h1 _
    obtain rfl := I
    refine wp_iload4 rfl ?_
    refine wp_aload0 rfl ?_
    refine wp_getIE rfl (Ref_kd B.S) (show _ = nI (sg_n t.1) from B.n) ?_
    refine wp_icmp_geN (sg_n t.1) (sg_n t.1) (by omega) (by omega) rfl (fun _ => ?_) (fun z => absurd z (by omega))
    refine wp_iload2 rfl ?_
    exact wp_iret rfl ⟨_, rfl, rfl, rfl⟩
theorem nI_m1 (a : Nat) : nI (a + 1) - nI 1 = nI a := by rw [pk_sub (by omega)]; rfl
theorem nI_pm (a : Nat) : nI a + (-1) = nI a - nI 1 := by
  rw [Int32.sub_eq_add_neg]
  rfl
theorem Ref_codeBy_ok {h0 h : Hp_} {t : Rt_} {num : Nat} (B : RB_ h0 h t) (hnum : num < ce_ (sg_n t.1) (sg_n t.1)) : cI 2 mn_Ref_codeBy [.ref 65, .int (nI num)] h (fun x h' => (∃ w, Lz_ (sg_n t.1) (sg_n t.1) w ∧ rk_ (sg_n t.1) w (sg_n t.1) = num ∧ x = nI (pq_ w (sg_n t.1))) ∧ fz_ (fun c => c = 82) h h') := by
  have n8 := B.n8
  have n3 := B.n3
  have hce := ce_le n8 (sg_n t.1)
  refine cq_in (q := mi_Ref_codeBy) (L := [some (.ref 65), some (.int (nI num)), none, none, none, none, none, none]) rfl (Nat.le_of_ble_eq_true rfl) rfl ?_
  show wq _ tb_Ref_codeBy none 0 _ _ _ _
  refine wp_iload1 rfl ?_
  refine wp_istore2 rfl rfl ?_
  refine wp_aload0 rfl ?_
  refine wp_getIE rfl (Ref_kd B.S) (show _ = nI (sg_n t.1) from B.n) ?_
  refine wp_iconst rfl ?_
  refine wp_isub rfl ?_
  refine wp_istore3 rfl rfl ?_
  refine wq_loop (X := Unit) (fun i x => [some (.ref 65), some (.int (nI num)), some (.int (nI (lr_ num i))), some (.int (nI (sg_n t.1 - i) - nI 1)), none, none, none, none]) (fun i x h1 => fz_ (fun c => c = 82) h h1 ∧ ∀ p, sg_n t.1 - i ≤ p → p < sg_n t.1 → hp_I h1 82 p = nI (lr_ num (sg_n t.1 - p - 1) % (sg_n t.1 - p))) (sg_n t.1) (0) (()) ?_ ?_ ?_ ?_
  · omega
  · exact ⟨fz_refl _ _, fun p h1 h2 => by omega⟩
  · intro i x h1 hi I k
    show wq _ tb_Ref_codeBy _ 9 [some (.ref 65), some (.int (nI num)), some (.int (nI (lr_ num i))), some (.int (nI (sg_n t.1 - i) - nI 1)), none, none, none, none] [] h1 _
    obtain ⟨z1, a1⟩ := I
    have B1 : RB_ h0 h1 t := RB_fz B (fz_mono (fun c hc => by omega) z1)
    have hl := lr_le num i
    obtain ⟨p, hp⟩ : ∃ p, sg_n t.1 - i = p + 1 := ⟨sg_n t.1 - i - 1, by omega⟩
    rw [hp, nI_m1]
    refine wp_iload3 rfl ?_
    refine wp_if_ltN p 0 (by omega) (by decide) rfl ?_
    refine wp_aload0 rfl ?_
    refine wp_getR rfl (Ref_kd B1.S) (Ref_R24 B1.S) (by first | decide | omega) ?_
    refine wp_iload3 rfl ?_
    refine wp_iload2 rfl ?_
    refine wp_aload0 rfl ?_
    refine wp_getIE rfl (Ref_kd B1.S) (show _ = nI (sg_n t.1) from B1.n) ?_
    refine wp_iload3 rfl ?_
    refine wp_isubE (nI ((sg_n t.1) - p)) (pk_sub (by omega)) rfl ?_
    refine wp_iremE (nI ((lr_ num i) % ((sg_n t.1) - p))) (nI_ne0 (by omega) (by omega)) (pk_rem (by omega) (by omega) (by omega)) rfl ?_
    refine wp_iast p rfl (Ref_k24 B1.S) (Nat.lt_of_lt_of_eq (show p < _ by omega) (Eq.symm (Ref_n24 B1.S))) (by omega) rfl ?_
    refine wp_iload2 rfl ?_
    refine wp_aload0 rfl ?_
    refine wp_getIE rfl (Ref_kd B1.S) (show _ = nI (sg_n t.1) from by rw [sd_rI_ne (by decide)]; exact B1.n) ?_
    refine wp_iload3 rfl ?_
    refine wp_isubE (nI ((sg_n t.1) - p)) (pk_sub (by omega)) rfl ?_
    refine wp_idivE (nI ((lr_ num i) / ((sg_n t.1) - p))) (nI_ne0 (by omega) (by omega)) (pk_div (by omega) (by omega) (by omega)) rfl ?_
    refine wp_istore2 rfl rfl ?_
    refine wp_iinc3 rfl rfl ?_
    refine wp_goto rfl ?_
    have e1 : sg_n t.1 - p = i + 1 := by omega
    have := k () _ ⟨fz_rI z1 rfl (va_up (hp_I h1 82) p (nI (lr_ num i % (sg_n t.1 - p)))), fun q h2 h3 => by
      rw [sd_rI_eq, vu_at]
      by_cases y : q = p
      · rw [if_pos y, y, show sg_n t.1 - p - 1 = i by omega]
      · rw [if_neg y]; exact a1 q (by omega) h3⟩
    rw [show sg_n t.1 - (i + 1) = p by omega] at this
    rw [nI_pm, show lr_ num i / (sg_n t.1 - p) = lr_ num (i + 1) by rw [e1]; rfl]
    exact this
  · intro x h1 I
    show wq _ tb_Ref_codeBy _ 9 [some (.ref 65), some (.int (nI num)), some (.int (nI (lr_ num (sg_n t.1)))), some (.int (nI (sg_n t.1 - (sg_n t.1)) - nI 1)), none, none, none, none] [] h1 _
    obtain ⟨z1, a1⟩ := I
    have B1 : RB_ h0 h1 t := RB_fz B (fz_mono (fun c hc => by omega) z1)
    refine wp_iload3 rfl ?_
    refine wp_if_lt rfl (fun _ => ?_) (fun z => absurd z (by rw [Nat.sub_self]; decide))
    refine wp_iconst rfl ?_
    refine wp_istore3 rfl rfl ?_
    refine wp_iconst rfl ?_
    refine wp_istore4 rfl rfl ?_
    refine wp_iconst rfl ?_
    refine wp_istore5 rfl rfl ?_
    refine wq_loop (X := (Nat → Nat) × Option Value × Option Value) (fun p x => [some (.ref 65), some (.int (nI num)), some (.int (nI (lr_ num (sg_n t.1)))), some (.int (nI (pq_ x.1 p))), some (.int (nI (us_ x.1 p))), some (.int (nI p)), x.2.1, x.2.2]) (fun p x h2 => h2 = h1 ∧ Ly_ (sg_n t.1) p x.1 ∧ rk_ (sg_n t.1) x.1 p = lr_ num (sg_n t.1 - p)) (sg_n t.1) (0) ((fun _ => 0, none, none)) ?_ ?_ ?_ ?_
    · omega
    · exact ⟨rfl, ⟨fun i hi => absurd hi (Nat.not_lt_zero i), fun i j hi => absurd hi (Nat.not_lt_zero i)⟩, by rw [Nat.sub_zero, lr_0 hnum]; rfl⟩
    · intro p x h2 hi J k
      show wq _ tb_Ref_codeBy _ 50 [some (.ref 65), some (.int (nI num)), some (.int (nI (lr_ num (sg_n t.1)))), some (.int (nI (pq_ x.1 p))), some (.int (nI (us_ x.1 p))), some (.int (nI p)), x.2.1, x.2.2] [] h2 _
      obtain ⟨rfl, J1, J2⟩ := J
      obtain ⟨w, x6, x7⟩ := x
      dsimp only at J1 J2
      show wq _ tb_Ref_codeBy _ 50 [some (.ref 65), some (.int (nI num)), some (.int (nI (lr_ num (sg_n t.1)))), some (.int (nI (pq_ w p))), some (.int (nI (us_ w p))), some (.int (nI p)), x6, x7] [] h2 _
      have hpn := hi
      have hus := us_lt J1 p (Nat.le_refl p)
      have hus8 : us_ w p < 256 := Nat.lt_of_lt_of_le hus (Nat.pow_le_pow_right (by decide) n8)
      have hcnt : ub_ (us_ w p) (sg_n t.1) = sg_n t.1 - p := by unfold ub_; rw [us_count J1 p (Nat.le_refl p)]
      have hdl := Nat.mod_lt (lr_ num (sg_n t.1 - p - 1)) (show sg_n t.1 - p > 0 by omega)
      obtain ⟨g, g1, g2, g3⟩ := ub_find (us_ w p) (lr_ num (sg_n t.1 - p - 1) % (sg_n t.1 - p)) (sg_n t.1) (by rw [hcnt]; exact hdl)
      obtain ⟨R1, R2, R3⟩ := rk_more J1 hpn g1 g2 g3 J2
      refine wp_iload5 rfl ?_
      refine wp_aload0 rfl ?_
      refine wp_getIE rfl (Ref_kd B1.S) (show _ = nI (sg_n t.1) from B1.n) ?_
      refine wp_icmp_geN p (sg_n t.1) (by omega) (by omega) rfl (fun z => absurd z (by omega)) (fun _ => ?_)
      refine wp_iconst rfl ?_
      refine wp_istore6 rfl rfl ?_
      refine wp_aload0 rfl ?_
      refine wp_getR rfl (Ref_kd B1.S) (Ref_R24 B1.S) (by first | decide | omega) ?_
      refine wp_iload5 rfl ?_
      refine wp_ialdE p rfl (Ref_k24 B1.S) (by first | decide | omega) (Nat.lt_of_lt_of_eq (show p < _ by omega) (Eq.symm (Ref_n24 B1.S))) (by omega) (show _ = nI (lr_ num (sg_n t.1 - p - 1) % (sg_n t.1 - p)) from a1 p (by omega) hpn) rfl ?_
      refine wp_istore7 rfl rfl ?_
      refine wq_loop (X := Unit) (fun q x => [some (.ref 65), some (.int (nI num)), some (.int (nI (lr_ num (sg_n t.1)))), some (.int (nI (pq_ w p))), some (.int (nI (us_ w p))), some (.int (nI p)), some (.int (nI q)), some (.int (nI (lr_ num (sg_n t.1 - p - 1) % (sg_n t.1 - p) - ub_ (us_ w p) q)))]) (fun q x h3 => h3 = h2) (g) (0) (()) ?_ ?_ ?_ ?_
      · omega
      · rfl
      · intro q x h3 hi K k
        show wq _ tb_Ref_codeBy _ 71 [some (.ref 65), some (.int (nI num)), some (.int (nI (lr_ num (sg_n t.1)))), some (.int (nI (pq_ w p))), some (.int (nI (us_ w p))), some (.int (nI p)), some (.int (nI q)), some (.int (nI (lr_ num (sg_n t.1 - p - 1) % (sg_n t.1 - p) - ub_ (us_ w p) q)))] [] h3 _
        obtain rfl := K
        have hqg := hi
        have hul := ub_succ (us_ w p) q
        have hqle := ub_mono (us_ w p) (g - q) q
        rw [show q + (g - q) = g by omega, g3] at hqle
        refine wp_iload4 rfl ?_
        refine wp_iload6 rfl ?_
        refine wp_ishrE (nI ((us_ w p) / 2 ^ q)) (nn_sshr _ _ (by omega) (by omega)) rfl ?_
        refine wp_iconst rfl ?_
        refine wp_iandE (nI (((us_ w p) / 2 ^ q) % 2)) (nn_1 _) rfl ?_
        refine wp_iconst rfl ?_
        refine wp_icmp_eqN (((us_ w p) / 2 ^ q) % 2) 1 (by omega) (by omega) rfl (fun c1 => ?_) (fun c1 => ?_)
        · skip
          refine wp_iload7 rfl ?_
          refine wp_iload4 rfl ?_
          refine wp_iload6 rfl ?_
          refine wp_ishrE (nI ((us_ w p) / 2 ^ q)) (nn_sshr _ _ (by omega) (by omega)) rfl ?_
          refine wp_iconst rfl ?_
          refine wp_iandE (nI (((us_ w p) / 2 ^ q) % 2)) (nn_1 _) rfl ?_
          refine wp_iconst rfl ?_
          have c2 := (tb_mod _ _).mp c1
          rw [c2, if_pos rfl, Nat.add_zero] at hul
          refine wp_icmp_neN (((us_ w p) / 2 ^ q) % 2) 1 (by omega) (by omega) rfl (fun z => absurd z (by rw [c1]; exact fun z => z rfl)) (fun _ => ?_)
          refine wp_iconst rfl ?_
          refine wp_goto rfl ?_
          refine wp_isubE (nI ((lr_ num (sg_n t.1 - p - 1) % (sg_n t.1 - p) - ub_ (us_ w p) q) - 0)) (pk_sub (by omega)) rfl ?_
          refine wp_istore7 rfl rfl ?_
          refine wp_iinc6N rfl rfl ?_
          refine wp_goto rfl ?_
          have := k () _ rfl
          rw [hul] at this
          exact this
        · skip
          have c2 := (tb_mod0 _ _).mp c1
          rw [c2, if_neg Bool.false_ne_true] at hul
          have hlt := ub_lt c2 hqg
          rw [g3] at hlt
          refine wp_iload7 rfl ?_
          refine wp_if_leN (lr_ num (sg_n t.1 - p - 1) % (sg_n t.1 - p) - ub_ (us_ w p) q) 0 (by omega) (by decide) rfl (fun z => absurd z (by omega)) (fun _ => ?_)
          refine wp_iload7 rfl ?_
          refine wp_iload4 rfl ?_
          refine wp_iload6 rfl ?_
          refine wp_ishrE (nI ((us_ w p) / 2 ^ q)) (nn_sshr _ _ (by omega) (by omega)) rfl ?_
          refine wp_iconst rfl ?_
          refine wp_iandE (nI (((us_ w p) / 2 ^ q) % 2)) (nn_1 _) rfl ?_
          refine wp_iconst rfl ?_
          refine wp_icmp_neN (((us_ w p) / 2 ^ q) % 2) 1 (by omega) (by omega) rfl (fun _ => ?_) (fun z => absurd z (c1))
          refine wp_iconst rfl ?_
          refine wp_isubE (nI ((lr_ num (sg_n t.1 - p - 1) % (sg_n t.1 - p) - ub_ (us_ w p) q) - 1)) (pk_sub (by omega)) rfl ?_
          refine wp_istore7 rfl rfl ?_
          refine wp_iinc6N rfl rfl ?_
          refine wp_goto rfl ?_
          have := k () _ rfl
          rw [hul, show lr_ num (sg_n t.1 - p - 1) % (sg_n t.1 - p) - (ub_ (us_ w p) q + 1) = lr_ num (sg_n t.1 - p - 1) % (sg_n t.1 - p) - ub_ (us_ w p) q - 1 by omega] at this
          exact this
      · intro x h3 K
        show wq _ tb_Ref_codeBy _ 71 [some (.ref 65), some (.int (nI num)), some (.int (nI (lr_ num (sg_n t.1)))), some (.int (nI (pq_ w p))), some (.int (nI (us_ w p))), some (.int (nI p)), some (.int (nI g)), some (.int (nI (lr_ num (sg_n t.1 - p - 1) % (sg_n t.1 - p) - ub_ (us_ w p) g)))] [] h3 _
        obtain rfl := K
        have hpw : pq_ w p < 8 ^ p := pq_lt p (fun i hi => by have := J1.1 i hi; omega)
        refine wp_iload4 rfl ?_
        refine wp_iload6 rfl ?_
        refine wp_ishrE (nI ((us_ w p) / 2 ^ g)) (nn_sshr _ _ (by omega) (by omega)) rfl ?_
        refine wp_iconst rfl ?_
        refine wp_iandE (nI (((us_ w p) / 2 ^ g) % 2)) (nn_1 _) rfl ?_
        refine wp_iconst rfl ?_
        refine wp_icmp_eqN (((us_ w p) / 2 ^ g) % 2) 1 (by omega) (by omega) rfl (fun z => absurd z (by have := (tb_mod0 (us_ w p) g).mpr g2; exact this)) (fun _ => ?_)
        refine wp_iload7 rfl ?_
        refine wp_if_leN (lr_ num (sg_n t.1 - p - 1) % (sg_n t.1 - p) - ub_ (us_ w p) g) 0 (by omega) (by decide) rfl (fun _ => ?_) (fun z => absurd z (by omega))
        refine wp_iload4 rfl ?_
        refine wp_iconst rfl ?_
        refine wp_iload6 rfl ?_
        refine wp_ishlE (nI (2 ^ g)) (nn_shl1 _ (by omega)) rfl ?_
        refine wp_iorE (nI ((us_ w p) ||| (2 ^ g))) (nn_or _ _) rfl ?_
        refine wp_istore4 rfl rfl ?_
        refine wp_iload3 rfl ?_
        refine wp_iload6 rfl ?_
        have hg8 : g * 2 ^ (3 * p) = g * 8 ^ p := by rw [p8]
        refine wp_iconst rfl ?_
        refine wp_iload5 rfl ?_
        refine wp_imulE (nI (3 * p)) (pk_mul _ _) rfl ?_
        refine wp_ishlE (nI (g * 2 ^ (3 * p))) (nn_shl _ _ (by omega)) rfl ?_
        refine wp_iorE (nI ((pq_ w p) ||| (g * 2 ^ (3 * p)))) (nn_or _ _) rfl ?_
        refine wp_istore3 rfl rfl ?_
        refine wp_iinc5N rfl rfl ?_
        refine wp_goto rfl ?_
        have := k (va_up w p g, some (.int (nI g)), some (.int (nI (lr_ num (sg_n t.1 - p - 1) % (sg_n t.1 - p) - ub_ (us_ w p) g)))) _ ⟨rfl, R1, R2⟩
        have epq : pq_ w p ||| g * 2 ^ (3 * p) = pq_ (va_up w p g) (p + 1) := by
          rw [hg8, pq_or (fun i hi => by have := J1.1 i hi; omega)]
          show _ = pq_ (va_up w p g) p + va_up w p g p * 8 ^ p
          rw [pq_cong (f := va_up w p g) (g := w) p (fun j hj => by rw [vu_at, if_neg (by omega)]), vu_at, if_pos rfl]
        rw [epq, ← R3]
        exact this
    · intro x h2 J
      show wq _ tb_Ref_codeBy _ 50 [some (.ref 65), some (.int (nI num)), some (.int (nI (lr_ num (sg_n t.1)))), some (.int (nI (pq_ x.1 (sg_n t.1)))), some (.int (nI (us_ x.1 (sg_n t.1)))), some (.int (nI (sg_n t.1))), x.2.1, x.2.2] [] h2 _
      obtain ⟨rfl, J1, J2⟩ := J
      refine wp_iload5 rfl ?_
      refine wp_aload0 rfl ?_
      refine wp_getIE rfl (Ref_kd B1.S) (show _ = nI (sg_n t.1) from B1.n) ?_
      refine wp_icmp_geN (sg_n t.1) (sg_n t.1) (by omega) (by omega) rfl (fun _ => ?_) (fun z => absurd z (by omega))
      refine wp_iload3 rfl ?_
      have W : Lz_ (sg_n t.1) (sg_n t.1) (fun i => if i < sg_n t.1 then x.1 i else 0) := ⟨⟨fun i hi => by dsimp only; rw [if_pos hi]; exact J1.1 i hi, fun i j hi hj e => by dsimp only at e; rw [if_pos hi, if_pos hj] at e; exact J1.2 i j hi hj e⟩, fun i hi => if_neg (by omega)⟩
      exact wp_iret rfl ⟨_, rfl, ⟨_, W, by rw [rk_cong _ (fun j hj => if_pos hj), J2, Nat.sub_self]; rfl, congrArg nI (pq_cong _ (fun j hj => (if_pos hj).symm))⟩, z1⟩
theorem Ref_danced_ok {h0 h : Hp_} {t : Rt_} {w : Nat → Nat} {f : Nat} (B : RB_ h0 h t) (G : GO_ h t.1) (W : Lz_ (sg_n t.1) (sg_n t.1) w) (hf : f < 6) : cI 1 mn_Ref_danced [.ref 65, .int (nI (pq_ w (sg_n t.1))), .int (nI f)] h (fun x h' => x = nI (pq_ (tr_ (sg_n t.1) (mv_ t.1 f) w) (sg_n t.1)) ∧ h' = h) := by
  have n8 := B.n8
  have W8 := Lz_lt n8 W
  have hpq := pq_8n n8 (fun i _ => W8 i)
  have mP := mv_P B.w f
  have m8 := mP.mono n8
  refine cq_in (q := mi_Ref_danced) (L := [some (.ref 65), some (.int (nI (pq_ w (sg_n t.1)))), some (.int (nI f)), none, none]) rfl (Nat.le_of_ble_eq_true rfl) rfl ?_
  show wq _ tb_Ref_danced none 0 _ _ _ _
  refine wp_iconst rfl ?_
  refine wp_istore3 rfl rfl ?_
  refine wp_iconst rfl ?_
  refine wp_istore4 rfl rfl ?_
  have e0 : (0 : Nat) = pq_ (fun q => if q < sg_n t.1 ∧ in_ (mv_ t.1 f) q < 0 then w (in_ (mv_ t.1 f) q) else 0) (sg_n t.1) := by
    have : ∀ n, pq_ (fun q => if q < sg_n t.1 ∧ in_ (mv_ t.1 f) q < 0 then w (in_ (mv_ t.1 f) q) else 0) n = 0 := by
      intro n
      induction n with
      | zero => rfl
      | succ n ih =>
        show pq_ _ n + (if _ then _ else 0) * 8 ^ n = 0
        rw [ih, if_neg (by omega), Nat.zero_mul]
    exact (this _).symm
  refine wq_loc (L' := [some (.ref 65), some (.int (nI (pq_ w (sg_n t.1)))), some (.int (nI f)), some (.int (nI (pq_ (fun q => if q < sg_n t.1 ∧ in_ (mv_ t.1 f) q < 0 then w (in_ (mv_ t.1 f) q) else 0) (sg_n t.1)))), some (.int (nI 0))]) (by rw [← e0]) ?_
  refine wq_loop (X := Unit) (fun p x => [some (.ref 65), some (.int (nI (pq_ w (sg_n t.1)))), some (.int (nI f)), some (.int (nI (pq_ (fun q => if q < sg_n t.1 ∧ in_ (mv_ t.1 f) q < p then w (in_ (mv_ t.1 f) q) else 0) (sg_n t.1)))), some (.int (nI p))]) (fun p x h1 => h1 = h) (sg_n t.1) (0) (()) ?_ ?_ ?_ ?_
  · omega
  · rfl
  · intro p x h1 hi I k
    show wq _ tb_Ref_danced _ 5 [some (.ref 65), some (.int (nI (pq_ w (sg_n t.1)))), some (.int (nI f)), some (.int (nI (pq_ (fun q => if q < sg_n t.1 ∧ in_ (mv_ t.1 f) q < p then w (in_ (mv_ t.1 f) q) else 0) (sg_n t.1)))), some (.int (nI p))] [] h1 _
    obtain rfl := I
    have hmp := mP.1 p hi
    have hpn := hi
    have hdig : pq_ w (sg_n t.1) / 2 ^ (3 * p) % 8 = w p := by rw [← p8]; exact pq_get _ _ (fun i _ => W8 i) hi
    refine wp_iload4 rfl ?_
    refine wp_aload0 rfl ?_
    refine wp_getIE rfl (Ref_kd B.S) (show _ = nI (sg_n t.1) from B.n) ?_
    refine wp_icmp_geN p (sg_n t.1) (by omega) (by omega) rfl (fun z => absurd z (by omega)) (fun _ => ?_)
    refine wp_iload3 rfl ?_
    refine wp_iload1 rfl ?_
    refine wp_iconst rfl ?_
    refine wp_iload4 rfl ?_
    refine wp_imulE (nI (3 * p)) (pk_mul _ _) rfl ?_
    refine wp_ishrE (nI ((pq_ w (sg_n t.1)) / 2 ^ (3 * p))) (nn_sshr _ _ (by omega) (by omega)) rfl ?_
    refine wp_bipush rfl ?_
    refine wp_iandE (nI (((pq_ w (sg_n t.1)) / 2 ^ (3 * p)) % 8)) (nn_7 _) rfl ?_
    rw [hdig]
    refine wp_iconst rfl ?_
    refine wp_aload0 rfl ?_
    refine wp_getR rfl (Ref_kd B.S) (Ref_R19 B.S) (by first | decide | omega) ?_
    refine wp_bipush rfl ?_
    refine wp_iload2 rfl ?_
    refine wp_imulE (nI (8 * f)) (pk_mul _ _) rfl ?_
    refine wp_iload4 rfl ?_
    refine wp_iaddE (nI ((8 * f) + p)) (nI_add _ _) rfl ?_
    refine wp_ialdE ((8 * f) + p) rfl (Ref_k19 B.S) (by first | decide | omega) (Nat.lt_of_lt_of_eq (show ((8 * f) + p) < _ by omega) (Eq.symm (Ref_n19 B.S))) (by omega) (show _ = nI (mv_ t.1 f p) from G f p hf hpn) rfl ?_
    refine wp_imulE (nI (3 * (mv_ t.1 f p))) (pk_mul _ _) rfl ?_
    refine wp_ishlE (nI ((w p) * 2 ^ (3 * (mv_ t.1 f p)))) (nn_shl _ _ (by omega)) rfl ?_
    refine wp_iorE (nI ((pq_ (fun q => if q < sg_n t.1 ∧ in_ (mv_ t.1 f) q < p then w (in_ (mv_ t.1 f) q) else 0) (sg_n t.1)) ||| ((w p) * 2 ^ (3 * (mv_ t.1 f p))))) (nn_or _ _) rfl ?_
    refine wp_istore3 rfl rfl ?_
    refine wp_iinc4N rfl rfl ?_
    refine wp_goto rfl ?_
    have epq : pq_ (fun q => if q < sg_n t.1 ∧ in_ (mv_ t.1 f) q < p then w (in_ (mv_ t.1 f) q) else 0) (sg_n t.1) ||| w p * 2 ^ (3 * mv_ t.1 f p) = pq_ (fun q => if q < sg_n t.1 ∧ in_ (mv_ t.1 f) q < p + 1 then w (in_ (mv_ t.1 f) q) else 0) (sg_n t.1) := by
      rw [← p8, pq_or_at (fun i _ => by (try dsimp only); split; exact W8 _; decide) hmp (by (try dsimp only); rw [in_left m8, if_neg (by omega)]) (W8 p)]
      refine pq_cong _ (fun j hj => ?_)
      rw [vu_at]
      by_cases y : j = mv_ t.1 f p
      · rw [if_pos y, y, in_left m8, if_pos (by omega)]
      · rw [if_neg y]
        have hne : in_ (mv_ t.1 f) j ≠ p := fun z => y (by rw [← z, in_right m8])
        (try dsimp only)
        by_cases y2 : j < sg_n t.1 ∧ in_ (mv_ t.1 f) j < p
        · rw [if_pos y2, if_pos (by omega)]
        · rw [if_neg y2, if_neg (by omega)]
    rw [epq]
    exact k () _ rfl
  · intro x h1 I
    show wq _ tb_Ref_danced _ 5 [some (.ref 65), some (.int (nI (pq_ w (sg_n t.1)))), some (.int (nI f)), some (.int (nI (pq_ (fun q => if q < sg_n t.1 ∧ in_ (mv_ t.1 f) q < (sg_n t.1) then w (in_ (mv_ t.1 f) q) else 0) (sg_n t.1)))), some (.int (nI (sg_n t.1)))] [] h1 _
    obtain rfl := I
    refine wp_iload4 rfl ?_
    refine wp_aload0 rfl ?_
    refine wp_getIE rfl (Ref_kd B.S) (show _ = nI (sg_n t.1) from B.n) ?_
    refine wp_icmp_geN (sg_n t.1) (sg_n t.1) (by omega) (by omega) rfl (fun _ => ?_) (fun z => absurd z (by omega))
    refine wp_iload3 rfl ?_
    exact wp_iret rfl ⟨_, rfl, congrArg nI (pq_cong _ (fun j hj => by
      unfold tr_
      (try dsimp only)
      rw [if_pos ⟨hj, (in_Pn n8 mP).1 j hj⟩, if_pos hj])), rfl⟩
theorem Ref_codeNow_ok {h0 h : Hp_} {t : Rt_} (B : RB_ h0 h t) : cI 1 mn_Ref_codeNow [.ref 65] h (fun x h' => x = nI (pq_ (ar_ (sg_n t.1) (sg_pos t.1)) (sg_n t.1)) ∧ h' = h) := by
  have n8 := B.n8
  have hin := in_P (B.w.2.1.mono n8)
  have hf8 : ∀ i, i < 8 → in_ (sg_pos t.1) i < 8 := hin.1
  refine cq_in (q := mi_Ref_codeNow) (L := [some (.ref 65), none, none]) rfl (Nat.le_of_ble_eq_true rfl) rfl ?_
  show wq _ tb_Ref_codeNow none 0 _ _ _ _
  refine wp_iconst rfl ?_
  refine wp_istore1 rfl rfl ?_
  refine wp_iconst rfl ?_
  refine wp_istore2 rfl rfl ?_
  refine wq_loop (X := Unit) (fun p x => [some (.ref 65), some (.int (nI (pq_ (in_ (sg_pos t.1)) p))), some (.int (nI p))]) (fun p x h1 => h1 = h) (sg_n t.1) (0) (()) ?_ ?_ ?_ ?_
  · omega
  · rfl
  · intro p x h1 hi I k
    show wq _ tb_Ref_codeNow _ 4 [some (.ref 65), some (.int (nI (pq_ (in_ (sg_pos t.1)) p))), some (.int (nI p))] [] h1 _
    obtain rfl := I
    have hpn := hi
    refine wp_iload2 rfl ?_
    refine wp_aload0 rfl ?_
    refine wp_getIE rfl (Ref_kd B.S) (show _ = nI (sg_n t.1) from B.n) ?_
    refine wp_icmp_geN p (sg_n t.1) (by omega) (by omega) rfl (fun z => absurd z (by omega)) (fun _ => ?_)
    refine wp_iload1 rfl ?_
    refine wp_aload0 rfl ?_
    refine wp_getR rfl (Ref_kd B.S) (Ref_R2 B.S) (by first | decide | omega) ?_
    refine wp_iload2 rfl ?_
    refine wp_ialdE p rfl (Ref_k2 B.S) (by first | decide | omega) (Nat.lt_of_lt_of_eq (show p < _ by omega) (Eq.symm (Ref_n2 B.S))) (by omega) (show _ = nI (in_ (sg_pos t.1) p) from B.good (by omega)) rfl ?_
    refine wp_iconst rfl ?_
    refine wp_iload2 rfl ?_
    refine wp_imulE (nI (3 * p)) (pk_mul _ _) rfl ?_
    refine wp_ishlE (nI ((in_ (sg_pos t.1) p) * 2 ^ (3 * p))) (nn_shl _ _ (by omega)) rfl ?_
    refine wp_iorE (nI ((pq_ (in_ (sg_pos t.1)) p) ||| ((in_ (sg_pos t.1) p) * 2 ^ (3 * p)))) (nn_or _ _) rfl ?_
    refine wp_istore1 rfl rfl ?_
    refine wp_iinc2N rfl rfl ?_
    refine wp_goto rfl ?_
    have epq : pq_ (in_ (sg_pos t.1)) p ||| in_ (sg_pos t.1) p * 2 ^ (3 * p) = pq_ (in_ (sg_pos t.1)) (p + 1) := by
      rw [← p8, pq_or (fun i hi => hf8 i (by omega))]
      rfl
    rw [epq]
    exact k () _ rfl
  · intro x h1 I
    show wq _ tb_Ref_codeNow _ 4 [some (.ref 65), some (.int (nI (pq_ (in_ (sg_pos t.1)) (sg_n t.1)))), some (.int (nI (sg_n t.1)))] [] h1 _
    obtain rfl := I
    refine wp_iload2 rfl ?_
    refine wp_aload0 rfl ?_
    refine wp_getIE rfl (Ref_kd B.S) (show _ = nI (sg_n t.1) from B.n) ?_
    refine wp_icmp_geN (sg_n t.1) (sg_n t.1) (by omega) (by omega) rfl (fun _ => ?_) (fun z => absurd z (by omega))
    refine wp_iload1 rfl ?_
    exact wp_iret rfl ⟨_, rfl, congrArg nI (pq_cong _ (fun j hj => by unfold ar_; rw [if_pos hj])), rfl⟩
/-- what findNext lays down -/
def FN_ (h : Hp_) (s : Sg_) : Prop := hp_I h 65 25 = nI (ce_ (sg_n s) (sg_n s)) ∧ ∀ w, Lz_ (sg_n s) (sg_n s) w → hp_I h 80 (rk_ (sg_n s) w (sg_n s)) = nI (pq_ w (sg_n s)) ∧ ∀ f, f < 6 → hp_I h 81 (40320 * f + rk_ (sg_n s) w (sg_n s)) = if may_ s f then nI (rk_ (sg_n s) (tr_ (sg_n s) (mv_ s f) w) (sg_n s)) else -6
def fa_ : Nat → Nat
  | 0 => 1
  | k + 1 => fa_ k * (k + 1)
theorem fa_ce : ∀ n : Fin 9, fa_ n.1 = ce_ n.1 n.1 := by decide +kernel
theorem fa_le : ∀ n : Fin 10, fa_ n.1 ≤ 362880 := by decide +kernel
theorem Ref_findNext_ok {h0 h : Hp_} {t : Rt_} (B : RB_ h0 h t) : cV 3 mn_Ref_findNext [.ref 65] h (fun h' => RB_ h0 h' t ∧ FN_ h' t.1 ∧ GO_ h' t.1) := by
  have n8 := B.n8
  have n3 := B.n3
  have hce := ce_le n8 (sg_n t.1)
  refine cq_in (q := mi_Ref_findNext) (L := [some (.ref 65), none, none]) rfl (Nat.le_of_ble_eq_true rfl) rfl ?_
  show wq _ tb_Ref_findNext none 0 _ _ _ _
  refine wp_aload0 rfl ?_
  refine wp_callV0V rfl (Nat.le_of_ble_eq_true rfl) (Ref_kd B.S) (Ref_findGoes_ok B) (Nat.le_of_ble_eq_true rfl) ?_
  rintro h1 ⟨G, z1⟩
  have B1 : RB_ h0 h1 t := RB_fz B (fz_mono (fun c hc => by omega) z1)
  refine wp_aload0 rfl ?_
  refine wp_iconst rfl ?_
  refine wp_putI rfl (Ref_kd B1.S) ?_
  refine wp_iconst rfl ?_
  refine wp_istore1 rfl rfl ?_
  refine wq_while (X := Unit) (fun i x => [some (.ref 65), some (.int (nI i)), none]) (fun i x h2 => RB_ h0 h2 t ∧ GO_ h2 t.1 ∧ hp_I h2 65 25 = nI (fa_ (i - 1)) ∧ 2 ≤ i ∧ i ≤ sg_n t.1 + 1) (9) (2) (()) ?_ ?_ ?_
  · exact ⟨RB_fl B1 (by omega) _, fun f p hf hp => by rw [sd_rI_ne (by decide)]; exact G f p hf hp, by rw [sd_rI_eq]; rfl, Nat.le_refl 2, by omega⟩
  · rintro i x h2 ⟨_, _, _, _, h5⟩; omega
  · intro i x h2 I k
    show wq _ tb_Ref_findNext _ 11 [some (.ref 65), some (.int (nI i)), none] [] h2 _
    obtain ⟨B2, G2, e2, i2, i9⟩ := I
    have hfa := fa_le ⟨i - 1, by omega⟩
    dsimp only at hfa
    refine wp_iload1 rfl ?_
    refine wp_aload0 rfl ?_
    refine wp_getIE rfl (Ref_kd B2.S) (show _ = nI (sg_n t.1) from B2.n) ?_
    refine wp_icmp_gtN i (sg_n t.1) (by omega) (by omega) rfl (fun c1 => ?_) (fun c1 => ?_)
    · skip
      refine wp_iconst rfl ?_
      refine wp_istore1 rfl rfl ?_
      have ei : i = sg_n t.1 + 1 := by omega
      rw [ei, Nat.add_sub_cancel] at e2
      have ec := fa_ce ⟨sg_n t.1, by omega⟩
      dsimp only at ec
      rw [ec] at e2
      refine wq_loop (X := Option Value) (fun s x => [some (.ref 65), some (.int (nI s)), x]) (fun s x h3 => fz_ (fun c => c = 80 ∨ c = 81 ∨ c = 82) h2 h3 ∧ ∀ w, Lz_ (sg_n t.1) (sg_n t.1) w → rk_ (sg_n t.1) w (sg_n t.1) < s → hp_I h3 80 (rk_ (sg_n t.1) w (sg_n t.1)) = nI (pq_ w (sg_n t.1)) ∧ ∀ f, f < 6 → hp_I h3 81 (40320 * f + rk_ (sg_n t.1) w (sg_n t.1)) = if may_ t.1 f then nI (rk_ (sg_n t.1) (tr_ (sg_n t.1) (mv_ t.1 f) w) (sg_n t.1)) else -6) (ce_ (sg_n t.1) (sg_n t.1)) (0) (none) ?_ ?_ ?_ ?_
      · omega
      · exact ⟨fz_refl _ _, fun w W hw => absurd hw (Nat.not_lt_zero _)⟩
      · intro s x h3 hi J k
        show wq _ tb_Ref_findNext _ 37 [some (.ref 65), some (.int (nI s)), x] [] h3 _
        obtain ⟨z3, a3⟩ := J
        have B3 : RB_ h0 h3 t := RB_fz B2 (fz_mono (fun c hc => by omega) z3)
        have hsn := hi
        refine wp_iload1 rfl ?_
        refine wp_aload0 rfl ?_
        refine wp_getIE rfl (Ref_kd B3.S) (show _ = nI (ce_ (sg_n t.1) (sg_n t.1)) from by rw [fz_I z3 (by decide)]; exact e2) ?_
        refine wp_icmp_geN s (ce_ (sg_n t.1) (sg_n t.1)) (by omega) (by omega) rfl (fun z => absurd z (by omega)) (fun _ => ?_)
        refine wp_aload0 rfl ?_
        refine wp_getR rfl (Ref_kd B3.S) (Ref_R22 B3.S) (by first | decide | omega) ?_
        refine wp_iload1 rfl ?_
        refine wp_aload0 rfl ?_
        refine wp_iload1 rfl ?_
        refine wp_callV1I rfl (Nat.le_of_ble_eq_true rfl) (Ref_kd B3.S) (Ref_codeBy_ok B3 hsn) (Nat.le_of_ble_eq_true rfl) ?_
        rintro _ h4 ⟨⟨w, W, hr, rfl⟩, z4⟩
        have B4 : RB_ h0 h4 t := RB_fz B3 (fz_mono (fun c hc => by omega) z4)
        refine wp_iast s rfl (Ref_k22 B4.S) (Nat.lt_of_lt_of_eq (show s < _ by omega) (Eq.symm (Ref_n22 B4.S))) (by omega) rfl ?_
        refine wp_iconst rfl ?_
        refine wp_istore2 rfl rfl ?_
        refine wq_loop (X := Unit) (fun f x => [some (.ref 65), some (.int (nI s)), some (.int (nI f))]) (fun f x h5 => fz_ (fun c => c = 80 ∨ c = 81 ∨ c = 82) h2 h5 ∧ (∀ v, Lz_ (sg_n t.1) (sg_n t.1) v → rk_ (sg_n t.1) v (sg_n t.1) < s → hp_I h5 80 (rk_ (sg_n t.1) v (sg_n t.1)) = nI (pq_ v (sg_n t.1)) ∧ ∀ f, f < 6 → hp_I h5 81 (40320 * f + rk_ (sg_n t.1) v (sg_n t.1)) = if may_ t.1 f then nI (rk_ (sg_n t.1) (tr_ (sg_n t.1) (mv_ t.1 f) v) (sg_n t.1)) else -6) ∧ hp_I h5 80 s = nI (pq_ w (sg_n t.1)) ∧ ∀ f2, f2 < f → hp_I h5 81 (40320 * f2 + s) = if may_ t.1 f2 then nI (rk_ (sg_n t.1) (tr_ (sg_n t.1) (mv_ t.1 f2) w) (sg_n t.1)) else -6) (6) (0) (()) ?_ ?_ ?_ ?_
        · omega
        · refine ⟨fz_rI (fz_trans z3 (fz_mono (fun c hc => by omega) z4)) (Or.inl rfl) _, fun v V hv => ⟨?_, fun f hf => ?_⟩, by rw [sd_rI_eq, sd_up_eq], fun f2 hf => absurd hf (Nat.not_lt_zero f2)⟩
          · rw [sd_rI_eq, sd_up_ne (by omega), fz_I z4 (by decide)]; exact (a3 v V hv).1
          · rw [sd_rI_ne (by decide), fz_I z4 (by decide)]; exact (a3 v V hv).2 f hf
        · intro f x h5 hi K k
          show wq _ tb_Ref_findNext _ 58 [some (.ref 65), some (.int (nI s)), some (.int (nI f))] [] h5 _
          obtain ⟨z5, a5, b5, c5⟩ := K
          have B5 : RB_ h0 h5 t := RB_fz B2 (fz_mono (fun c hc => by omega) z5)
          have G5 : GO_ h5 t.1 := fun f p hf hp => by rw [fz_I z5 (by decide)]; exact G2 f p hf hp
          have hf6 := hi
          have nxt : ∀ x : Int32, (x = if may_ t.1 f then nI (rk_ (sg_n t.1) (tr_ (sg_n t.1) (mv_ t.1 f) w) (sg_n t.1)) else -6) → (fz_ (fun c => c = 80 ∨ c = 81 ∨ c = 82) h2 (hp_rI h5 81 (va_up (hp_I h5 81) (40320 * f + s) x)) ∧ (∀ v, Lz_ (sg_n t.1) (sg_n t.1) v → rk_ (sg_n t.1) v (sg_n t.1) < s → hp_I (hp_rI h5 81 (va_up (hp_I h5 81) (40320 * f + s) x)) 80 (rk_ (sg_n t.1) v (sg_n t.1)) = nI (pq_ v (sg_n t.1)) ∧ ∀ f2, f2 < 6 → hp_I (hp_rI h5 81 (va_up (hp_I h5 81) (40320 * f + s) x)) 81 (40320 * f2 + rk_ (sg_n t.1) v (sg_n t.1)) = if may_ t.1 f2 then nI (rk_ (sg_n t.1) (tr_ (sg_n t.1) (mv_ t.1 f2) v) (sg_n t.1)) else -6) ∧ hp_I (hp_rI h5 81 (va_up (hp_I h5 81) (40320 * f + s) x)) 80 s = nI (pq_ w (sg_n t.1)) ∧ ∀ f2, f2 < f + 1 → hp_I (hp_rI h5 81 (va_up (hp_I h5 81) (40320 * f + s) x)) 81 (40320 * f2 + s) = if may_ t.1 f2 then nI (rk_ (sg_n t.1) (tr_ (sg_n t.1) (mv_ t.1 f2) w) (sg_n t.1)) else -6) := by
            intro x hx
            refine ⟨fz_rI z5 (Or.inr (Or.inl rfl)) _, fun v V hv => ⟨?_, fun f2 hf2 => ?_⟩, by rw [sd_rI_ne (by decide)]; exact b5, fun f2 hf2 => ?_⟩
            · rw [sd_rI_ne (by decide)]; exact (a5 v V hv).1
            · rw [sd_rI_eq, sd_up_ne (by omega)]; exact (a5 v V hv).2 f2 hf2
            · rw [sd_rI_eq, vu_at]
              by_cases y : f2 = f
              · rw [if_pos (by omega), hx, y]
              · rw [if_neg (by omega)]; exact c5 f2 (by omega)
          refine wp_iload2 rfl ?_
          refine wp_bipush rfl ?_
          refine wp_icmp_geN f 6 (by omega) (by omega) rfl (fun z => absurd z (by omega)) (fun _ => ?_)
          refine wp_aload0 rfl ?_
          refine wp_getR rfl (Ref_kd B5.S) (Ref_R23 B5.S) (by first | decide | omega) ?_
          refine wp_ldc rfl ?_
          refine wp_iload2 rfl ?_
          refine wp_imulE (nI (40320 * f)) (pk_mul _ _) rfl ?_
          refine wp_iload1 rfl ?_
          refine wp_iaddE (nI ((40320 * f) + s)) (nI_add _ _) rfl ?_
          refine wp_aload0 rfl ?_
          refine wp_iload2 rfl ?_
          refine wp_callV1I rfl (Nat.le_of_ble_eq_true rfl) (Ref_kd B5.S) (Ref_may_ok B5 hf6) (Nat.le_of_ble_eq_true rfl) ?_
          refine pure_ ?_
          refine wp_if_eqB rfl (fun c6 => ?_) (fun c6 => ?_)
          · skip
            refine wp_bipush rfl ?_
            refine wp_iast ((40320 * f) + s) rfl (Ref_k23 B5.S) (Nat.lt_of_lt_of_eq (show ((40320 * f) + s) < _ by omega) (Eq.symm (Ref_n23 B5.S))) (by omega) rfl ?_
            refine wp_iinc2N rfl rfl ?_
            refine wp_goto rfl ?_
            exact k () _ (nxt _ (by rw [c6]; rfl))
          · skip
            refine wp_aload0 rfl ?_
            refine wp_aload0 rfl ?_
            refine wp_aload0 rfl ?_
            refine wp_getR rfl (Ref_kd B5.S) (Ref_R22 B5.S) (by first | decide | omega) ?_
            refine wp_iload1 rfl ?_
            refine wp_ialdE s rfl (Ref_k22 B5.S) (by first | decide | omega) (Nat.lt_of_lt_of_eq (show s < _ by omega) (Eq.symm (Ref_n22 B5.S))) (by omega) (show _ = nI (pq_ w (sg_n t.1)) from b5) rfl ?_
            refine wp_iload2 rfl ?_
            refine wp_callV2I rfl (Nat.le_of_ble_eq_true rfl) (Ref_kd B5.S) (Ref_danced_ok B5 G5 W hf6) (Nat.le_of_ble_eq_true rfl) ?_
            refine pure_ ?_
            refine wp_callV1I rfl (Nat.le_of_ble_eq_true rfl) (Ref_kd B5.S) (Ref_numberOf_ok B5 (tr_Lz n8 (mv_P B.w f) W)) (Nat.le_of_ble_eq_true rfl) ?_
            refine pure_ ?_
            refine wp_goto rfl ?_
            refine wp_iast ((40320 * f) + s) rfl (Ref_k23 B5.S) (Nat.lt_of_lt_of_eq (show ((40320 * f) + s) < _ by omega) (Eq.symm (Ref_n23 B5.S))) (by omega) rfl ?_
            refine wp_iinc2N rfl rfl ?_
            refine wp_goto rfl ?_
            exact k () _ (nxt _ (by rw [c6]; rfl))
        · intro x h5 K
          show wq _ tb_Ref_findNext _ 58 [some (.ref 65), some (.int (nI s)), some (.int (nI 6))] [] h5 _
          obtain ⟨z5, a5, b5, c5⟩ := K
          refine wp_iload2 rfl ?_
          refine wp_bipush rfl ?_
          refine wp_icmp_geN 6 6 (by omega) (by omega) rfl (fun _ => ?_) (fun z => absurd z (by omega))
          refine wp_iinc1N rfl rfl ?_
          refine wp_goto rfl ?_
          refine k _ _ ⟨z5, fun v V hv => ?_⟩
          rcases Nat.lt_or_ge (rk_ (sg_n t.1) v (sg_n t.1)) s with q | q
          · exact a5 v V q
          · have e : rk_ (sg_n t.1) v (sg_n t.1) = s := by omega
            have ev : v = w := Lz_ext V W (by rw [e, hr])
            rw [e, ev]
            exact ⟨b5, c5⟩
      · intro x h3 J
        show wq _ tb_Ref_findNext _ 37 [some (.ref 65), some (.int (nI (ce_ (sg_n t.1) (sg_n t.1)))), x] [] h3 _
        obtain ⟨z3, a3⟩ := J
        have B3 : RB_ h0 h3 t := RB_fz B2 (fz_mono (fun c hc => by omega) z3)
        refine wp_iload1 rfl ?_
        refine wp_aload0 rfl ?_
        refine wp_getIE rfl (Ref_kd B3.S) (show _ = nI (ce_ (sg_n t.1) (sg_n t.1)) from by rw [fz_I z3 (by decide)]; exact e2) ?_
        refine wp_icmp_geN (ce_ (sg_n t.1) (sg_n t.1)) (ce_ (sg_n t.1) (sg_n t.1)) (by omega) (by omega) rfl (fun _ => ?_) (fun z => absurd z (by omega))
        exact wp_vret rfl ⟨rfl, B3, ⟨by rw [fz_I z3 (by decide)]; exact e2, fun w W => a3 w W (rk_lt W.1 _ (Nat.le_refl _))⟩, fun f p hf hp => by rw [fz_I z3 (by decide)]; exact G2 f p hf hp⟩
    · skip
      refine wp_aload0 rfl ?_
      refine wp_dup rfl ?_
      refine wp_getIE rfl (Ref_kd B2.S) (show _ = nI (fa_ (i - 1)) from e2) ?_
      refine wp_iload1 rfl ?_
      refine wp_imulE (nI ((fa_ (i - 1)) * i)) (pk_mul _ _) rfl ?_
      refine wp_putI rfl (Ref_kd B2.S) ?_
      refine wp_iinc1N rfl rfl ?_
      refine wp_goto rfl ?_
      have em : fa_ (i + 1 - 1) = fa_ (i - 1) * i := by
        obtain ⟨j, rfl⟩ : ∃ j, i = j + 1 := ⟨i - 1, by omega⟩
        rfl
      exact k (by omega) () _ ⟨RB_fl B2 (by omega) _, fun f p hf hp => by rw [sd_rI_ne (by decide)]; exact G2 f p hf hp, by rw [sd_rI_eq, sd_up_eq, em], by omega, by omega⟩
