-- ===== the reference: length, sign =====
theorem Ref_common_ok {h : Hp_} : ∀ (b a : Nat), a < 2 ^ 31 → b < 2 ^ 31 → cI 1 mn_Ref_common [.int (nI a), .int (nI b)] h (fun x h' => x = nI (Nat.gcd a b) ∧ h' = h) := by
  intro b a ha hb
  refine cq_in (q := mi_Ref_common) (L := [some (.int (nI a)), some (.int (nI b)), none, none, none]) rfl (Nat.le_of_ble_eq_true rfl) rfl ?_
  show wq _ tb_Ref_common none 0 _ _ _ _
  have loop : ∀ (y x : Nat) (z : Option Value), x < 2 ^ 31 → y < 2 ^ 31 → Nat.gcd x y = Nat.gcd a b → wq 0 tb_Ref_common none 4 [some (.int (nI a)), some (.int (nI b)), some (.int (nI x)), some (.int (nI y)), z] [] h (fun r h' => ∃ v, r = some (.int v) ∧ v = nI (Nat.gcd a b) ∧ h' = h) := by
    intro y
    induction y using Nat.strongRecOn with
    | ind y ih =>
      intro x z hx hy hg
      refine wp_iload3 rfl ?_
      refine wp_if_eqN y 0 (by omega) (by decide) rfl (fun c1 => ?_) (fun c1 => ?_)
      · skip
        refine wp_iload2 rfl ?_
        rw [c1, Nat.gcd_zero_right] at hg
        exact wp_iret rfl ⟨_, rfl, by rw [hg], rfl⟩
      · skip
        refine wp_iload2 rfl ?_
        refine wp_iload3 rfl ?_
        refine wp_iremE (nI (x % y)) (nI_ne0 (by omega) (by omega)) (pk_rem (by omega) (by omega) (by omega)) rfl ?_
        refine wp_istore4 rfl rfl ?_
        refine wp_iload3 rfl ?_
        refine wp_istore2 rfl rfl ?_
        refine wp_iload4 rfl ?_
        refine wp_istore3 rfl rfl ?_
        refine wp_goto rfl ?_
        have hm := Nat.mod_lt x (show y > 0 by omega)
        exact ih (x % y) hm y _ hy (by omega) (by rw [← hg, Nat.gcd_comm x y, Nat.gcd_rec y x, Nat.gcd_comm])
  refine wp_iload0 rfl ?_
  refine wp_istore2 rfl rfl ?_
  refine wp_iload1 rfl ?_
  refine wp_istore3 rfl rfl ?_
  exact loop b a none ha hb rfl
theorem bits_lt {u n : Nat} (h : ∀ q, u.testBit q = true → q < n) : u < 2 ^ n := Nat.lt_pow_two_of_testBit u (fun i hi => by
  cases e : u.testBit i with
  | false => rfl
  | true => have := h i e; omega)
theorem or_bit (u q j : Nat) : (u ||| 2 ^ q).testBit j = true ↔ u.testBit j = true ∨ j = q := by
  rw [Nat.testBit_or, Bool.or_eq_true, Nat.testBit_two_pow, decide_eq_true_eq]
  exact or_congr Iff.rfl ⟨fun h => h.symm, fun h => h.symm⟩
theorem Ref_lengthOfMoved_ok {h0 h : Hp_} {t : Rt_} {m : Nat → Nat} (B : RB_ h0 h t) (hm : IsP (sg_n t.1) m) (hmv : ∀ p, p < sg_n t.1 → hp_I h 79 p = nI (m p)) : cI 2 mn_Ref_lengthOfMoved [.ref 65] h (fun x h' => ∃ L, x = nI L ∧ LN_ m L ∧ RB_ h0 h' t ∧ hp_I h' 65 21 = nI (cy_ m (sg_n t.1))) := by
  have n8 := B.n8
  have m8 := hm.mono n8
  refine cq_in (q := mi_Ref_lengthOfMoved) (L := [some (.ref 65), none, none, none, none, none]) rfl (Nat.le_of_ble_eq_true rfl) rfl ?_
  show wq _ tb_Ref_lengthOfMoved none 0 _ _ _ _
  refine wp_iconst rfl ?_
  refine wp_istore1 rfl rfl ?_
  refine wp_iconst rfl ?_
  refine wp_istore2 rfl rfl ?_
  refine wp_aload0 rfl ?_
  refine wp_iconst rfl ?_
  refine wp_putI rfl (Ref_kd B.S) ?_
  refine wp_iconst rfl ?_
  refine wp_istore3 rfl rfl ?_
  have B0 : RB_ h0 (hp_rI h 65 (va_up (hp_I h 65) 21 (nI 0))) t := RB_fl B (by omega) _
  have z0 : hp_I (hp_rI h 65 (va_up (hp_I h 65) 21 (nI 0))) 79 = hp_I h 79 := sd_rI_ne (by decide)
  have r0 : hp_I (hp_rI h 65 (va_up (hp_I h 65) 21 (nI 0))) 65 21 = nI 0 := by rw [sd_rI_eq]; rfl
  refine wq_loop (X := (Nat × Nat) × Option Value × Option Value) (fun p x => [some (.ref 65), some (.int (nI x.1.1)), some (.int (nI x.1.2)), some (.int (nI p)), x.2.1, x.2.2]) (fun p x h1 => RB_ h0 h1 t ∧ hp_I h1 79 = hp_I h 79 ∧ hp_I h1 65 21 = nI (cy_ m p) ∧ 1 ≤ x.1.1 ∧ (∀ k, x.1.1 ∣ k ↔ ∀ q, q < p → it_ m k q = q) ∧ ∀ q, x.1.2.testBit q = true ↔ ∃ q0 k, q0 < p ∧ it_ m k q0 = q) (sg_n t.1) (0) (((1, 0), none, none)) ?_ ?_ ?_ ?_
  · omega
  · exact ⟨B0, z0, r0, Nat.le_refl 1, fun k => ⟨fun _ q hq => absurd hq (Nat.not_lt_zero q), fun _ => Nat.one_dvd k⟩, fun q => ⟨fun z => (by rw [Nat.zero_testBit] at z; cases z), fun ⟨q0, k, hq, _⟩ => absurd hq (Nat.not_lt_zero q0)⟩⟩
  · intro p x h1 hi I k
    show wq _ tb_Ref_lengthOfMoved _ 11 [some (.ref 65), some (.int (nI x.1.1)), some (.int (nI x.1.2)), some (.int (nI p)), x.2.1, x.2.2] [] h1 _
    obtain ⟨B1, z1, r1, L1, LD, UB⟩ := I
    obtain ⟨⟨L, u⟩, x4, x5⟩ := x
    dsimp only at L1 LD UB
    show wq _ tb_Ref_lengthOfMoved _ 11 [some (.ref 65), some (.int (nI L)), some (.int (nI u)), some (.int (nI p)), x4, x5] [] h1 _
    have hpn := hi
    have hp8 : p < 8 := by omega
    have u8 : u < 2 ^ 8 := bits_lt (fun q hq => by
      obtain ⟨q0, k, h1, h2⟩ := (UB q).mp hq
      rw [← h2]
      exact it_lt m8.1 k q0 (by omega))
    have L840 : L ≤ 840 := Nat.le_of_dvd (by decide) ((LD 840).mpr (fun q _ => it_840 m8 q))
    have seen := cy_seen m8 p
    refine wp_iload3 rfl ?_
    refine wp_aload0 rfl ?_
    refine wp_getIE rfl (Ref_kd B1.S) (show _ = nI (sg_n t.1) from B1.n) ?_
    refine wp_icmp_geN p (sg_n t.1) (by omega) (by omega) rfl (fun z => absurd z (by omega)) (fun _ => ?_)
    refine wp_iload2 rfl ?_
    refine wp_iload3 rfl ?_
    refine wp_ishrE (nI (u / 2 ^ p)) (nn_sshr _ _ (by omega) (by omega)) rfl ?_
    refine wp_iconst rfl ?_
    refine wp_iandE (nI ((u / 2 ^ p) % 2)) (nn_1 _) rfl ?_
    refine wp_if_neN ((u / 2 ^ p) % 2) 0 (by omega) (by decide) rfl (fun c1 => ?_) (fun c1 => ?_)
    · skip
      refine wp_iinc3N rfl rfl ?_
      refine wp_goto rfl ?_
      have c2 : u.testBit p = true := (tb_mod u p).mp (by omega)
      obtain ⟨q0, k0, hq0, e0⟩ := (UB p).mp c2
      refine k ((L, u), x4, x5) _ ⟨B1, z1, ?_, L1, fun kk => ⟨fun y q hq => ?_, fun y => (LD kk).mpr (fun q hq => y q (by omega))⟩, fun q => ⟨fun y => ?_, fun ⟨q1, k1, hq1, e1⟩ => ?_⟩⟩
      · rw [r1]
        show nI (cy_ m p) = nI (cy_ m p + _)
        rw [if_neg (seen.mp ⟨q0, k0, hq0, e0⟩)]
        rfl
      · rcases Nat.lt_or_ge q p with w | w
        · exact (LD kk).mp y q w
        · obtain rfl : q = p := by omega
          have := (LD kk).mp y q0 hq0
          rw [← e0, ← it_add, Nat.add_comm kk k0, it_add, this]
      · obtain ⟨q1, k1, h1, h2⟩ := (UB q).mp y
        exact ⟨q1, k1, by omega, h2⟩
      · rcases Nat.lt_or_ge q1 p with w | w
        · exact (UB q).mpr ⟨q1, k1, w, e1⟩
        · obtain rfl : q1 = p := by omega
          exact (UB q).mpr ⟨q0, k1 + k0, hq0, by rw [it_add, e0, e1]⟩
    · skip
      have c2 : u.testBit p = false := (tb_mod0 u p).mp (by omega)
      have nos : ∀ j, u.testBit (it_ m j p) = false := by
        intro j
        cases e : u.testBit (it_ m j p) with
        | false => rfl
        | true =>
          obtain ⟨q0, k0, hq0, e0⟩ := (UB _).mp e
          have : u.testBit p = true := (UB p).mpr ⟨q0, (840 * (j + 1) - j) + k0, hq0, by rw [it_add, e0, ← it_add, show 840 * (j + 1) - j + j = 840 * (j + 1) by omega, it_mul (it_840 m8 p)]⟩
          rw [c2] at this
          cases this
      have unseen : ∀ k, p ≤ it_ m k p := Classical.byContradiction fun y => by
        obtain ⟨q, k, hq, e⟩ := seen.mpr y
        have : u.testBit p = true := (UB p).mpr ⟨q, k, hq, e⟩
        rw [c2] at this
        cases this
      obtain ⟨r, hr1, hr8, hre, hrl⟩ := pe_ex m8 hp8
      refine wp_iconst rfl ?_
      refine wp_istore4 rfl rfl ?_
      refine wp_iload3 rfl ?_
      refine wp_istore5 rfl rfl ?_
      refine wq_loop (X := Nat) (fun c x => [some (.ref 65), some (.int (nI L)), some (.int (nI x)), some (.int (nI p)), some (.int (nI c)), some (.int (nI (it_ m c p)))]) (fun c x h2 => h2 = h1 ∧ ∀ q, x.testBit q = true ↔ u.testBit q = true ∨ ∃ j, j < c ∧ it_ m j p = q) (r) (0) (u) ?_ ?_ ?_ ?_
      · omega
      · exact ⟨rfl, fun q => ⟨Or.inl, fun y => y.elim id (fun ⟨j, hj, _⟩ => absurd hj (Nat.not_lt_zero j))⟩⟩
      · intro c x h2 hi J k
        show wq _ tb_Ref_lengthOfMoved _ 33 [some (.ref 65), some (.int (nI L)), some (.int (nI x)), some (.int (nI p)), some (.int (nI c)), some (.int (nI (it_ m c p)))] [] h2 _
        obtain ⟨rfl, UV⟩ := J
        have x8 : x < 2 ^ 8 := bits_lt (fun q hq => by
          rcases (UV q).mp hq with y | ⟨j, hj, e⟩
          · exact Nat.lt_of_not_le (fun w => by
              have := Nat.testBit_lt_two_pow (Nat.lt_of_lt_of_le u8 (Nat.pow_le_pow_right (by decide) w))
              rw [this] at y
              cases y)
          · rw [← e]; exact it_lt m8.1 j p hp8)
        have hat := it_lt m8.1 c p hp8
        have hatn := (it_P hm c).1 p hpn
        have d1 : x.testBit (it_ m c p) = false := by
          cases e : x.testBit (it_ m c p) with
          | false => rfl
          | true =>
            rcases (UV _).mp e with y | ⟨j, hj, y⟩
            · rw [nos c] at y; cases y
            · exact absurd y (pe_apart m8 hrl hj (by assumption))
        refine wp_iload2 rfl ?_
        refine wp_iload5 rfl ?_
        refine wp_ishrE (nI (x / 2 ^ (it_ m c p))) (nn_sshr _ _ (by omega) (by omega)) rfl ?_
        refine wp_iconst rfl ?_
        refine wp_iandE (nI ((x / 2 ^ (it_ m c p)) % 2)) (nn_1 _) rfl ?_
        refine wp_if_neN ((x / 2 ^ (it_ m c p)) % 2) 0 (by omega) (by decide) rfl (fun z => absurd z (by rw [show x / 2 ^ it_ m c p % 2 = 0 by have := (tb_mod0 x (it_ m c p)).mpr d1; omega]; exact fun y => y rfl)) (fun _ => ?_)
        refine wp_iload2 rfl ?_
        refine wp_iconst rfl ?_
        refine wp_iload5 rfl ?_
        refine wp_ishlE (nI (2 ^ (it_ m c p))) (nn_shl1 _ (by omega)) rfl ?_
        refine wp_iorE (nI (x ||| (2 ^ (it_ m c p)))) (nn_or _ _) rfl ?_
        refine wp_istore2 rfl rfl ?_
        refine wp_aload0 rfl ?_
        refine wp_getR rfl (Ref_kd B1.S) (Ref_R20 B1.S) (by first | decide | omega) ?_
        refine wp_iload5 rfl ?_
        refine wp_ialdE (it_ m c p) rfl (Ref_k20 B1.S) (by first | decide | omega) (Nat.lt_of_lt_of_eq (show (it_ m c p) < _ by omega) (Eq.symm (Ref_n20 B1.S))) (by omega) (show _ = nI (m (it_ m c p)) from by rw [z1]; exact hmv _ hatn) rfl ?_
        refine wp_istore5 rfl rfl ?_
        refine wp_iinc4N rfl rfl ?_
        refine wp_goto rfl ?_
        refine k (x ||| 2 ^ it_ m c p) _ ⟨rfl, fun q => ?_⟩
        rw [or_bit, UV q]
        constructor
        · rintro ((y | ⟨j, hj, y⟩) | y)
          · exact Or.inl y
          · exact Or.inr ⟨j, by omega, y⟩
          · exact Or.inr ⟨c, by omega, y.symm⟩
        · rintro (y | ⟨j, hj, y⟩)
          · exact Or.inl (Or.inl y)
          · rcases Nat.lt_or_ge j c with w | w
            · exact Or.inl (Or.inr ⟨j, w, y⟩)
            · obtain rfl : j = c := by omega
              exact Or.inr y.symm
      · intro x h2 J
        show wq _ tb_Ref_lengthOfMoved _ 33 [some (.ref 65), some (.int (nI L)), some (.int (nI x)), some (.int (nI p)), some (.int (nI r)), some (.int (nI (it_ m r p)))] [] h2 _
        obtain ⟨rfl, UV⟩ := J
        have x8 : x < 2 ^ 8 := bits_lt (fun q hq => by
          rcases (UV q).mp hq with y | ⟨j, hj, e⟩
          · exact Nat.lt_of_not_le (fun w => by
              have := Nat.testBit_lt_two_pow (Nat.lt_of_lt_of_le u8 (Nat.pow_le_pow_right (by decide) w))
              rw [this] at y
              cases y)
          · rw [← e]; exact it_lt m8.1 j p hp8)
        have hat := it_lt m8.1 r p hp8
        have d1 : x.testBit (it_ m r p) = true := (UV _).mpr (Or.inr ⟨0, by omega, by rw [hre]; rfl⟩)
        have cl := cy_le m p
        have hg0 : 0 < Nat.gcd L r := Nat.gcd_pos_of_pos_left r (by omega)
        have hgl : Nat.gcd L r ≤ L := Nat.gcd_le_left r (by omega)
        have hdl : L / Nat.gcd L r ≤ L := Nat.div_le_self _ _
        have hdm : L / Nat.gcd L r * r ≤ 840 * 8 := Nat.mul_le_mul (by omega) hr8
        refine wp_iload2 rfl ?_
        refine wp_iload5 rfl ?_
        refine wp_ishrE (nI (x / 2 ^ (it_ m r p))) (nn_sshr _ _ (by omega) (by omega)) rfl ?_
        refine wp_iconst rfl ?_
        refine wp_iandE (nI ((x / 2 ^ (it_ m r p)) % 2)) (nn_1 _) rfl ?_
        refine wp_if_neN ((x / 2 ^ (it_ m r p)) % 2) 0 (by omega) (by decide) rfl (fun _ => ?_) (fun z => absurd z (by rw [show x / 2 ^ it_ m r p % 2 = 1 from (tb_mod x (it_ m r p)).mpr d1]; decide))
        refine wp_aload0 rfl ?_
        refine wp_dup rfl ?_
        refine wp_getIE rfl (Ref_kd B1.S) (show _ = nI (cy_ m p) from r1) ?_
        refine wp_iconst rfl ?_
        refine wp_iaddE (nI ((cy_ m p) + 1)) (nI_add _ _) rfl ?_
        refine wp_putI rfl (Ref_kd B1.S) ?_
        refine wp_iload1 rfl ?_
        refine wp_iload1 rfl ?_
        refine wp_iload4 rfl ?_
        refine wp_callS2I rfl (Nat.le_of_ble_eq_true rfl) (Ref_common_ok _ _ (by omega) (by omega)) (Nat.le_of_ble_eq_true rfl) ?_
        refine pure_ ?_
        refine wp_idivE (nI (L / (Nat.gcd L r))) (nI_ne0 (by omega) (by omega)) (pk_div (by omega) (by omega) (by omega)) rfl ?_
        refine wp_iload4 rfl ?_
        refine wp_imulE (nI ((L / (Nat.gcd L r)) * r)) (pk_mul _ _) rfl ?_
        refine wp_istore1 rfl rfl ?_
        refine wp_iinc3N rfl rfl ?_
        refine wp_goto rfl ?_
        have hlcm : L / Nat.gcd L r * r = Nat.lcm L r := by
          show _ = L * r / Nat.gcd L r
          rw [Nat.mul_comm L r, Nat.mul_div_assoc r (Nat.gcd_dvd_left L r), Nat.mul_comm]
        refine k ((L / Nat.gcd L r * r, x), _, _) _ ⟨RB_fl B1 (by omega) _, by rw [sd_rI_ne (by decide)]; exact z1, ?_, ?_, fun k => ?_, fun q => ?_⟩
        · rw [sd_rI_eq, sd_up_eq]
          show nI (cy_ m p + 1) = nI (cy_ m p + _)
          rw [if_pos unseen]
        · have := Nat.div_pos hgl hg0
          exact Nat.mul_pos this (by omega)
        · dsimp only
          rw [hlcm, Nat.lcm_dvd_iff, LD k, pe_dvd hr1 hre hrl k]
          constructor
          · rintro ⟨y1, y2⟩ q hq
            rcases Nat.lt_or_ge q p with w | w
            · exact y1 q w
            · obtain rfl : q = p := by omega
              exact y2
          · intro y
            exact ⟨fun q hq => y q (by omega), y p (by omega)⟩
        · dsimp only
          rw [UV q, UB q]
          constructor
          · rintro (⟨q0, k0, y1, y2⟩ | ⟨j, y1, y2⟩)
            · exact ⟨q0, k0, by omega, y2⟩
            · exact ⟨p, j, by omega, y2⟩
          · rintro ⟨q0, k0, y1, y2⟩
            rcases Nat.lt_or_ge q0 p with w | w
            · exact Or.inl ⟨q0, k0, w, y2⟩
            · obtain rfl : q0 = p := by omega
              exact Or.inr ⟨k0 % r, Nat.mod_lt _ (by omega), by rw [← pe_mod hre]; exact y2⟩
  · intro x h1 I
    show wq _ tb_Ref_lengthOfMoved _ 11 [some (.ref 65), some (.int (nI x.1.1)), some (.int (nI x.1.2)), some (.int (nI (sg_n t.1))), x.2.1, x.2.2] [] h1 _
    obtain ⟨B1, z1, r1, L1, LD, UB⟩ := I
    obtain ⟨⟨L, u⟩, x4, x5⟩ := x
    show wq _ tb_Ref_lengthOfMoved _ 11 [some (.ref 65), some (.int (nI L)), some (.int (nI u)), some (.int (nI (sg_n t.1))), x4, x5] [] h1 _
    refine wp_iload3 rfl ?_
    refine wp_aload0 rfl ?_
    refine wp_getIE rfl (Ref_kd B1.S) (show _ = nI (sg_n t.1) from B1.n) ?_
    refine wp_icmp_geN (sg_n t.1) (sg_n t.1) (by omega) (by omega) rfl (fun _ => ?_) (fun z => absurd z (by omega))
    refine wp_iload1 rfl ?_
    exact wp_iret rfl ⟨_, rfl, L, rfl, LN_dvd n8 hm L1 LD, B1, r1⟩
noncomputable def an_length (t : Rt_) : Int32 := if fw_ t.2.1 t.2.2.1 65 6 = -6 then nI (ln_ (ac_ (mv_ t.1) (wd_ t.2.1 t.2.2.1))) else -5
theorem Ref_length_ok {h0 h : Hp_} {t : Rt_} (B : RB_ h0 h t) : cI 4 mn_Ref_length [.ref 65] h (fun y h' => y = an_length t ∧ RB_ h0 h' t) := by
  have c30 := B.c30
  have n8 := B.n8
  refine cq_in (q := mi_Ref_length) (L := [some (.ref 65), none, none, none]) rfl (Nat.le_of_ble_eq_true rfl) rfl ?_
  show wq _ tb_Ref_length none 0 _ _ _ _
  refine wp_aload0 rfl ?_
  refine wp_callV0I rfl (Nat.le_of_ble_eq_true rfl) (Ref_kd B.S) (Ref_faultOfRow_ok B) (Nat.le_of_ble_eq_true rfl) ?_
  refine pure_ ?_
  refine wp_if_lt rfl (fun c1 => ?_) (fun c1 => ?_)
  · skip
    have c2 := (fw_lt t.2.1 c30).mp c1
    have hg := (fw_none c30 c2).2
    have aP := ac_P (mv_P B.w)
    refine wp_aload0 rfl ?_
    refine wp_callV0V rfl (Nat.le_of_ble_eq_true rfl) (Ref_kd B.S) (Ref_findGoes_ok B) (Nat.le_of_ble_eq_true rfl) ?_
    rintro h1 ⟨G, z1⟩
    have B1 : RB_ h0 h1 t := RB_fz B (fz_mono (fun c hc => by omega) z1)
    refine wp_iconst rfl ?_
    refine wp_istore1 rfl rfl ?_
    refine wq_loop (X := Option Value × Option Value) (fun p x => [some (.ref 65), some (.int (nI p)), x.1, x.2]) (fun p x h2 => fz_ (fun c => c = 79) h1 h2 ∧ ∀ q, q < p → hp_I h2 79 q = nI (ac_ (mv_ t.1) (wd_ t.2.1 t.2.2.1) q)) (sg_n t.1) (0) ((none, none)) ?_ ?_ ?_ ?_
    · omega
    · exact ⟨fz_refl _ _, fun q hq => by omega⟩
    · intro p x h2 hi I k
      show wq _ tb_Ref_length _ 16 [some (.ref 65), some (.int (nI p)), x.1, x.2] [] h2 _
      obtain ⟨z2, a2⟩ := I
      have B2 : RB_ h0 h2 t := RB_fz B1 (fz_mono (fun c hc => by omega) z2)
      refine wp_iload1 rfl ?_
      refine wp_aload0 rfl ?_
      refine wp_getIE rfl (Ref_kd B2.S) (show _ = nI (sg_n t.1) from B2.n) ?_
      refine wp_icmp_geN p (sg_n t.1) (by omega) (by omega) rfl (fun z => absurd z (by omega)) (fun _ => ?_)
      refine wp_iload1 rfl ?_
      refine wp_istore2 rfl rfl ?_
      refine wp_iconst rfl ?_
      refine wp_istore3 rfl rfl ?_
      refine wq_loop (X := Unit) (fun i x => [some (.ref 65), some (.int (nI p)), some (.int (nI (ac_ (mv_ t.1) (wd_ t.2.1 i) p))), some (.int (nI i))]) (fun i x h3 => h3 = h2) (t.2.2.1) (0) (()) ?_ ?_ ?_ ?_
      · omega
      · rfl
      · intro i x h3 hi J k
        show wq _ tb_Ref_length _ 28 [some (.ref 65), some (.int (nI p)), some (.int (nI (ac_ (mv_ t.1) (wd_ t.2.1 i) p))), some (.int (nI i))] [] h3 _
        obtain rfl := J
        have hgi := hg i (by assumption)
        have hat := (aP (wd_ t.2.1 i)).1 p (by assumption)
        refine wp_iload3 rfl ?_
        refine wp_aload0 rfl ?_
        refine wp_getIE rfl (Ref_kd B2.S) (show _ = nI (t.2.2.1) from B2.c) ?_
        refine wp_icmp_geN i (t.2.2.1) (by omega) (by omega) rfl (fun z => absurd z (by omega)) (fun _ => ?_)
        refine wp_aload0 rfl ?_
        refine wp_getR rfl (Ref_kd B2.S) (Ref_R19 B2.S) (by first | decide | omega) ?_
        refine wp_bipush rfl ?_
        refine wp_aload0 rfl ?_
        refine wp_getR rfl (Ref_kd B2.S) (Ref_R17 B2.S) (by first | decide | omega) ?_
        refine wp_iload3 rfl ?_
        refine wp_ialdE i rfl (Ref_k17 B2.S) (by first | decide | omega) (Nat.lt_of_lt_of_eq (show i < _ by omega) (Eq.symm (Ref_n17 B2.S))) (by omega) (show _ = nI (t.2.1 i) from B2.pad (by assumption)) rfl ?_
        refine wp_bipush rfl ?_
        refine wp_isubE (nI ((t.2.1 i) - 65)) (pk_sub (by omega)) rfl ?_
        refine wp_imulE (nI (8 * ((t.2.1 i) - 65))) (pk_mul _ _) rfl ?_
        refine wp_iload2 rfl ?_
        refine wp_iaddE (nI ((8 * ((t.2.1 i) - 65)) + (ac_ (mv_ t.1) (wd_ t.2.1 i) p))) (nI_add _ _) rfl ?_
        refine wp_ialdE ((8 * ((t.2.1 i) - 65)) + (ac_ (mv_ t.1) (wd_ t.2.1 i) p)) rfl (Ref_k19 B2.S) (by first | decide | omega) (Nat.lt_of_lt_of_eq (show ((8 * ((t.2.1 i) - 65)) + (ac_ (mv_ t.1) (wd_ t.2.1 i) p)) < _ by omega) (Eq.symm (Ref_n19 B2.S))) (by omega) (show _ = nI (mv_ t.1 (t.2.1 i - 65) (ac_ (mv_ t.1) (wd_ t.2.1 i) p)) from by rw [fz_I z2 (by decide)]; exact G _ _ (by omega) hat) rfl ?_
        refine wp_istore2 rfl rfl ?_
        refine wp_iinc3N rfl rfl ?_
        refine wp_goto rfl ?_
        have := k () _ rfl
        rw [wd_succ, ac_app] at this
        exact this
      · intro x h3 J
        show wq _ tb_Ref_length _ 28 [some (.ref 65), some (.int (nI p)), some (.int (nI (ac_ (mv_ t.1) (wd_ t.2.1 (t.2.2.1)) p))), some (.int (nI (t.2.2.1)))] [] h3 _
        obtain rfl := J
        refine wp_iload3 rfl ?_
        refine wp_aload0 rfl ?_
        refine wp_getIE rfl (Ref_kd B2.S) (show _ = nI (t.2.2.1) from B2.c) ?_
        refine wp_icmp_geN (t.2.2.1) (t.2.2.1) (by omega) (by omega) rfl (fun _ => ?_) (fun z => absurd z (by omega))
        refine wp_aload0 rfl ?_
        refine wp_getR rfl (Ref_kd B2.S) (Ref_R20 B2.S) (by first | decide | omega) ?_
        refine wp_iload1 rfl ?_
        refine wp_iload2 rfl ?_
        refine wp_iast p rfl (Ref_k20 B2.S) (Nat.lt_of_lt_of_eq (show p < _ by omega) (Eq.symm (Ref_n20 B2.S))) (by omega) rfl ?_
        refine wp_iinc1N rfl rfl ?_
        refine wp_goto rfl ?_
        refine k (_, _) _ ⟨fz_rI z2 rfl _, fun q hq => ?_⟩
        rw [sd_rI_eq, vu_at]
        by_cases y : q = p
        · rw [if_pos y, y]
        · rw [if_neg y]; exact a2 q (by omega)
    · intro x h2 I
      show wq _ tb_Ref_length _ 16 [some (.ref 65), some (.int (nI (sg_n t.1))), x.1, x.2] [] h2 _
      obtain ⟨z2, a2⟩ := I
      have B2 : RB_ h0 h2 t := RB_fz B1 (fz_mono (fun c hc => by omega) z2)
      refine wp_iload1 rfl ?_
      refine wp_aload0 rfl ?_
      refine wp_getIE rfl (Ref_kd B2.S) (show _ = nI (sg_n t.1) from B2.n) ?_
      refine wp_icmp_geN (sg_n t.1) (sg_n t.1) (by omega) (by omega) rfl (fun _ => ?_) (fun z => absurd z (by omega))
      refine wp_aload0 rfl ?_
      refine wp_callV0I rfl (Nat.le_of_ble_eq_true rfl) (Ref_kd B2.S) (Ref_lengthOfMoved_ok B2 (aP _) a2) (Nat.le_of_ble_eq_true rfl) ?_
      rintro x h3 ⟨L, rfl, HL, B3, -⟩
      exact wp_iret rfl ⟨_, rfl, by unfold an_length; rw [if_pos c2, ln_eq HL], B3⟩
  · skip
    refine wp_bipush rfl ?_
    exact wp_iret rfl ⟨_, rfl, by unfold an_length; rw [if_neg (fun z => c1 ((fw_lt t.2.1 c30).mpr z))], B⟩
def an_sign (t : Rt_) (f : Int32) : Int32 := if rg_ 0 5 f then bo_ (decide (iv_ (mv_ t.1 f.toNatClampNeg) 8 % 2 = 0)) else -1
theorem Ref_sign_ok {h0 h : Hp_} {t : Rt_} {f : Int32} (B : RB_ h0 h t) : cI 3 mn_Ref_sign [.ref 65, .int f] h (fun y h' => y = an_sign t f ∧ RB_ h0 h' t) := by
  have n8 := B.n8
  refine cq_in (q := mi_Ref_sign) (L := [some (.ref 65), some (.int f), none]) rfl (Nat.le_of_ble_eq_true rfl) rfl ?_
  show wq _ tb_Ref_sign none 0 _ _ _ _
  refine wp_iload1 rfl ?_
  refine wp_callS1I rfl (Nat.le_of_ble_eq_true rfl) (Ref_isFigure_ok) (Nat.le_of_ble_eq_true rfl) ?_
  refine pure_ ?_
  refine wp_if_neB rfl (fun c1 => ?_) (fun c1 => ?_)
  · skip
    obtain ⟨f, hf, rfl⟩ := rg05 c1
    have mP := mv_P B.w f
    have cl := cy_le (mv_ t.1 f) (sg_n t.1)
    have e0 : an_sign t (nI f) = bo_ (decide ((sg_n t.1 - cy_ (mv_ t.1 f) (sg_n t.1)) % 2 = 0)) := by
      unfold an_sign
      rw [show rg_ 0 5 (nI f) = true from c1, if_pos rfl, nI_clamp (show f < 2 ^ 31 by omega)]
      exact congrArg bo_ (decide_eq_decide.mpr (sign_eq n8 mP))
    refine wp_aload0 rfl ?_
    refine wp_callV0V rfl (Nat.le_of_ble_eq_true rfl) (Ref_kd B.S) (Ref_findGoes_ok B) (Nat.le_of_ble_eq_true rfl) ?_
    rintro h1 ⟨G, z1⟩
    have B1 : RB_ h0 h1 t := RB_fz B (fz_mono (fun c hc => by omega) z1)
    refine wp_iconst rfl ?_
    refine wp_istore2 rfl rfl ?_
    refine wq_loop (X := Unit) (fun p x => [some (.ref 65), some (.int (nI f)), some (.int (nI p))]) (fun p x h2 => fz_ (fun c => c = 79) h1 h2 ∧ ∀ q, q < p → hp_I h2 79 q = nI (mv_ t.1 f q)) (sg_n t.1) (0) (()) ?_ ?_ ?_ ?_
    · omega
    · exact ⟨fz_refl _ _, fun q hq => by omega⟩
    · intro p x h2 hi I k
      show wq _ tb_Ref_sign _ 15 [some (.ref 65), some (.int (nI f)), some (.int (nI p))] [] h2 _
      obtain ⟨z2, a2⟩ := I
      have B2 : RB_ h0 h2 t := RB_fz B1 (fz_mono (fun c hc => by omega) z2)
      refine wp_iload2 rfl ?_
      refine wp_aload0 rfl ?_
      refine wp_getIE rfl (Ref_kd B2.S) (show _ = nI (sg_n t.1) from B2.n) ?_
      refine wp_icmp_geN p (sg_n t.1) (by omega) (by omega) rfl (fun z => absurd z (by omega)) (fun _ => ?_)
      refine wp_aload0 rfl ?_
      refine wp_getR rfl (Ref_kd B2.S) (Ref_R20 B2.S) (by first | decide | omega) ?_
      refine wp_iload2 rfl ?_
      refine wp_aload0 rfl ?_
      refine wp_getR rfl (Ref_kd B2.S) (Ref_R19 B2.S) (by first | decide | omega) ?_
      refine wp_bipush rfl ?_
      refine wp_iload1 rfl ?_
      refine wp_imulE (nI (8 * f)) (pk_mul _ _) rfl ?_
      refine wp_iload2 rfl ?_
      refine wp_iaddE (nI ((8 * f) + p)) (nI_add _ _) rfl ?_
      refine wp_ialdE ((8 * f) + p) rfl (Ref_k19 B2.S) (by first | decide | omega) (Nat.lt_of_lt_of_eq (show ((8 * f) + p) < _ by omega) (Eq.symm (Ref_n19 B2.S))) (by omega) (show _ = nI (mv_ t.1 f p) from by rw [fz_I z2 (by decide)]; exact G _ _ hf (by omega)) rfl ?_
      refine wp_iast p rfl (Ref_k20 B2.S) (Nat.lt_of_lt_of_eq (show p < _ by omega) (Eq.symm (Ref_n20 B2.S))) (by omega) rfl ?_
      refine wp_iinc2N rfl rfl ?_
      refine wp_goto rfl ?_
      refine k () _ ⟨fz_rI z2 rfl _, fun q hq => ?_⟩
      rw [sd_rI_eq, vu_at]
      by_cases y : q = p
      · rw [if_pos y, y]
      · rw [if_neg y]; exact a2 q (by omega)
    · intro x h2 I
      show wq _ tb_Ref_sign _ 15 [some (.ref 65), some (.int (nI f)), some (.int (nI (sg_n t.1)))] [] h2 _
      obtain ⟨z2, a2⟩ := I
      have B2 : RB_ h0 h2 t := RB_fz B1 (fz_mono (fun c hc => by omega) z2)
      refine wp_iload2 rfl ?_
      refine wp_aload0 rfl ?_
      refine wp_getIE rfl (Ref_kd B2.S) (show _ = nI (sg_n t.1) from B2.n) ?_
      refine wp_icmp_geN (sg_n t.1) (sg_n t.1) (by omega) (by omega) rfl (fun _ => ?_) (fun z => absurd z (by omega))
      refine wp_aload0 rfl ?_
      refine wp_callV0I rfl (Nat.le_of_ble_eq_true rfl) (Ref_kd B2.S) (Ref_lengthOfMoved_ok B2 mP a2) (Nat.le_of_ble_eq_true rfl) ?_
      rintro x h3 ⟨L, rfl, HL, B3, e3⟩
      refine wp_popI rfl ?_
      refine wp_aload0 rfl ?_
      refine wp_getIE rfl (Ref_kd B3.S) (show _ = nI (sg_n t.1) from B3.n) ?_
      refine wp_aload0 rfl ?_
      refine wp_getIE rfl (Ref_kd B3.S) (show _ = nI (cy_ (mv_ t.1 f) (sg_n t.1)) from e3) ?_
      refine wp_isubE (nI ((sg_n t.1) - (cy_ (mv_ t.1 f) (sg_n t.1)))) (pk_sub (by omega)) rfl ?_
      refine wp_iconst rfl ?_
      refine wp_iremE (nI (((sg_n t.1) - (cy_ (mv_ t.1 f) (sg_n t.1))) % 2)) (nI_ne0 (by omega) (by omega)) (pk_rem (by omega) (by omega) (by omega)) rfl ?_
      refine wp_if_neN (((sg_n t.1) - (cy_ (mv_ t.1 f) (sg_n t.1))) % 2) 0 (by omega) (by decide) rfl (fun c2 => ?_) (fun c2 => ?_)
      · skip
        refine wp_iconst rfl ?_
        exact wp_iret rfl ⟨_, rfl, by rw [e0, decide_eq_false c2]; rfl, B3⟩
      · skip
        refine wp_iconst rfl ?_
        refine wp_goto rfl ?_
        exact wp_iret rfl ⟨_, rfl, by rw [e0, decide_eq_true c2]; rfl, B3⟩
  · skip
    refine wp_iconst rfl ?_
    exact wp_iret rfl ⟨_, rfl, by unfold an_sign; rw [show rg_ 0 5 f = false from c1]; rfl, B⟩
