-- ===== the reference: served =====
theorem Ref_holding_ok {h0 h : Hp_} {t : Rt_} {u : Nat → Nat} (B : RB_ h0 h t) (hu : IsP (sg_n t.1) u) : cI 1 mn_Ref_holding [.ref 65, .int (nI (pq_ (ar_ (sg_n t.1) u) (sg_n t.1)))] h (fun x h' => x = nI (hb_ t.1 u) ∧ h' = h) := by
  have n8 := B.n8
  have W := ar_Lz n8 hu
  have W8 := Lz_lt n8 W
  have u8 := hu.mono n8
  have hpq := pq_8n n8 (fun i _ => W8 i)
  have hl6 := wi_len B.w
  refine cq_in (q := mi_Ref_holding) (L := [some (.ref 65), some (.int (nI (pq_ (ar_ (sg_n t.1) u) (sg_n t.1)))), none, none]) rfl (Nat.le_of_ble_eq_true rfl) rfl ?_
  show wq _ tb_Ref_holding none 0 _ _ _ _
  refine wp_iconst rfl ?_
  refine wp_istore2 rfl rfl ?_
  refine wp_iconst rfl ?_
  refine wp_istore3 rfl rfl ?_
  refine wq_loop (X := Unit) (fun i x => [some (.ref 65), some (.int (nI (pq_ (ar_ (sg_n t.1) u) (sg_n t.1)))), some (.int (nI (hk_ t.1 u i))), some (.int (nI i))]) (fun i x h1 => h1 = h) ((sg_wi t.1).length) (0) (()) ?_ ?_ ?_ ?_
  · omega
  · rfl
  · intro i x h1 hi I k
    show wq _ tb_Ref_holding _ 4 [some (.ref 65), some (.int (nI (pq_ (ar_ (sg_n t.1) u) (sg_n t.1)))), some (.int (nI (hk_ t.1 u i))), some (.int (nI i))] [] h1 _
    obtain rfl := I
    have hil : i < (sg_wi t.1).length := by assumption
    have hq := wi_get hil
    obtain ⟨s1, s2, s3⟩ := B.wi hq
    obtain ⟨m1, m2, m3⟩ := B.w.2.2.2.2.2.2.2.2.2.2.2.2 _ (List.mem_of_getElem? hq)
    have hdig : pq_ (ar_ (sg_n t.1) u) (sg_n t.1) / 2 ^ (3 * (wi_ t.1 i).2.2) % 8 = in_ u (wi_ t.1 i).2.2 := by
      rw [← p8, pq_get _ _ (fun i _ => W8 i) m3]
      unfold ar_
      rw [if_pos m3]
    have hin : in_ u (wi_ t.1 i).2.2 = (wi_ t.1 i).2.1 ↔ u (wi_ t.1 i).2.1 = (wi_ t.1 i).2.2 := ⟨fun z => by rw [← z, in_right u8], fun z => by rw [← z, in_left u8]⟩
    have hin8 : in_ u (wi_ t.1 i).2.2 < 8 := (in_P u8).1 _ (by omega)
    refine wp_iload3 rfl ?_
    refine wp_aload0 rfl ?_
    refine wp_getIE rfl (Ref_kd B.S) (show _ = nI ((sg_wi t.1).length) from B.wn) ?_
    refine wp_icmp_geN i ((sg_wi t.1).length) (by omega) (by omega) rfl (fun z => absurd z (by omega)) (fun _ => ?_)
    refine wp_iload2 rfl ?_
    refine wp_iload1 rfl ?_
    refine wp_iconst rfl ?_
    refine wp_aload0 rfl ?_
    refine wp_getR rfl (Ref_kd B.S) (Ref_R14 B.S) (by first | decide | omega) ?_
    refine wp_iload3 rfl ?_
    refine wp_ialdE i rfl (Ref_k14 B.S) (by first | decide | omega) (Nat.lt_of_lt_of_eq (show i < _ by omega) (Eq.symm (Ref_n14 B.S))) (by omega) (show _ = nI ((wi_ t.1 i).2.2) from s3) rfl ?_
    refine wp_imulE (nI (3 * ((wi_ t.1 i).2.2))) (pk_mul _ _) rfl ?_
    refine wp_ishrE (nI ((pq_ (ar_ (sg_n t.1) u) (sg_n t.1)) / 2 ^ (3 * ((wi_ t.1 i).2.2)))) (nn_sshr _ _ (by omega) (by omega)) rfl ?_
    refine wp_bipush rfl ?_
    refine wp_iandE (nI (((pq_ (ar_ (sg_n t.1) u) (sg_n t.1)) / 2 ^ (3 * ((wi_ t.1 i).2.2))) % 8)) (nn_7 _) rfl ?_
    rw [hdig]
    refine wp_aload0 rfl ?_
    refine wp_getR rfl (Ref_kd B.S) (Ref_R13 B.S) (by first | decide | omega) ?_
    refine wp_iload3 rfl ?_
    refine wp_ialdE i rfl (Ref_k13 B.S) (by first | decide | omega) (Nat.lt_of_lt_of_eq (show i < _ by omega) (Eq.symm (Ref_n13 B.S))) (by omega) (show _ = nI ((wi_ t.1 i).2.1) from s2) rfl ?_
    refine wp_icmp_neN (in_ u (wi_ t.1 i).2.2) ((wi_ t.1 i).2.1) (by omega) (by omega) rfl (fun c3 => ?_) (fun c3 => ?_)
    · skip
      refine wp_iconst rfl ?_
      refine wp_iorE (nI ((hk_ t.1 u i) ||| 0)) (nn_or _ _) rfl ?_
      refine wp_istore2 rfl rfl ?_
      refine wp_iinc3N rfl rfl ?_
      refine wp_goto rfl ?_
      have := k () _ rfl
      rw [show hk_ t.1 u (i + 1) = hk_ t.1 u i ||| 0 by rw [hk_, if_neg (fun z => c3 (hin.mpr z))]] at this
      exact this
    · skip
      refine wp_iconst rfl ?_
      refine wp_iload3 rfl ?_
      refine wp_ishlE (nI (2 ^ i)) (nn_shl1 _ (by omega)) rfl ?_
      refine wp_goto rfl ?_
      refine wp_iorE (nI ((hk_ t.1 u i) ||| (2 ^ i))) (nn_or _ _) rfl ?_
      refine wp_istore2 rfl rfl ?_
      refine wp_iinc3N rfl rfl ?_
      refine wp_goto rfl ?_
      have := k () _ rfl
      rw [show hk_ t.1 u (i + 1) = hk_ t.1 u i ||| 2 ^ i by rw [hk_, if_pos (hin.mp c3)]] at this
      exact this
  · intro x h1 I
    show wq _ tb_Ref_holding _ 4 [some (.ref 65), some (.int (nI (pq_ (ar_ (sg_n t.1) u) (sg_n t.1)))), some (.int (nI (hk_ t.1 u ((sg_wi t.1).length)))), some (.int (nI ((sg_wi t.1).length)))] [] h1 _
    obtain rfl := I
    refine wp_iload3 rfl ?_
    refine wp_aload0 rfl ?_
    refine wp_getIE rfl (Ref_kd B.S) (show _ = nI ((sg_wi t.1).length) from B.wn) ?_
    refine wp_icmp_geN ((sg_wi t.1).length) ((sg_wi t.1).length) (by omega) (by omega) rfl (fun _ => ?_) (fun z => absurd z (by omega))
    refine wp_iload2 rfl ?_
    exact wp_iret rfl ⟨_, rfl, rfl, rfl⟩
/-- the figures that may be, by numbers, stand in their row -/
def MR2_ (h : Hp_) (s : Sg_) : Prop := hp_I h 65 36 = nI (MA_ s).length ∧ ∀ (i f : Nat), (MA_ s)[i]? = some f → hp_I h 91 i = nI f
theorem pow66 {b m : Nat} (hb : b ≤ 6) (hm : m ≤ 6) : b ^ m ≤ 46656 := Nat.le_trans (Nat.pow_le_pow_left hb m) (Nat.le_trans (Nat.pow_le_pow_right (by decide) hm) (by decide))
set_option maxRecDepth 4000 in
theorem Ref_worthOf_ok {h0 h : Hp_} {t : Rt_} {m num : Nat} (B : RB_ h0 h t) (G : GO_ h t.1) (A : MR2_ h t.1) (hm : m ≤ 6) (hn : num < (MA_ t.1).length ^ m) : cI 2 mn_Ref_worthOf [.ref 65, .int (nI num), .int (nI m), .int (nI ((MA_ t.1).length ^ m))] h (fun x h' => x = nI (wo_ t.1 (rr_ t.1 m num)) ∧ h' = h) := by
  have n8 := B.n8
  have ws := B.w
  have hl6 := wi_len ws
  have ml := MA_len t.1
  have p6 := pow66 ml hm
  refine cq_in (q := mi_Ref_worthOf) (L := [some (.ref 65), some (.int (nI num)), some (.int (nI m)), some (.int (nI ((MA_ t.1).length ^ m))), none, none, none, none, none, none]) rfl (Nat.le_of_ble_eq_true rfl) rfl ?_
  show wq _ tb_Ref_worthOf none 0 _ _ _ _
  refine wp_aload0 rfl ?_
  refine wp_callV0I rfl (Nat.le_of_ble_eq_true rfl) (Ref_kd B.S) (Ref_codeNow_ok B) (Nat.le_of_ble_eq_true rfl) ?_
  refine pure_ ?_
  refine wp_istore4 rfl rfl ?_
  refine wp_aload0 rfl ?_
  refine wp_iload4 rfl ?_
  refine wp_callV1I rfl (Nat.le_of_ble_eq_true rfl) (Ref_kd B.S) (Ref_holding_ok B ws.2.1) (Nat.le_of_ble_eq_true rfl) ?_
  refine pure_ ?_
  refine wp_istore5 rfl rfl ?_
  refine wp_iload3 rfl ?_
  refine wp_istore6 rfl rfl ?_
  refine wp_iload1 rfl ?_
  refine wp_istore7 rfl rfl ?_
  refine wp_iconst rfl ?_
  refine wp_istore8 rfl rfl ?_
  refine wq_loop (X := (Nat → Nat) × Nat × Nat) (fun j x => [some (.ref 65), some (.int (nI num)), some (.int (nI m)), some (.int (nI ((MA_ t.1).length ^ m))), some (.int (nI (pq_ (ar_ (sg_n t.1) x.1) (sg_n t.1)))), some (.int (nI x.2.1)), some (.int (nI ((MA_ t.1).length ^ (m - j)))), some (.int (nI x.2.2)), some (.int (nI j)), none]) (fun j x h1 => h1 = h ∧ IsP (sg_n t.1) x.1 ∧ x.2.1 < 64 ∧ x.2.2 < (MA_ t.1).length ^ (m - j) ∧ hr_ t.1 x.1 x.2.1 (rr_ t.1 (m - j) x.2.2) = hr_ t.1 (sg_pos t.1) (hb_ t.1 (sg_pos t.1)) (rr_ t.1 m num)) (m) (0) ((sg_pos t.1, hb_ t.1 (sg_pos t.1), num)) ?_ ?_ ?_ ?_
  · omega
  · exact ⟨rfl, ws.2.1, hb_64 ws _, hn, rfl⟩
  · intro j x h1 hi I k
    show wq _ tb_Ref_worthOf _ 23 [some (.ref 65), some (.int (nI num)), some (.int (nI m)), some (.int (nI ((MA_ t.1).length ^ m))), some (.int (nI (pq_ (ar_ (sg_n t.1) x.1) (sg_n t.1)))), some (.int (nI x.2.1)), some (.int (nI ((MA_ t.1).length ^ (m - j)))), some (.int (nI x.2.2)), some (.int (nI j)), none] [] h1 _
    obtain ⟨rfl, uP, b64, hlt, hinv⟩ := I
    obtain ⟨u, bits, lft⟩ := x
    dsimp only at uP b64 hlt hinv
    have hjm : j < m := by assumption
    have pj := pow66 ml (show m - j ≤ 6 by omega)
    have pj1 := pow66 ml (show m - (j + 1) ≤ 6 by omega)
    have e1 : m - j = (m - (j + 1)) + 1 := by omega
    rw [e1] at hlt hinv
    obtain ⟨d1, d2⟩ := rr_dig hlt
    have hb0 : 0 < (MA_ t.1).length := Nat.lt_of_le_of_lt (Nat.zero_le _) d1
    have hdiv : (MA_ t.1).length ^ (m - j) / (MA_ t.1).length = (MA_ t.1).length ^ (m - (j + 1)) := by rw [e1, Nat.pow_succ, Nat.mul_div_cancel _ hb0]
    have hget := MA_get d1
    have hmem := MA_ok d1
    have mP := uP.then (mv_P ws ((MA_ t.1).getD (lft / (MA_ t.1).length ^ (m - (j + 1))) 0))
    have W := ar_Lz n8 uP
    have etr := tr_ar n8 (mv_P ws ((MA_ t.1).getD (lft / (MA_ t.1).length ^ (m - (j + 1))) 0)) uP
    have hb2 := hb_64 ws (fun g => mv_ t.1 ((MA_ t.1).getD (lft / (MA_ t.1).length ^ (m - (j + 1))) 0) (u g))
    have hll : lft < 2 ^ 31 := by
      have := pow66 ml (show m - (j + 1) + 1 ≤ 6 by omega)
      omega
    show wq _ tb_Ref_worthOf _ 23 [some (.ref 65), some (.int (nI num)), some (.int (nI m)), some (.int (nI ((MA_ t.1).length ^ m))), some (.int (nI (pq_ (ar_ (sg_n t.1) u) (sg_n t.1)))), some (.int (nI bits)), some (.int (nI ((MA_ t.1).length ^ (m - j)))), some (.int (nI lft)), some (.int (nI j)), none] [] h1 _
    refine wp_iload8 rfl ?_
    refine wp_iload2 rfl ?_
    refine wp_icmp_geN j m (by omega) (by omega) rfl (fun z => absurd z (by omega)) (fun _ => ?_)
    refine wp_iload6 rfl ?_
    refine wp_aload0 rfl ?_
    refine wp_getIE rfl (Ref_kd B.S) (show _ = nI ((MA_ t.1).length) from A.1) ?_
    refine wp_idivE (nI (((MA_ t.1).length ^ (m - j)) / ((MA_ t.1).length))) (nI_ne0 (by omega) (by omega)) (pk_div (by omega) (by omega) (by omega)) rfl ?_
    rw [hdiv]
    refine wp_istore6 rfl rfl ?_
    refine wp_aload0 rfl ?_
    refine wp_iload4 rfl ?_
    refine wp_aload0 rfl ?_
    refine wp_getR rfl (Ref_kd B.S) (Ref_R35 B.S) (by first | decide | omega) ?_
    refine wp_iload7 rfl ?_
    refine wp_iload6 rfl ?_
    refine wp_idivE (nI (lft / ((MA_ t.1).length ^ (m - (j + 1))))) (nI_ne0 (by omega) (by omega)) (pk_div (by omega) (by omega) (by omega)) rfl ?_
    refine wp_ialdE (lft / ((MA_ t.1).length ^ (m - (j + 1)))) rfl (Ref_k35 B.S) (by first | decide | omega) (Nat.lt_of_lt_of_eq (show (lft / ((MA_ t.1).length ^ (m - (j + 1)))) < _ by omega) (Eq.symm (Ref_n35 B.S))) (by omega) (show _ = nI ((MA_ t.1).getD (lft / (MA_ t.1).length ^ (m - (j + 1))) 0) from A.2 _ _ hget) rfl ?_
    refine wp_callV2I rfl (Nat.le_of_ble_eq_true rfl) (Ref_kd B.S) (Ref_danced_ok B G W hmem.1) (Nat.le_of_ble_eq_true rfl) ?_
    refine pure_ ?_
    rw [etr]
    refine wp_istore4 rfl rfl ?_
    refine wp_iload7 rfl ?_
    refine wp_iload6 rfl ?_
    refine wp_iremE (nI (lft % ((MA_ t.1).length ^ (m - (j + 1))))) (nI_ne0 (by omega) (by omega)) (pk_rem (by omega) (by omega) (by omega)) rfl ?_
    refine wp_istore7 rfl rfl ?_
    refine wp_iload5 rfl ?_
    refine wp_aload0 rfl ?_
    refine wp_iload4 rfl ?_
    refine wp_callV1I rfl (Nat.le_of_ble_eq_true rfl) (Ref_kd B.S) (Ref_holding_ok B mP) (Nat.le_of_ble_eq_true rfl) ?_
    refine pure_ ?_
    refine wp_iorE (nI (bits ||| (hb_ t.1 (fun g => mv_ t.1 ((MA_ t.1).getD (lft / (MA_ t.1).length ^ (m - (j + 1))) 0) (u g))))) (nn_or _ _) rfl ?_
    refine wp_istore5 rfl rfl ?_
    refine wp_iinc8N rfl rfl ?_
    refine wp_goto rfl ?_
    exact k ((fun g => mv_ t.1 ((MA_ t.1).getD (lft / (MA_ t.1).length ^ (m - (j + 1))) 0) (u g)), bits ||| hb_ t.1 (fun g => mv_ t.1 ((MA_ t.1).getD (lft / (MA_ t.1).length ^ (m - (j + 1))) 0) (u g)), lft % (MA_ t.1).length ^ (m - (j + 1))) _ ⟨rfl, mP, Nat.or_lt_two_pow (n := 6) b64 hb2, Nat.mod_lt _ d2, hinv⟩
  · intro x h1 I
    show wq _ tb_Ref_worthOf _ 23 [some (.ref 65), some (.int (nI num)), some (.int (nI m)), some (.int (nI ((MA_ t.1).length ^ m))), some (.int (nI (pq_ (ar_ (sg_n t.1) x.1) (sg_n t.1)))), some (.int (nI x.2.1)), some (.int (nI ((MA_ t.1).length ^ (m - m)))), some (.int (nI x.2.2)), some (.int (nI m)), none] [] h1 _
    obtain ⟨rfl, uP, b64, hlt, hinv⟩ := I
    obtain ⟨u, bits, lft⟩ := x
    dsimp only at uP b64 hlt hinv
    rw [Nat.sub_self] at hinv
    have hbits : bits = hr_ t.1 (sg_pos t.1) (hb_ t.1 (sg_pos t.1)) (rr_ t.1 m num) := hinv
    show wq _ tb_Ref_worthOf _ 23 [some (.ref 65), some (.int (nI num)), some (.int (nI m)), some (.int (nI ((MA_ t.1).length ^ m))), some (.int (nI (pq_ (ar_ (sg_n t.1) u) (sg_n t.1)))), some (.int (nI bits)), some (.int (nI ((MA_ t.1).length ^ (m - m)))), some (.int (nI lft)), some (.int (nI m)), none] [] h1 _
    refine wp_iload8 rfl ?_
    refine wp_iload2 rfl ?_
    refine wp_icmp_geN m m (by omega) (by omega) rfl (fun _ => ?_) (fun z => absurd z (by omega))
    refine wp_iconst rfl ?_
    refine wp_istore8 rfl rfl ?_
    refine wp_iconst rfl ?_
    refine wp_istore9 rfl rfl ?_
    refine wq_loop (X := Unit) (fun j x => [some (.ref 65), some (.int (nI num)), some (.int (nI m)), some (.int (nI ((MA_ t.1).length ^ m))), some (.int (nI (pq_ (ar_ (sg_n t.1) u) (sg_n t.1)))), some (.int (nI bits)), some (.int (nI ((MA_ t.1).length ^ (m - m)))), some (.int (nI lft)), some (.int (nI (wk_ t.1 bits j))), some (.int (nI j))]) (fun j x h2 => h2 = h1) ((sg_wi t.1).length) (0) (()) ?_ ?_ ?_ ?_
    · omega
    · rfl
    · intro j x h2 hi J k
      show wq _ tb_Ref_worthOf _ 86 [some (.ref 65), some (.int (nI num)), some (.int (nI m)), some (.int (nI ((MA_ t.1).length ^ m))), some (.int (nI (pq_ (ar_ (sg_n t.1) u) (sg_n t.1)))), some (.int (nI bits)), some (.int (nI ((MA_ t.1).length ^ (m - m)))), some (.int (nI lft)), some (.int (nI (wk_ t.1 bits j))), some (.int (nI j))] [] h2 _
      obtain rfl := J
      have hjl : j < (sg_wi t.1).length := by assumption
      have hq := wi_get hjl
      obtain ⟨s1, s2, s3⟩ := B.wi hq
      obtain ⟨⟨m1, m2⟩, m3⟩ := B.w.2.2.2.2.2.2.2.2.2.2.2.2 _ (List.mem_of_getElem? hq)
      have hwk := wk_le ws bits j (by omega)
      refine wp_iload9 rfl ?_
      refine wp_aload0 rfl ?_
      refine wp_getIE rfl (Ref_kd B.S) (show _ = nI ((sg_wi t.1).length) from B.wn) ?_
      refine wp_icmp_geN j ((sg_wi t.1).length) (by omega) (by omega) rfl (fun z => absurd z (by omega)) (fun _ => ?_)
      refine wp_iload8 rfl ?_
      refine wp_iload5 rfl ?_
      refine wp_iload9 rfl ?_
      refine wp_ishrE (nI (bits / 2 ^ j)) (nn_sshr _ _ (by omega) (by omega)) rfl ?_
      refine wp_iconst rfl ?_
      refine wp_iandE (nI ((bits / 2 ^ j) % 2)) (nn_1 _) rfl ?_
      refine wp_iconst rfl ?_
      refine wp_icmp_neN ((bits / 2 ^ j) % 2) 1 (by omega) (by omega) rfl (fun c1 => ?_) (fun c1 => ?_)
      · skip
        refine wp_iconst rfl ?_
        refine wp_iaddE (nI ((wk_ t.1 bits j) + 0)) (nI_add _ _) rfl ?_
        refine wp_istore8 rfl rfl ?_
        refine wp_iinc9N rfl rfl ?_
        refine wp_goto rfl ?_
        have c2 := (tb_mod0 _ _).mp c1
        have := k () _ rfl
        rw [show wk_ t.1 bits (j + 1) = wk_ t.1 bits j + 0 by rw [wk_, c2, if_neg Bool.false_ne_true]] at this
        exact this
      · skip
        refine wp_aload0 rfl ?_
        refine wp_getR rfl (Ref_kd B.S) (Ref_R15 B.S) (by first | decide | omega) ?_
        refine wp_iload9 rfl ?_
        have c2 := (tb_mod _ _).mp c1
        refine wp_ialdE j rfl (Ref_k15 B.S) (by first | decide | omega) (Nat.lt_of_lt_of_eq (show j < _ by omega) (Eq.symm (Ref_n15 B.S))) (by omega) (show _ = nI ((wi_ t.1 j).1) from s1) rfl ?_
        refine wp_goto rfl ?_
        refine wp_iaddE (nI ((wk_ t.1 bits j) + ((wi_ t.1 j).1))) (nI_add _ _) rfl ?_
        refine wp_istore8 rfl rfl ?_
        refine wp_iinc9N rfl rfl ?_
        refine wp_goto rfl ?_
        have := k () _ rfl
        rw [show wk_ t.1 bits (j + 1) = wk_ t.1 bits j + (wi_ t.1 j).1 by rw [wk_, c2, if_pos rfl]] at this
        exact this
    · intro x h2 J
      show wq _ tb_Ref_worthOf _ 86 [some (.ref 65), some (.int (nI num)), some (.int (nI m)), some (.int (nI ((MA_ t.1).length ^ m))), some (.int (nI (pq_ (ar_ (sg_n t.1) u) (sg_n t.1)))), some (.int (nI bits)), some (.int (nI ((MA_ t.1).length ^ (m - m)))), some (.int (nI lft)), some (.int (nI (wk_ t.1 bits ((sg_wi t.1).length)))), some (.int (nI ((sg_wi t.1).length)))] [] h2 _
      obtain rfl := J
      refine wp_iload9 rfl ?_
      refine wp_aload0 rfl ?_
      refine wp_getIE rfl (Ref_kd B.S) (show _ = nI ((sg_wi t.1).length) from B.wn) ?_
      refine wp_icmp_geN ((sg_wi t.1).length) ((sg_wi t.1).length) (by omega) (by omega) rfl (fun _ => ?_) (fun z => absurd z (by omega))
      refine wp_iload8 rfl ?_
      exact wp_iret rfl ⟨_, rfl, by unfold wo_; rw [hbits], rfl⟩
def an_served_ (t : Rt_) (m i : Int32) (x : Int32) : Prop := if rg_ 0 6 m then ∃ o, SV_ t.1 m.toNatClampNeg o ∧ x = sv_ o m.toNatClampNeg i else x = -2
/-- the best of the first numbers -/
def bs2_ (s : Sg_) (m y : Nat) (b : Int32) (fst : Nat) : Prop := (b = -6 ∧ y = 0) ∨ ∃ w, b = nI w ∧ w ≤ 594 ∧ fst < y ∧ wo_ s (rr_ s m fst) = w ∧ ∀ z, z < y → wo_ s (rr_ s m z) ≤ w ∧ (wo_ s (rr_ s m z) = w → fst ≤ z)
theorem wo_le {s : Sg_} (w : sg_wf s) (r : List Nat) : wo_ s r ≤ 594 := by
  have := wk_le w (hr_ s (sg_pos s) (hb_ s (sg_pos s)) r) (sg_wi s).length (Nat.le_refl _)
  have := wi_len w
  unfold wo_
  omega
set_option maxRecDepth 4000 in
theorem Ref_served_ok {h0 h : Hp_} {t : Rt_} {m i : Int32} (B : RB_ h0 h t) : cI 3 mn_Ref_served [.ref 65, .int m, .int i] h (fun y h' => an_served_ t m i y ∧ RB_ h0 h' t) := by
  have n8 := B.n8
  have ws := B.w
  have ml := MA_len t.1
  refine cq_in (q := mi_Ref_served) (L := [some (.ref 65), some (.int m), some (.int i), none, none, none, none, none]) rfl (Nat.le_of_ble_eq_true rfl) rfl ?_
  show wq _ tb_Ref_served none 0 _ _ _ _
  refine wp_iload1 rfl ?_
  refine wp_i2l rfl ?_
  refine wp_lconst rfl ?_
  refine wp_ldc2_w rfl ?_
  refine wp_callS3I rfl (Nat.le_of_ble_eq_true rfl) (Ref_inN_ok (a := 0) (b := 6) (by omega) (by omega)) (Nat.le_of_ble_eq_true rfl) ?_
  refine pure_ ?_
  refine wp_if_neB rfl (fun c1 => ?_) (fun c1 => ?_)
  · skip
    obtain ⟨m, _, hm, hmb, rfl⟩ := rg_of (a := 0) (b := 6) c1
    have e0 : ∀ y, an_served_ t (nI m) i y = ∃ o, SV_ t.1 m o ∧ y = sv_ o m i := fun y => by unfold an_served_; rw [show rg_ 0 6 (nI m) = true from c1, if_pos rfl, nI_clamp hmb]
    have p6 := pow66 ml hm
    refine wp_aload0 rfl ?_
    refine wp_callV0V rfl (Nat.le_of_ble_eq_true rfl) (Ref_kd B.S) (Ref_findGoes_ok B) (Nat.le_of_ble_eq_true rfl) ?_
    rintro h1 ⟨G, z1⟩
    have B1 : RB_ h0 h1 t := RB_fz B (fz_mono (fun c hc => by omega) z1)
    refine wp_aload0 rfl ?_
    refine wp_callV0V rfl (Nat.le_of_ble_eq_true rfl) (Ref_kd B1.S) (Ref_findMay_ok B1) (Nat.le_of_ble_eq_true rfl) ?_
    rintro h2 ⟨B2, A1, A2, z2⟩
    have G2 : GO_ h2 t.1 := fun f p hf hp => by rw [fz_I z2 (by decide)]; exact G f p hf hp
    refine wp_iconst rfl ?_
    refine wp_istore3 rfl rfl ?_
    refine wp_iconst rfl ?_
    refine wp_istore4 rfl rfl ?_
    refine wq_loc (L' := [some (.ref 65), some (.int (nI m)), some (.int i), some (.int (nI ((MA_ t.1).length ^ 0))), some (.int (nI 0)), none, none, none]) (by rw [Nat.pow_zero]) ?_
    refine wq_loop (X := Unit) (fun j x => [some (.ref 65), some (.int (nI m)), some (.int i), some (.int (nI ((MA_ t.1).length ^ j))), some (.int (nI j)), none, none, none]) (fun j x h3 => h3 = h2) (m) (0) (()) ?_ ?_ ?_ ?_
    · omega
    · rfl
    · intro j x h3 hi I k
      show wq _ tb_Ref_served _ 28 [some (.ref 65), some (.int (nI m)), some (.int i), some (.int (nI ((MA_ t.1).length ^ j))), some (.int (nI j)), none, none, none] [] h3 _
      obtain rfl := I
      have pj := pow66 ml (show j ≤ 6 by omega)
      refine wp_iload4 rfl ?_
      refine wp_iload1 rfl ?_
      refine wp_icmp_geN j m (by omega) (by omega) rfl (fun z => absurd z (by omega)) (fun _ => ?_)
      refine wp_iload3 rfl ?_
      refine wp_aload0 rfl ?_
      refine wp_getIE rfl (Ref_kd B2.S) (show _ = nI ((MA_ t.1).length) from A1) ?_
      refine wp_imulE (nI (((MA_ t.1).length ^ j) * ((MA_ t.1).length))) (pk_mul _ _) rfl ?_
      refine wp_istore3 rfl rfl ?_
      refine wp_iinc4N rfl rfl ?_
      refine wp_goto rfl ?_
      have := k () _ rfl
      rw [Nat.pow_succ] at this
      exact this
    · intro x h3 I
      show wq _ tb_Ref_served _ 28 [some (.ref 65), some (.int (nI m)), some (.int i), some (.int (nI ((MA_ t.1).length ^ m))), some (.int (nI m)), none, none, none] [] h3 _
      obtain rfl := I
      refine wp_iload4 rfl ?_
      refine wp_iload1 rfl ?_
      refine wp_icmp_geN m m (by omega) (by omega) rfl (fun _ => ?_) (fun z => absurd z (by omega))
      refine wp_bipush rfl ?_
      refine wp_istore4 rfl rfl ?_
      refine wp_iconst rfl ?_
      refine wp_istore5 rfl rfl ?_
      refine wp_iconst rfl ?_
      refine wp_istore6 rfl rfl ?_
      have tail : ∀ (b : Int32) (fst : Nat) (x6 x7 : Option Value), bs2_ t.1 m ((MA_ t.1).length ^ m) b fst → wq 2 tb_Ref_served none 94 [some (.ref 65), some (.int (nI m)), some (.int i), some (.int (nI ((MA_ t.1).length ^ m))), some (.int b), some (.int (nI fst)), x6, x7] [] h3 (fun r h' => ∃ y, r = some (.int y) ∧ an_served_ t (nI m) i y ∧ RB_ h0 h' t) := by
        intro b fst x6 x7 hb
        rcases hb with ⟨rfl, hz⟩ | ⟨w, rfl, hw6, hf, hwo, hall⟩
        · skip
          refine wp_iload4 rfl ?_
          refine wp_if_lt rfl (fun _ => ?_) (fun z => absurd z (by decide))
          refine wp_iload4 rfl ?_
          exact wp_iret rfl ⟨_, rfl, by rw [e0]; exact ⟨none, fun r hr => by obtain ⟨x, hx, _⟩ := rr_surj m r hr; omega, rfl⟩, B2⟩
        · skip
          have hSV : SV_ t.1 m (some (w, rr_ t.1 m fst)) := ⟨rr_ok m fst hf, hwo, fun r2 hr2 => by
            obtain ⟨z, hz, rfl⟩ := rr_surj m r2 hr2
            refine ⟨(hall z hz).1, fun e => ?_⟩
            have := (hall z hz).2 e
            rcases Nat.lt_or_ge fst z with q | q
            · exact Nat.le_of_lt (rr_mono m fst z q hz)
            · obtain rfl : fst = z := by omega
              exact Nat.le_refl _⟩
          refine wp_iload4 rfl ?_
          refine wp_if_ltN w 0 (by omega) (by decide) rfl ?_
          refine wp_iload2 rfl ?_
          refine wp_iconst rfl ?_
          refine wp_icmp_ne rfl (fun c3 => ?_) (fun c3 => ?_)
          · skip
            refine wp_iload2 rfl ?_
            refine wp_i2l rfl ?_
            refine wp_lconst rfl ?_
            refine wp_iload1 rfl ?_
            refine wp_iconst rfl ?_
            refine wp_isub rfl ?_
            refine wp_i2l rfl ?_
            refine wp_callS3I rfl (Nat.le_of_ble_eq_true rfl) (Ref_in_ok) (Nat.le_of_ble_eq_true rfl) ?_
            refine pure_ ?_
            have erg : decide ((lN 0).toInt ≤ i.toInt64.toInt ∧ i.toInt64.toInt ≤ (nI m - nI 1).toInt64.toInt) = decide (0 ≤ i.toInt ∧ i.toInt < m) := by
              rw [Int32.toInt_toInt64, Int32.toInt_toInt64, pk_sub_toInt (by omega) (by omega), lN_toInt (by omega)]
              exact decide_eq_decide.mpr (by omega)
            rw [erg]
            refine wp_if_neB rfl (fun c4 => ?_) (fun c4 => ?_)
            · skip
              have c5 := of_decide_eq_true c4
              obtain ⟨q, hqb, rfl⟩ := nI_of (x := i) (by rw [Int32.lt_iff_toInt_lt]; show ¬ i.toInt < 0; omega)
              rw [nI_toInt hqb] at c5
              have hqm : q < m := by omega
              have hb0 : 0 < (MA_ t.1).length := by
                rcases Nat.eq_zero_or_pos (MA_ t.1).length with z | z
                · rw [z, Nat.zero_pow (by omega)] at hf; omega
                · exact z
              refine wp_iload3 rfl ?_
              refine wp_istore6 rfl rfl ?_
              refine wp_iconst rfl ?_
              refine wp_istore7 rfl rfl ?_
              refine wq_loop (X := Unit) (fun j x => [some (.ref 65), some (.int (nI m)), some (.int (nI q)), some (.int (nI ((MA_ t.1).length ^ m))), some (.int (nI w)), some (.int (nI fst)), some (.int (nI ((MA_ t.1).length ^ (m - j)))), some (.int (nI j))]) (fun j x h4 => h4 = h3) (q + 1) (0) (()) ?_ ?_ ?_ ?_
              · omega
              · rfl
              · intro j x h4 hi J k
                show wq _ tb_Ref_served _ 129 [some (.ref 65), some (.int (nI m)), some (.int (nI q)), some (.int (nI ((MA_ t.1).length ^ m))), some (.int (nI w)), some (.int (nI fst)), some (.int (nI ((MA_ t.1).length ^ (m - j)))), some (.int (nI j))] [] h4 _
                obtain rfl := J
                have pj := pow66 ml (show m - j ≤ 6 by omega)
                have hdiv : (MA_ t.1).length ^ (m - j) / (MA_ t.1).length = (MA_ t.1).length ^ (m - (j + 1)) := by rw [show m - j = (m - (j + 1)) + 1 by omega, Nat.pow_succ, Nat.mul_div_cancel _ hb0]
                refine wp_iload7 rfl ?_
                refine wp_iload2 rfl ?_
                refine wp_icmp_gtN j q (by omega) (by omega) rfl (fun z => absurd z (by omega)) (fun _ => ?_)
                refine wp_iload6 rfl ?_
                refine wp_aload0 rfl ?_
                refine wp_getIE rfl (Ref_kd B2.S) (show _ = nI ((MA_ t.1).length) from A1) ?_
                refine wp_idivE (nI (((MA_ t.1).length ^ (m - j)) / ((MA_ t.1).length))) (nI_ne0 (by omega) (by omega)) (pk_div (by omega) (by omega) (by omega)) rfl ?_
                rw [hdiv]
                refine wp_istore6 rfl rfl ?_
                refine wp_iinc7N rfl rfl ?_
                refine wp_goto rfl ?_
                exact k () _ rfl
              · intro x h4 J
                show wq _ tb_Ref_served _ 129 [some (.ref 65), some (.int (nI m)), some (.int (nI q)), some (.int (nI ((MA_ t.1).length ^ m))), some (.int (nI w)), some (.int (nI fst)), some (.int (nI ((MA_ t.1).length ^ (m - (q + 1))))), some (.int (nI (q + 1)))] [] h4 _
                obtain rfl := J
                have pj := pow66 ml (show m - (q + 1) ≤ 6 by omega)
                have pj0 : 0 < (MA_ t.1).length ^ (m - (q + 1)) := Nat.pow_pos hb0
                have hidx := Nat.mod_lt (fst / (MA_ t.1).length ^ (m - (q + 1))) hb0
                have hget := MA_get hidx
                have hmem := MA_ok hidx
                have hrr := rr_get m fst q hf hqm
                rw [show m - 1 - q = m - (q + 1) by omega] at hrr
                have hdl : fst / (MA_ t.1).length ^ (m - (q + 1)) ≤ fst := Nat.div_le_self _ _
                refine wp_iload7 rfl ?_
                refine wp_iload2 rfl ?_
                refine wp_icmp_gtN (q + 1) q (by omega) (by omega) rfl (fun _ => ?_) (fun z => absurd z (by omega))
                refine wp_bipush rfl ?_
                refine wp_aload0 rfl ?_
                refine wp_getR rfl (Ref_kd B2.S) (Ref_R35 B2.S) (by first | decide | omega) ?_
                refine wp_iload5 rfl ?_
                refine wp_iload6 rfl ?_
                refine wp_idivE (nI (fst / ((MA_ t.1).length ^ (m - (q + 1))))) (nI_ne0 (by omega) (by omega)) (pk_div (by omega) (by omega) (by omega)) rfl ?_
                refine wp_aload0 rfl ?_
                refine wp_getIE rfl (Ref_kd B2.S) (show _ = nI ((MA_ t.1).length) from A1) ?_
                refine wp_iremE (nI ((fst / ((MA_ t.1).length ^ (m - (q + 1)))) % ((MA_ t.1).length))) (nI_ne0 (by omega) (by omega)) (pk_rem (by omega) (by omega) (by omega)) rfl ?_
                refine wp_ialdE ((fst / ((MA_ t.1).length ^ (m - (q + 1)))) % ((MA_ t.1).length)) rfl (Ref_k35 B2.S) (by first | decide | omega) (Nat.lt_of_lt_of_eq (show ((fst / ((MA_ t.1).length ^ (m - (q + 1)))) % ((MA_ t.1).length)) < _ by omega) (Eq.symm (Ref_n35 B2.S))) (by omega) (show _ = nI ((MA_ t.1).getD (fst / (MA_ t.1).length ^ (m - (q + 1)) % (MA_ t.1).length) 0) from A2 _ _ hget) rfl ?_
                refine wp_iaddE (nI (65 + ((MA_ t.1).getD (fst / (MA_ t.1).length ^ (m - (q + 1)) % (MA_ t.1).length) 0))) (nI_add _ _) rfl ?_
                exact wp_iret rfl ⟨_, rfl, by rw [e0]; exact ⟨_, hSV, by unfold sv_; dsimp only; rw [if_neg c3, if_pos (by rw [nI_toInt hqb]; omega), nI_clamp hqb, hrr]⟩, B2⟩
            · skip
              refine wp_bipush rfl ?_
              exact wp_iret rfl ⟨_, rfl, by rw [e0]; exact ⟨_, hSV, by unfold sv_; dsimp only; rw [if_neg c3, if_neg (of_decide_eq_false c4)]⟩, B2⟩
          · skip
            refine wp_iload4 rfl ?_
            exact wp_iret rfl ⟨_, rfl, by rw [e0]; exact ⟨_, hSV, by unfold sv_; dsimp only; rw [if_pos (Classical.not_not.mp c3)]⟩, B2⟩
      refine wq_loop (X := (Int32 × Nat) × Option Value) (fun y x => [some (.ref 65), some (.int (nI m)), some (.int i), some (.int (nI ((MA_ t.1).length ^ m))), some (.int x.1.1), some (.int (nI x.1.2)), some (.int (nI y)), x.2]) (fun y x h4 => h4 = h3 ∧ bs2_ t.1 m y x.1.1 x.1.2) ((MA_ t.1).length ^ m) (0) (((-6, 0), none)) ?_ ?_ ?_ ?_
      · omega
      · exact ⟨rfl, Or.inl ⟨rfl, rfl⟩⟩
      · intro y x h4 hi J k
        show wq _ tb_Ref_served _ 57 [some (.ref 65), some (.int (nI m)), some (.int i), some (.int (nI ((MA_ t.1).length ^ m))), some (.int x.1.1), some (.int (nI x.1.2)), some (.int (nI y)), x.2] [] h4 _
        obtain ⟨rfl, hb⟩ := J
        obtain ⟨⟨b, fst⟩, x7⟩ := x
        dsimp only at hb
        have hyl : y < (MA_ t.1).length ^ m := by assumption
        have hw6 := wo_le ws (rr_ t.1 m y)
        show wq _ tb_Ref_served _ 57 [some (.ref 65), some (.int (nI m)), some (.int i), some (.int (nI ((MA_ t.1).length ^ m))), some (.int b), some (.int (nI fst)), some (.int (nI y)), x7] [] h4 _
        refine wp_iload6 rfl ?_
        refine wp_iload3 rfl ?_
        refine wp_icmp_geN y ((MA_ t.1).length ^ m) (by omega) (by omega) rfl (fun z => absurd z (by omega)) (fun _ => ?_)
        refine wp_aload0 rfl ?_
        refine wp_iload6 rfl ?_
        refine wp_iload1 rfl ?_
        refine wp_iload3 rfl ?_
        refine wp_callV3I rfl (Nat.le_of_ble_eq_true rfl) (Ref_kd B2.S) (Ref_worthOf_ok B2 G2 ⟨A1, A2⟩ hm hyl) (Nat.le_of_ble_eq_true rfl) ?_
        refine pure_ ?_
        refine wp_istore7 rfl rfl ?_
        rcases hb with ⟨rfl, hz⟩ | ⟨w, rfl, hw7, hf, hwo, hall⟩
        · skip
          refine wp_iload7 rfl ?_
          refine wp_iload4 rfl ?_
          refine wp_icmp_le rfl (fun z => absurd z (fun z => absurd z (Int32.not_le.mpr (Int32.lt_of_lt_of_le (show (-6 : Int32) < 0 by decide) (nI_pos' (by omega)))))) (fun _ => ?_)
          refine wp_iload7 rfl ?_
          refine wp_istore4 rfl rfl ?_
          refine wp_iload6 rfl ?_
          refine wp_istore5 rfl rfl ?_
          refine wp_iinc6N rfl rfl ?_
          refine wp_goto rfl ?_
          exact k ((nI (wo_ t.1 (rr_ t.1 m y)), y), _) _ ⟨rfl, Or.inr ⟨_, rfl, hw6, Nat.lt_succ_self y, rfl, fun z hz2 => by
            obtain rfl : z = y := by omega
            exact ⟨Nat.le_refl _, fun _ => Nat.le_refl _⟩⟩⟩
        · skip
          refine wp_iload7 rfl ?_
          refine wp_iload4 rfl ?_
          refine wp_icmp_leN (wo_ t.1 (rr_ t.1 m y)) w (by omega) (by omega) rfl (fun c6 => ?_) (fun c6 => ?_)
          · skip
            refine wp_iinc6N rfl rfl ?_
            refine wp_goto rfl ?_
            exact k ((nI w, fst), _) _ ⟨rfl, Or.inr ⟨w, rfl, hw7, Nat.lt_succ_of_lt hf, hwo, fun z hz2 => by
              rcases Nat.lt_or_ge z y with q | q
              · exact hall z q
              · obtain rfl : z = y := by omega
                exact ⟨c6, fun _ => Nat.le_of_lt hf⟩⟩⟩
          · skip
            refine wp_iload7 rfl ?_
            refine wp_istore4 rfl rfl ?_
            refine wp_iload6 rfl ?_
            refine wp_istore5 rfl rfl ?_
            refine wp_iinc6N rfl rfl ?_
            refine wp_goto rfl ?_
            exact k ((nI (wo_ t.1 (rr_ t.1 m y)), y), _) _ ⟨rfl, Or.inr ⟨_, rfl, hw6, Nat.lt_succ_self y, rfl, fun z hz2 => by
              rcases Nat.lt_or_ge z y with q | q
              · have := (hall z q).1
                exact ⟨show wo_ t.1 (rr_ t.1 m z) ≤ wo_ t.1 (rr_ t.1 m y) by omega, fun e => absurd (show wo_ t.1 (rr_ t.1 m z) = wo_ t.1 (rr_ t.1 m y) from e) (by omega)⟩
              · obtain rfl : z = y := by omega
                exact ⟨Nat.le_refl _, fun _ => Nat.le_refl _⟩⟩⟩
      · intro x h4 J
        show wq _ tb_Ref_served _ 57 [some (.ref 65), some (.int (nI m)), some (.int i), some (.int (nI ((MA_ t.1).length ^ m))), some (.int x.1.1), some (.int (nI x.1.2)), some (.int (nI ((MA_ t.1).length ^ m))), x.2] [] h4 _
        obtain ⟨rfl, hb⟩ := J
        refine wp_iload6 rfl ?_
        refine wp_iload3 rfl ?_
        refine wp_icmp_geN ((MA_ t.1).length ^ m) ((MA_ t.1).length ^ m) (by omega) (by omega) rfl (fun _ => ?_) (fun z => absurd z (by omega))
        exact tail _ _ _ _ hb
  · skip
    refine wp_bipush rfl ?_
    exact wp_iret rfl ⟨_, rfl, by unfold an_served_; rw [show rg_ 0 6 m = false from c1]; rfl, B⟩
