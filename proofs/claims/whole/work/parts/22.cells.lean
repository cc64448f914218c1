-- ===== Cells, Maps =====
/-- a row read, or 0; written, or left -/
def ca_ {α : Type} (z : α) (f : Nat → α) (n : Nat) (i : Int32) : α := if i < 0 ∨ n ≤ i.toNatClampNeg then z else f i.toNatClampNeg
def cp_ {α : Type} (f : Nat → α) (n : Nat) (i : Int32) (x : α) : Nat → α := if i < 0 ∨ n ≤ i.toNatClampNeg then f else va_up f i.toNatClampNeg x
theorem ca_in {α : Type} {z : α} {f : Nat → α} {n j : Nat} (hj : j < n) (hb : j < 2 ^ 31) : ca_ z f n (nI j) = f j := by
  unfold ca_
  rw [nI_clamp hb, if_neg]
  rintro (q | q)
  · exact nI_pos hb q
  · omega
theorem ca_out {α : Type} {z : α} {f : Nat → α} {n j : Nat} (hj : n ≤ j) (hb : j < 2 ^ 31) : ca_ z f n (nI j) = z := by
  unfold ca_
  rw [nI_clamp hb, if_pos (Or.inr hj)]
theorem ca_neg {α : Type} {z : α} {f : Nat → α} {n : Nat} {i : Int32} (hi : i < 0) : ca_ z f n i = z := by
  unfold ca_
  rw [if_pos (Or.inl hi)]
theorem cp_in {α : Type} {f : Nat → α} {n j : Nat} {x : α} (hj : j < n) (hb : j < 2 ^ 31) : cp_ f n (nI j) x = va_up f j x := by
  unfold cp_
  rw [nI_clamp hb, if_neg]
  rintro (q | q)
  · exact nI_pos hb q
  · omega
theorem cp_out {α : Type} {f : Nat → α} {n j : Nat} {x : α} (hj : n ≤ j) (hb : j < 2 ^ 31) : cp_ f n (nI j) x = f := by
  unfold cp_
  rw [nI_clamp hb, if_pos (Or.inr hj)]
theorem ca_ge {α : Type} {z : α} {f : Nat → α} {n : Nat} {i : Int32} (h1 : ¬ i < 0) (h2 : nI n ≤ i) (hn : n < 2 ^ 31) : ca_ z f n i = z := by
  obtain ⟨j, hj, rfl⟩ := nI_of h1
  exact ca_out ((nI_leI hn hj).mp h2) hj
theorem cp_neg {α : Type} {f : Nat → α} {n : Nat} {i : Int32} {x : α} (hi : i < 0) : cp_ f n i x = f := by
  unfold cp_
  rw [if_pos (Or.inl hi)]
theorem cp_ge {α : Type} {f : Nat → α} {n : Nat} {i : Int32} {x : α} (h1 : ¬ i < 0) (h2 : nI n ≤ i) (hn : n < 2 ^ 31) : cp_ f n i x = f := by
  obtain ⟨j, hj, rfl⟩ := nI_of h1
  exact cp_out ((nI_leI hn hj).mp h2) hj
theorem Cells_at_ok {h : Hp_} {a : Nat} {i : Int32} (hk : hp_kd h a = 1) (h0 : a ≠ 0) (hl : hp_ln h a < 2 ^ 31) : cI 1 mn_Cells_at [.ref a, .int i] h (fun x h' => x = ca_ (nI 0) (hp_I h a) (hp_ln h a) i ∧ h' = h) := by
  refine cq_in (q := mi_Cells_at) (L := [some (.ref a), some (.int i)]) rfl (Nat.le_of_ble_eq_true rfl) rfl ?_
  show wq _ tb_Cells_at none 0 _ _ _ _
  refine wp_iload1 rfl ?_
  refine wp_if_lt rfl (fun c1 => ?_) (fun c1 => ?_)
  · skip
    refine wp_iconst rfl ?_
    exact wp_iret rfl ⟨_, rfl, (ca_neg c1).symm, rfl⟩
  · skip
    refine wp_iload1 rfl ?_
    refine wp_aload0 rfl ?_
    refine wp_alen rfl h0 (Or.inl hk) ?_
    refine wp_icmp_ge rfl (fun c2 => ?_) (fun c2 => ?_)
    · skip
      refine wp_iconst rfl ?_
      exact wp_iret rfl ⟨_, rfl, (ca_ge c1 c2 hl).symm, rfl⟩
    · 
      obtain q | q | ⟨j, hj, rfl⟩ := pk_ix i hl
      · exact absurd q c1
      · exact absurd q c2
      refine wp_aload0 rfl ?_
      refine wp_iload1 rfl ?_
      refine wp_iald j rfl hk h0 hj (by omega) rfl ?_
      refine wp_goto rfl ?_
      exact wp_iret rfl ⟨_, rfl, (ca_in hj (by omega)).symm, rfl⟩
theorem Cells_longAt_ok {h : Hp_} {a : Nat} {i : Int32} (hk : hp_kd h a = 2) (h0 : a ≠ 0) (hl : hp_ln h a < 2 ^ 31) : cJ 1 mn_Cells_longAt [.ref a, .int i] h (fun x h' => x = ca_ (lN 0) (hp_J h a) (hp_ln h a) i ∧ h' = h) := by
  refine cq_in (q := mi_Cells_longAt) (L := [some (.ref a), some (.int i)]) rfl (Nat.le_of_ble_eq_true rfl) rfl ?_
  show wq _ tb_Cells_longAt none 0 _ _ _ _
  refine wp_iload1 rfl ?_
  refine wp_if_lt rfl (fun c1 => ?_) (fun c1 => ?_)
  · skip
    refine wp_lconst rfl ?_
    exact wp_lret rfl ⟨_, rfl, (ca_neg c1).symm, rfl⟩
  · skip
    refine wp_iload1 rfl ?_
    refine wp_aload0 rfl ?_
    refine wp_alen rfl h0 (Or.inr (Or.inl hk)) ?_
    refine wp_icmp_ge rfl (fun c2 => ?_) (fun c2 => ?_)
    · skip
      refine wp_lconst rfl ?_
      exact wp_lret rfl ⟨_, rfl, (ca_ge c1 c2 hl).symm, rfl⟩
    · 
      obtain q | q | ⟨j, hj, rfl⟩ := pk_ix i hl
      · exact absurd q c1
      · exact absurd q c2
      refine wp_aload0 rfl ?_
      refine wp_iload1 rfl ?_
      refine wp_lald j rfl hk hj (by omega) rfl ?_
      refine wp_goto rfl ?_
      exact wp_lret rfl ⟨_, rfl, (ca_in hj (by omega)).symm, rfl⟩
theorem Cells_put_ok {h : Hp_} {a : Nat} {i x : Int32} (hk : hp_kd h a = 1) (h0 : a ≠ 0) (hl : hp_ln h a < 2 ^ 31) : cV 1 mn_Cells_put [.ref a, .int i, .int x] h (fun h' => h' = hp_rI h a (cp_ (hp_I h a) (hp_ln h a) i x)) := by
  refine cq_in (q := mi_Cells_put) (L := [some (.ref a), some (.int i), some (.int x)]) rfl (Nat.le_of_ble_eq_true rfl) rfl ?_
  show wq _ tb_Cells_put none 0 _ _ _ _
  refine wp_iload1 rfl ?_
  refine wp_if_lt rfl (fun c1 => ?_) (fun c1 => ?_)
  · skip
    exact wp_vret rfl ⟨rfl, by rw [cp_neg c1, hp_rI_self]⟩
  · skip
    refine wp_iload1 rfl ?_
    refine wp_aload0 rfl ?_
    refine wp_alen rfl h0 (Or.inl hk) ?_
    refine wp_icmp_ge rfl (fun c2 => ?_) (fun c2 => ?_)
    · skip
      exact wp_vret rfl ⟨rfl, by rw [cp_ge c1 c2 hl, hp_rI_self]⟩
    · 
      obtain q | q | ⟨j, hj, rfl⟩ := pk_ix i hl
      · exact absurd q c1
      · exact absurd q c2
      refine wp_aload0 rfl ?_
      refine wp_iload1 rfl ?_
      refine wp_iload2 rfl ?_
      refine wp_iast j rfl hk hj (by omega) rfl ?_
      exact wp_vret rfl ⟨rfl, by rw [cp_in hj (by omega)]⟩
theorem Cells_putLong_ok {h : Hp_} {a : Nat} {i : Int32} {x : Int64} (hk : hp_kd h a = 2) (h0 : a ≠ 0) (hl : hp_ln h a < 2 ^ 31) : cV 1 mn_Cells_putLong [.ref a, .int i, .long x] h (fun h' => h' = hp_rJ h a (cp_ (hp_J h a) (hp_ln h a) i x)) := by
  refine cq_in (q := mi_Cells_putLong) (L := [some (.ref a), some (.int i), some (.long x), none]) rfl (Nat.le_of_ble_eq_true rfl) rfl ?_
  show wq _ tb_Cells_putLong none 0 _ _ _ _
  refine wp_iload1 rfl ?_
  refine wp_if_lt rfl (fun c1 => ?_) (fun c1 => ?_)
  · skip
    exact wp_vret rfl ⟨rfl, by rw [cp_neg c1, hp_rJ_self]⟩
  · skip
    refine wp_iload1 rfl ?_
    refine wp_aload0 rfl ?_
    refine wp_alen rfl h0 (Or.inr (Or.inl hk)) ?_
    refine wp_icmp_ge rfl (fun c2 => ?_) (fun c2 => ?_)
    · skip
      exact wp_vret rfl ⟨rfl, by rw [cp_ge c1 c2 hl, hp_rJ_self]⟩
    · 
      obtain q | q | ⟨j, hj, rfl⟩ := pk_ix i hl
      · exact absurd q c1
      · exact absurd q c2
      refine wp_aload0 rfl ?_
      refine wp_iload1 rfl ?_
      refine wp_lload2 rfl ?_
      refine wp_last j rfl hk hj (by omega) rfl ?_
      exact wp_vret rfl ⟨rfl, by rw [cp_in hj (by omega)]⟩
theorem Cells_atN_ok {h : Hp_} {a m j : Nat} (hk : hp_kd h a = 1) (h0 : a ≠ 0) (hm : hp_ln h a = m) (hj : j < m) (hb : m < 2 ^ 31) : cI 1 mn_Cells_at [.ref a, .int (nI j)] h (fun x h' => x = hp_I h a j ∧ h' = h) := by
  refine cI_post (Cells_at_ok hk h0 (by omega)) ?_
  rintro x h' ⟨e1, e2⟩
  exact ⟨by rw [e1, hm, ca_in hj (by omega)], e2⟩
theorem Cells_longAtN_ok {h : Hp_} {a m j : Nat} (hk : hp_kd h a = 2) (h0 : a ≠ 0) (hm : hp_ln h a = m) (hj : j < m) (hb : m < 2 ^ 31) : cJ 1 mn_Cells_longAt [.ref a, .int (nI j)] h (fun x h' => x = hp_J h a j ∧ h' = h) := by
  refine cJ_post (Cells_longAt_ok hk h0 (by omega)) ?_
  rintro x h' ⟨e1, e2⟩
  exact ⟨by rw [e1, hm, ca_in hj (by omega)], e2⟩
theorem Cells_putN_ok {h : Hp_} {a m j : Nat} {x : Int32} (hk : hp_kd h a = 1) (h0 : a ≠ 0) (hm : hp_ln h a = m) (hj : j < m) (hb : m < 2 ^ 31) : cV 1 mn_Cells_put [.ref a, .int (nI j), .int x] h (fun h' => h' = hp_rI h a (va_up (hp_I h a) j x)) := by
  refine cV_post (Cells_put_ok hk h0 (by omega)) ?_
  rintro h' e
  rw [e, hm, cp_in hj (by omega)]
theorem Cells_putLongN_ok {h : Hp_} {a m j : Nat} {x : Int64} (hk : hp_kd h a = 2) (h0 : a ≠ 0) (hm : hp_ln h a = m) (hj : j < m) (hb : m < 2 ^ 31) : cV 1 mn_Cells_putLong [.ref a, .int (nI j), .long x] h (fun h' => h' = hp_rJ h a (va_up (hp_J h a) j x)) := by
  refine cV_post (Cells_putLong_ok hk h0 (by omega)) ?_
  rintro h' e
  rw [e, hm, cp_in hj (by omega)]
/-- bit i of bits -/
theorem Cells_isIn_ok {h : Hp_} {m i : Nat} (hm : m < 2 ^ 32) (hi : i < 32) : cI 1 mn_Cells_isIn [.int (nI m), .int (nI i)] h (fun x h' => x = bo_ (m.testBit i) ∧ h' = h) := by
  refine cq_in (q := mi_Cells_isIn) (L := [some (.int (nI m)), some (.int (nI i))]) rfl (Nat.le_of_ble_eq_true rfl) rfl ?_
  show wq _ tb_Cells_isIn none 0 _ _ _ _
  refine wp_iload0 rfl ?_
  refine wp_iload1 rfl ?_
  refine wp_iushrE (nI (m / 2 ^ i)) (nn_ushr m i hm hi) rfl ?_
  refine wp_iconst rfl ?_
  refine wp_iandE (nI (m / 2 ^ i % 2)) (nn_1 _) rfl ?_
  refine wp_iconst rfl ?_
  refine wp_icmp_neN (m / 2 ^ i % 2) (1) (by omega) (by omega) rfl (fun c1 => ?_) (fun c1 => ?_)
  · skip
    refine wp_iconst rfl ?_
    exact wp_zret rfl (by first | exact Or.inl rfl | exact Or.inr rfl) ⟨_, rfl, by rw [Nat.testBit_eq_decide_div_mod_eq, decide_eq_false c1]; rfl, rfl⟩
  · skip
    refine wp_iconst rfl ?_
    refine wp_goto rfl ?_
    exact wp_zret rfl (by first | exact Or.inl rfl | exact Or.inr rfl) ⟨_, rfl, by rw [Nat.testBit_eq_decide_div_mod_eq, decide_eq_true c1]; rfl, rfl⟩
theorem Cells_fill_ok {h : Hp_} {a m : Nat} {v : Int32} (hk : hp_kd h a = 1) (h0 : a ≠ 0) (hm : hp_ln h a = m) (hl : m < 2 ^ 30) : cV 1 mn_Cells_fill [.ref a, .int v] h (fun h' => h' = hp_rI h a (fun k => if k < m then v else hp_I h a k)) := by
  refine cq_in (q := mi_Cells_fill) (L := [some (.ref a), some (.int v), none]) rfl (Nat.le_of_ble_eq_true rfl) rfl ?_
  show wq _ tb_Cells_fill none 0 _ _ _ _
  have loop : ∀ k i, i ≤ m → m - i = k → wq 0 tb_Cells_fill none 2 [some (.ref a), some (.int v), some (.int (nI i))] [] (hp_rI h a (fun j => if j < i then v else hp_I h a j)) (fun r h' => r = none ∧ h' = hp_rI h a (fun k => if k < m then v else hp_I h a k)) := by
    intro k
    induction k with
    | zero =>
      intro i hi hk0
      obtain rfl : i = m := by omega
      refine wp_iload2 rfl ?_
      refine wp_aload0 rfl ?_
      refine wp_alenE rfl h0 (Or.inl hk) hm ?_
      refine wp_icmp_geN (i) (i) (by omega) (by omega) rfl (fun c1 => ?_) (fun c1 => ?_)
      · skip
        exact wp_vret rfl ⟨rfl, rfl⟩
      · exact absurd c1 (Nat.lt_irrefl _)
    | succ k ih =>
      intro i hi hk0
      refine wp_iload2 rfl ?_
      refine wp_aload0 rfl ?_
      refine wp_alenE rfl h0 (Or.inl hk) hm ?_
      refine wp_icmp_geN (i) (m) (by omega) (by omega) rfl (fun c1 => ?_) (fun c1 => ?_)
      · exact absurd c1 (by omega)
      · skip
        refine wp_aload0 rfl ?_
        refine wp_iload2 rfl ?_
        refine wp_iload1 rfl ?_
        refine wp_iast i rfl hk (show i < hp_ln h a by omega) (by omega) rfl ?_
        refine wp_iinc2N rfl rfl ?_
        refine wp_goto rfl ?_
        refine wq_hp ?_ (ih (i + 1) (by omega) (by omega))
        rw [sd_rI_eq, hp_rI_rI]
        refine congrArg (hp_rI h a) (funext fun j => ?_)
        unfold va_up
        dsimp only
        by_cases q : j = i
        · rw [if_pos q, if_pos (by omega)]
        · rw [if_neg q]
          by_cases q2 : j < i
          · rw [if_pos q2, if_pos (by omega)]
          · rw [if_neg q2, if_neg (by omega)]
  refine wp_iconst rfl ?_
  refine wp_istore2 rfl rfl ?_
  refine wq_hp ?_ (loop m 0 (by omega) rfl)
  rw [show (fun j => if j < 0 then v else hp_I h a j) = hp_I h a from funext fun j => if_neg (by omega), hp_rI_self]
theorem Cells_copy_ok {h : Hp_} {a b m p : Nat} (hka : hp_kd h a = 1) (hkb : hp_kd h b = 1) (ha0 : a ≠ 0) (hb0 : b ≠ 0) (hab : a ≠ b) (hm : hp_ln h a = m) (hp : hp_ln h b = p) (hmp : m = p) (hl : m < 2 ^ 30) : cV 1 mn_Cells_copy [.ref a, .ref b] h (fun h' => h' = hp_rI h b (fun k => if k < m then hp_I h a k else hp_I h b k)) := by
  subst hmp
  refine cq_in (q := mi_Cells_copy) (L := [some (.ref a), some (.ref b), none]) rfl (Nat.le_of_ble_eq_true rfl) rfl ?_
  show wq _ tb_Cells_copy none 0 _ _ _ _
  have loop : ∀ k i, i ≤ m → m - i = k → wq 0 tb_Cells_copy none 2 [some (.ref a), some (.ref b), some (.int (nI i))] [] (hp_rI h b (fun j => if j < i then hp_I h a j else hp_I h b j)) (fun r h' => r = none ∧ h' = hp_rI h b (fun k => if k < m then hp_I h a k else hp_I h b k)) := by
    intro k
    induction k with
    | zero =>
      intro i hi hk0
      obtain rfl : i = m := by omega
      refine wp_iload2 rfl ?_
      refine wp_aload0 rfl ?_
      refine wp_alenE rfl ha0 (Or.inl hka) hm ?_
      refine wp_icmp_geN (i) (i) (by omega) (by omega) rfl (fun c1 => ?_) (fun c1 => ?_)
      · skip
        exact wp_vret rfl ⟨rfl, rfl⟩
      · exact absurd c1 (Nat.lt_irrefl _)
    | succ k ih =>
      intro i hi hk0
      refine wp_iload2 rfl ?_
      refine wp_aload0 rfl ?_
      refine wp_alenE rfl ha0 (Or.inl hka) hm ?_
      refine wp_icmp_geN (i) (m) (by omega) (by omega) rfl (fun c1 => ?_) (fun c1 => ?_)
      · exact absurd c1 (by omega)
      · skip
        refine wp_iload2 rfl ?_
        refine wp_aload1 rfl ?_
        refine wp_alenE rfl hb0 (Or.inl hkb) hp ?_
        refine wp_icmp_geN (i) (m) (by omega) (by omega) rfl (fun c2 => ?_) (fun c2 => ?_)
        · exact absurd c2 (by omega)
        · skip
          refine wp_aload1 rfl ?_
          refine wp_iload2 rfl ?_
          refine wp_aload0 rfl ?_
          refine wp_iload2 rfl ?_
          refine wp_iald i rfl hka ha0 (show i < hp_ln h a by omega) (by omega) rfl ?_
          refine wp_iast i rfl hkb (show i < hp_ln h b by omega) (by omega) rfl ?_
          refine wp_iinc2N rfl rfl ?_
          refine wp_goto rfl ?_
          refine wq_hp ?_ (ih (i + 1) (by omega) (by omega))
          rw [sd_rI_eq, sd_rI_ne hab, hp_rI_rI]
          refine congrArg (hp_rI h b) (funext fun j => ?_)
          unfold va_up
          dsimp only
          by_cases q : j = i
          · rw [if_pos q, if_pos (by omega), q]
          · rw [if_neg q]
            by_cases q2 : j < i
            · rw [if_pos q2, if_pos (by omega)]
            · rw [if_neg q2, if_neg (by omega)]
  refine wp_iconst rfl ?_
  refine wp_istore2 rfl rfl ?_
  refine wq_hp ?_ (loop m 0 (by omega) rfl)
  rw [show (fun j => if j < 0 then hp_I h a j else hp_I h b j) = hp_I h b from funext fun j => if_neg (by omega), hp_rI_self]
/-- a row long enough is kept, else a new one is made -/
theorem Cells_grown_ok {h : Hp_} {a m c : Nat} (hk : hp_kd h a = 1) (h0 : a ≠ 0) (hm : hp_ln h a = m) (hl : m < 2 ^ 31) (hc : c ≤ 1000000) : cA 1 mn_Cells_grown [.ref a, .int (nI c)] h (fun x h' => (c ≤ m ∧ x = a ∧ h' = h) ∨ (m < c ∧ x = hp_nx h + 1 ∧ h' = hp_al h 1 c c)) := by
  refine cq_in (q := mi_Cells_grown) (L := [some (.ref a), some (.int (nI c))]) rfl (Nat.le_of_ble_eq_true rfl) rfl ?_
  show wq _ tb_Cells_grown none 0 _ _ _ _
  refine wp_iload1 rfl ?_
  refine wp_aload0 rfl ?_
  refine wp_alenE rfl h0 (Or.inl hk) hm ?_
  refine wp_icmp_gtN (c) (m) (by omega) (by omega) rfl (fun c1 => ?_) (fun c1 => ?_)
  · skip
    refine wp_iload1 rfl ?_
    refine wp_newa c hc rfl ?_
    exact wp_aret rfl ⟨_, rfl, Or.inr ⟨c1, rfl, rfl⟩⟩
  · skip
    refine wp_aload0 rfl ?_
    refine wp_goto rfl ?_
    exact wp_aret rfl ⟨_, rfl, Or.inl ⟨c1, rfl, rfl⟩⟩
theorem Cells_grownLong_ok {h : Hp_} {a m c : Nat} (hk : hp_kd h a = 2) (h0 : a ≠ 0) (hm : hp_ln h a = m) (hl : m < 2 ^ 31) (hc : c ≤ 1000000) : cA 1 mn_Cells_grownLong [.ref a, .int (nI c)] h (fun x h' => (c ≤ m ∧ x = a ∧ h' = h) ∨ (m < c ∧ x = hp_nx h + 1 ∧ h' = hp_al h 2 c c)) := by
  refine cq_in (q := mi_Cells_grownLong) (L := [some (.ref a), some (.int (nI c))]) rfl (Nat.le_of_ble_eq_true rfl) rfl ?_
  show wq _ tb_Cells_grownLong none 0 _ _ _ _
  refine wp_iload1 rfl ?_
  refine wp_aload0 rfl ?_
  refine wp_alenE rfl h0 (Or.inr (Or.inl hk)) hm ?_
  refine wp_icmp_gtN (c) (m) (by omega) (by omega) rfl (fun c1 => ?_) (fun c1 => ?_)
  · skip
    refine wp_iload1 rfl ?_
    refine wp_newa c hc rfl ?_
    exact wp_aret rfl ⟨_, rfl, Or.inr ⟨c1, rfl, rfl⟩⟩
  · skip
    refine wp_aload0 rfl ?_
    refine wp_goto rfl ?_
    exact wp_aret rfl ⟨_, rfl, Or.inl ⟨c1, rfl, rfl⟩⟩
-- Maps
theorem Maps_to_ok {h : Hp_} {m p : Nat} (hm : m < 2 ^ 31) (hp : p < 10) : cI 1 mn_Maps_to [.int (nI m), .int (nI p)] h (fun x h' => x = nI (m / 8 ^ p % 8) ∧ h' = h) := by
  refine cq_in (q := mi_Maps_to) (L := [some (.int (nI m)), some (.int (nI p))]) rfl (Nat.le_of_ble_eq_true rfl) rfl ?_
  show wq _ tb_Maps_to none 0 _ _ _ _
  refine wp_iload0 rfl ?_
  refine wp_iconst rfl ?_
  refine wp_iload1 rfl ?_
  refine wp_imulE (nI (3 * p)) (pk_mul 3 p) rfl ?_
  refine wp_iushrE (nI (m / 2 ^ (3 * p))) (nn_ushr m (3 * p) (by omega) (by omega)) rfl ?_
  refine wp_bipush rfl ?_
  refine wp_iandE (nI (m / 2 ^ (3 * p) % 8)) (nn_7 _) rfl ?_
  exact wp_iret rfl ⟨_, rfl, by rw [p8], rfl⟩
/-- of a packed map -/
theorem Maps_toP_ok {h : Hp_} {f : Nat → Nat} {p : Nat} (hf : ∀ i, i < 8 → f i < 8) (hp : p < 8) : cI 1 mn_Maps_to [.int (nI (pq_ f 8)), .int (nI p)] h (fun x h' => x = nI (f p) ∧ h' = h) := by
  refine cI_post (Maps_to_ok (by have := pq_lt24 hf; omega) (by omega)) ?_
  rintro x h' ⟨e1, e2⟩
  exact ⟨by rw [e1, pq_get 8 p hf hp], e2⟩
theorem Maps_with_ok {h : Hp_} {f : Nat → Nat} {p t : Nat} (hf : ∀ i, i < 8 → f i < 8) (hp : p < 8) (ht : t < 8) : cI 1 mn_Maps_with [.int (nI (pq_ f 8)), .int (nI p), .int (nI t)] h (fun x h' => x = nI (pq_ (va_up f p t) 8) ∧ h' = h) := by
  have hg : ∀ i, i < 8 → va_up f p t i < 8 := by
    intro i hi
    unfold va_up
    split
    · exact ht
    · exact hf i hi
  refine cq_in (q := mi_Maps_with) (L := [some (.int (nI (pq_ f 8))), some (.int (nI p)), some (.int (nI t))]) rfl (Nat.le_of_ble_eq_true rfl) rfl ?_
  show wq _ tb_Maps_with none 0 _ _ _ _
  refine wp_iload0 rfl ?_
  refine wp_bipush rfl ?_
  refine wp_iconst rfl ?_
  refine wp_iload1 rfl ?_
  refine wp_imulE (nI (3 * p)) (pk_mul 3 p) rfl ?_
  refine wp_ishl rfl ?_
  refine wp_iconst rfl ?_
  refine wp_ixor rfl ?_
  refine wp_iand rfl ?_
  refine wp_iload2 rfl ?_
  refine wp_bipush rfl ?_
  refine wp_iandE (nI t) (by rw [nn_7, Nat.mod_eq_of_lt ht]) rfl ?_
  refine wp_iconst rfl ?_
  refine wp_iload1 rfl ?_
  refine wp_imulE (nI (3 * p)) (pk_mul 3 p) rfl ?_
  refine wp_ishl rfl ?_
  refine wp_ior rfl ?_
  refine wp_iret rfl ?_
  refine ⟨_, rfl, ?_, rfl⟩
  refine b_ext fun i hi => ?_
  rw [b_or, b_and, b_xor, b_shl _ (by omega) _ hi, b_shl _ (by omega) _ hi, b_m1 i hi, bt_nI _ hi, bt_nI _ hi, pq_testBit hf, pq_testBit hg]
  rcases Nat.lt_or_ge i (3 * p) with q | q
  · rw [decide_eq_false (show ¬ 3 * p ≤ i by omega), sd_up_ne (show i / 3 ≠ p by omega)]
    simp
  · rw [decide_eq_true q, bt_nI _ (by omega), bt_nI _ (by omega)]
    have h7 : (7 : Nat).testBit (i - 3 * p) = decide (i - 3 * p < 3) := Nat.testBit_two_pow_sub_one 3 _
    rw [h7]
    rcases Nat.lt_or_ge i (3 * p + 3) with q2 | q2
    · rw [decide_eq_true (show i - 3 * p < 3 by omega), show i / 3 = p by omega, sd_up_eq, show i - 3 * p = i % 3 by omega, decide_eq_true (show i < 3 * 8 by omega)]
      simp
    · rw [decide_eq_false (show ¬ i - 3 * p < 3 by omega), sd_up_ne (show i / 3 ≠ p by omega)]
      have : t.testBit (i - 3 * p) = false := Nat.testBit_lt_two_pow (Nat.lt_of_lt_of_le ht (show 2 ^ 3 ≤ 2 ^ (i - 3 * p) from Nat.pow_le_pow_right (by omega) (by omega)))
      rw [this]
      simp
theorem Maps_thenOf_ok {h : Hp_} {f g : Nat → Nat} {m : Nat} (hf : ∀ i, i < 8 → f i < 8) (hg : ∀ i, i < 8 → g i < 8) (hm : m ≤ 8) : cI 2 mn_Maps_thenOf [.int (nI (pq_ f 8)), .int (nI (pq_ g 8)), .int (nI m)] h (fun x h' => x = nI (pq_ (fun p => g (f p)) m) ∧ h' = h) := by
  refine cq_in (q := mi_Maps_thenOf) (L := [some (.int (nI (pq_ f 8))), some (.int (nI (pq_ g 8))), some (.int (nI m)), none, none]) rfl (Nat.le_of_ble_eq_true rfl) rfl ?_
  show wq _ tb_Maps_thenOf none 0 _ _ _ _
  have loop : ∀ k i, i ≤ m → m - i = k → wq 1 tb_Maps_thenOf none 5 [some (.int (nI (pq_ f 8))), some (.int (nI (pq_ g 8))), some (.int (nI m)), some (.int (nI (pq_ (fun p => g (f p)) i))), some (.int (nI i))] [] h (fun r h' => ∃ x, r = some (.int x) ∧ x = nI (pq_ (fun p => g (f p)) m) ∧ h' = h) := by
    intro k
    induction k with
    | zero =>
      intro i hi hk0
      obtain rfl : i = m := by omega
      refine wp_iload4 rfl ?_
      refine wp_iload2 rfl ?_
      refine wp_icmp_geN (i) (i) (by omega) (by omega) rfl (fun c1 => ?_) (fun c1 => ?_)
      · skip
        refine wp_iload3 rfl ?_
        exact wp_iret rfl ⟨_, rfl, rfl, rfl⟩
      · exact absurd c1 (Nat.lt_irrefl _)
    | succ k ih =>
      intro i hi hk0
      refine wp_iload4 rfl ?_
      refine wp_iload2 rfl ?_
      refine wp_icmp_geN (i) (m) (by omega) (by omega) rfl (fun c1 => ?_) (fun c1 => ?_)
      · exact absurd c1 (by omega)
      · skip
        refine wp_iload3 rfl ?_
        refine wp_iload1 rfl ?_
        refine wp_iload0 rfl ?_
        refine wp_iload4 rfl ?_
        refine wp_callS2I rfl (Nat.le_of_ble_eq_true rfl) (Maps_toP_ok hf (show i < 8 by omega)) (Nat.le_of_ble_eq_true rfl) ?_
        rintro _ _ ⟨rfl, rfl⟩
        refine wp_callS2I rfl (Nat.le_of_ble_eq_true rfl) (Maps_toP_ok hg (hf i (by omega))) (Nat.le_of_ble_eq_true rfl) ?_
        rintro _ _ ⟨rfl, rfl⟩
        refine wp_iconst rfl ?_
        refine wp_iload4 rfl ?_
        refine wp_imulE (nI (3 * i)) (pk_mul 3 i) rfl ?_
        refine wp_ishlE (nI (g (f i) * 8 ^ i)) (by rw [nn_shl _ _ (by omega), p8]) rfl ?_
        refine wp_iorE (nI (pq_ (fun p => g (f p)) (i + 1))) (by rw [nn_or, pq_or (fun j hj => hg _ (hf j (by omega)))]; rfl) rfl ?_
        refine wp_istore3 rfl rfl ?_
        refine wp_iinc4N rfl rfl ?_
        refine wp_goto rfl ?_
        exact ih (i + 1) (by omega) (by omega)
  refine wp_iconst rfl ?_
  refine wp_istore3 rfl rfl ?_
  refine wp_iconst rfl ?_
  refine wp_istore4 rfl rfl ?_
  exact loop m 0 (by omega) rfl
theorem Maps_then_ok {h : Hp_} {f g : Nat → Nat} (hf : ∀ i, i < 8 → f i < 8) (hg : ∀ i, i < 8 → g i < 8) : cI 3 mn_Maps_then [.int (nI (pq_ f 8)), .int (nI (pq_ g 8))] h (fun x h' => x = nI (pq_ (fun p => g (f p)) 8) ∧ h' = h) := by
  refine cq_in (q := mi_Maps_then) (L := [some (.int (nI (pq_ f 8))), some (.int (nI (pq_ g 8)))]) rfl (Nat.le_of_ble_eq_true rfl) rfl ?_
  show wq _ tb_Maps_then none 0 _ _ _ _
  refine wp_iload0 rfl ?_
  refine wp_iload1 rfl ?_
  refine wp_bipush rfl ?_
  refine wp_callS3I rfl (Nat.le_of_ble_eq_true rfl) (Maps_thenOf_ok hf hg (Nat.le_refl 8)) (Nat.le_of_ble_eq_true rfl) ?_
  rintro _ _ ⟨rfl, rfl⟩
  exact wp_iret rfl ⟨_, rfl, rfl, rfl⟩
