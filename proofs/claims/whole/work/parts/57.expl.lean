-- ===== Orbit: clear, stepBy, explore =====
theorem Orbit_lying_ok {h : Hp_} {o a b c e i : Nat} {v : Int32} (S : S_Orbit h o a b c e) (hi : i < hp_ln h a) (hv : hp_I h a i = v) : cI 2 mn_Orbit_lying [.ref o, .int (nI i)] h (fun x h' => x = v ∧ h' = h) := by
  have ha0 := S.2.2.2.1.1
  have hl := S.2.2.2.2.2.2.1
  refine cq_in (q := mi_Orbit_lying) (L := [some (.ref o), some (.int (nI i))]) rfl (Nat.le_of_ble_eq_true rfl) rfl ?_
  show wq _ tb_Orbit_lying none 0 _ _ _ _
  refine wp_aload0 rfl ?_
  refine wp_getR rfl (Orbit_kd S) (Orbit_R4 S) (by first | decide | omega) ?_
  refine wp_iload1 rfl ?_
  refine wp_callS2I rfl (Nat.le_of_ble_eq_true rfl) (Cells_atV_ok (Orbit_k4 S) ha0 hi (by omega) hv) (Nat.le_of_ble_eq_true rfl) ?_
  refine pure_ ?_
  exact wp_iret rfl ⟨_, rfl, rfl, rfl⟩
theorem Orbit_previous_ok {h : Hp_} {o a b c e i v : Nat} (S : S_Orbit h o a b c e) (hi : i < hp_ln h b) (hv : hp_I h b i = nI v) (hb : v < 2 ^ 31) : cI 2 mn_Orbit_previous [.ref o, .int (nI i)] h (fun x h' => x = nI (v / 6) ∧ h' = h) := by
  have h0 := S.2.2.2.1.2.1
  have hl := S.2.2.2.2.2.2.2.1
  refine cq_in (q := mi_Orbit_previous) (L := [some (.ref o), some (.int (nI i))]) rfl (Nat.le_of_ble_eq_true rfl) rfl ?_
  show wq _ tb_Orbit_previous none 0 _ _ _ _
  refine wp_aload0 rfl ?_
  refine wp_getR rfl (Orbit_kd S) (Orbit_R5 S) (by first | decide | omega) ?_
  refine wp_iload1 rfl ?_
  refine wp_callS2I rfl (Nat.le_of_ble_eq_true rfl) (Cells_atV_ok (Orbit_k5 S) h0 hi (by omega) hv) (Nat.le_of_ble_eq_true rfl) ?_
  refine pure_ ?_
  refine wp_bipush rfl ?_
  refine wp_idivE (nI (v / 6)) (nI_ne0 (by omega) (by omega)) (pk_div (by omega) (by omega) (by omega)) rfl ?_
  exact wp_iret rfl ⟨_, rfl, rfl, rfl⟩
theorem Orbit_figureTo_ok {h : Hp_} {o a b c e i v : Nat} (S : S_Orbit h o a b c e) (hi : i < hp_ln h b) (hv : hp_I h b i = nI v) (hb : v < 2 ^ 31) : cI 2 mn_Orbit_figureTo [.ref o, .int (nI i)] h (fun x h' => x = nI (v % 6) ∧ h' = h) := by
  have h0 := S.2.2.2.1.2.1
  have hl := S.2.2.2.2.2.2.2.1
  refine cq_in (q := mi_Orbit_figureTo) (L := [some (.ref o), some (.int (nI i))]) rfl (Nat.le_of_ble_eq_true rfl) rfl ?_
  show wq _ tb_Orbit_figureTo none 0 _ _ _ _
  refine wp_aload0 rfl ?_
  refine wp_getR rfl (Orbit_kd S) (Orbit_R5 S) (by first | decide | omega) ?_
  refine wp_iload1 rfl ?_
  refine wp_callS2I rfl (Nat.le_of_ble_eq_true rfl) (Cells_atV_ok (Orbit_k5 S) h0 hi (by omega) hv) (Nat.le_of_ble_eq_true rfl) ?_
  refine pure_ ?_
  refine wp_bipush rfl ?_
  refine wp_iremE (nI (v % 6)) (nI_ne0 (by omega) (by omega)) (pk_rem (by omega) (by omega) (by omega)) rfl ?_
  exact wp_iret rfl ⟨_, rfl, rfl, rfl⟩
theorem Orbit_step_ok {h : Hp_} {o a b c e i f : Nat} {v : Int32} (S : S_Orbit h o a b c e) (hi : 6 * i + f < hp_ln h e) (hv : hp_I h e (6 * i + f) = v) : cI 2 mn_Orbit_step [.ref o, .int (nI i), .int (nI f)] h (fun x h' => x = v ∧ h' = h) := by
  have h0 := S.2.2.2.1.2.2.2
  have hl := S.2.2.2.2.2.2.2.2.2
  refine cq_in (q := mi_Orbit_step) (L := [some (.ref o), some (.int (nI i)), some (.int (nI f))]) rfl (Nat.le_of_ble_eq_true rfl) rfl ?_
  show wq _ tb_Orbit_step none 0 _ _ _ _
  refine wp_aload0 rfl ?_
  refine wp_getR rfl (Orbit_kd S) (Orbit_R7 S) (by first | decide | omega) ?_
  refine wp_bipush rfl ?_
  refine wp_iload1 rfl ?_
  refine wp_imulE (nI (6 * i)) (pk_mul _ _) rfl ?_
  refine wp_iload2 rfl ?_
  refine wp_iaddE (nI ((6 * i) + f)) (nI_add _ _) rfl ?_
  refine wp_callS2I rfl (Nat.le_of_ble_eq_true rfl) (Cells_atV_ok (Orbit_k7 S) h0 hi (by omega) hv) (Nat.le_of_ble_eq_true rfl) ?_
  refine pure_ ?_
  exact wp_iret rfl ⟨_, rfl, rfl, rfl⟩
/-- the rows of an orbit stand in the heap -/
def on_ (h : Hp_) (o a b c e : Nat) : Prop := o ≤ hp_nx h ∧ a ≤ hp_nx h ∧ b ≤ hp_nx h ∧ c ≤ hp_nx h ∧ e ≤ hp_nx h
/-- what a growth of one row can cost -/
theorem of_cost {o j m x x2 : Nat} {h h1 : Hp_} (g : of_ o j m h x x2 h1) (hm : m ∈ VL_) : hp_sl h1 + gg_ (hp_ln h x) ≤ hp_sl h + gg_ (hp_ln h1 x2) := by
  rcases g.2.2.2.2.2.2.2.2 with ⟨z1, z2⟩ | ⟨z1, z2, z3⟩
  · rw [z1, z2]; omega
  · have := gg_step z1 hm
    rw [z2, z3]
    omega
theorem of_cost6 {o j m x x2 : Nat} {h h1 : Hp_} (g : of_ o j (6 * m) h x x2 h1) (hm : m ∈ VL_) : hp_sl h1 + 6 * gg_ (hp_ln h x / 6) ≤ hp_sl h + 6 * gg_ (hp_ln h1 x2 / 6) := by
  rcases g.2.2.2.2.2.2.2.2 with ⟨z1, z2⟩ | ⟨z1, z2, z3⟩
  · rw [z1, z2]; omega
  · have := gg_step (show hp_ln h x / 6 < m by omega) hm
    rw [z2, z3, show 6 * m / 6 = m by omega]
    omega
/-- the cost of an orbit's rows -/
def oc2_ (h : Hp_) (a b c e : Nat) : Nat := gg_ (hp_ln h a) + gg_ (hp_ln h b) + gg_ (hp_ln h c) + 6 * gg_ (hp_ln h e / 6)
/-- a row that came instead of another: the same, or a new one -/
def nw2_ (h : Hp_) (x x2 : Nat) : Prop := x2 = x ∨ hp_nx h < x2
set_option maxRecDepth 4000 in
set_option maxHeartbeats 4000000 in
theorem Orbit_clear_ok {h : Hp_} {o a b c e n k : Nat} {kp : Bool} (S : S_Orbit h o a b c e) (N : on_ h o a b c e) (hn3 : 3 ≤ n) (hn : n ≤ 8) (hk : k ≤ n) (hkp : hp_I h o 0 = bo_ kp) : cV 2 mn_Orbit_clear [.ref o, .int (nI n), .int (nI k)] h (fun h' => ∃ a2 b2 c2 e2, S_Orbit h' o a2 b2 c2 e2 ∧ on_ h' o a2 b2 c2 e2 ∧ OI_ h' o a2 b2 c2 n k [] [] ∧ (kp = true → 6 * ce_ n k ≤ hp_ln h' e2) ∧ hp_I h' o 0 = bo_ kp ∧ ag_ (fun q => q = o ∨ q = c) h h' ∧ (nw2_ h a a2 ∧ nw2_ h b b2 ∧ nw2_ h c c2 ∧ nw2_ h e e2) ∧ hp_nx h' ≤ hp_nx h + 4 ∧ hp_sl h' + oc2_ h a b c e ≤ hp_sl h + oc2_ h' a2 b2 c2 e2 ∧ (hp_ln h' a2 ≤ max (hp_ln h a) (ce_ n k) ∧ hp_ln h' b2 ≤ max (hp_ln h b) (ce_ n k) ∧ hp_ln h' c2 ≤ max (hp_ln h c) (ce_ n k) ∧ hp_ln h' e2 ≤ max (hp_ln h e) (6 * ce_ n k))) := by
  obtain ⟨no, na, nb, nc, ne⟩ := N
  have hce := ce_le hn k
  have hVL : ce_ n k ∈ VL_ := ce_VL ⟨n, by omega⟩ hn3 ⟨k, by omega⟩ hk
  refine cq_in (q := mi_Orbit_clear) (L := [some (.ref o), some (.int (nI n)), some (.int (nI k)), none, none]) rfl (Nat.le_of_ble_eq_true rfl) rfl ?_
  show wq _ tb_Orbit_clear none 0 _ _ _ _
  refine wp_aload0 rfl ?_
  refine wp_iload1 rfl ?_
  refine wp_putI rfl (Orbit_kd S) ?_
  refine wp_aload0 rfl ?_
  refine wp_iload2 rfl ?_
  refine wp_putI rfl (Orbit_kd S) ?_
  refine wp_aload0 rfl ?_
  refine wp_iconst rfl ?_
  refine wp_putI rfl (Orbit_kd S) ?_
  refine wp_iconst rfl ?_
  refine wp_istore3 rfl rfl ?_
  refine wp_iconst rfl ?_
  refine wp_istore4 rfl rfl ?_
  refine wq_gen (fun h0 e0 => ?_)
  have F0 : ag_ (fun q => q = o) h h0 := by rw [e0]; exact ag_rI (P := fun q => q = o) (ag_rI (P := fun q => q = o) (ag_rI (P := fun q => q = o) (ag_refl _ _) (fun _ => rfl) _) (fun _ => rfl) _) (fun _ => rfl) _
  have S0 : S_Orbit h0 o a b c e := by rw [e0]; exact S
  have N0 : o ≤ hp_nx h0 ∧ a ≤ hp_nx h0 ∧ b ≤ hp_nx h0 ∧ c ≤ hp_nx h0 ∧ e ≤ hp_nx h0 := by rw [e0]; exact ⟨no, na, nb, nc, ne⟩
  have nx0 : hp_nx h0 = hp_nx h := by rw [e0]; rfl
  have sl0 : hp_sl h0 = hp_sl h := by rw [e0]; rfl
  have ln0 : hp_ln h0 = hp_ln h := by rw [e0]; rfl
  have i1 : hp_I h0 o 1 = nI n := by rw [e0, sd_rI_eq, sd_up_ne (by decide), sd_rI_eq, sd_up_ne (by decide), sd_rI_eq, sd_up_eq]
  have i2 : hp_I h0 o 2 = nI k := by rw [e0, sd_rI_eq, sd_up_ne (by decide), sd_rI_eq, sd_up_eq]
  have i3 : hp_I h0 o 3 = nI 0 := by rw [e0, sd_rI_eq, sd_up_eq]
  have i0 : hp_I h0 o 0 = bo_ kp := by rw [e0, sd_rI_eq, sd_up_ne (by decide), sd_rI_eq, sd_up_ne (by decide), sd_rI_eq, sd_up_ne (by decide)]; exact hkp
  refine wq_loc (L' := [some (.ref o), some (.int (nI n)), some (.int (nI k)), some (.int (nI (ce_ n 0))), some (.int (nI 0))]) rfl ?_
  refine wq_loop (X := Unit) (fun i x => [some (.ref o), some (.int (nI n)), some (.int (nI k)), some (.int (nI (ce_ n i))), some (.int (nI i))]) (fun i x h1 => h1 = h0) (k) (0) (()) ?_ ?_ ?_ ?_
  · omega
  · rfl
  · intro i x h1 hi I go
    show wq _ tb_Orbit_clear _ 20 [some (.ref o), some (.int (nI n)), some (.int (nI k)), some (.int (nI (ce_ n i))), some (.int (nI i))] [] h1 _
    obtain rfl := I
    refine wp_iload4 rfl ?_
    refine wp_aload0 rfl ?_
    refine wp_getIE rfl (Orbit_kd S0) (show _ = nI k from i2) ?_
    refine wp_icmp_geN i k (by omega) (by omega) rfl (fun z => absurd z (by omega)) (fun _ => ?_)
    refine wp_iload3 rfl ?_
    refine wp_aload0 rfl ?_
    refine wp_getIE rfl (Orbit_kd S0) (show _ = nI n from i1) ?_
    refine wp_iload4 rfl ?_
    refine wp_isubE (nI (n - i)) (pk_sub (by omega)) rfl ?_
    refine wp_imulE (nI ((ce_ n i) * (n - i))) (pk_mul _ _) rfl ?_
    refine wp_istore3 rfl rfl ?_
    refine wp_iinc4N rfl rfl ?_
    refine wp_goto rfl ?_
    exact go () _ rfl
  · intro x h1 I
    show wq _ tb_Orbit_clear _ 20 [some (.ref o), some (.int (nI n)), some (.int (nI k)), some (.int (nI (ce_ n k))), some (.int (nI k))] [] h1 _
    obtain rfl := I
    have ⟨ha0, hb0, hc0, he0⟩ := S0.2.2.2.1
    refine wp_iload4 rfl ?_
    refine wp_aload0 rfl ?_
    refine wp_getIE rfl (Orbit_kd S0) (show _ = nI k from i2) ?_
    refine wp_icmp_geN k k (by omega) (by omega) rfl (fun _ => ?_) (fun z => absurd z (by omega))
    refine wp_aload0 rfl ?_
    refine wp_aload0 rfl ?_
    refine wp_getR rfl (Orbit_kd S0) (Orbit_R4 S0) (by first | decide | omega) ?_
    refine wp_iload3 rfl ?_
    have ⟨hla, hlb, hlc, hle⟩ := S0.2.2.2.2.2.2
    refine wp_callS2A rfl (Nat.le_of_ble_eq_true rfl) (Cells_grown_ok (Orbit_k4 S0) ha0 rfl (by omega) (by omega)) (Nat.le_of_ble_eq_true rfl) ?_
    rintro a2 h2 g2
    have ha20 : a2 ≠ 0 := by rcases g2 with ⟨-, y, -⟩ | ⟨-, y, -⟩ <;> omega
    have hk2 : hp_kd h2 o = 16 := by
      rcases g2 with ⟨-, -, y⟩ | ⟨-, -, y⟩
      · rw [y]; exact Orbit_kd S0
      · rw [y, (al_old N0.1).1]; exact Orbit_kd S0
    refine wp_putR rfl hk2 ha20 ?_
    refine wq_gen (fun h3 e3 => ?_)
    have G3 : of_ o 4 (ce_ n k) h1 a a2 h3 := of_og N0.1 N0.2.1 ha0 (Orbit_k4 S0) (Orbit_R4 S0) (by
      rcases g2 with ⟨y1, y2, y3⟩ | ⟨y1, y2, y3⟩
      · refine Or.inl ⟨y1, y2, ?_⟩
        have hR := Orbit_R4 S0
        rw [e3, y3, y2, show va_up (hp_R h1 o) 4 a = hp_R h1 o by rw [← hR]; exact vu_self _ _, hp_rR_self]
      · exact Or.inr ⟨y1, y2, by rw [e3, y3]⟩)
    obtain ⟨S3, N3⟩ := S_Orbit_g4 S0 N0 (show ce_ n k ≤ 300000 by omega) G3
    have ⟨ha3, hb3, hc3, he3⟩ := S3.2.2.2.1
    have ⟨hla3, hlb3, hlc3, hle3⟩ := S3.2.2.2.2.2.2
    refine wp_aload0 rfl ?_
    refine wp_aload0 rfl ?_
    refine wp_getR rfl (Orbit_kd S3) (Orbit_R5 S3) (by first | decide | omega) ?_
    refine wp_iload3 rfl ?_
    refine wp_callS2A rfl (Nat.le_of_ble_eq_true rfl) (Cells_grown_ok (Orbit_k5 S3) hb3 rfl (by omega) (by omega)) (Nat.le_of_ble_eq_true rfl) ?_
    rintro b2 h4 g4
    have hb20 : b2 ≠ 0 := by rcases g4 with ⟨-, y, -⟩ | ⟨-, y, -⟩ <;> omega
    have hk4 : hp_kd h4 o = 16 := by
      rcases g4 with ⟨-, -, y⟩ | ⟨-, -, y⟩
      · rw [y]; exact Orbit_kd S3
      · rw [y, (al_old N3.1).1]; exact Orbit_kd S3
    refine wp_putR rfl hk4 hb20 ?_
    refine wq_gen (fun h5 e5 => ?_)
    have G5 : of_ o 5 (ce_ n k) h3 b b2 h5 := of_og N3.1 N3.2.2.1 hb3 (Orbit_k5 S3) (Orbit_R5 S3) (by
      rcases g4 with ⟨y1, y2, y3⟩ | ⟨y1, y2, y3⟩
      · refine Or.inl ⟨y1, y2, ?_⟩
        have hR := Orbit_R5 S3
        rw [e5, y3, y2, show va_up (hp_R h3 o) 5 b = hp_R h3 o by rw [← hR]; exact vu_self _ _, hp_rR_self]
      · exact Or.inr ⟨y1, y2, by rw [e5, y3]⟩)
    obtain ⟨S5, N5⟩ := S_Orbit_g5 S3 N3 (show ce_ n k ≤ 300000 by omega) G5
    have ⟨ha5, hb5, hc5, he5⟩ := S5.2.2.2.1
    have ⟨hla5, hlb5, hlc5, hle5⟩ := S5.2.2.2.2.2.2
    refine wp_aload0 rfl ?_
    refine wp_aload0 rfl ?_
    refine wp_getR rfl (Orbit_kd S5) (Orbit_R6 S5) (by first | decide | omega) ?_
    refine wp_iload3 rfl ?_
    refine wp_callS2A rfl (Nat.le_of_ble_eq_true rfl) (Cells_grown_ok (Orbit_k6 S5) hc5 rfl (by omega) (by omega)) (Nat.le_of_ble_eq_true rfl) ?_
    rintro c2 h6 g6
    have hc20 : c2 ≠ 0 := by rcases g6 with ⟨-, y, -⟩ | ⟨-, y, -⟩ <;> omega
    have hk6 : hp_kd h6 o = 16 := by
      rcases g6 with ⟨-, -, y⟩ | ⟨-, -, y⟩
      · rw [y]; exact Orbit_kd S5
      · rw [y, (al_old N5.1).1]; exact Orbit_kd S5
    refine wp_putR rfl hk6 hc20 ?_
    refine wq_gen (fun h7 e7 => ?_)
    have G7 : of_ o 6 (ce_ n k) h5 c c2 h7 := of_og N5.1 N5.2.2.2.1 hc5 (Orbit_k6 S5) (Orbit_R6 S5) (by
      rcases g6 with ⟨y1, y2, y3⟩ | ⟨y1, y2, y3⟩
      · refine Or.inl ⟨y1, y2, ?_⟩
        have hR := Orbit_R6 S5
        rw [e7, y3, y2, show va_up (hp_R h5 o) 6 c = hp_R h5 o by rw [← hR]; exact vu_self _ _, hp_rR_self]
      · exact Or.inr ⟨y1, y2, by rw [e7, y3]⟩)
    obtain ⟨S7, N7⟩ := S_Orbit_g6 S5 N5 (show ce_ n k ≤ 300000 by omega) G7
    have ⟨ha7, hb7, hc7, he7⟩ := S7.2.2.2.1
    have ⟨hla7, hlb7, hlc7, hle7⟩ := S7.2.2.2.2.2.2
    have ⟨d1, d2, d3, d4, d5, d6⟩ := S7.2.2.2.2.1
    have ⟨q1, q2, q3, q4⟩ := S7.2.2.2.2.2.1
    have on1 : hp_I h7 o = hp_I h1 o := by rw [(G7.1 o N5.1).2.2.1, (G5.1 o N3.1).2.2.1, (G3.1 o N0.1).2.2.1]
    have lna : hp_ln h7 a2 = hp_ln h3 a2 := by rw [(G7.1 a2 N5.2.1).2.1, (G5.1 a2 N3.2.1).2.1]
    have lnb : hp_ln h7 b2 = hp_ln h5 b2 := (G7.1 b2 N5.2.2.1).2.1
    have lnb1 : hp_ln h3 b = hp_ln h1 b := (G3.1 b N0.2.2.1).2.1
    have lnc1 : hp_ln h5 c = hp_ln h1 c := by rw [(G5.1 c N3.2.2.2.1).2.1, (G3.1 c N0.2.2.2.1).2.1]
    have lne1 : hp_ln h7 e = hp_ln h1 e := by rw [(G7.1 e N5.2.2.2.2).2.1, (G5.1 e N3.2.2.2.2).2.1, (G3.1 e N0.2.2.2.2).2.1]
    have cost7 : hp_sl h7 + oc2_ h1 a b c e ≤ hp_sl h1 + oc2_ h7 a2 b2 c2 e := by
      have x3 := of_cost G3 hVL
      have x5 := of_cost G5 hVL
      have x7 := of_cost G7 hVL
      unfold oc2_
      rw [lna, lnb, lne1]
      rw [lnb1] at x5
      rw [lnc1] at x7
      omega
    have A7 : ag_ (fun q => q = o) h1 h7 := ag_trans (ag_trans (of_ag G3) (of_ag G5) (fun _ _ y => y)) (of_ag G7) (fun _ _ y => y)
    have nx7 : hp_nx h7 ≤ hp_nx h1 + 3 := by have := G3.2.2.2.2.2.2.2.1.2; have := G5.2.2.2.2.2.2.2.1.2; have := G7.2.2.2.2.2.2.2.1.2; omega
    have b5a : nw2_ h1 b b2 := by
      rcases G5.2.2.2.2.2.2.1.2 with y | y
      · exact Or.inl y
      · exact Or.inr (Nat.lt_of_le_of_lt G3.2.2.2.2.2.2.2.1.1 y)
    have c7a : nw2_ h1 c c2 := by
      rcases G7.2.2.2.2.2.2.1.2 with y | y
      · exact Or.inl y
      · exact Or.inr (Nat.lt_of_le_of_lt (Nat.le_trans G3.2.2.2.2.2.2.2.1.1 G5.2.2.2.2.2.2.2.1.1) y)
    refine wp_aload0 rfl ?_
    refine wp_getR rfl (Orbit_kd S7) (Orbit_R6 S7) (by first | decide | omega) ?_
    refine wp_iconst rfl ?_
    refine wp_callS2V rfl (Nat.le_of_ble_eq_true rfl) (Cells_fill_ok (Orbit_k6 S7) hc7 rfl (by omega)) (Nat.le_of_ble_eq_true rfl) ?_
    rintro h8 e8
    have z8 : fz_ (fun q => q = c2) h7 h8 := by rw [e8]; exact fz_rI (P := fun q => q = c2) (fz_refl _ _) rfl _
    have S8 : S_Orbit h8 o a2 b2 c2 e := by rw [e8]; exact S7
    have N8 : on_ h8 o a2 b2 c2 e := by rw [e8]; exact N7
    have r8 : ∀ j, j < hp_ln h7 c2 → hp_I h8 c2 j = -1 := fun j hj => by rw [e8, sd_rI_eq]; exact if_pos hj
    have o8 : hp_I h8 o = hp_I h1 o := by rw [fz_I z8 q3, on1]
    have ln8 : hp_ln h8 = hp_ln h7 := fz_ln z8
    have OI8 : OI_ h8 o a2 b2 c2 n k [] [] := by
      refine ⟨by rw [o8]; exact i1, by rw [o8]; exact i2, by rw [o8]; exact i3, ⟨by rw [ln8, lna]; exact G3.2.2.2.2.1.1, by rw [ln8, lnb]; exact G5.2.2.2.2.1.1, by rw [ln8]; exact G7.2.2.2.2.1.1⟩, List.nodup_nil, fun w hw => absurd hw List.not_mem_nil, fun i w hw => (by cases hw), fun w W _ => r8 _ (Nat.lt_of_lt_of_le (rk_lt W.1 k (Nat.le_refl k)) G7.2.2.2.2.1.1), rfl, fun i x hx => (by cases hx)⟩
    have A8 : ag_ (fun q => q = o ∨ q = c) h h8 := ag_trans (ag_trans F0 A7 (fun _ _ y => y) |> ag_mono (fun _ _ y => Or.inl y)) (ag_fz z8) (fun q hq y => by
      rcases c7a with z | z
      · exact Or.inr (by rw [y, z])
      · omega)
    have sl8 : hp_sl h8 = hp_sl h7 := z8.1.2.1
    have nx8 : hp_nx h8 = hp_nx h7 := z8.1.1
    refine wp_aload0 rfl ?_
    refine wp_getZE rfl (Orbit_kd S8) (show _ = bo_ kp from by rw [o8]; exact i0) ?_
    refine wp_if_eqB rfl (fun c9 => ?_) (fun c9 => ?_)
    · skip
      refine wp_vret rfl ?_
      refine ⟨rfl, a2, b2, c2, e, S8, N8, OI8, fun y => (by rw [c9] at y; cases y), by rw [o8]; exact i0, A8, ⟨?_, ?_, ?_, Or.inl rfl⟩, by omega, ?_, ⟨?_, ?_, ?_, ?_⟩⟩
      · rcases G3.2.2.2.2.2.2.1.2 with y | y
        · exact Or.inl y
        · exact Or.inr (by omega)
      · rcases b5a with y | y
        · exact Or.inl y
        · exact Or.inr (by omega)
      · rcases c7a with y | y
        · exact Or.inl y
        · exact Or.inr (by omega)
      · have e1 : oc2_ h8 a2 b2 c2 e = oc2_ h7 a2 b2 c2 e := by unfold oc2_; rw [ln8]
        have e2 : oc2_ h a b c e = oc2_ h1 a b c e := by unfold oc2_; rw [ln0]
        rw [e1, e2]
        omega
      · rw [ln8, lna, ← ln0]; exact G3.2.2.2.2.1.2
      · rw [ln8, lnb, ← ln0, ← lnb1]; exact G5.2.2.2.2.1.2
      · rw [ln8, ← ln0, ← lnc1]; exact G7.2.2.2.2.1.2
      · rw [ln8, lne1, ln0]; exact Nat.le_max_left _ _
    · skip
      have ⟨ha8, hb8, hc8, he8⟩ := S8.2.2.2.1
      have ⟨hla8, hlb8, hlc8, hle8⟩ := S8.2.2.2.2.2.2
      refine wp_aload0 rfl ?_
      refine wp_aload0 rfl ?_
      refine wp_getR rfl (Orbit_kd S8) (Orbit_R7 S8) (by first | decide | omega) ?_
      refine wp_bipush rfl ?_
      refine wp_iload3 rfl ?_
      refine wp_imulE (nI (6 * (ce_ n k))) (pk_mul _ _) rfl ?_
      refine wp_callS2A rfl (Nat.le_of_ble_eq_true rfl) (Cells_grown_ok (Orbit_k7 S8) he8 rfl (by omega) (by omega)) (Nat.le_of_ble_eq_true rfl) ?_
      rintro e2 h9 g9
      have he20 : e2 ≠ 0 := by rcases g9 with ⟨-, y, -⟩ | ⟨-, y, -⟩ <;> omega
      have hk9 : hp_kd h9 o = 16 := by
        rcases g9 with ⟨-, -, y⟩ | ⟨-, -, y⟩
        · rw [y]; exact Orbit_kd S8
        · rw [y, (al_old N8.1).1]; exact Orbit_kd S8
      refine wp_putR rfl hk9 he20 ?_
      refine wq_gen (fun h10 e10 => ?_)
      have G10 : of_ o 7 (6 * ce_ n k) h8 e e2 h10 := of_og N8.1 N8.2.2.2.2 he8 (Orbit_k7 S8) (Orbit_R7 S8) (by
        rcases g9 with ⟨y1, y2, y3⟩ | ⟨y1, y2, y3⟩
        · refine Or.inl ⟨y1, y2, ?_⟩
          have hR := Orbit_R7 S8
          rw [e10, y3, y2, show va_up (hp_R h8 o) 7 e = hp_R h8 o by rw [← hR]; exact vu_self _ _, hp_rR_self]
        · exact Or.inr ⟨y1, y2, by rw [e10, y3]⟩)
      obtain ⟨S10, N10⟩ := S_Orbit_g7 S8 N8 (show 6 * ce_ n k ≤ 300000 by omega) G10
      have cost10 := of_cost6 G10 hVL
      have la : hp_ln h10 a2 = hp_ln h8 a2 := (G10.1 a2 N8.2.1).2.1
      have lb : hp_ln h10 b2 = hp_ln h8 b2 := (G10.1 b2 N8.2.2.1).2.1
      have lc : hp_ln h10 c2 = hp_ln h8 c2 := (G10.1 c2 N8.2.2.2.1).2.1
      have Ia : hp_I h10 a2 = hp_I h8 a2 := (G10.1 a2 N8.2.1).2.2.1
      have Ib : hp_I h10 b2 = hp_I h8 b2 := (G10.1 b2 N8.2.2.1).2.2.1
      have Ic : hp_I h10 c2 = hp_I h8 c2 := (G10.1 c2 N8.2.2.2.1).2.2.1
      have Io : hp_I h10 o = hp_I h8 o := (G10.1 o N8.1).2.2.1
      have nx10 := G10.2.2.2.2.2.2.2.1.2
      have nx10b := G10.2.2.2.2.2.2.2.1.1
      have A10 : ag_ (fun q => q = o ∨ q = c) h h10 := ag_trans A8 (of_ag G10) (fun _ _ y => Or.inl y)
      have OI10 : OI_ h10 o a2 b2 c2 n k [] [] := by
        unfold OI_ at OI8 ⊢
        rw [Ia, Ib, Ic, Io, la, lb, lc]
        exact OI8
      refine wp_vret rfl ?_
      refine ⟨rfl, a2, b2, c2, e2, S10, N10, OI10, fun _ => G10.2.2.2.2.1.1, by rw [Io, o8]; exact i0, A10, ⟨?_, ?_, ?_, ?_⟩, by omega, ?_, ⟨?_, ?_, ?_, ?_⟩⟩
      · rcases G3.2.2.2.2.2.2.1.2 with y | y
        · exact Or.inl y
        · exact Or.inr (by omega)
      · rcases b5a with y | y
        · exact Or.inl y
        · exact Or.inr (by omega)
      · rcases c7a with y | y
        · exact Or.inl y
        · exact Or.inr (by omega)
      · rcases G10.2.2.2.2.2.2.1.2 with y | y
        · exact Or.inl y
        · refine Or.inr (Nat.lt_of_le_of_lt ?_ y)
          have := A8.1
          omega
      · have e1 : oc2_ h10 a2 b2 c2 e2 + 6 * gg_ (hp_ln h8 e / 6) = oc2_ h8 a2 b2 c2 e + 6 * gg_ (hp_ln h10 e2 / 6) := by unfold oc2_; rw [la, lb, lc]; omega
        have e3 : oc2_ h8 a2 b2 c2 e = oc2_ h7 a2 b2 c2 e := by unfold oc2_; rw [ln8]
        have e2 : oc2_ h a b c e = oc2_ h1 a b c e := by unfold oc2_; rw [ln0]
        omega
      · rw [la, ln8, lna, ← ln0]; exact G3.2.2.2.2.1.2
      · rw [lb, ln8, lnb, ← ln0, ← lnb1]; exact G5.2.2.2.2.1.2
      · rw [lc, ln8, ← ln0, ← lnc1]; exact G7.2.2.2.2.1.2
      · rw [← ln0, ← lne1, ← ln8]; exact G10.2.2.2.2.1.2
