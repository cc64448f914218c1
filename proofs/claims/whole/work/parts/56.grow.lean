-- ===== Orbit, the rest: rows that grow, all lyings explored =====
theorem Cells_atV_ok {h : Hp_} {a j : Nat} {v : Int32} (hk : hp_kd h a = 1) (h0 : a ≠ 0) (hj : j < hp_ln h a) (hl : hp_ln h a < 2 ^ 31) (hv : hp_I h a j = v) : cI 1 mn_Cells_at [.ref a, .int (nI j)] h (fun x h' => x = v ∧ h' = h) := pI_ hv (Cells_atN_ok hk h0 rfl hj hl)
theorem hp_rR_self (h : Hp_) (c : Nat) : hp_rR h c (hp_R h c) = h := by
  obtain ⟨h1, h2, h3, h4, h5, h6, h7⟩ := h
  show (h1, h2, h3, h4, h5, h6, va_up h7 c (h7 c)) = _
  rw [vu_self]
/-- a row grown, and put into a field -/
def og_ (o j m : Nat) (h : Hp_) (x x2 : Nat) (h1 : Hp_) : Prop := (m ≤ hp_ln h x ∧ x2 = x ∧ h1 = h) ∨ (hp_ln h x < m ∧ x2 = hp_nx h + 1 ∧ h1 = hp_rR (hp_al h 1 m m) o (va_up (hp_R (hp_al h 1 m m) o) j x2))
theorem al_old {h : Hp_} {t n z c : Nat} (hc : c ≤ hp_nx h) : hp_kd (hp_al h t n z) c = hp_kd h c ∧ hp_ln (hp_al h t n z) c = hp_ln h c ∧ hp_I (hp_al h t n z) c = hp_I h c ∧ hp_J (hp_al h t n z) c = hp_J h c ∧ hp_R (hp_al h t n z) c = hp_R h c := by
  have ne : c ≠ hp_nx h + 1 := by omega
  exact ⟨sd_up_ne ne, sd_up_ne ne, sd_up_ne ne, sd_up_ne ne, sd_up_ne ne⟩
theorem al_new {h : Hp_} {t n z : Nat} : hp_kd (hp_al h t n z) (hp_nx h + 1) = t ∧ hp_ln (hp_al h t n z) (hp_nx h + 1) = n ∧ hp_I (hp_al h t n z) (hp_nx h + 1) = (fun _ => 0) := ⟨sd_up_eq, sd_up_eq, sd_up_eq⟩
/-- what a growth keeps and gives -/
def of_ (o j m : Nat) (h : Hp_) (x x2 : Nat) (h1 : Hp_) : Prop := (∀ q, q ≤ hp_nx h → hp_kd h1 q = hp_kd h q ∧ hp_ln h1 q = hp_ln h q ∧ hp_I h1 q = hp_I h q ∧ hp_J h1 q = hp_J h q ∧ (q ≠ o → hp_R h1 q = hp_R h q)) ∧ (∀ k, k ≠ j → hp_R h1 o k = hp_R h o k) ∧ hp_R h1 o j = x2 ∧ hp_kd h1 x2 = 1 ∧ (m ≤ hp_ln h1 x2 ∧ hp_ln h1 x2 ≤ max (hp_ln h x) m) ∧ x2 ≠ 0 ∧ (x2 ≤ hp_nx h1 ∧ (x2 = x ∨ hp_nx h < x2)) ∧ (hp_nx h ≤ hp_nx h1 ∧ hp_nx h1 ≤ hp_nx h + 1) ∧ ((hp_ln h1 x2 = hp_ln h x ∧ hp_sl h1 = hp_sl h) ∨ (hp_ln h x < m ∧ hp_ln h1 x2 = m ∧ hp_sl h1 = hp_sl h + m))
theorem of_og {o j m x x2 : Nat} {h h1 : Hp_} (ho : o ≤ hp_nx h) (hx : x ≤ hp_nx h) (h0 : x ≠ 0) (hk : hp_kd h x = 1) (hR : hp_R h o j = x) (g : og_ o j m h x x2 h1) : of_ o j m h x x2 h1 := by
  rcases g with ⟨g1, rfl, rfl⟩ | ⟨g1, rfl, rfl⟩
  · exact ⟨fun q _ => ⟨rfl, rfl, rfl, rfl, fun _ => rfl⟩, fun k _ => rfl, hR, hk, ⟨g1, Nat.le_max_left _ _⟩, h0, ⟨hx, Or.inl rfl⟩, ⟨Nat.le_refl _, Nat.le_succ _⟩, Or.inl ⟨rfl, rfl⟩⟩
  · have n := @al_new h 1 m m
    have eo := @al_old h 1 m m o ho
    refine ⟨fun q hq => ?_, fun k hkj => ?_, ?_, n.1, ⟨Nat.le_of_eq n.2.1.symm, Nat.le_trans (Nat.le_of_eq n.2.1) (Nat.le_max_right _ _)⟩, by omega, ⟨Nat.le_refl _, Or.inr (Nat.lt_succ_self _)⟩, ⟨Nat.le_succ _, Nat.le_refl _⟩, Or.inr ⟨g1, n.2.1, rfl⟩⟩
    · have e := @al_old h 1 m m q hq
      exact ⟨e.1, e.2.1, e.2.2.1, e.2.2.2.1, fun hqo => (sd_up_ne hqo).trans e.2.2.2.2⟩
    · show va_up (hp_R (hp_al h 1 m m)) o (va_up (hp_R (hp_al h 1 m m) o) j (hp_nx h + 1)) o k = _
      rw [sd_up_eq, sd_up_ne hkj, eo.2.2.2.2]
    · show va_up (hp_R (hp_al h 1 m m)) o (va_up (hp_R (hp_al h 1 m m) o) j (hp_nx h + 1)) o j = _
      rw [sd_up_eq, sd_up_eq]
theorem of_ag {o j m x x2 : Nat} {h h1 : Hp_} (g : of_ o j m h x x2 h1) : ag_ (fun q => q = o) h h1 := by
  refine ⟨g.2.2.2.2.2.2.2.1.1, ?_, fun c hc => ⟨(g.1 c hc).1, (g.1 c hc).2.1, fun hP => ⟨(g.1 c hc).2.2.1, (g.1 c hc).2.2.2.1, (g.1 c hc).2.2.2.2 hP⟩⟩⟩
  rcases g.2.2.2.2.2.2.2.2 with z | z <;> omega

theorem S_Orbit_g4 {h h1 : Hp_} {o a b c e m x2 : Nat} (S : S_Orbit h o a b c e) (hn : o ≤ hp_nx h ∧ a ≤ hp_nx h ∧ b ≤ hp_nx h ∧ c ≤ hp_nx h ∧ e ≤ hp_nx h) (hm : m ≤ 300000) (g : of_ o 4 m h a x2 h1) : S_Orbit h1 o x2 b c e ∧ (o ≤ hp_nx h1 ∧ x2 ≤ hp_nx h1 ∧ b ≤ hp_nx h1 ∧ c ≤ hp_nx h1 ∧ e ≤ hp_nx h1) := by
  obtain ⟨no, na, nb, nc, ne⟩ := hn
  obtain ⟨s1, ⟨r1, r2, r3, r4⟩, ⟨k1, k2, k3, k4⟩, ⟨z1, z2, z3, z4⟩, ⟨d1, d2, d3, d4, d5, d6⟩, ⟨o1, o2, o3, o4⟩, l1, l2, l3, l4⟩ := S
  obtain ⟨g1, g2, g3, g4, ⟨g5, g6⟩, g7, ⟨g8, g9⟩, ⟨g10, g11⟩, -⟩ := g
  have hmx : hp_ln h1 x2 ≤ 300000 := Nat.le_trans g6 (Nat.max_le.mpr ⟨by assumption, hm⟩)
  refine ⟨⟨?_, ⟨?_, ?_, ?_, ?_⟩, ⟨?_, ?_, ?_, ?_⟩, ⟨?_, ?_, ?_, ?_⟩, ⟨?_, ?_, ?_, ?_, ?_, ?_⟩, ⟨?_, ?_, ?_, ?_⟩, ?_, ?_, ?_, ?_⟩, ?_, ?_, ?_, ?_, ?_⟩
  · rw [(g1 o no).1]; exact s1
  · exact g3
  · rw [g2 5 (by decide)]; exact r2
  · rw [g2 6 (by decide)]; exact r3
  · rw [g2 7 (by decide)]; exact r4
  · exact g4
  · rw [(g1 b nb).1]; exact k2
  · rw [(g1 c nc).1]; exact k3
  · rw [(g1 e ne).1]; exact k4
  · exact g7
  · exact z2
  · exact z3
  · exact z4
  all_goals first | omega | (rcases g9 with y | y <;> omega) | skip
  all_goals first | exact hmx | (rw [(g1 _ (by assumption)).2.1]; assumption)
theorem S_Orbit_g5 {h h1 : Hp_} {o a b c e m x2 : Nat} (S : S_Orbit h o a b c e) (hn : o ≤ hp_nx h ∧ a ≤ hp_nx h ∧ b ≤ hp_nx h ∧ c ≤ hp_nx h ∧ e ≤ hp_nx h) (hm : m ≤ 300000) (g : of_ o 5 m h b x2 h1) : S_Orbit h1 o a x2 c e ∧ (o ≤ hp_nx h1 ∧ a ≤ hp_nx h1 ∧ x2 ≤ hp_nx h1 ∧ c ≤ hp_nx h1 ∧ e ≤ hp_nx h1) := by
  obtain ⟨no, na, nb, nc, ne⟩ := hn
  obtain ⟨s1, ⟨r1, r2, r3, r4⟩, ⟨k1, k2, k3, k4⟩, ⟨z1, z2, z3, z4⟩, ⟨d1, d2, d3, d4, d5, d6⟩, ⟨o1, o2, o3, o4⟩, l1, l2, l3, l4⟩ := S
  obtain ⟨g1, g2, g3, g4, ⟨g5, g6⟩, g7, ⟨g8, g9⟩, ⟨g10, g11⟩, -⟩ := g
  have hmx : hp_ln h1 x2 ≤ 300000 := Nat.le_trans g6 (Nat.max_le.mpr ⟨by assumption, hm⟩)
  refine ⟨⟨?_, ⟨?_, ?_, ?_, ?_⟩, ⟨?_, ?_, ?_, ?_⟩, ⟨?_, ?_, ?_, ?_⟩, ⟨?_, ?_, ?_, ?_, ?_, ?_⟩, ⟨?_, ?_, ?_, ?_⟩, ?_, ?_, ?_, ?_⟩, ?_, ?_, ?_, ?_, ?_⟩
  · rw [(g1 o no).1]; exact s1
  · rw [g2 4 (by decide)]; exact r1
  · exact g3
  · rw [g2 6 (by decide)]; exact r3
  · rw [g2 7 (by decide)]; exact r4
  · rw [(g1 a na).1]; exact k1
  · exact g4
  · rw [(g1 c nc).1]; exact k3
  · rw [(g1 e ne).1]; exact k4
  · exact z1
  · exact g7
  · exact z3
  · exact z4
  all_goals first | omega | (rcases g9 with y | y <;> omega) | skip
  all_goals first | exact hmx | (rw [(g1 _ (by assumption)).2.1]; assumption)
theorem S_Orbit_g6 {h h1 : Hp_} {o a b c e m x2 : Nat} (S : S_Orbit h o a b c e) (hn : o ≤ hp_nx h ∧ a ≤ hp_nx h ∧ b ≤ hp_nx h ∧ c ≤ hp_nx h ∧ e ≤ hp_nx h) (hm : m ≤ 300000) (g : of_ o 6 m h c x2 h1) : S_Orbit h1 o a b x2 e ∧ (o ≤ hp_nx h1 ∧ a ≤ hp_nx h1 ∧ b ≤ hp_nx h1 ∧ x2 ≤ hp_nx h1 ∧ e ≤ hp_nx h1) := by
  obtain ⟨no, na, nb, nc, ne⟩ := hn
  obtain ⟨s1, ⟨r1, r2, r3, r4⟩, ⟨k1, k2, k3, k4⟩, ⟨z1, z2, z3, z4⟩, ⟨d1, d2, d3, d4, d5, d6⟩, ⟨o1, o2, o3, o4⟩, l1, l2, l3, l4⟩ := S
  obtain ⟨g1, g2, g3, g4, ⟨g5, g6⟩, g7, ⟨g8, g9⟩, ⟨g10, g11⟩, -⟩ := g
  have hmx : hp_ln h1 x2 ≤ 300000 := Nat.le_trans g6 (Nat.max_le.mpr ⟨by assumption, hm⟩)
  refine ⟨⟨?_, ⟨?_, ?_, ?_, ?_⟩, ⟨?_, ?_, ?_, ?_⟩, ⟨?_, ?_, ?_, ?_⟩, ⟨?_, ?_, ?_, ?_, ?_, ?_⟩, ⟨?_, ?_, ?_, ?_⟩, ?_, ?_, ?_, ?_⟩, ?_, ?_, ?_, ?_, ?_⟩
  · rw [(g1 o no).1]; exact s1
  · rw [g2 4 (by decide)]; exact r1
  · rw [g2 5 (by decide)]; exact r2
  · exact g3
  · rw [g2 7 (by decide)]; exact r4
  · rw [(g1 a na).1]; exact k1
  · rw [(g1 b nb).1]; exact k2
  · exact g4
  · rw [(g1 e ne).1]; exact k4
  · exact z1
  · exact z2
  · exact g7
  · exact z4
  all_goals first | omega | (rcases g9 with y | y <;> omega) | skip
  all_goals first | exact hmx | (rw [(g1 _ (by assumption)).2.1]; assumption)
theorem S_Orbit_g7 {h h1 : Hp_} {o a b c e m x2 : Nat} (S : S_Orbit h o a b c e) (hn : o ≤ hp_nx h ∧ a ≤ hp_nx h ∧ b ≤ hp_nx h ∧ c ≤ hp_nx h ∧ e ≤ hp_nx h) (hm : m ≤ 300000) (g : of_ o 7 m h e x2 h1) : S_Orbit h1 o a b c x2 ∧ (o ≤ hp_nx h1 ∧ a ≤ hp_nx h1 ∧ b ≤ hp_nx h1 ∧ c ≤ hp_nx h1 ∧ x2 ≤ hp_nx h1) := by
  obtain ⟨no, na, nb, nc, ne⟩ := hn
  obtain ⟨s1, ⟨r1, r2, r3, r4⟩, ⟨k1, k2, k3, k4⟩, ⟨z1, z2, z3, z4⟩, ⟨d1, d2, d3, d4, d5, d6⟩, ⟨o1, o2, o3, o4⟩, l1, l2, l3, l4⟩ := S
  obtain ⟨g1, g2, g3, g4, ⟨g5, g6⟩, g7, ⟨g8, g9⟩, ⟨g10, g11⟩, -⟩ := g
  have hmx : hp_ln h1 x2 ≤ 300000 := Nat.le_trans g6 (Nat.max_le.mpr ⟨by assumption, hm⟩)
  refine ⟨⟨?_, ⟨?_, ?_, ?_, ?_⟩, ⟨?_, ?_, ?_, ?_⟩, ⟨?_, ?_, ?_, ?_⟩, ⟨?_, ?_, ?_, ?_, ?_, ?_⟩, ⟨?_, ?_, ?_, ?_⟩, ?_, ?_, ?_, ?_⟩, ?_, ?_, ?_, ?_, ?_⟩
  · rw [(g1 o no).1]; exact s1
  · rw [g2 4 (by decide)]; exact r1
  · rw [g2 5 (by decide)]; exact r2
  · rw [g2 6 (by decide)]; exact r3
  · exact g3
  · rw [(g1 a na).1]; exact k1
  · rw [(g1 b nb).1]; exact k2
  · rw [(g1 c nc).1]; exact k3
  · exact g4
  · exact z1
  · exact z2
  · exact z3
  · exact g7
  all_goals first | omega | (rcases g9 with y | y <;> omega) | skip
  all_goals first | exact hmx | (rw [(g1 _ (by assumption)).2.1]; assumption)
/-- lengths that rows of lyings have, and what rows that grow can cost -/
def VL_ : List Nat := [1, 3, 4, 5, 6, 7, 8, 12, 20, 24, 30, 42, 56, 60, 120, 210, 336, 360, 720, 840, 1680, 2520, 5040, 6720, 20160, 40320]
def gs_ (L : Nat) : List Nat → Nat
  | [] => 0
  | v :: l => (if v ≤ L then v else 0) + gs_ L l
theorem gs_mono {L m : Nat} (h : L ≤ m) : ∀ l, gs_ L l ≤ gs_ m l
  | [] => Nat.le_refl _
  | v :: l => by
    have ih := gs_mono h l
    unfold gs_
    by_cases z : v ≤ L
    · rw [if_pos z, if_pos (by omega)]; omega
    · rw [if_neg z]; omega
theorem gs_step {L m : Nat} (h : L < m) : ∀ l, m ∈ l → gs_ L l + m ≤ gs_ m l
  | [], hm => absurd hm List.not_mem_nil
  | v :: l, hm => by
    unfold gs_
    rcases List.mem_cons.mp hm with z | z
    · have := gs_mono (Nat.le_of_lt h) l
      rw [← z, if_neg (by omega), if_pos (Nat.le_refl m)]
      omega
    · have ih := gs_step h l z
      by_cases y : v ≤ L
      · rw [if_pos y, if_pos (by omega)]; omega
      · rw [if_neg y]; omega
def gg_ (L : Nat) : Nat := gs_ L VL_
theorem gg_mono {L m : Nat} (h : L ≤ m) : gg_ L ≤ gg_ m := gs_mono h VL_
theorem gg_step {L m : Nat} (h : L < m) (hm : m ∈ VL_) : gg_ L + m ≤ gg_ m := gs_step h VL_ hm
theorem ce_VL : ∀ n : Fin 9, 3 ≤ n.1 → ∀ k : Fin 9, k.1 ≤ n.1 → ce_ n.1 k.1 ∈ VL_ := by decide +kernel
theorem gs_all : ∀ (l : List Nat) (L : Nat), gs_ L l ≤ l.foldr (fun v a => v + a) 0
  | [], _ => Nat.le_refl _
  | v :: l, L => by
    have := gs_all l L
    show (if v ≤ L then v else 0) + gs_ L l ≤ v + l.foldr (fun v a => v + a) 0
    split <;> omega
theorem gg_all (L : Nat) : gg_ L ≤ 79304 := Nat.le_trans (gs_all VL_ L) (by decide)
theorem gg_low {L : Nat} (h : L ≤ 20160) : gg_ L ≤ 38984 := Nat.le_trans (gg_mono h) (by decide)

