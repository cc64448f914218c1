-- ===== Past: explore =====
/-- a row of kind t grown and put into a field: what it keeps and gives -/
def ow_ (t o j m : Nat) (h : Hp_) (x x2 : Nat) (h1 : Hp_) : Prop := (∀ q, q ≤ hp_nx h → hp_kd h1 q = hp_kd h q ∧ hp_ln h1 q = hp_ln h q ∧ hp_I h1 q = hp_I h q ∧ hp_J h1 q = hp_J h q ∧ (q ≠ o → hp_R h1 q = hp_R h q)) ∧ (∀ k, k ≠ j → hp_R h1 o k = hp_R h o k) ∧ hp_R h1 o j = x2 ∧ hp_kd h1 x2 = t ∧ (m ≤ hp_ln h1 x2 ∧ hp_ln h1 x2 ≤ max (hp_ln h x) m) ∧ x2 ≠ 0 ∧ (x2 ≤ hp_nx h1 ∧ (x2 = x ∨ hp_nx h < x2)) ∧ (hp_nx h ≤ hp_nx h1 ∧ hp_nx h1 ≤ hp_nx h + 1) ∧ (hp_sl h ≤ hp_sl h1 ∧ hp_sl h1 ≤ hp_sl h + m)
theorem ow_of {t o j m x x2 : Nat} {h h2 h1 : Hp_} (ho : o ≤ hp_nx h) (hx : x ≤ hp_nx h) (h0 : x ≠ 0) (hk : hp_kd h x = t) (hR : hp_R h o j = x) (g : (m ≤ hp_ln h x ∧ x2 = x ∧ h2 = h) ∨ (hp_ln h x < m ∧ x2 = hp_nx h + 1 ∧ h2 = hp_al h t m m)) (e : h1 = hp_rR h2 o (va_up (hp_R h2 o) j x2)) : ow_ t o j m h x x2 h1 := by
  rcases g with ⟨g1, rfl, rfl⟩ | ⟨g1, rfl, rfl⟩
  · have e2 : h1 = h2 := by rw [e, show va_up (hp_R h2 o) j x2 = hp_R h2 o by rw [← hR]; exact vu_self _ _, hp_rR_self]
    subst e2
    exact ⟨fun q _ => ⟨rfl, rfl, rfl, rfl, fun _ => rfl⟩, fun k _ => rfl, hR, hk, ⟨g1, Nat.le_max_left _ _⟩, h0, ⟨hx, Or.inl rfl⟩, ⟨Nat.le_refl _, Nat.le_succ _⟩, Nat.le_refl _, Nat.le_add_right _ _⟩
  · subst e
    have n := @al_new h t m m
    have eo := @al_old h t m m o ho
    refine ⟨fun q hq => ?_, fun k hkj => ?_, ?_, n.1, ⟨Nat.le_of_eq n.2.1.symm, Nat.le_trans (Nat.le_of_eq n.2.1) (Nat.le_max_right _ _)⟩, by omega, ⟨Nat.le_refl _, Or.inr (Nat.lt_succ_self _)⟩, ⟨Nat.le_succ _, Nat.le_refl _⟩, Nat.le_add_right _ _, Nat.le_refl _⟩
    · have e := @al_old h t m m q hq
      exact ⟨e.1, e.2.1, e.2.2.1, e.2.2.2.1, fun hqo => (sd_up_ne hqo).trans e.2.2.2.2⟩
    · show va_up (hp_R (hp_al h t m m)) o (va_up (hp_R (hp_al h t m m) o) j (hp_nx h + 1)) o k = _
      rw [sd_up_eq, sd_up_ne hkj, eo.2.2.2.2]
    · show va_up (hp_R (hp_al h t m m)) o (va_up (hp_R (hp_al h t m m) o) j (hp_nx h + 1)) o j = _
      rw [sd_up_eq, sd_up_eq]
theorem ow_ag {t o j m x x2 : Nat} {h h1 : Hp_} (g : ow_ t o j m h x x2 h1) : ag_ (fun q => q = o) h h1 := ⟨g.2.2.2.2.2.2.2.1.1, g.2.2.2.2.2.2.2.2.1, fun c hc => ⟨(g.1 c hc).1, (g.1 c hc).2.1, fun hP => ⟨(g.1 c hc).2.2.1, (g.1 c hc).2.2.2.1, (g.1 c hc).2.2.2.2 hP⟩⟩⟩
theorem Past_new {h h1 : Hp_} {a b c e p q r y p2 q2 r2 y2 : Nat} (S : S_Past h a b c e p q r y) (A : ag_ (fun x => x = 43) h h1) (R0 : hp_R h1 43 0 = hp_R h 43 0 ∧ hp_R h1 43 1 = hp_R h 43 1 ∧ hp_R h1 43 2 = hp_R h 43 2 ∧ hp_R h1 43 3 = hp_R h 43 3 ∧ hp_R h1 43 4 = hp_R h 43 4) (R8 : hp_R h1 43 8 = p2 ∧ hp_R h1 43 9 = q2 ∧ hp_R h1 43 10 = r2 ∧ hp_R h1 43 11 = y2) (K : hp_kd h1 p2 = 2 ∧ hp_kd h1 q2 = 2 ∧ hp_kd h1 r2 = 1 ∧ hp_kd h1 y2 = 1) (L : hp_ln h1 p2 ≤ 300000 ∧ hp_ln h1 q2 ≤ 300000 ∧ hp_ln h1 r2 ≤ 300000 ∧ hp_ln h1 y2 ≤ 300000) (ne : p2 ≠ q2 ∧ ex_ a b c e r2 y2) (rx : rx_ p2 q2 r2 y2) (hin : p2 ≤ hp_nx h1 ∧ q2 ≤ hp_nx h1 ∧ r2 ≤ hp_nx h1 ∧ y2 ≤ hp_nx h1) : S_Past h1 a b c e p2 q2 r2 y2 := by
  have n93 := Past_nx S
  have O := Past_s0 S
  have Me := Past_s1 S
  have No := Past_s2 S
  obtain ⟨i1, i2, i3, i4, i5⟩ := Past_on S
  have kp := Past_kp S
  obtain ⟨⟨r0, r1, r2', r3, r4⟩, _⟩ := S.2.1
  obtain ⟨s0, s1, s2, s3, s4⟩ := R0
  obtain ⟨A1, A2, A3⟩ := A
  have k43 := A3 43 (by omega)
  have k44 := A3 44 (by omega)
  have k49 := A3 49 (by omega)
  have k50 := A3 50 (by omega)
  have k51 := A3 51 (by omega)
  have k52 := A3 52 (by omega)
  have k53 := A3 53 (by omega)
  have k54 := A3 54 (by omega)
  have ka := A3 a i2
  have kb := A3 b i3
  have kc := A3 c i4
  have ke := A3 e i5
  have e44 := k44.2.2 (by decide)
  have e49 := k49.2.2 (by decide)
  have e51 := k51.2.2 (by decide)
  unfold S_Memo at Me
  unfold S_Notes at No
  obtain ⟨o1, o2, o3, o4, o5, o6, o7⟩ := O
  refine ⟨k43.1.trans S.1, ⟨⟨s0.trans r0, s1.trans r1, s2.trans r2', s3.trans r3, s4.trans r4⟩, R8⟩, ⟨⟨k44.1.trans o1, by rw [e44.2.2]; exact o2, by rw [ka.1, kb.1, kc.1, ke.1]; exact o3, o4, o5, o6, by rw [ka.2.1, kb.2.1, kc.2.1, ke.2.1]; exact o7⟩, ⟨k49.1.trans Me.1, by rw [e49.2.2]; exact Me.2.1, k50.1.trans Me.2.2.1, k50.2.1.trans Me.2.2.2⟩, ⟨k51.1.trans No.1, by rw [e51.2.2]; exact No.2.1, k52.1.trans No.2.2.1, k52.2.1.trans No.2.2.2⟩⟩, ⟨⟨k53.1.trans (Past_k3 S), k53.2.1.trans (Past_n3 S)⟩, k54.1.trans (Past_k4 S), k54.2.1.trans (Past_n4 S)⟩, ⟨K, L⟩, ne, ⟨Past_rw S, rx⟩, Nat.le_trans n93 A1, ⟨⟨by omega, by omega, by omega, by omega, by omega⟩, hin⟩, by rw [e44.1]; exact kp⟩
theorem Past_g8 {h h1 : Hp_} {a b c e p q r y m x2 : Nat} (S : S_Past h a b c e p q r y) (hm : m ≤ 300000) (g : ow_ 2 43 8 m h p x2 h1) : S_Past h1 a b c e x2 q r y := by
  have A := ow_ag g
  obtain ⟨g1, g2, g3, g4, ⟨g5, g6⟩, g7, ⟨g8, g9⟩, ⟨g10, g11⟩, -⟩ := g
  obtain ⟨i1, i2, i3, i4⟩ := Past_in S
  obtain ⟨l1, l2, l3, l4⟩ := Past_ln S
  have rx := Past_rx S
  have n93 := Past_nx S
  have pq := Past_pq S
  refine Past_new S A ⟨g2 0 (by decide), g2 1 (by decide), g2 2 (by decide), g2 3 (by decide), g2 4 (by decide)⟩ ⟨g3, (g2 9 (by decide)).trans (Past_R9 S), (g2 10 (by decide)).trans (Past_R10 S), (g2 11 (by decide)).trans (Past_R11 S)⟩ ⟨g4, (g1 q i2).1.trans (Past_k9 S), (g1 r i3).1.trans (Past_k10 S), (g1 y i4).1.trans (Past_k11 S)⟩ ⟨Nat.le_trans g6 (Nat.max_le.mpr ⟨l1, hm⟩), by rw [(g1 q i2).2.1]; exact l2, by rw [(g1 r i3).2.1]; exact l3, by rw [(g1 y i4).2.1]; exact l4⟩ ⟨by omega, Past_ex S⟩ ?_ ⟨g8, by omega, by omega, by omega⟩
  unfold rx_ at rx ⊢
  omega
theorem Past_g9 {h h1 : Hp_} {a b c e p q r y m x2 : Nat} (S : S_Past h a b c e p q r y) (hm : m ≤ 300000) (g : ow_ 2 43 9 m h q x2 h1) : S_Past h1 a b c e p x2 r y := by
  have A := ow_ag g
  obtain ⟨g1, g2, g3, g4, ⟨g5, g6⟩, g7, ⟨g8, g9⟩, ⟨g10, g11⟩, -⟩ := g
  obtain ⟨i1, i2, i3, i4⟩ := Past_in S
  obtain ⟨l1, l2, l3, l4⟩ := Past_ln S
  have rx := Past_rx S
  have n93 := Past_nx S
  have pq := Past_pq S
  refine Past_new S A ⟨g2 0 (by decide), g2 1 (by decide), g2 2 (by decide), g2 3 (by decide), g2 4 (by decide)⟩ ⟨(g2 8 (by decide)).trans (Past_R8 S), g3, (g2 10 (by decide)).trans (Past_R10 S), (g2 11 (by decide)).trans (Past_R11 S)⟩ ⟨(g1 p i1).1.trans (Past_k8 S), g4, (g1 r i3).1.trans (Past_k10 S), (g1 y i4).1.trans (Past_k11 S)⟩ ⟨by rw [(g1 p i1).2.1]; exact l1, Nat.le_trans g6 (Nat.max_le.mpr ⟨l2, hm⟩), by rw [(g1 r i3).2.1]; exact l3, by rw [(g1 y i4).2.1]; exact l4⟩ ⟨by omega, Past_ex S⟩ ?_ ⟨by omega, g8, by omega, by omega⟩
  unfold rx_ at rx ⊢
  omega
theorem Past_g10 {h h1 : Hp_} {a b c e p q r y m x2 : Nat} (S : S_Past h a b c e p q r y) (hm : m ≤ 300000) (g : ow_ 1 43 10 m h r x2 h1) : S_Past h1 a b c e p q x2 y := by
  have A := ow_ag g
  obtain ⟨g1, g2, g3, g4, ⟨g5, g6⟩, g7, ⟨g8, g9⟩, ⟨g10, g11⟩, -⟩ := g
  obtain ⟨i1, i2, i3, i4⟩ := Past_in S
  obtain ⟨l1, l2, l3, l4⟩ := Past_ln S
  obtain ⟨j1, j2, j3, j4, j5⟩ := Past_on S
  have rx := Past_rx S
  have n93 := Past_nx S
  have ex := Past_ex S
  refine Past_new S A ⟨g2 0 (by decide), g2 1 (by decide), g2 2 (by decide), g2 3 (by decide), g2 4 (by decide)⟩ ⟨(g2 8 (by decide)).trans (Past_R8 S), (g2 9 (by decide)).trans (Past_R9 S), g3, (g2 11 (by decide)).trans (Past_R11 S)⟩ ⟨(g1 p i1).1.trans (Past_k8 S), (g1 q i2).1.trans (Past_k9 S), g4, (g1 y i4).1.trans (Past_k11 S)⟩ ⟨by rw [(g1 p i1).2.1]; exact l1, by rw [(g1 q i2).2.1]; exact l2, Nat.le_trans g6 (Nat.max_le.mpr ⟨l3, hm⟩), by rw [(g1 y i4).2.1]; exact l4⟩ ⟨Past_pq S, ?_⟩ ?_ ⟨by omega, by omega, g8, by omega⟩
  · unfold ex_ at ex ⊢
    omega
  · unfold rx_ at rx ⊢
    omega
theorem Past_g11 {h h1 : Hp_} {a b c e p q r y m x2 : Nat} (S : S_Past h a b c e p q r y) (hm : m ≤ 300000) (g : ow_ 1 43 11 m h y x2 h1) : S_Past h1 a b c e p q r x2 := by
  have A := ow_ag g
  obtain ⟨g1, g2, g3, g4, ⟨g5, g6⟩, g7, ⟨g8, g9⟩, ⟨g10, g11⟩, -⟩ := g
  obtain ⟨i1, i2, i3, i4⟩ := Past_in S
  obtain ⟨l1, l2, l3, l4⟩ := Past_ln S
  obtain ⟨j1, j2, j3, j4, j5⟩ := Past_on S
  have rx := Past_rx S
  have n93 := Past_nx S
  have ex := Past_ex S
  refine Past_new S A ⟨g2 0 (by decide), g2 1 (by decide), g2 2 (by decide), g2 3 (by decide), g2 4 (by decide)⟩ ⟨(g2 8 (by decide)).trans (Past_R8 S), (g2 9 (by decide)).trans (Past_R9 S), (g2 10 (by decide)).trans (Past_R10 S), g3⟩ ⟨(g1 p i1).1.trans (Past_k8 S), (g1 q i2).1.trans (Past_k9 S), (g1 r i3).1.trans (Past_k10 S), g4⟩ ⟨by rw [(g1 p i1).2.1]; exact l1, by rw [(g1 q i2).2.1]; exact l2, by rw [(g1 r i3).2.1]; exact l3, Nat.le_trans g6 (Nat.max_le.mpr ⟨l4, hm⟩)⟩ ⟨Past_pq S, ?_⟩ ?_ ⟨by omega, by omega, by omega, g8⟩
  · unfold ex_ at ex ⊢
    omega
  · unfold rx_ at rx ⊢
    omega
theorem nw_ne {h : Hp_} {x x2 r : Nat} (w : nw2_ h x x2) (hr : r ≤ hp_nx h) (hne : r ≠ x) : r ≠ x2 := by
  unfold nw2_ at w
  omega
theorem nw_le2 {h h2 : Hp_} {x x2 : Nat} (hl : hp_nx h ≤ hp_nx h2) (w : x2 = x ∨ hp_nx h2 < x2) : nw2_ h x x2 := by
  unfold nw2_
  omega
theorem rx_55 {p q r y : Nat} (h : rx_ p q r y) : 55 ≤ p ∧ 55 ≤ q ∧ 55 ≤ r ∧ 55 ≤ y := by
  unfold rx_ at h
  omega
theorem rw_lo {x a b c e : Nat} (hx : x ≤ 93) (h : rw4_ x a b c e) : x ≤ a ∧ x ≤ b ∧ x ≤ c ∧ x ≤ e := by
  unfold rw4_ at h
  omega
theorem rw_oc {a b c e v : Nat} (h : rw4_ 45 a b c e) (h1 : 48 < v) (h2 : v ≤ 93) : ¬ oc5_ 44 a b c e v := by
  unfold rw4_ at h
  unfold oc5_
  omega
theorem pe_back {a b c e r y r2 y2 v n : Nat} (hv : v ≤ n) (hq : v = r2 ∨ v = y2) (hr : r2 = r ∨ n < r2) (hy : y2 = y ∨ n < y2) : v = 43 ∨ oc5_ 44 a b c e v ∨ v = r ∨ v = y := by
  rcases hq with z | z
  · rcases hr with u | u
    · exact Or.inr (Or.inr (Or.inl (z.trans u)))
    · omega
  · rcases hy with u | u
    · exact Or.inr (Or.inr (Or.inr (z.trans u)))
    · omega
theorem Past_orb {h h1 : Hp_} {a b c e p q r y a2 b2 c2 e2 : Nat} (S : S_Past h a b c e p q r y) (S1 : S_Orbit h1 44 a2 b2 c2 e2) (N1 : on_ h1 44 a2 b2 c2 e2) (A : ag_ (oc5_ 44 a b c e) h h1) (w1 : nw2_ h a a2) (w2 : nw2_ h b b2) (w3 : nw2_ h c c2) (w4 : nw2_ h e e2) (kp : hp_I h1 44 0 = bo_ true) : S_Past h1 a2 b2 c2 e2 p q r y := by
  have n93 := Past_nx S
  have Me := Past_s1 S
  have No := Past_s2 S
  have ex := Past_ex S
  obtain ⟨i1, i2, i3, i4⟩ := Past_in S
  obtain ⟨l1, l2, l3, l4⟩ := Past_ln S
  have rw5 := rw4_new n93 (Past_rw S) w1 w2 w3 w4
  have rw6 := Past_rw S
  obtain ⟨A1, A2, A3⟩ := A
  have k43 := A3 43 (by omega)
  have k49 := A3 49 (by omega)
  have k50 := A3 50 (by omega)
  have k51 := A3 51 (by omega)
  have k52 := A3 52 (by omega)
  have k53 := A3 53 (by omega)
  have k54 := A3 54 (by omega)
  have kpp := A3 p i1
  have kqq := A3 q i2
  have krr := A3 r i3
  have kyy := A3 y i4
  have rw7 := rw_lo (by decide) rw6
  have e43 := k43.2.2 (by unfold oc5_; omega)
  have e49 := k49.2.2 (rw_oc rw6 (by decide) (by decide))
  have e51 := k51.2.2 (rw_oc rw6 (by decide) (by decide))
  unfold S_Memo at Me
  unfold S_Notes at No
  refine ⟨k43.1.trans S.1, by rw [e43.2.2]; exact S.2.1, ⟨S1, ⟨k49.1.trans Me.1, by rw [e49.2.2]; exact Me.2.1, k50.1.trans Me.2.2.1, k50.2.1.trans Me.2.2.2⟩, ⟨k51.1.trans No.1, by rw [e51.2.2]; exact No.2.1, k52.1.trans No.2.2.1, k52.2.1.trans No.2.2.2⟩⟩, ⟨⟨k53.1.trans (Past_k3 S), k53.2.1.trans (Past_n3 S)⟩, k54.1.trans (Past_k4 S), k54.2.1.trans (Past_n4 S)⟩, ⟨⟨kpp.1.trans (Past_k8 S), kqq.1.trans (Past_k9 S), krr.1.trans (Past_k10 S), kyy.1.trans (Past_k11 S)⟩, by rw [kpp.2.1]; exact l1, by rw [kqq.2.1]; exact l2, by rw [krr.2.1]; exact l3, by rw [kyy.2.1]; exact l4⟩, ⟨Past_pq S, ?_⟩, ⟨rw5, Past_rx S⟩, Nat.le_trans n93 A1, ⟨N1, by omega, by omega, by omega, by omega⟩, kp⟩
  exact ⟨ex.1, ⟨nw_ne w1 i3 ex.2.1.1, nw_ne w2 i3 ex.2.1.2.1, nw_ne w3 i3 ex.2.1.2.2.1, nw_ne w4 i3 ex.2.1.2.2.2⟩, ⟨nw_ne w1 i4 ex.2.2.1, nw_ne w2 i4 ex.2.2.2.1, nw_ne w3 i4 ex.2.2.2.2.1, nw_ne w4 i4 ex.2.2.2.2.2⟩⟩
/-- the rows hold the lyings of what was seen, all of them -/
def PX_ (h : Hp_) (a b c e p q r y : Nat) (s : Sg_) (m t : Nat) : Prop := OI_ h 44 a b c (sg_n s) (kn_ s m) ((qp_ s m t).map (·.1)) ((qp_ s m t).map (fun x => x.2.1)) ∧ SP_ h e (kn_ s m) (mv_ s) (may_ s) (qp_ s m t) t ∧ 6 * (qp_ s m t).length ≤ t ∧ 6 * ce_ (sg_n s) (kn_ s m) ≤ hp_ln h e ∧ (qp_ s m t).length ≤ hp_ln h p ∧ (qp_ s m t).length ≤ hp_ln h q ∧ (qp_ s m t).length ≤ hp_ln h r ∧ (qp_ s m t).length ≤ hp_ln h y
theorem wl_top {s : Sg_} {n : Nat} (h : ∀ g, n ≤ g → ¬ sg_wa s g ≠ 8) : ∀ d, wl_ s (n + d) = wl_ s n
  | 0 => rfl
  | d + 1 => by
    show wl_ s (n + d + 1) = _
    rw [wl_succ, if_neg (h _ (by omega)), List.append_nil, wl_top h d]
theorem ce_6d : ∀ n : Fin 9, ∀ k : Fin 7, ce_ n.1 k.1 ≤ 20160 := by decide +kernel
theorem ce_6 {n k : Nat} (hn : n ≤ 8) (hk : k ≤ 6) : ce_ n k ≤ 20160 := ce_6d ⟨n, by omega⟩ ⟨k, by omega⟩
def pe_ (a b c e r y x : Nat) : Prop := x = 43 ∨ oc5_ 44 a b c e x ∨ x = r ∨ x = y
set_option maxRecDepth 4000 in
set_option maxHeartbeats 4000000 in
theorem Past_explore_ok {h : Hp_} {a b c e p q r y m G T : Nat} {s : Sg_} (S : S_Past h a b c e p q r y) (w : sg_wf s) (F : PF_ h s m G T) (hM : hp_kd h 31 = 1 ∧ hp_ln h 31 = 6) (hr : ∀ f, f < 6 → hp_I h 31 f = ms_ s f) : cV 9 mn_Past_explore [.ref 43, .int (nI (sg_n s)), .ref 31] h (fun h' => ∃ a2 b2 c2 e2 p2 q2 r2 y2 t, S_Past h' a2 b2 c2 e2 p2 q2 r2 y2 ∧ PX_ h' a2 b2 c2 e2 p2 q2 r2 y2 s m t ∧ (∀ i, i < (qp_ s m t).length → hp_I h' r2 i = nI 0 ∧ hp_I h' y2 i = nI 0) ∧ ag_ (pe_ a b c e r y) h h' ∧ (hp_I h' 43 = hp_I h 43 ∧ hp_J h' 43 = hp_J h 43) ∧ ((nw2_ h a a2 ∧ nw2_ h b b2 ∧ nw2_ h c c2 ∧ nw2_ h e e2) ∧ nw2_ h p p2 ∧ nw2_ h q q2 ∧ nw2_ h r r2 ∧ nw2_ h y y2) ∧ hp_nx h' ≤ hp_nx h + 8 ∧ hp_sl h' + oc2_ h a b c e ≤ hp_sl h + oc2_ h' a2 b2 c2 e2 + 80640 ∧ (hp_ln h' a2 ≤ max (hp_ln h a) 20160 ∧ hp_ln h' b2 ≤ max (hp_ln h b) 20160 ∧ hp_ln h' c2 ≤ max (hp_ln h c) 20160 ∧ hp_ln h' e2 ≤ max (hp_ln h e) 120960)) := by
  have n3 := w.1.1
  have n8 := w.1.2
  have hsee := PF_see F
  have ⟨F1, F2, F3, ⟨F4, F5⟩, F6, F7⟩ := F
  have hk6 := kn_6 w m
  have hkn := kn_le s m
  have hce := ce_6 n8 hk6
  have n93 := Past_nx S
  have rw0 := rw_lo (by decide) (Past_rw S)
  have hbit : ∀ g, G.testBit g = true → g < sg_n s := fun g hg => by
    obtain ⟨x, h1, h2⟩ := (F6 g).mp hg
    rw [← h2]
    exact (ls_in w h1).2.1
  have hkk : bc_ G 8 = kn_ s m := by
    rw [wl_bc hsee 8]
    have := wl_top (s := sn_ s m) (n := sg_n s) (fun g hg z => by have := hbit g ((hsee g).mpr z); omega) (8 - sg_n s)
    rw [show sg_n s + (8 - sg_n s) = 8 by omega] at this
    rw [this]
    rfl
  refine cq_in (q := mi_Past_explore) (L := [some (.ref 43), some (.int (nI (sg_n s))), some (.ref 31), none, none]) rfl (Nat.le_of_ble_eq_true rfl) rfl ?_
  show wq _ tb_Past_explore none 0 _ _ _ _
  refine wp_iconst rfl ?_
  refine wp_istore3 rfl rfl ?_
  refine wp_iconst rfl ?_
  refine wp_istore4 rfl rfl ?_
  refine wq_loc (L' := [some (.ref 43), some (.int (nI (sg_n s))), some (.ref 31), some (.int (nI (pq_ (lw2_ (sn_ s m) (fun g => g) 0) 8))), some (.int (nI 0))]) (by rw [lw0]) ?_
  refine wq_loop (X := Unit) (fun g x => [some (.ref 43), some (.int (nI (sg_n s))), some (.ref 31), some (.int (nI (pq_ (lw2_ (sn_ s m) (fun v => v) g) 8))), some (.int (nI g))]) (fun g x h1 => h1 = h) (sg_n s) (0) (()) ?_ ?_ ?_ ?_
  · omega
  · rfl
  · intro g x h1 hi I go
    show wq _ tb_Past_explore _ 5 [some (.ref 43), some (.int (nI (sg_n s))), some (.ref 31), some (.int (nI (pq_ (lw2_ (sn_ s m) (fun v => v) g) 8))), some (.int (nI g))] [] h1 _
    obtain rfl := I
    have hg : g < sg_n s := hi
    have hgl := wl_len (sn_ s m) g
    refine wp_iload4 rfl ?_
    refine wp_iload1 rfl ?_
    refine wp_icmp_geN g (sg_n s) (by omega) (by omega) rfl (fun z => absurd z (by omega)) (fun _ => ?_)
    refine wp_aload0 rfl ?_
    refine wp_getIE rfl (Past_kd S) (show _ = nI G from F2) ?_
    refine wp_iload4 rfl ?_
    refine wp_callS2I rfl (Nat.le_of_ble_eq_true rfl) (Cells_isIn_ok (by omega) (by omega)) (Nat.le_of_ble_eq_true rfl) ?_
    refine pure_ ?_
    refine wp_if_eqB rfl (fun c1 => ?_) (fun c1 => ?_)
    · skip
      refine wp_iinc4N rfl rfl ?_
      refine wp_goto rfl ?_
      have z : ¬ sg_wa (sn_ s m) g ≠ 8 := fun z => by rw [(hsee g).mpr z] at c1; cases c1
      have kk := go () h1 rfl
      (try dsimp only at kk)
      unfold lw2_ at kk
      rw [wl_same z] at kk
      exact kk
    · skip
      refine wp_iload3 rfl ?_
      refine wp_aload0 rfl ?_
      refine wp_iload4 rfl ?_
      have z := (hsee g).mp c1
      refine wp_callV1I rfl (Nat.le_of_ble_eq_true rfl) (Past_kd S) (Past_slotOf_ok S F2 F4 (by omega)) (Nat.le_of_ble_eq_true rfl) ?_
      refine pure_ ?_
      rw [wl_bc hsee g]
      refine wp_iload4 rfl ?_
      refine wp_callS3I rfl (Nat.le_of_ble_eq_true rfl) (Maps_with_ok (fun i _ => lw2_8 (fun q hq _ => show q < 8 by omega) i) (by omega) (by omega)) (Nat.le_of_ble_eq_true rfl) ?_
      refine pure_ ?_
      refine wp_istore3 rfl rfl ?_
      refine wp_iinc4N rfl rfl ?_
      refine wp_goto rfl ?_
      have e1 : va_up (lw2_ (sn_ s m) (fun g => g) g) (wl_ (sn_ s m) g).length g = lw2_ (sn_ s m) (fun g => g) (g + 1) := lw2_next (p := fun g => g) z
      rw [e1]
      exact go () h1 rfl
  · intro x h1 I
    show wq _ tb_Past_explore _ 5 [some (.ref 43), some (.int (nI (sg_n s))), some (.ref 31), some (.int (nI (pq_ (lw2_ (sn_ s m) (fun v => v) (sg_n s)) 8))), some (.int (nI (sg_n s)))] [] h1 _
    obtain rfl := I
    refine wp_iload4 rfl ?_
    refine wp_iload1 rfl ?_
    refine wp_icmp_geN (sg_n s) (sg_n s) (by omega) (by omega) rfl (fun _ => ?_) (fun z => absurd z (by omega))
    refine wp_aload0 rfl ?_
    refine wp_getR rfl (Past_kd S) (Past_R0 S) (by first | decide | omega) ?_
    refine wp_iload1 rfl ?_
    refine wp_aload0 rfl ?_
    refine wp_getIE rfl (Past_kd S) (show _ = nI G from F2) ?_
    refine wp_callS1I rfl (Nat.le_of_ble_eq_true rfl) (Integer_bitCount_ok) (Nat.le_of_ble_eq_true rfl) ?_
    refine pure_ ?_
    rw [jb_low ⟨G, F4⟩, show bc_ (⟨G, F4⟩ : Fin 256).1 8 = kn_ s m from hkk]
    refine wp_iload3 rfl ?_
    refine wp_iconst rfl ?_
    refine wp_aload2 rfl ?_
    refine wp_callV5I rfl (Nat.le_of_ble_eq_true rfl) (Orbit_kd (Past_s0 S)) (Orbit_explore_ok (kp := true) (k := kn_ s m) (w0 := ry_ s m (fun g => g)) (g := none) (mv := mv_ s) (ok := may_ s) (Past_s0 S) (Past_on S) n3 n8 hkn (Past_kp S) (ry_Lz (IsP.id _)) (fun w2 y => by cases y) ⟨hM.1, hM.2, (by decide), (by omega), (by unfold oc5_; omega)⟩ (fun f hf => by rw [hr f hf]; rfl) (mv_P w)) (Nat.le_of_ble_eq_true rfl) ?_
    rintro x h2 ⟨a2, b2, c2, e2, t, S2, N2, E2, L2, G2, X2, K2, A2, ⟨w1, w2, w3, w4⟩, nx2, sl2, ln2⟩
    have ht : 6 * (qp_ s m t).length ≤ t := X2 G2
    have hlen := qp_len w m t
    have hOI : OI_ h2 44 a2 b2 c2 (sg_n s) (kn_ s m) ((qp_ s m t).map (·.1)) ((qp_ s m t).map (fun x => x.2.1)) := E2.1
    have hSP : SP_ h2 e2 (kn_ s m) (mv_ s) (may_ s) (qp_ s m t) t := E2.2 rfl
    have hcnt : hp_I h2 44 3 = nI (qp_ s m t).length := by
      have := hOI.2.2.1
      rw [List.length_map] at this
      exact this
    have P2 := Past_orb S S2 N2 A2 w1 w2 w3 w4 K2
    have n93' := Past_nx P2
    have hp0 := rx_55 (Past_rx P2)
    have lns := Past_ln P2
    have ins := Past_in P2
    have on2 := N2
    unfold on_ at on2
    refine wp_popI rfl ?_
    refine wp_aload0 rfl ?_
    refine wp_aload0 rfl ?_
    refine wp_getR rfl (Past_kd P2) (Past_R8 P2) (by first | decide | omega) ?_
    refine wp_aload0 rfl ?_
    refine wp_getR rfl (Past_kd P2) (Past_R0 P2) (by first | decide | omega) ?_
    refine wp_getIE rfl (Orbit_kd (Past_s0 P2)) (show _ = nI ((qp_ s m t).length) from hcnt) ?_
    refine wp_callS2A rfl (Nat.le_of_ble_eq_true rfl) (Cells_grownLong_ok (Past_k8 P2) (by omega) rfl (by omega) (by omega)) (Nat.le_of_ble_eq_true rfl) ?_
    rintro p2 h3 g3
    have k3 : hp_kd h3 43 = 18 := by
      rcases g3 with ⟨-, -, y⟩ | ⟨-, -, y⟩
      · rw [y]; exact Past_kd P2
      · rw [y, (al_old (by omega)).1]; exact Past_kd P2
    have p20 : p2 ≠ 0 := by rcases g3 with ⟨-, y, -⟩ | ⟨-, y, -⟩ <;> omega
    refine wp_putR rfl k3 p20 ?_
    refine wq_gen (fun h4 e4 => ?_)
    have O4 := ow_of (by omega) ins.1 (by omega) (Past_k8 P2) (Past_R8 P2) g3 e4
    have P4 := Past_g8 P2 (by omega) O4
    have i44 := O4.1 44 (by omega)
    have hcnt4 : hp_I h4 44 3 = nI (qp_ s m t).length := by rw [i44.2.2.1]; exact hcnt
    have hq4 := rx_55 (Past_rx P4)
    have lns4 := Past_ln P4
    have ins4 := Past_in P4
    have n4 := Past_nx P4
    refine wp_aload0 rfl ?_
    refine wp_aload0 rfl ?_
    refine wp_getR rfl (Past_kd P4) (Past_R9 P4) (by first | decide | omega) ?_
    refine wp_aload0 rfl ?_
    refine wp_getR rfl (Past_kd P4) (Past_R0 P4) (by first | decide | omega) ?_
    refine wp_getIE rfl (Orbit_kd (Past_s0 P4)) (show _ = nI ((qp_ s m t).length) from hcnt4) ?_
    refine wp_callS2A rfl (Nat.le_of_ble_eq_true rfl) (Cells_grownLong_ok (Past_k9 P4) (by omega) rfl (by omega) (by omega)) (Nat.le_of_ble_eq_true rfl) ?_
    rintro q2 h5 g5
    have k5 : hp_kd h5 43 = 18 := by
      rcases g5 with ⟨-, -, y⟩ | ⟨-, -, y⟩
      · rw [y]; exact Past_kd P4
      · rw [y, (al_old (by omega)).1]; exact Past_kd P4
    have q20 : q2 ≠ 0 := by rcases g5 with ⟨-, y, -⟩ | ⟨-, y, -⟩ <;> omega
    refine wp_putR rfl k5 q20 ?_
    refine wq_gen (fun h6 e6 => ?_)
    have O6 := ow_of (by omega) ins4.2.1 (by omega) (Past_k9 P4) (Past_R9 P4) g5 e6
    have P6 := Past_g9 P4 (by omega) O6
    have i446 := O6.1 44 (by omega)
    have hcnt6 : hp_I h6 44 3 = nI (qp_ s m t).length := by rw [i446.2.2.1]; exact hcnt4
    have hq6 := rx_55 (Past_rx P6)
    have lns6 := Past_ln P6
    have ins6 := Past_in P6
    have n6 := Past_nx P6
    refine wp_aload0 rfl ?_
    refine wp_aload0 rfl ?_
    refine wp_getR rfl (Past_kd P6) (Past_R10 P6) (by first | decide | omega) ?_
    refine wp_aload0 rfl ?_
    refine wp_getR rfl (Past_kd P6) (Past_R0 P6) (by first | decide | omega) ?_
    refine wp_getIE rfl (Orbit_kd (Past_s0 P6)) (show _ = nI ((qp_ s m t).length) from hcnt6) ?_
    refine wp_callS2A rfl (Nat.le_of_ble_eq_true rfl) (Cells_grown_ok (Past_k10 P6) (by omega) rfl (by omega) (by omega)) (Nat.le_of_ble_eq_true rfl) ?_
    rintro r2 h7 g7
    have k7 : hp_kd h7 43 = 18 := by
      rcases g7 with ⟨-, -, y⟩ | ⟨-, -, y⟩
      · rw [y]; exact Past_kd P6
      · rw [y, (al_old (by omega)).1]; exact Past_kd P6
    have r20 : r2 ≠ 0 := by rcases g7 with ⟨-, y, -⟩ | ⟨-, y, -⟩ <;> omega
    refine wp_putR rfl k7 r20 ?_
    refine wq_gen (fun h8 e8 => ?_)
    have O8 := ow_of (by omega) ins6.2.2.1 (by omega) (Past_k10 P6) (Past_R10 P6) g7 e8
    have P8 := Past_g10 P6 (by omega) O8
    have i448 := O8.1 44 (by omega)
    have hcnt8 : hp_I h8 44 3 = nI (qp_ s m t).length := by rw [i448.2.2.1]; exact hcnt6
    have hq8 := rx_55 (Past_rx P8)
    have lns8 := Past_ln P8
    have ins8 := Past_in P8
    have n8' := Past_nx P8
    refine wp_aload0 rfl ?_
    refine wp_aload0 rfl ?_
    refine wp_getR rfl (Past_kd P8) (Past_R11 P8) (by first | decide | omega) ?_
    refine wp_aload0 rfl ?_
    refine wp_getR rfl (Past_kd P8) (Past_R0 P8) (by first | decide | omega) ?_
    refine wp_getIE rfl (Orbit_kd (Past_s0 P8)) (show _ = nI ((qp_ s m t).length) from hcnt8) ?_
    refine wp_callS2A rfl (Nat.le_of_ble_eq_true rfl) (Cells_grown_ok (Past_k11 P8) (by omega) rfl (by omega) (by omega)) (Nat.le_of_ble_eq_true rfl) ?_
    rintro y2 h9 g9
    have k9 : hp_kd h9 43 = 18 := by
      rcases g9 with ⟨-, -, y⟩ | ⟨-, -, y⟩
      · rw [y]; exact Past_kd P8
      · rw [y, (al_old (by omega)).1]; exact Past_kd P8
    have y20 : y2 ≠ 0 := by rcases g9 with ⟨-, y, -⟩ | ⟨-, y, -⟩ <;> omega
    refine wp_putR rfl k9 y20 ?_
    refine wq_gen (fun ha ea => ?_)
    have Oa := ow_of (by omega) ins8.2.2.2 (by omega) (Past_k11 P8) (Past_R11 P8) g9 ea
    have Pa := Past_g11 P8 (by omega) Oa
    have hqa := rx_55 (Past_rx Pa)
    have lnsa := Past_ln Pa
    have insa := Past_in Pa
    have na := Past_nx Pa
    refine wp_aload0 rfl ?_
    refine wp_getR rfl (Past_kd Pa) (Past_R10 Pa) (by first | decide | omega) ?_
    refine wp_iconst rfl ?_
    refine wp_callS2V rfl (Nat.le_of_ble_eq_true rfl) (Cells_fill_ok (Past_k10 Pa) (by omega) rfl (by omega)) (Nat.le_of_ble_eq_true rfl) ?_
    intro hc ec
    have z1 : fz_ (fun q => q = r2 ∨ q = y2) ha hc := by rw [ec]; exact fz_rI (fz_refl _ _) (Or.inl rfl) _
    have Pc := Past_fz Pa z1 (by rw [fz_I z1 (by omega)])
    refine wp_aload0 rfl ?_
    refine wp_getR rfl (Past_kd Pc) (Past_R11 Pc) (by first | decide | omega) ?_
    refine wp_iconst rfl ?_
    refine wp_callS2V rfl (Nat.le_of_ble_eq_true rfl) (Cells_fill_ok (a := y2) (h := hc) (Past_k11 Pc) (by omega) rfl (by rw [fz_ln z1]; omega)) (Nat.le_of_ble_eq_true rfl) ?_
    intro hb eb
    have z : fz_ (fun q => q = r2 ∨ q = y2) ha hb := by rw [eb]; exact fz_rI z1 (Or.inr rfl) _
    have exa := Past_ex Pa
    have d8 := O8.2.2.2.2.2.2.1.1
    have da := Oa.2.2.2.2.2.2.1.1
    have d4 := O4.2.2.2.2.2.2.1.1
    have d6 := O6.2.2.2.2.2.2.1.1
    have ry2 : r2 ≠ y2 := exa.1
    have x4 := O4.2.2.2.2.2.2.2
    have x6 := O6.2.2.2.2.2.2.2
    have x8 := O8.2.2.2.2.2.2.2
    have xa := Oa.2.2.2.2.2.2.2
    have m4 := O4.2.2.2.2.1.1
    have m6 := O6.2.2.2.2.1.1
    have m8 := O8.2.2.2.2.1.1
    have ma := Oa.2.2.2.2.1.1
    have keep : ∀ v, v ≤ hp_nx h2 → v ≠ r2 → v ≠ y2 → hp_I hb v = hp_I h2 v ∧ hp_ln hb v = hp_ln h2 v ∧ hp_J hb v = hp_J h2 v := by
      intro v hv v1 v2
      have q4 := O4.1 v hv
      have q6 := O6.1 v (by omega)
      have q8 := O8.1 v (by omega)
      have qa := Oa.1 v (by omega)
      refine ⟨?_, ?_, ?_⟩
      · rw [fz_I z (by omega), qa.2.2.1, q8.2.2.1, q6.2.2.1, q4.2.2.1]
      · rw [fz_ln z, qa.2.1, q8.2.1, q6.2.1, q4.2.1]
      · rw [fz_J z (by omega), qa.2.2.2.1, q8.2.2.2.1, q6.2.2.2.1, q4.2.2.2.1]
    have lp2 : hp_ln hb p2 = hp_ln h4 p2 := by rw [fz_ln z, (Oa.1 p2 (by omega)).2.1, (O8.1 p2 (by omega)).2.1, (O6.1 p2 (by omega)).2.1]
    have lq2 : hp_ln hb q2 = hp_ln h6 q2 := by rw [fz_ln z, (Oa.1 q2 (by omega)).2.1, (O8.1 q2 (by omega)).2.1]
    have lr2 : hp_ln hb r2 = hp_ln h8 r2 := by rw [fz_ln z, (Oa.1 r2 (by omega)).2.1]
    have ly2 : hp_ln hb y2 = hp_ln ha y2 := by rw [fz_ln z]
    have kpa := keep a2 on2.2.1 (Ne.symm exa.2.1.1) (Ne.symm exa.2.2.1)
    have kpb := keep b2 on2.2.2.1 (Ne.symm exa.2.1.2.1) (Ne.symm exa.2.2.2.1)
    have kpc := keep c2 on2.2.2.2.1 (Ne.symm exa.2.1.2.2.1) (Ne.symm exa.2.2.2.2.1)
    have kpe := keep e2 on2.2.2.2.2 (Ne.symm exa.2.1.2.2.2) (Ne.symm exa.2.2.2.2.2)
    have kpo := keep 44 (by omega) (by omega) (by omega)
    have kp43 := keep 43 (by omega) (by omega) (by omega)
    have f43 := (A2.2.2 43 (by omega)).2.2 (by unfold oc5_; omega)
    have AN := A2.1
    have AS : ag_ (pe_ a b c e r y) h1 ha := ag_trans (ag_trans (ag_trans (ag_trans (ag_mono (fun v _ hv => Or.inr (Or.inl hv)) A2) (ow_ag O4) (fun v _ hv => Or.inl hv)) (ow_ag O6) (fun v _ hv => Or.inl hv)) (ow_ag O8) (fun v _ hv => Or.inl hv)) (ow_ag Oa) (fun v _ hv => Or.inl hv)
    have AF : ag_ (pe_ a b c e r y) h1 hb := ag_trans AS (ag_fz z) (fun v hv hq => pe_back (n := hp_nx h1) hv hq (by have := O8.2.2.2.2.2.2.1.2; rcases this with u | u; exact Or.inl u; exact Or.inr (by omega)) (by have := Oa.2.2.2.2.2.2.1.2; rcases this with u | u; exact Or.inl u; exact Or.inr (by omega)))
    have SPb : SP_ hb e2 (kn_ s m) (mv_ s) (may_ s) (qp_ s m t) t := by
      unfold SP_ at hSP ⊢
      rw [kpe.1]
      exact hSP
    have fin : (∃ a2 b2 c2 e2 p2 q2 r2 y2 t, S_Past hb a2 b2 c2 e2 p2 q2 r2 y2 ∧ PX_ hb a2 b2 c2 e2 p2 q2 r2 y2 s m t ∧ (∀ i, i < (qp_ s m t).length → hp_I hb r2 i = nI 0 ∧ hp_I hb y2 i = nI 0) ∧ ag_ (pe_ a b c e r y) h1 hb ∧ (hp_I hb 43 = hp_I h1 43 ∧ hp_J hb 43 = hp_J h1 43) ∧ ((nw2_ h1 a a2 ∧ nw2_ h1 b b2 ∧ nw2_ h1 c c2 ∧ nw2_ h1 e e2) ∧ nw2_ h1 p p2 ∧ nw2_ h1 q q2 ∧ nw2_ h1 r r2 ∧ nw2_ h1 y y2) ∧ hp_nx hb ≤ hp_nx h1 + 8 ∧ hp_sl hb + oc2_ h1 a b c e ≤ hp_sl h1 + oc2_ hb a2 b2 c2 e2 + 80640 ∧ (hp_ln hb a2 ≤ max (hp_ln h1 a) 20160 ∧ hp_ln hb b2 ≤ max (hp_ln h1 b) 20160 ∧ hp_ln hb c2 ≤ max (hp_ln h1 c) 20160 ∧ hp_ln hb e2 ≤ max (hp_ln h1 e) 120960)) := by
      refine ⟨a2, b2, c2, e2, p2, q2, r2, y2, t, Past_fz Pa z (by rw [fz_I z (by omega)]), ⟨OI_cg hOI kpo.1 ⟨kpa.1, kpa.2.1⟩ ⟨kpb.1, kpb.2.1⟩ ⟨kpc.1, kpc.2.1⟩, SPb, ht, by rw [kpe.2.1]; exact L2 rfl, by rw [lp2]; exact m4, by rw [lq2]; exact m6, by rw [lr2]; exact m8, by rw [ly2]; exact ma⟩, fun i hi => ⟨?_, ?_⟩, AF, ⟨kp43.1.trans f43.1, kp43.2.2.trans f43.2.1⟩, ⟨⟨w1, w2, w3, w4⟩, ?_, ?_, ?_, ?_⟩, ?_, ?_, ?_, ?_, ?_, ?_⟩
      · rw [eb, sd_rI_ne (by omega), ec, sd_rI_eq, if_pos (by rw [← fz_ln z, lr2]; omega)]
      · rw [eb, sd_rI_eq, if_pos (by rw [ec]; show i < hp_ln ha y2; omega)]
      · exact nw_le2 (by omega) O4.2.2.2.2.2.2.1.2
      · exact nw_le2 (by omega) O6.2.2.2.2.2.2.1.2
      · exact nw_le2 (by omega) O8.2.2.2.2.2.2.1.2
      · exact nw_le2 (by omega) Oa.2.2.2.2.2.2.1.2
      · rw [z.1.1]; omega
      · unfold oc2_ at sl2 ⊢
        rw [z.1.2.1, kpa.2.1, kpb.2.1, kpc.2.1, kpe.2.1]
        omega
      · rw [kpa.2.1]; omega
      · rw [kpb.2.1]; omega
      · rw [kpc.2.1]; omega
      · rw [kpe.2.1]; omega
    exact wp_vret rfl ⟨rfl, fin⟩
