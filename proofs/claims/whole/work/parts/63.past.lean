-- ===== Past: explore =====
/-- a row of kind t grown and put into a field: what it keeps and gives -/
def ow_ (t o j m : Nat) (h : Hp_) (x x2 : Nat) (h1 : Hp_) : Prop := (∀ q, q ≤ hp_nx h → hp_kd h1 q = hp_kd h q ∧ hp_ln h1 q = hp_ln h q ∧ hp_I h1 q = hp_I h q ∧ hp_J h1 q = hp_J h q ∧ (q ≠ o → hp_R h1 q = hp_R h q)) ∧ (∀ k, k ≠ j → hp_R h1 o k = hp_R h o k) ∧ hp_R h1 o j = x2 ∧ hp_kd h1 x2 = t ∧ (m ≤ hp_ln h1 x2 ∧ hp_ln h1 x2 ≤ max (hp_ln h x) m) ∧ x2 ≠ 0 ∧ (x2 ≤ hp_nx h1 ∧ (x2 = x ∨ hp_nx h < x2)) ∧ (hp_nx h ≤ hp_nx h1 ∧ hp_nx h1 ≤ hp_nx h + 1) ∧ (hp_sl h ≤ hp_sl h1 ∧ hp_sl h1 ≤ hp_sl h + m)
theorem ow_of {t o j m x x2 : Nat} {h h2 h1 : Hp_} (ho : o ≤ hp_nx h) (hx : x ≤ hp_nx h) (h0 : x ≠ 0) (hk : hp_kd h x = t) (hR : hp_R h o j = x) (g : (m ≤ hp_ln h x ∧ x2 = x ∧ h2 = h) ∨ (hp_ln h x < m ∧ x2 = hp_nx h + 1 ∧ h2 = hp_al h t m m)) (e : h1 = hp_rR h2 o (va_up (hp_R h2 o) j x2)) : ow_ t o j m h x x2 h1 := by
  rcases g with ⟨g1, rfl, rfl⟩ | ⟨g1, rfl, rfl⟩
  · have e2 : h1 = h2 := by rw [e, show va_up (hp_R h2 o) j x2 = hp_R h2 o by rw [← hR]; exact vu_self _ _, hp_rR_self]
    subst e2
    exact ⟨fun q _ => ⟨rfl, rfl, rfl, rfl, fun _ => rfl⟩, fun k _ => rfl, hR, hk, ⟨g1, Nat.le_max_left _ _⟩, h0, ⟨hx, Or.inl rfl⟩, ⟨Nat.le_refl _, Nat.le_succ _⟩, Nat.le_refl _, Nat.le_add_right _ _⟩
  · subst e
    have n := @al_new h t m m
    have eo := @al_old h t m m o ho
    refine ⟨fun q hq => ?_, fun k hkj => ?_, ?_, n.1, ⟨Nat.le_of_eq n.2.1.symm, Nat.le_trans (Nat.le_of_eq n.2.1) (Nat.le_max_right _ _)⟩, by omega, ⟨Nat.le_refl _, Or.inr (Nat.lt_succ_self _)⟩, ⟨Nat.le_succ _, Nat.le_refl _⟩, Nat.le_add_right _ _, Nat.le_refl _⟩
    · have e := @al_old h t m m q hq
      exact ⟨e.1, e.2.1, e.2.2.1, e.2.2.2.1, fun hqo => (sd_up_ne hqo).trans e.2.2.2.2⟩
    · show va_up (hp_R (hp_al h t m m)) o (va_up (hp_R (hp_al h t m m) o) j (hp_nx h + 1)) o k = _
      rw [sd_up_eq, sd_up_ne hkj, eo.2.2.2.2]
    · show va_up (hp_R (hp_al h t m m)) o (va_up (hp_R (hp_al h t m m) o) j (hp_nx h + 1)) o j = _
      rw [sd_up_eq, sd_up_eq]
theorem ow_ag {t o j m x x2 : Nat} {h h1 : Hp_} (g : ow_ t o j m h x x2 h1) : ag_ (fun q => q = o) h h1 := ⟨g.2.2.2.2.2.2.2.1.1, g.2.2.2.2.2.2.2.2.1, fun c hc => ⟨(g.1 c hc).1, (g.1 c hc).2.1, fun hP => ⟨(g.1 c hc).2.2.1, (g.1 c hc).2.2.2.1, (g.1 c hc).2.2.2.2 hP⟩⟩⟩
theorem Past_new {h h1 : Hp_} {a b c e p q r y p2 q2 r2 y2 : Nat} (S : S_Past h a b c e p q r y) (A : ag_ (fun x => x = 43) h h1) (R0 : hp_R h1 43 0 = hp_R h 43 0 ∧ hp_R h1 43 1 = hp_R h 43 1 ∧ hp_R h1 43 2 = hp_R h 43 2 ∧ hp_R h1 43 3 = hp_R h 43 3 ∧ hp_R h1 43 4 = hp_R h 43 4) (R8 : hp_R h1 43 8 = p2 ∧ hp_R h1 43 9 = q2 ∧ hp_R h1 43 10 = r2 ∧ hp_R h1 43 11 = y2) (K : hp_kd h1 p2 = 2 ∧ hp_kd h1 q2 = 2 ∧ hp_kd h1 r2 = 1 ∧ hp_kd h1 y2 = 1) (L : hp_ln h1 p2 ≤ 300000 ∧ hp_ln h1 q2 ≤ 300000 ∧ hp_ln h1 r2 ≤ 300000 ∧ hp_ln h1 y2 ≤ 300000) (ne : p2 ≠ q2 ∧ ex_ a b c e r2 y2) (rx : rx_ p2 q2 r2 y2) (hin : p2 ≤ hp_nx h1 ∧ q2 ≤ hp_nx h1 ∧ r2 ≤ hp_nx h1 ∧ y2 ≤ hp_nx h1) : S_Past h1 a b c e p2 q2 r2 y2 := by
  have n93 := Past_nx S
  have O := Past_s0 S
  have Me := Past_s1 S
  have No := Past_s2 S
  obtain ⟨i1, i2, i3, i4, i5⟩ := Past_on S
  have kp := Past_kp S
  obtain ⟨⟨r0, r1, r2', r3, r4⟩, _⟩ := S.2.1
  obtain ⟨s0, s1, s2, s3, s4⟩ := R0
  obtain ⟨A1, A2, A3⟩ := A
  have k43 := A3 43 (by omega)
  have k44 := A3 44 (by omega)
  have k49 := A3 49 (by omega)
  have k50 := A3 50 (by omega)
  have k51 := A3 51 (by omega)
  have k52 := A3 52 (by omega)
  have k53 := A3 53 (by omega)
  have k54 := A3 54 (by omega)
  have ka := A3 a i2
  have kb := A3 b i3
  have kc := A3 c i4
  have ke := A3 e i5
  have e44 := k44.2.2 (by decide)
  have e49 := k49.2.2 (by decide)
  have e51 := k51.2.2 (by decide)
  unfold S_Memo at Me
  unfold S_Notes at No
  obtain ⟨o1, o2, o3, o4, o5, o6, o7⟩ := O
  refine ⟨k43.1.trans S.1, ⟨⟨s0.trans r0, s1.trans r1, s2.trans r2', s3.trans r3, s4.trans r4⟩, R8⟩, ⟨⟨k44.1.trans o1, by rw [e44.2.2]; exact o2, by rw [ka.1, kb.1, kc.1, ke.1]; exact o3, o4, o5, o6, by rw [ka.2.1, kb.2.1, kc.2.1, ke.2.1]; exact o7⟩, ⟨k49.1.trans Me.1, by rw [e49.2.2]; exact Me.2.1, k50.1.trans Me.2.2.1, k50.2.1.trans Me.2.2.2⟩, ⟨k51.1.trans No.1, by rw [e51.2.2]; exact No.2.1, k52.1.trans No.2.2.1, k52.2.1.trans No.2.2.2⟩⟩, ⟨⟨k53.1.trans (Past_k3 S), k53.2.1.trans (Past_n3 S)⟩, k54.1.trans (Past_k4 S), k54.2.1.trans (Past_n4 S)⟩, ⟨K, L⟩, ne, ⟨Past_rw S, rx⟩, Nat.le_trans n93 A1, ⟨⟨by omega, by omega, by omega, by omega, by omega⟩, hin⟩, by rw [e44.1]; exact kp⟩
theorem Past_g8 {h h1 : Hp_} {a b c e p q r y m x2 : Nat} (S : S_Past h a b c e p q r y) (hm : m ≤ 300000) (g : ow_ 2 43 8 m h p x2 h1) : S_Past h1 a b c e x2 q r y := by
  have A := ow_ag g
  obtain ⟨g1, g2, g3, g4, ⟨g5, g6⟩, g7, ⟨g8, g9⟩, ⟨g10, g11⟩, -⟩ := g
  obtain ⟨i1, i2, i3, i4⟩ := Past_in S
  obtain ⟨l1, l2, l3, l4⟩ := Past_ln S
  have rx := Past_rx S
  have n93 := Past_nx S
  have pq := Past_pq S
  refine Past_new S A ⟨g2 0 (by decide), g2 1 (by decide), g2 2 (by decide), g2 3 (by decide), g2 4 (by decide)⟩ ⟨g3, (g2 9 (by decide)).trans (Past_R9 S), (g2 10 (by decide)).trans (Past_R10 S), (g2 11 (by decide)).trans (Past_R11 S)⟩ ⟨g4, (g1 q i2).1.trans (Past_k9 S), (g1 r i3).1.trans (Past_k10 S), (g1 y i4).1.trans (Past_k11 S)⟩ ⟨Nat.le_trans g6 (Nat.max_le.mpr ⟨l1, hm⟩), by rw [(g1 q i2).2.1]; exact l2, by rw [(g1 r i3).2.1]; exact l3, by rw [(g1 y i4).2.1]; exact l4⟩ ⟨by omega, Past_ex S⟩ ?_ ⟨g8, by omega, by omega, by omega⟩
  unfold rx_ at rx ⊢
  omega
theorem Past_g9 {h h1 : Hp_} {a b c e p q r y m x2 : Nat} (S : S_Past h a b c e p q r y) (hm : m ≤ 300000) (g : ow_ 2 43 9 m h q x2 h1) : S_Past h1 a b c e p x2 r y := by
  have A := ow_ag g
  obtain ⟨g1, g2, g3, g4, ⟨g5, g6⟩, g7, ⟨g8, g9⟩, ⟨g10, g11⟩, -⟩ := g
  obtain ⟨i1, i2, i3, i4⟩ := Past_in S
  obtain ⟨l1, l2, l3, l4⟩ := Past_ln S
  have rx := Past_rx S
  have n93 := Past_nx S
  have pq := Past_pq S
  refine Past_new S A ⟨g2 0 (by decide), g2 1 (by decide), g2 2 (by decide), g2 3 (by decide), g2 4 (by decide)⟩ ⟨(g2 8 (by decide)).trans (Past_R8 S), g3, (g2 10 (by decide)).trans (Past_R10 S), (g2 11 (by decide)).trans (Past_R11 S)⟩ ⟨(g1 p i1).1.trans (Past_k8 S), g4, (g1 r i3).1.trans (Past_k10 S), (g1 y i4).1.trans (Past_k11 S)⟩ ⟨by rw [(g1 p i1).2.1]; exact l1, Nat.le_trans g6 (Nat.max_le.mpr ⟨l2, hm⟩), by rw [(g1 r i3).2.1]; exact l3, by rw [(g1 y i4).2.1]; exact l4⟩ ⟨by omega, Past_ex S⟩ ?_ ⟨by omega, g8, by omega, by omega⟩
  unfold rx_ at rx ⊢
  omega
theorem Past_g10 {h h1 : Hp_} {a b c e p q r y m x2 : Nat} (S : S_Past h a b c e p q r y) (hm : m ≤ 300000) (g : ow_ 1 43 10 m h r x2 h1) : S_Past h1 a b c e p q x2 y := by
  have A := ow_ag g
  obtain ⟨g1, g2, g3, g4, ⟨g5, g6⟩, g7, ⟨g8, g9⟩, ⟨g10, g11⟩, -⟩ := g
  obtain ⟨i1, i2, i3, i4⟩ := Past_in S
  obtain ⟨l1, l2, l3, l4⟩ := Past_ln S
  obtain ⟨j1, j2, j3, j4, j5⟩ := Past_on S
  have rx := Past_rx S
  have n93 := Past_nx S
  have ex := Past_ex S
  refine Past_new S A ⟨g2 0 (by decide), g2 1 (by decide), g2 2 (by decide), g2 3 (by decide), g2 4 (by decide)⟩ ⟨(g2 8 (by decide)).trans (Past_R8 S), (g2 9 (by decide)).trans (Past_R9 S), g3, (g2 11 (by decide)).trans (Past_R11 S)⟩ ⟨(g1 p i1).1.trans (Past_k8 S), (g1 q i2).1.trans (Past_k9 S), g4, (g1 y i4).1.trans (Past_k11 S)⟩ ⟨by rw [(g1 p i1).2.1]; exact l1, by rw [(g1 q i2).2.1]; exact l2, Nat.le_trans g6 (Nat.max_le.mpr ⟨l3, hm⟩), by rw [(g1 y i4).2.1]; exact l4⟩ ⟨Past_pq S, ?_⟩ ?_ ⟨by omega, by omega, g8, by omega⟩
  · unfold ex_ at ex ⊢
    omega
  · unfold rx_ at rx ⊢
    omega
theorem Past_g11 {h h1 : Hp_} {a b c e p q r y m x2 : Nat} (S : S_Past h a b c e p q r y) (hm : m ≤ 300000) (g : ow_ 1 43 11 m h y x2 h1) : S_Past h1 a b c e p q r x2 := by
  have A := ow_ag g
  obtain ⟨g1, g2, g3, g4, ⟨g5, g6⟩, g7, ⟨g8, g9⟩, ⟨g10, g11⟩, -⟩ := g
  obtain ⟨i1, i2, i3, i4⟩ := Past_in S
  obtain ⟨l1, l2, l3, l4⟩ := Past_ln S
  obtain ⟨j1, j2, j3, j4, j5⟩ := Past_on S
  have rx := Past_rx S
  have n93 := Past_nx S
  have ex := Past_ex S
  refine Past_new S A ⟨g2 0 (by decide), g2 1 (by decide), g2 2 (by decide), g2 3 (by decide), g2 4 (by decide)⟩ ⟨(g2 8 (by decide)).trans (Past_R8 S), (g2 9 (by decide)).trans (Past_R9 S), (g2 10 (by decide)).trans (Past_R10 S), g3⟩ ⟨(g1 p i1).1.trans (Past_k8 S), (g1 q i2).1.trans (Past_k9 S), (g1 r i3).1.trans (Past_k10 S), g4⟩ ⟨by rw [(g1 p i1).2.1]; exact l1, by rw [(g1 q i2).2.1]; exact l2, by rw [(g1 r i3).2.1]; exact l3, Nat.le_trans g6 (Nat.max_le.mpr ⟨l4, hm⟩)⟩ ⟨Past_pq S, ?_⟩ ?_ ⟨by omega, by omega, by omega, g8⟩
  · unfold ex_ at ex ⊢
    omega
  · unfold rx_ at rx ⊢
    omega
