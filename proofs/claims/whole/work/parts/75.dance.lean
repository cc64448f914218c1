-- ===== the class: what its heap holds =====
def S_Dance (h : Hp_) : Prop := hp_kd h 1 = 10 ∧ (hp_R h 1 0 = 2 ∧ hp_R h 1 1 = 4 ∧ hp_R h 1 2 = 13 ∧ hp_R h 1 3 = 22 ∧ hp_R h 1 5 = 31 ∧ hp_R h 1 6 = 32 ∧ hp_R h 1 7 = 35 ∧ hp_R h 1 8 = 43 ∧ hp_R h 1 9 = 59) ∧ (S_Pad h 2 ∧ S_Market h 4 ∧ S_Market h 13 ∧ S_Market h 22) ∧ (hp_kd h 31 = 1 ∧ hp_ln h 31 = 6) ∧ S_Group h 32
theorem Dance_kd {h : Hp_} (S : S_Dance h) : hp_kd h 1 = 10 := S.1
theorem Dance_R0 {h : Hp_} (S : S_Dance h) : hp_R h 1 0 = 2 := S.2.1.1
theorem Dance_R1 {h : Hp_} (S : S_Dance h) : hp_R h 1 1 = 4 := S.2.1.2.1
theorem Dance_R2 {h : Hp_} (S : S_Dance h) : hp_R h 1 2 = 13 := S.2.1.2.2.1
theorem Dance_R3 {h : Hp_} (S : S_Dance h) : hp_R h 1 3 = 22 := S.2.1.2.2.2.1
theorem Dance_R5 {h : Hp_} (S : S_Dance h) : hp_R h 1 5 = 31 := S.2.1.2.2.2.2.1
theorem Dance_R6 {h : Hp_} (S : S_Dance h) : hp_R h 1 6 = 32 := S.2.1.2.2.2.2.2.1
theorem Dance_R7 {h : Hp_} (S : S_Dance h) : hp_R h 1 7 = 35 := S.2.1.2.2.2.2.2.2.1
theorem Dance_R8 {h : Hp_} (S : S_Dance h) : hp_R h 1 8 = 43 := S.2.1.2.2.2.2.2.2.2.1
theorem Dance_R9 {h : Hp_} (S : S_Dance h) : hp_R h 1 9 = 59 := S.2.1.2.2.2.2.2.2.2.2
theorem Dance_s0 {h : Hp_} (S : S_Dance h) : S_Pad h 2 := S.2.2.1.1
theorem Dance_s1 {h : Hp_} (S : S_Dance h) : S_Market h 4 := S.2.2.1.2.1
theorem Dance_s2 {h : Hp_} (S : S_Dance h) : S_Market h 13 := S.2.2.1.2.2.1
theorem Dance_s3 {h : Hp_} (S : S_Dance h) : S_Market h 22 := S.2.2.1.2.2.2
theorem Dance_k5 {h : Hp_} (S : S_Dance h) : hp_kd h 31 = 1 := S.2.2.2.1.1
theorem Dance_n5 {h : Hp_} (S : S_Dance h) : hp_ln h 31 = 6 := S.2.2.2.1.2
theorem Dance_s6 {h : Hp_} (S : S_Dance h) : S_Group h 32 := S.2.2.2.2
theorem Dance_fz {h h2 : Hp_} {P : Nat → Prop} (S : S_Dance h) (z : fz_ P h h2) : S_Dance h2 := by
  unfold S_Dance S_Pad S_Market S_Notes S_Group at S ⊢
  rw [fz_kd z, fz_ln z, fz_R z]
  exact S
theorem Dance_ag {h h2 : Hp_} {P : Nat → Prop} (S : S_Dance h) (A : ag_ P h h2) (hn : 34 ≤ hp_nx h) (hP : ∀ v, v ≤ 34 → ¬ P v) : S_Dance h2 := by
  have k : ∀ v, v ≤ 34 → hp_kd h2 v = hp_kd h v ∧ hp_ln h2 v = hp_ln h v ∧ hp_R h2 v = hp_R h v := fun v hv => ⟨(A.2.2 v (by omega)).1, (A.2.2 v (by omega)).2.1, ((A.2.2 v (by omega)).2.2 (hP v hv)).2.2⟩
  have e1 := k 1 (by decide)
  have e2 := k 2 (by decide)
  have e3 := k 3 (by decide)
  have e4 := k 4 (by decide)
  have e5 := k 5 (by decide)
  have e6 := k 6 (by decide)
  have e7 := k 7 (by decide)
  have e8 := k 8 (by decide)
  have e9 := k 9 (by decide)
  have e10 := k 10 (by decide)
  have e11 := k 11 (by decide)
  have e12 := k 12 (by decide)
  have e13 := k 13 (by decide)
  have e14 := k 14 (by decide)
  have e15 := k 15 (by decide)
  have e16 := k 16 (by decide)
  have e17 := k 17 (by decide)
  have e18 := k 18 (by decide)
  have e19 := k 19 (by decide)
  have e20 := k 20 (by decide)
  have e21 := k 21 (by decide)
  have e22 := k 22 (by decide)
  have e23 := k 23 (by decide)
  have e24 := k 24 (by decide)
  have e25 := k 25 (by decide)
  have e26 := k 26 (by decide)
  have e27 := k 27 (by decide)
  have e28 := k 28 (by decide)
  have e29 := k 29 (by decide)
  have e30 := k 30 (by decide)
  have e31 := k 31 (by decide)
  have e32 := k 32 (by decide)
  have e33 := k 33 (by decide)
  have e34 := k 34 (by decide)
  obtain ⟨a, b, ⟨p, m4, m13, m22⟩, c, g⟩ := S
  refine ⟨e1.1.trans a, by rw [e1.2.2]; exact b, ⟨?_, ?_, ?_, ?_⟩, by rw [e31.1, e31.2.1]; exact c, ?_⟩
  · unfold S_Pad at p ⊢
    rw [e2.1, e2.2.2, e3.1, e3.2.1]
    exact p
  · unfold S_Market S_Notes at m4 ⊢
    rw [e4.1, e4.2.2, e5.1, e5.2.1, e6.1, e6.2.1, e7.1, e7.2.1, e8.1, e8.2.1, e9.1, e9.2.2, e10.1, e10.2.1, e11.1, e11.2.2, e12.1, e12.2.1]
    exact m4
  · unfold S_Market S_Notes at m13 ⊢
    rw [e13.1, e13.2.2, e14.1, e14.2.1, e15.1, e15.2.1, e16.1, e16.2.1, e17.1, e17.2.1, e18.1, e18.2.2, e19.1, e19.2.1, e20.1, e20.2.2, e21.1, e21.2.1]
    exact m13
  · unfold S_Market S_Notes at m22 ⊢
    rw [e22.1, e22.2.2, e23.1, e23.2.1, e24.1, e24.2.1, e25.1, e25.2.1, e26.1, e26.2.1, e27.1, e27.2.2, e28.1, e28.2.1, e29.1, e29.2.2, e30.1, e30.2.1]
    exact m22
  · unfold S_Group at g ⊢
    rw [e32.1, e32.2.2, e33.1, e33.2.1, e34.1, e34.2.1]
    exact g
theorem MK_cg {h h2 : Hp_} {m : Nat} {s : Sg_} (M : MK_ h m s) (e : ∀ v, m ≤ v → v ≤ m + 8 → hp_I h2 v = hp_I h v) : MK_ h2 m s := by
  unfold MK_ NS_ at M ⊢
  rw [e m (by omega) (by omega), e (m + 1) (by omega) (by omega), e (m + 2) (by omega) (by omega), e (m + 3) (by omega) (by omega), e (m + 4) (by omega) (by omega), e (m + 5) (by omega) (by omega), e (m + 5 + 1) (by omega) (by omega), e (m + 7) (by omega) (by omega), e (m + 7 + 1) (by omega) (by omega)]
  exact M
/-- which images have been kept -/
def ki_ (t : Rt_) : Nat := (if t.2.2.2.1.isSome then 1 else 0) + (if t.2.2.2.2.isSome then 2 else 0)
/-- the class holds a state -/
def XS_ (h : Hp_) (t : Rt_) : Prop := S_Dance h ∧ P_is h 2 t.2.1 t.2.2.1 ∧ (MK_ h 4 t.1 ∧ sg_wf t.1) ∧ hp_I h 1 4 = nI (ki_ t) ∧ (∀ s, t.2.2.2.1 = some s → MK_ h 13 s ∧ sg_wf s) ∧ ∀ s, t.2.2.2.2 = some s → MK_ h 22 s ∧ sg_wf s
theorem XS_cg {h h2 : Hp_} {t : Rt_} (X : XS_ h t) (S : S_Dance h2) (e : ∀ v, v ≤ 30 → hp_I h2 v = hp_I h v) : XS_ h2 t := by
  obtain ⟨_, ⟨p1, p2, p3, p4⟩, ⟨m, w⟩, k, a, b⟩ := X
  exact ⟨S, ⟨by rw [e 2 (by decide)]; exact p1, p2, by rw [e (2 + 1) (by decide)]; exact p3, p4⟩, ⟨MK_cg m (fun v _ hv => e v (by omega)), w⟩, by rw [e 1 (by decide)]; exact k, fun s hs => ⟨MK_cg (a s hs).1 (fun v _ hv => e v (by omega)), (a s hs).2⟩, fun s hs => ⟨MK_cg (b s hs).1 (fun v _ hv => e v (by omega)), (b s hs).2⟩⟩
theorem XS_fz {h h2 : Hp_} {t : Rt_} {P : Nat → Prop} (X : XS_ h t) (z : fz_ P h h2) (hP : ∀ v, v ≤ 30 → ¬ P v) : XS_ h2 t := XS_cg X (Dance_fz X.1 z) (fun v hv => fz_I z (hP v hv))
theorem XS_ag {h h2 : Hp_} {t : Rt_} {P : Nat → Prop} (X : XS_ h t) (A : ag_ P h h2) (hn : 34 ≤ hp_nx h) (hP : ∀ v, v ≤ 34 → ¬ P v) : XS_ h2 t := XS_cg X (Dance_ag X.1 A hn hP) (fun v hv => ((A.2.2 v (by omega)).2.2 (hP v (by omega))).1)
-- the kept answers
theorem Past_keep {P : Nat → Prop} {h h' : Hp_} {a b c e p q r y : Nat} {PP : Nat → Int32} {st : Bool} (S : S_Past h a b c e p q r y) (H : PH_ h PP st) (A : ag_ P h h') (hP : ∀ v, pc_ a b c e p q r y v → ¬ P v) : S_Past h' a b c e p q r y ∧ PH_ h' PP st := by
  have n93 := Past_nx S
  have ON := Past_on S
  unfold on_ at ON
  have IN := Past_in S
  have k : ∀ v, v ≤ hp_nx h → pc_ a b c e p q r y v → hp_kd h' v = hp_kd h v ∧ hp_ln h' v = hp_ln h v ∧ hp_I h' v = hp_I h v ∧ hp_J h' v = hp_J h v ∧ hp_R h' v = hp_R h v := fun v hv hc => ⟨(A.2.2 v hv).1, (A.2.2 v hv).2.1, (A.2.2 v hv).2.2 (hP v hc)⟩
  have f : ∀ v, v = 43 ∨ v = 44 ∨ (49 ≤ v ∧ v ≤ 54) → hp_kd h' v = hp_kd h v ∧ hp_ln h' v = hp_ln h v ∧ hp_I h' v = hp_I h v ∧ hp_J h' v = hp_J h v ∧ hp_R h' v = hp_R h v := fun v hv => k v (by omega) (hv.elim Or.inl (fun u => u.elim (fun z => Or.inr (Or.inl z)) (fun z => Or.inr (Or.inr (Or.inl z)))))
  have k43 := f 43 (by decide)
  have k44 := f 44 (by decide)
  have k49 := f 49 (by decide)
  have k50 := f 50 (by decide)
  have k51 := f 51 (by decide)
  have k52 := f 52 (by decide)
  have k53 := f 53 (by decide)
  have k54 := f 54 (by decide)
  have ka := k a ON.2.1 (Or.inr (Or.inr (Or.inr (Or.inl rfl))))
  have kb := k b ON.2.2.1 (Or.inr (Or.inr (Or.inr (Or.inr (Or.inl rfl)))))
  have kc := k c ON.2.2.2.1 (Or.inr (Or.inr (Or.inr (Or.inr (Or.inr (Or.inl rfl))))))
  have ke := k e ON.2.2.2.2 (Or.inr (Or.inr (Or.inr (Or.inr (Or.inr (Or.inr (Or.inl rfl)))))))
  have kp := k p IN.1 (Or.inr (Or.inr (Or.inr (Or.inr (Or.inr (Or.inr (Or.inr (Or.inl rfl))))))))
  have kq := k q IN.2.1 (Or.inr (Or.inr (Or.inr (Or.inr (Or.inr (Or.inr (Or.inr (Or.inr (Or.inl rfl)))))))))
  have kr := k r IN.2.2.1 (Or.inr (Or.inr (Or.inr (Or.inr (Or.inr (Or.inr (Or.inr (Or.inr (Or.inr (Or.inl rfl))))))))))
  have ky := k y IN.2.2.2 (Or.inr (Or.inr (Or.inr (Or.inr (Or.inr (Or.inr (Or.inr (Or.inr (Or.inr (Or.inr rfl))))))))))
  have nx := A.1
  refine ⟨?_, MM_cg H.1 k49.2.2.1 k50.2.2.1, fun z => ?_⟩
  · have IN2 : p ≤ hp_nx h' ∧ q ≤ hp_nx h' ∧ r ≤ hp_nx h' ∧ y ≤ hp_nx h' := ⟨Nat.le_trans IN.1 nx, Nat.le_trans IN.2.1 nx, Nat.le_trans IN.2.2.1 nx, Nat.le_trans IN.2.2.2 nx⟩
    have ON2 : on_ h' 44 a b c e := ⟨Nat.le_trans ON.1 nx, Nat.le_trans ON.2.1 nx, Nat.le_trans ON.2.2.1 nx, Nat.le_trans ON.2.2.2.1 nx, Nat.le_trans ON.2.2.2.2 nx⟩
    have n93' : 93 ≤ hp_nx h' := Nat.le_trans n93 nx
    obtain ⟨s1, s2, ⟨s3, s4, s5⟩, s6, s7, s8, s9, -, -, s10⟩ := S
    refine ⟨k43.1.trans s1, by rw [k43.2.2.2.2]; exact s2, ⟨?_, ?_, ?_⟩, by rw [k53.1, k53.2.1, k54.1, k54.2.1]; exact s6, by rw [kp.1, kq.1, kr.1, ky.1, kp.2.1, kq.2.1, kr.2.1, ky.2.1]; exact s7, s8, s9, n93', ⟨ON2, IN2⟩, by rw [k44.2.2.1]; exact s10⟩
    · unfold S_Orbit at s3 ⊢
      rw [k44.1, k44.2.2.2.2, ka.1, kb.1, kc.1, ke.1, ka.2.1, kb.2.1, kc.2.1, ke.2.1]
      exact s3
    · unfold S_Memo at s4 ⊢
      rw [k49.1, k49.2.2.2.2, k50.1, k50.2.1]
      exact s4
    · unfold S_Notes at s5 ⊢
      rw [k51.1, k51.2.2.2.2, k52.1, k52.2.1]
      exact s5
  · obtain ⟨s, m, w, hm, hk, O⟩ := H.2 z
    exact ⟨s, m, w, hm, hk, PO_cg O (by rw [k43.2.2.2.1]) k53.2.2.1 k54.2.2.1⟩
theorem Even_keep {P : Nat → Prop} {h h' : Hp_} {PP : Nat → Int32} {st : Bool} (S : S_Even h) (H : EH_ h PP st) (A : ag_ P h h') (n93 : 93 ≤ hp_nx h) (hP : ∀ v, 59 ≤ v → v ≤ 64 → ¬ P v) : S_Even h' ∧ EH_ h' PP st := by
  have k : ∀ v, 59 ≤ v → v ≤ 64 → hp_kd h' v = hp_kd h v ∧ hp_ln h' v = hp_ln h v ∧ hp_I h' v = hp_I h v ∧ hp_J h' v = hp_J h v ∧ hp_R h' v = hp_R h v := fun v h1 h2 => ⟨(A.2.2 v (by omega)).1, (A.2.2 v (by omega)).2.1, (A.2.2 v (by omega)).2.2 (hP v h1 h2)⟩
  have k59 := k 59 (by decide) (by decide)
  have k60 := k 60 (by decide) (by decide)
  have k61 := k 61 (by decide) (by decide)
  have k62 := k 62 (by decide) (by decide)
  have k63 := k 63 (by decide) (by decide)
  have k64 := k 64 (by decide) (by decide)
  refine ⟨?_, MM_cg H.1 k60.2.2.1 k61.2.2.1, fun z => ?_⟩
  · obtain ⟨s1, s2, s3, s4, s5⟩ := S
    refine ⟨k59.1.trans s1, by rw [k59.2.2.2.2]; exact s2, ?_, by rw [k62.1, k62.2.1]; exact s4, ?_⟩
    · unfold S_Memo at s3 ⊢
      rw [k60.1, k60.2.2.2.2, k61.1, k61.2.1]
      exact s3
    · unfold S_Notes at s5 ⊢
      rw [k63.1, k63.2.2.2.2, k64.1, k64.2.1]
      exact s5
  · obtain ⟨s, m, w, hm, hk, O⟩ := H.2 z
    exact ⟨s, m, w, hm, hk, EO_ae ⟨fun _ _ => ⟨rfl, fun _ => rfl⟩, rfl, rfl⟩ k59.2.2.1 O⟩
/-- the cells of the kept answers; what they may cost -/
def cl_ (h : Hp_) (a b c e a2 b2 c2 e2 p q r y k : Nat) : Prop := (∀ v, sc_ a b c e v → ¬ pc_ a2 b2 c2 e2 p q r y v) ∧ hp_nx h ≤ 93 + 8 * k ∧ hp_sl h ≤ 1060000 + oc2_ h a b c e + oc2_ h a2 b2 c2 e2 + 80640 * k ∧ (hp_ln h a2 ≤ 20160 ∧ hp_ln h b2 ≤ 20160 ∧ hp_ln h c2 ≤ 20160 ∧ hp_ln h e2 ≤ 120960)
def CX_ (h : Hp_) (k : Nat) : Prop := ∃ (a b c e a2 b2 c2 e2 p q r y : Nat) (P P2 P3 : Nat → Int32) (st st2 st3 : Bool), (S_Short h a b c e ∧ SH_ h P st a b c e) ∧ (S_Past h a2 b2 c2 e2 p q r y ∧ PH_ h P2 st2) ∧ (S_Even h ∧ EH_ h P3 st3) ∧ cl_ h a b c e a2 b2 c2 e2 p q r y k
theorem cl_mono {h : Hp_} {a b c e a2 b2 c2 e2 p q r y k k2 : Nat} (C : cl_ h a b c e a2 b2 c2 e2 p q r y k) (hk : k ≤ k2) : cl_ h a b c e a2 b2 c2 e2 p q r y k2 := ⟨C.1, by have := C.2.1; omega, by have := C.2.2.1; omega, C.2.2.2⟩
theorem CX_mono {h : Hp_} {k k2 : Nat} (C : CX_ h k) (hk : k ≤ k2) : CX_ h k2 := by
  obtain ⟨a, b, c, e, a2, b2, c2, e2, p, q, r, y, P, P2, P3, st, st2, st3, h1, h2, h3, h4⟩ := C
  exact ⟨a, b, c, e, a2, b2, c2, e2, p, q, r, y, P, P2, P3, st, st2, st3, h1, h2, h3, cl_mono h4 hk⟩
theorem CX_nx {h : Hp_} {k : Nat} (C : CX_ h k) : 93 ≤ hp_nx h := by
  obtain ⟨a, b, c, e, a2, b2, c2, e2, p, q, r, y, P, P2, P3, st, st2, st3, h1, h2, h3, h4⟩ := C
  exact Past_nx h2.1
theorem sc_hi {a b c e v : Nat} (R : rw4_ 37 a b c e) (hv : sc_ a b c e v) : 35 ≤ v ∧ (v ≤ 64 ∨ 93 < v) := by
  unfold rw4_ at R
  unfold sc_ at hv
  omega
theorem pc_hi {a b c e p q r y v : Nat} (R : rw4_ 45 a b c e) (X : rx_ p q r y) (hv : pc_ a b c e p q r y v) : 43 ≤ v ∧ (v ≤ 64 ∨ 93 < v) := by
  unfold rw4_ at R
  unfold rx_ at X
  unfold pc_ at hv
  omega
theorem pc_ev {a b c e p q r y v : Nat} (R : rw4_ 45 a b c e) (X : rx_ p q r y) (hv : pc_ a b c e p q r y v) : ¬ (59 ≤ v ∧ v ≤ 64) := by
  unfold rw4_ at R
  unfold rx_ at X
  unfold pc_ at hv
  omega
theorem sc_ev {a b c e v : Nat} (R : rw4_ 37 a b c e) (hv : sc_ a b c e v) : ¬ (59 ≤ v ∧ v ≤ 64) := by
  unfold rw4_ at R
  unfold sc_ at hv
  omega
theorem Short_rw {h : Hp_} {a b c e : Nat} (S : S_Short h a b c e) : rw4_ 37 a b c e := S.2.2.2.2.2.1
theorem CX_fz {h h2 : Hp_} {k : Nat} {P : Nat → Prop} (C : CX_ h k) (z : fz_ P h h2) (hP : ∀ v, P v → v ≤ 34 ∨ (65 ≤ v ∧ v ≤ 93)) : CX_ h2 k := by
  obtain ⟨a, b, c, e, a2, b2, c2, e2, p, q, r, y, P1, P2, P3, st, st2, st3, ⟨s1, s2⟩, ⟨p1, p2⟩, ⟨e1, e2'⟩, c1, c2', c3, c4⟩ := C
  have A := ag_fz z
  have K1 := SH_keep s1 s2 A (fun q hq hp => by have := sc_hi (Short_rw s1) hq; have := hP q hp; omega)
  have K2 := Past_keep p1 p2 A (fun q hq hp => by have := pc_hi (Past_rw p1) (Past_rx p1) hq; have := hP q hp; omega)
  have K3 := Even_keep e1 e2' A (Past_nx p1) (fun q h1 h2 hp => by have := hP q hp; omega)
  refine ⟨a, b, c, e, a2, b2, c2, e2, p, q, r, y, P1, P2, P3, st, st2, st3, K1, K2, K3, c1, by rw [z.1.1]; exact c2', ?_, by rw [fz_ln z]; exact c4⟩
  unfold oc2_ at c3 ⊢
  rw [z.1.2.1, fz_ln z]
  exact c3
/-- the class: a state, and what is kept -/
def XB_ (h : Hp_) (t : Rt_) (k : Nat) : Prop := XS_ h t ∧ CX_ h k
/-- cells that are not the reference's -/
def cf_ (v : Nat) : Prop := v < 65 ∨ 93 < v
/-- what a call of the class leaves -/
def DR_ (h h' : Hp_) (t : Rt_) (k : Nat) : Prop := XB_ h' t k ∧ ag_ cf_ h h'
theorem DR_of {h h' : Hp_} {t t2 : Rt_} {k : Nat} (X : XB_ h t k) (z : fz_ (fun v => v ≤ 34) h h') (Y : XS_ h' t2) : DR_ h h' t2 (k + 1) := ⟨⟨Y, CX_mono (CX_fz X.2 z (fun v hv => Or.inl hv)) (Nat.le_succ k)⟩, ag_mono (fun v _ hv => Or.inl (by omega)) (ag_fz z)⟩
theorem DR_same {h : Hp_} {t : Rt_} {k : Nat} (X : XB_ h t k) : DR_ h h t (k + 1) := DR_of X (fz_refl _ _) X.1
theorem XB_.S {h : Hp_} {t : Rt_} {k : Nat} (X : XB_ h t k) : S_Dance h := X.1.1
theorem XB_.P {h : Hp_} {t : Rt_} {k : Nat} (X : XB_ h t k) : P_is h 2 t.2.1 t.2.2.1 := X.1.2.1
theorem XB_.M {h : Hp_} {t : Rt_} {k : Nat} (X : XB_ h t k) : MK_ h 4 t.1 := X.1.2.2.1.1
theorem XB_.w {h : Hp_} {t : Rt_} {k : Nat} (X : XB_ h t k) : sg_wf t.1 := X.1.2.2.1.2
theorem XB_.n {h : Hp_} {t : Rt_} {k : Nat} (X : XB_ h t k) : hp_I h 4 0 = nI (sg_n t.1) := X.M.1.1
theorem XB_.pos {h : Hp_} {t : Rt_} {k : Nat} (X : XB_ h t k) : hp_I h 4 1 = nI (pq_ (sg_pos t.1) 8) := X.M.1.2.1
theorem XB_.c {h : Hp_} {t : Rt_} {k : Nat} (X : XB_ h t k) : hp_I h 2 1 = nI t.2.2.1 := X.P.1
theorem XB_.c30 {h : Hp_} {t : Rt_} {k : Nat} (X : XB_ h t k) : t.2.2.1 ≤ 30 := X.P.2.1
theorem XB_.pad {h : Hp_} {t : Rt_} {k : Nat} (X : XB_ h t k) {i : Nat} (hi : i < t.2.2.1) : hp_I h 3 i = nI (t.2.1 i) := X.P.2.2.1 i hi
theorem XB_.g127 {h : Hp_} {t : Rt_} {k : Nat} (X : XB_ h t k) (i : Nat) : t.2.1 i < 127 := X.P.2.2.2 i
-- ranges of ints as told
theorem rg_hi {a b : Nat} {x : Int32} (ha : a < 2 ^ 31) (hb : b < 2 ^ 31) (h : rg_ a b x = false) (h1 : ¬ x < nI a) : ¬ x ≤ nI b := by
  have h2 := of_decide_eq_false h
  rw [Int32.lt_iff_toInt_lt, nI_toInt ha] at h1
  rw [Int32.le_iff_toInt_le, nI_toInt hb]
  omega
theorem rg_hi0 {b : Nat} {x : Int32} (hb : b < 2 ^ 31) (h : rg_ 0 b x = false) (h1 : ¬ x < 0) : ¬ x ≤ nI b := by
  have h2 := of_decide_eq_false h
  rw [Int32.lt_iff_toInt_lt, show (0 : Int32).toInt = 0 from rfl] at h1
  rw [Int32.le_iff_toInt_le, nI_toInt hb]
  omega
theorem rg_ge0 {b c : Nat} {x : Int32} (hb : c < 2 ^ 31) (hc : c = b + 1) (h : rg_ 0 b x = false) (h1 : ¬ x < 0) : ¬ x < nI c := by
  have h2 := of_decide_eq_false h
  rw [Int32.lt_iff_toInt_lt, show (0 : Int32).toInt = 0 from rfl] at h1
  rw [Int32.lt_iff_toInt_lt, nI_toInt hb]
  omega
