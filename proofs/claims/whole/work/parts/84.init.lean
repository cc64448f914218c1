-- ===== the beginning, by computation =====
/-- the heap behind the class's constructor; behind the reference's too -/
def in_c (r : Option (Option Value × Hp_)) : Bool := match r with
  | some (none, _) => true
  | _ => false
def in_g (r : Option (Option Value × Hp_)) : Hp_ := match r with
  | some (_, h) => h
  | none => pl_h0
theorem in_cg {r : Option (Option Value × Hp_)} (h : in_c r = true) : r = some (none, in_g r) := by
  cases r with
  | none => cases h
  | some q =>
    obtain ⟨v, g⟩ := q
    cases v with
    | none => rfl
    | some _ => cases h
def in_1 : Hp_ := in_g (pm_call tt_ms 20 2000 mn_RoundDance_init [.ref 1] (hp_al pl_h0 10 0 10))
def in_2 : Hp_ := in_g (pm_call tt_ms 20 2000 mn_Ref_init [.ref 65] (hp_al in_1 20 0 41))
theorem in_1_c : in_c (pm_call tt_ms 20 2000 mn_RoundDance_init [.ref 1] (hp_al pl_h0 10 0 10)) = true := by decide +kernel
theorem in_2_c : in_c (pm_call tt_ms 20 2000 mn_Ref_init [.ref 65] (hp_al in_1 20 0 41)) = true := by decide +kernel
theorem in_1_nx : hp_nx in_1 = 64 := by decide +kernel
theorem in_2_nx : hp_nx in_2 = 93 ∧ hp_sl in_2 ≤ 1060000 := by decide +kernel
theorem in_D1 : hp_kd in_2 1 = 10 ∧ (hp_R in_2 1 0 = 2 ∧ hp_R in_2 1 1 = 4 ∧ hp_R in_2 1 2 = 13 ∧ hp_R in_2 1 3 = 22 ∧ hp_R in_2 1 5 = 31 ∧ hp_R in_2 1 6 = 32 ∧ hp_R in_2 1 7 = 35 ∧ hp_R in_2 1 8 = 43 ∧ hp_R in_2 1 9 = 59) := by decide +kernel
theorem in_D2 : S_Pad in_2 2 := by
  unfold S_Pad
  decide +kernel
theorem in_D3 : (hp_kd in_2 31 = 1 ∧ hp_ln in_2 31 = 6) ∧ S_Group in_2 32 := by
  unfold S_Group
  decide +kernel
theorem in_M4 : S_Market in_2 4 := by
  unfold S_Market S_Notes
  decide +kernel
theorem in_M13 : S_Market in_2 13 := by
  unfold S_Market S_Notes
  decide +kernel
theorem in_M22 : S_Market in_2 22 := by
  unfold S_Market S_Notes
  decide +kernel
theorem in_S : S_Dance in_2 := ⟨in_D1.1, in_D1.2, ⟨in_D2, in_M4, in_M13, in_M22⟩, in_D3.1, in_D3.2⟩
theorem in_R0 : (hp_R in_2 65 1 = 66 ∧ hp_kd in_2 66 = 1 ∧ hp_ln in_2 66 = 48) ∧ (hp_R in_2 65 2 = 67 ∧ hp_kd in_2 67 = 1 ∧ hp_ln in_2 67 = 8) ∧ (hp_R in_2 65 3 = 68 ∧ hp_kd in_2 68 = 1 ∧ hp_ln in_2 68 = 8) ∧ (hp_R in_2 65 7 = 69 ∧ hp_kd in_2 69 = 1 ∧ hp_ln in_2 69 = 6) ∧ (hp_R in_2 65 8 = 70 ∧ hp_kd in_2 70 = 1 ∧ hp_ln in_2 70 = 2) ∧ (hp_R in_2 65 9 = 71 ∧ hp_kd in_2 71 = 1 ∧ hp_ln in_2 71 = 6) ∧ (hp_R in_2 65 10 = 72 ∧ hp_kd in_2 72 = 1 ∧ hp_ln in_2 72 = 6) ∧ (hp_R in_2 65 11 = 73 ∧ hp_kd in_2 73 = 1 ∧ hp_ln in_2 73 = 6) ∧ (hp_R in_2 65 13 = 74 ∧ hp_kd in_2 74 = 1 ∧ hp_ln in_2 74 = 6) ∧ (hp_R in_2 65 14 = 75 ∧ hp_kd in_2 75 = 1 ∧ hp_ln in_2 75 = 6) := by decide +kernel
theorem in_R1 : (hp_R in_2 65 15 = 76 ∧ hp_kd in_2 76 = 1 ∧ hp_ln in_2 76 = 6) ∧ (hp_R in_2 65 17 = 77 ∧ hp_kd in_2 77 = 1 ∧ hp_ln in_2 77 = 30) ∧ (hp_R in_2 65 19 = 78 ∧ hp_kd in_2 78 = 1 ∧ hp_ln in_2 78 = 48) ∧ (hp_R in_2 65 20 = 79 ∧ hp_kd in_2 79 = 1 ∧ hp_ln in_2 79 = 8) ∧ (hp_R in_2 65 22 = 80 ∧ hp_kd in_2 80 = 1 ∧ hp_ln in_2 80 = 40320) ∧ (hp_R in_2 65 23 = 81 ∧ hp_kd in_2 81 = 1 ∧ hp_ln in_2 81 = 241920) ∧ (hp_R in_2 65 24 = 82 ∧ hp_kd in_2 82 = 1 ∧ hp_ln in_2 82 = 8) ∧ (hp_R in_2 65 26 = 83 ∧ hp_kd in_2 83 = 1 ∧ hp_ln in_2 83 = 40320) ∧ (hp_R in_2 65 27 = 84 ∧ hp_kd in_2 84 = 1 ∧ hp_ln in_2 84 = 40320) ∧ (hp_R in_2 65 28 = 85 ∧ hp_kd in_2 85 = 1 ∧ hp_ln in_2 85 = 40320) := by decide +kernel
theorem in_R2 : (hp_R in_2 65 29 = 86 ∧ hp_kd in_2 86 = 1 ∧ hp_ln in_2 86 = 40320) ∧ (hp_R in_2 65 31 = 87 ∧ hp_kd in_2 87 = 1 ∧ hp_ln in_2 87 = 16) ∧ (hp_R in_2 65 32 = 88 ∧ hp_kd in_2 88 = 2 ∧ hp_ln in_2 88 = 524160) ∧ (hp_R in_2 65 33 = 89 ∧ hp_kd in_2 89 = 3 ∧ hp_ln in_2 89 = 40320) ∧ (hp_R in_2 65 34 = 90 ∧ hp_kd in_2 90 = 3 ∧ hp_ln in_2 90 = 40320) ∧ (hp_R in_2 65 35 = 91 ∧ hp_kd in_2 91 = 1 ∧ hp_ln in_2 91 = 6) ∧ (hp_R in_2 65 37 = 92 ∧ hp_kd in_2 92 = 1 ∧ hp_ln in_2 92 = 320) ∧ (hp_R in_2 65 38 = 93 ∧ hp_kd in_2 93 = 3 ∧ hp_ln in_2 93 = 2) := by decide +kernel
theorem in_R9 : hp_kd in_2 65 = 20 := by decide +kernel
theorem in_Ref : S_Ref in_2 := ⟨in_R9, in_R0.1, in_R0.2.1, in_R0.2.2.1, in_R0.2.2.2.1, in_R0.2.2.2.2.1, in_R0.2.2.2.2.2.1, in_R0.2.2.2.2.2.2.1, in_R0.2.2.2.2.2.2.2.1, in_R0.2.2.2.2.2.2.2.2.1, in_R0.2.2.2.2.2.2.2.2.2, in_R1.1, in_R1.2.1, in_R1.2.2.1, in_R1.2.2.2.1, in_R1.2.2.2.2.1, in_R1.2.2.2.2.2.1, in_R1.2.2.2.2.2.2.1, in_R1.2.2.2.2.2.2.2.1, in_R1.2.2.2.2.2.2.2.2.1, in_R1.2.2.2.2.2.2.2.2.2, in_R2.1, in_R2.2.1, in_R2.2.2.1, in_R2.2.2.2.1, in_R2.2.2.2.2.1, in_R2.2.2.2.2.2.1, in_R2.2.2.2.2.2.2.1, in_R2.2.2.2.2.2.2.2⟩
theorem in_Sh : S_Short in_2 37 38 39 40 := by
  unfold S_Short S_Orbit S_Memo on_ rw4_
  decide +kernel
theorem in_P1 : hp_kd in_2 43 = 18 ∧ ((hp_R in_2 43 0 = 44 ∧ hp_R in_2 43 1 = 49 ∧ hp_R in_2 43 2 = 51 ∧ hp_R in_2 43 3 = 53 ∧ hp_R in_2 43 4 = 54) ∧ hp_R in_2 43 8 = 55 ∧ hp_R in_2 43 9 = 56 ∧ hp_R in_2 43 10 = 57 ∧ hp_R in_2 43 11 = 58) := by decide +kernel
theorem in_P2 : S_Orbit in_2 44 45 46 47 48 := by
  unfold S_Orbit
  decide +kernel
theorem in_P3 : S_Memo in_2 49 ∧ S_Notes in_2 51 := by
  unfold S_Memo S_Notes
  decide +kernel
theorem in_P4 : ((hp_kd in_2 53 = 1 ∧ hp_ln in_2 53 = 12) ∧ hp_kd in_2 54 = 1 ∧ hp_ln in_2 54 = 12) ∧ ((hp_kd in_2 55 = 2 ∧ hp_kd in_2 56 = 2 ∧ hp_kd in_2 57 = 1 ∧ hp_kd in_2 58 = 1) ∧ hp_ln in_2 55 ≤ 300000 ∧ hp_ln in_2 56 ≤ 300000 ∧ hp_ln in_2 57 ≤ 300000 ∧ hp_ln in_2 58 ≤ 300000) ∧ hp_I in_2 44 0 = bo_ true := by decide +kernel
theorem in_Pa : S_Past in_2 45 46 47 48 55 56 57 58 := by
  have n := in_2_nx.1
  refine ⟨in_P1.1, in_P1.2, ⟨in_P2, in_P3.1, in_P3.2⟩, in_P4.1, in_P4.2.1, ⟨by decide, by unfold ex_; decide⟩, ⟨by unfold rw4_; decide, by unfold rx_; decide⟩, by omega, ⟨by unfold on_; omega, by omega⟩, in_P4.2.2⟩
theorem in_Ev : S_Even in_2 := by
  unfold S_Even S_Memo S_Notes
  decide +kernel
/-- the state at first -/
def s0_ : Sg_ := (8, fun p => p, 0, 1, 0, fun _ p => p, fun _ => 3, fun _ => 8, fun _ => 63, [], [])
def t0_ : Rt_ := (s0_, fun _ => 0, 0, none, none)
theorem s0_wf : sg_wf s0_ := ⟨⟨by decide, by decide⟩, IsP.id 8, by decide, Or.inl rfl, by decide, fun _ => IsP.id 8, fun _ => (show (1 : Nat) ≤ 3 ∧ (3 : Nat) ≤ 3 by decide), ⟨fun _ => Or.inr rfl, fun _ _ _ h => absurd rfl h, fun _ _ => rfl⟩, fun _ => (show (63 : Nat) < 64 by decide), by decide, fun q hq => absurd hq List.not_mem_nil, by decide, fun q hq => absurd hq List.not_mem_nil⟩
theorem in_MK1 : (hp_I in_2 4 0 = nI 8 ∧ hp_I in_2 4 1 = nI (pq_ (fun p => p) 8) ∧ hp_I in_2 4 2 = nI 0 ∧ hp_I in_2 4 3 = nI 1 ∧ hp_I in_2 4 4 = nI 0) ∧ (∀ f, f < 6 → hp_I in_2 5 f = nI (pq_ (fun p => p) 8)) ∧ (∀ f, f < 6 → hp_I in_2 6 f = nI 3) ∧ (∀ g, g < 8 → hp_I in_2 7 g = -1) ∧ (∀ c, c < 2 → hp_I in_2 8 c = nI 63) ∧ hp_I in_2 9 1 = nI 0 ∧ hp_I in_2 11 1 = nI 0 := by decide +kernel
theorem in_MK : MK_ in_2 4 s0_ := by
  obtain ⟨a, b, c, d, e, f, g⟩ := in_MK1
  exact ⟨a, b, c, d, e, ⟨f, fun i q hi => (by cases hi)⟩, ⟨g, fun i q hi => (by cases hi)⟩⟩
theorem in_rest : hp_I in_2 2 1 = nI 0 ∧ hp_I in_2 1 4 = nI 0 ∧ (hp_I in_2 41 1 = nI 0 ∧ hp_I in_2 41 2 = bo_ false) ∧ (hp_I in_2 49 1 = nI 0 ∧ hp_I in_2 49 2 = bo_ false) ∧ (hp_I in_2 60 1 = nI 0 ∧ hp_I in_2 60 2 = bo_ false) ∧ hp_ln in_2 45 = 0 ∧ hp_ln in_2 46 = 0 ∧ hp_ln in_2 47 = 0 ∧ hp_ln in_2 48 = 0 := by decide +kernel
theorem in_XS : XS_ in_2 t0_ := ⟨in_S, ⟨in_rest.1, Nat.zero_le _, fun i hi => absurd hi (Nat.not_lt_zero i), fun _ => (by decide : (0 : Nat) < 127)⟩, ⟨in_MK, s0_wf⟩, in_rest.2.1, fun s hs => (by cases hs), fun s hs => (by cases hs)⟩
theorem in_CX : CX_ in_2 0 := by
  obtain ⟨_, _, m1, m2, m3, l1, l2, l3, l4⟩ := in_rest
  refine ⟨37, 38, 39, 40, 45, 46, 47, 48, 55, 56, 57, 58, hp_I in_2 42, hp_I in_2 50, hp_I in_2 61, false, false, false, ⟨in_Sh, ⟨0, rfl, m1.1, m1.2⟩, fun z => (by cases z)⟩, ⟨in_Pa, ⟨0, rfl, m2.1, m2.2⟩, fun z => (by cases z)⟩, ⟨in_Ev, ⟨0, rfl, m3.1, m3.2⟩, fun z => (by cases z)⟩, fun v h1 h2 => ?_, by rw [in_2_nx.1]; decide, ?_, ?_⟩
  · unfold sc_ at h1
    unfold pc_ at h2
    omega
  · have := in_2_nx.2
    omega
  · rw [l1, l2, l3, l4]
    decide
theorem in_MR1 : (hp_I in_2 65 0 = nI 8 ∧ hp_I in_2 65 4 = nI 0 ∧ hp_I in_2 65 5 = nI 1 ∧ hp_I in_2 65 6 = nI 0 ∧ hp_I in_2 65 12 = nI 0 ∧ hp_I in_2 65 16 = nI 0) ∧ (∀ f, f < 6 → ∀ p, p < 8 → hp_I in_2 66 (8 * f + p) = nI p) ∧ (∀ p, p < 8 → hp_I in_2 67 p = nI p) ∧ (∀ g, g < 8 → hp_I in_2 68 g = -6) ∧ (∀ f, f < 6 → hp_I in_2 69 f = nI 3) ∧ (∀ c, c < 2 → hp_I in_2 70 c = nI 63) ∧ hp_I in_2 65 18 = nI 0 ∧ hp_I in_2 93 0 = bo_ false ∧ hp_I in_2 93 1 = bo_ false := by decide +kernel
theorem in_MR : MR_ in_2 s0_ := by
  obtain ⟨a, b, c, d, e, f, -⟩ := in_MR1
  refine ⟨a, fun f p hf hp => b f hf p hp, fun p hp => ?_, d, e, f, fun i q hi => (by cases hi), fun i q hi => (by cases hi)⟩
  show hp_I in_2 67 p = nI (in_ (fun q => q) p)
  rw [in_id]
  exact c p hp
theorem in_RB : RB_ in_2 in_2 t0_ := by
  obtain ⟨-, -, -, -, -, -, g, i, j⟩ := in_MR1
  exact ⟨in_Ref, fz_refl _ _, in_MR, s0_wf, ⟨g, Nat.zero_le _, fun i hi => absurd hi (Nat.not_lt_zero i), fun _ => (by decide : (0 : Nat) < 127)⟩, ⟨i, fun s hs => (by cases hs)⟩, ⟨j, fun s hs => (by cases hs)⟩⟩
theorem S_Ref_ag {h h1 : Hp_} (S : S_Ref h) (k : ∀ v, 65 ≤ v → v ≤ 93 → hp_kd h1 v = hp_kd h v ∧ hp_ln h1 v = hp_ln h v ∧ hp_R h1 v = hp_R h v) : S_Ref h1 := by
  unfold S_Ref at S ⊢
  have e65 := k 65 (by decide) (by decide)
  have e66 := k 66 (by decide) (by decide)
  have e67 := k 67 (by decide) (by decide)
  have e68 := k 68 (by decide) (by decide)
  have e69 := k 69 (by decide) (by decide)
  have e70 := k 70 (by decide) (by decide)
  have e71 := k 71 (by decide) (by decide)
  have e72 := k 72 (by decide) (by decide)
  have e73 := k 73 (by decide) (by decide)
  have e74 := k 74 (by decide) (by decide)
  have e75 := k 75 (by decide) (by decide)
  have e76 := k 76 (by decide) (by decide)
  have e77 := k 77 (by decide) (by decide)
  have e78 := k 78 (by decide) (by decide)
  have e79 := k 79 (by decide) (by decide)
  have e80 := k 80 (by decide) (by decide)
  have e81 := k 81 (by decide) (by decide)
  have e82 := k 82 (by decide) (by decide)
  have e83 := k 83 (by decide) (by decide)
  have e84 := k 84 (by decide) (by decide)
  have e85 := k 85 (by decide) (by decide)
  have e86 := k 86 (by decide) (by decide)
  have e87 := k 87 (by decide) (by decide)
  have e88 := k 88 (by decide) (by decide)
  have e89 := k 89 (by decide) (by decide)
  have e90 := k 90 (by decide) (by decide)
  have e91 := k 91 (by decide) (by decide)
  have e92 := k 92 (by decide) (by decide)
  have e93 := k 93 (by decide) (by decide)
  rw [e65.1, e65.2.2, e66.1, e66.2.1, e67.1, e67.2.1, e68.1, e68.2.1, e69.1, e69.2.1, e70.1, e70.2.1, e71.1, e71.2.1, e72.1, e72.2.1, e73.1, e73.2.1, e74.1, e74.2.1, e75.1, e75.2.1, e76.1, e76.2.1, e77.1, e77.2.1, e78.1, e78.2.1, e79.1, e79.2.1, e80.1, e80.2.1, e81.1, e81.2.1, e82.1, e82.2.1, e83.1, e83.2.1, e84.1, e84.2.1, e85.1, e85.2.1, e86.1, e86.2.1, e87.1, e87.2.1, e88.1, e88.2.1, e89.1, e89.2.1, e90.1, e90.2.1, e91.1, e91.2.1, e92.1, e92.2.1, e93.1, e93.2.1]
  exact S
theorem RB_ag {h h1 : Hp_} {t : Rt_} (B : RB_ h h t) (A : ag_ cf_ h h1) (hn : 93 ≤ hp_nx h) : RB_ h1 h1 t := by
  have k : ∀ v, 65 ≤ v → v ≤ 93 → hp_kd h1 v = hp_kd h v ∧ hp_ln h1 v = hp_ln h v ∧ hp_I h1 v = hp_I h v ∧ hp_R h1 v = hp_R h v := fun v v1 v2 => by
    have a := A.2.2 v (by omega)
    have b := a.2.2 (by unfold cf_; omega)
    exact ⟨a.1, a.2.1, b.1, b.2.2⟩
  obtain ⟨S, _, M, w, ⟨p1, p2, p3, p4⟩, i1, i2⟩ := B
  exact ⟨S_Ref_ag S (fun v v1 v2 => ⟨(k v v1 v2).1, (k v v1 v2).2.1, (k v v1 v2).2.2.2⟩), fz_refl _ _, MR_cong (fun c c1 c2 => (k c (by omega) (by omega)).2.2.1) (fun q _ => by rw [(k 65 (by decide) (by decide)).2.2.1]) M, w, ⟨by rw [(k 65 (by decide) (by decide)).2.2.1]; exact p1, p2, by rw [(k 77 (by decide) (by decide)).2.2.1]; exact p3, p4⟩, IM_cong (k 92 (by decide) (by decide)).2.2.1 (k 93 (by decide) (by decide)).2.2.1 i1, IM_cong (k 92 (by decide) (by decide)).2.2.1 (k 93 (by decide) (by decide)).2.2.1 i2⟩
/-- both hold the same state -/
def LB_ (h : Hp_) (t : Rt_) (k : Nat) : Prop := XB_ h t k ∧ RB_ h h t
theorem LB_on {h h1 h2 : Hp_} {t2 : Rt_} {k : Nat} (D : DR_ h h1 t2 k) (B : RB_ h1 h2 t2) : LB_ h2 t2 k := ⟨⟨XS_fz D.1.1 B.2.1 (fun v hv => by omega), CX_fz D.1.2 B.2.1 (fun v hv => Or.inr hv)⟩, RB_refl B⟩
theorem LB_mid {h h1 : Hp_} {t t2 : Rt_} {k k2 : Nat} (X : LB_ h t k) (D : DR_ h h1 t2 k2) : RB_ h1 h1 t := RB_ag X.2 D.2 (CX_nx X.1.2)
theorem LB_same {h h1 : Hp_} {t : Rt_} {k : Nat} (D : DR_ h h1 t k) (B : RB_ h1 h1 t) : LB_ h1 t k := ⟨D.1, B⟩
theorem LB_room {h : Hp_} {t : Rt_} {k : Nat} (X : LB_ h t k) (hk : k ≤ 64) : hp_nx h ≤ 600000 ∧ hp_sl h ≤ 7302000 := by
  obtain ⟨a, b, c, e, a2, b2, c2, e2, p, q, r, y, P1, P2, P3, st, st2, st3, _, _, _, _, c2', c3, c4⟩ := X.1.2
  refine ⟨by omega, ?_⟩
  unfold oc2_ at c3
  have g1 := gg_all (hp_ln h a)
  have g2 := gg_all (hp_ln h b)
  have g3 := gg_all (hp_ln h c)
  have g4 := gg_all (hp_ln h e / 6)
  have g5 := gg_low c4.1
  have g6 := gg_low c4.2.1
  have g7 := gg_low c4.2.2.1
  have g8 := gg_low (L := hp_ln h e2 / 6) (by omega)
  omega
-- answers that both give are the same
theorem sure_eq {t : Rt_} {g x y : Int32} (a : an_sure_ t g x) (b : an_sure_ t g y) : x = y := by
  unfold an_sure_ at a b
  split at a
  · rename_i z
    rw [if_pos z] at b
    obtain ⟨u, a1, rfl⟩ := a
    obtain ⟨v, b1, rfl⟩ := b
    rw [SU_uniq a1 b1]
  · rename_i z
    rw [if_neg z] at b
    rw [a, b]
theorem forced_eq {t : Rt_} {g p x y : Int32} (a : an_forced_ t g p x) (b : an_forced_ t g p y) : x = y := by
  unfold an_forced_ at a b
  split at a
  · rename_i z
    rw [if_pos z] at b
    obtain ⟨u, a1, rfl⟩ := a
    obtain ⟨v, b1, rfl⟩ := b
    rw [FO_uniq a1 b1]
  · rename_i z
    rw [if_neg z] at b
    rw [a, b]
theorem fewest_eq {t : Rt_} {i x y : Int32} (a : an_fewest_ t i x) (b : an_fewest_ t i y) : x = y := by
  obtain ⟨u, a1, rfl⟩ := a
  obtain ⟨v, b1, rfl⟩ := b
  rw [FW_uniq a1 b1]
theorem standings_eq {t : Rt_} {x y : Int32} (a : an_standings_ t x) (b : an_standings_ t y) : x = y := by
  obtain ⟨u, a1, rfl⟩ := a
  obtain ⟨v, b1, rfl⟩ := b
  rw [ST_uniq a1 b1]
theorem canBe_eq {t : Rt_} {x y : Int32} (a : an_canBe_ t x) (b : an_canBe_ t y) : x = y := by
  unfold an_canBe_ at a b
  split at a
  · rename_i z
    rw [if_pos z] at b
    obtain ⟨u, a1, rfl⟩ := a
    obtain ⟨v, b1, rfl⟩ := b
    rw [CB_uniq a1 b1]
  · rename_i z
    rw [if_neg z] at b
    rw [a, b]
theorem came_eq {t : Rt_} {m i v x y : Int32} (a : an_came_ t m i v x) (b : an_came_ t m i v y) : x = y := by
  unfold an_came_ at a b
  split at a
  · rename_i z
    rw [if_pos z] at b
    split at a
    · rename_i z2
      rw [if_pos z2] at b
      rw [a, b]
    · rename_i z2
      rw [if_neg z2] at b
      split at a
      · rename_i z3
        rw [if_pos z3] at b
        rw [a, b]
      · rename_i z3
        rw [if_neg z3] at b
        obtain ⟨u, a1, rfl⟩ := a
        obtain ⟨w, b1, rfl⟩ := b
        rw [cb_uniq a1 b1]
  · rename_i z
    rw [if_neg z] at b
    rw [a, b]
theorem served_eq {t : Rt_} {m i x y : Int32} (a : an_served_ t m i x) (b : an_served_ t m i y) : x = y := by
  unfold an_served_ at a b
  split at a
  · rename_i z
    rw [if_pos z] at b
    obtain ⟨u, a1, rfl⟩ := a
    obtain ⟨v, b1, rfl⟩ := b
    rw [SV_uniq a1 b1]
  · rename_i z
    rw [if_neg z] at b
    rw [a, b]
