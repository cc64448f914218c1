-- ===== Past: figuresOn, gatherCandidates =====
theorem wq_genQ {d pc : Nat} {tab : Tab_} {sc : Sc_} {L : Lc_} {st : List Value} {h : Hp_} {Q : Option Value → Hp_ → Prop} (k : ∀ Q2, Q2 = Q → wq d tab sc pc L st h Q2) : wq d tab sc pc L st h Q := k Q rfl
/-- what the reached row tells: times and lyings -/
def RQ_ (h : Hp_) (y : Nat) (s : Sg_) (m t : Nat) (E : Nat → (Nat → Nat) → Prop) : Prop := ∀ (j : Nat) (z : (Nat → Nat) × Nat × List Nat), (qp_ s m t)[j]? = some z → ∃ B : Nat, B < 8192 ∧ hp_I h y j = nI B ∧ ∀ u, B.testBit u = true ↔ E u z.1
/-- a figure by which rows go on from an entry; where it leads -/
def on2_ (s : Sg_) (m tm : Nat) (x0 : (Nat → Nat) × Nat × List Nat) (f : Nat) : Prop := f < 6 ∧ may_ s f = true ∧ 0 < nw_ s m (m - (tm + 1)) (fun g => mv_ s f (up_ s x0 g))
def nxt_ (s : Sg_) (m : Nat) (x0 : (Nat → Nat) × Nat × List Nat) (f : Nat) : Nat → Nat := ry_ s m (fun g => mv_ s f (up_ s x0 g))
theorem RQ_cg {h : Hp_} {y : Nat} {s : Sg_} {m t : Nat} {E E2 : Nat → (Nat → Nat) → Prop} (R : RQ_ h y s m t E) (hE : ∀ u w, E u w ↔ E2 u w) : RQ_ h y s m t E2 := by
  intro j z hj
  obtain ⟨B, b1, b2, b3⟩ := R j z hj
  exact ⟨B, b1, b2, fun u => (b3 u).trans (hE u z.1)⟩
theorem RQ_fz {h h2 : Hp_} {y : Nat} {s : Sg_} {m t : Nat} {E : Nat → (Nat → Nat) → Prop} (R : RQ_ h y s m t E) (e : hp_I h2 y = hp_I h y) : RQ_ h2 y s m t E := by
  unfold RQ_ at R ⊢
  rw [e]
  exact R
theorem FB_fz {h h2 : Hp_} {r : Nat} {s : Sg_} {m t : Nat} {lo : Nat → Nat} (F : FB_ h r s m t lo) (e : hp_I h2 r = hp_I h r) : FB_ h2 r s m t lo := by
  unfold FB_ at F ⊢
  rw [e]
  exact F
theorem RQ_put {h h2 : Hp_} {y : Nat} {s : Sg_} {m t j tm B : Nat} {E : Nat → (Nat → Nat) → Prop} {z0 : (Nat → Nat) × Nat × List Nat} (R : RQ_ h y s m t E) (hz : (qp_ s m t)[j]? = some z0) (hu : tm ≤ 12) (hB : hp_I h y j = nI B) (hb : B < 8192) (e : hp_I h2 y = va_up (hp_I h y) j (nI (B ||| 2 ^ tm))) : RQ_ h2 y s m t (fun u w => E u w ∨ (u = tm ∧ w = z0.1)) := by
  intro j2 z hj2
  obtain ⟨B2, b1, b2, b3⟩ := R j2 z hj2
  by_cases q : j2 = j
  · subst q
    rw [hz] at hj2
    cases hj2
    rw [hB] at b2
    obtain rfl := nI_inj (by omega) (by omega) b2
    refine ⟨B ||| 2 ^ tm, Nat.or_lt_two_pow (n := 13) b1 (Nat.pow_lt_pow_right (by decide) (by omega)), by rw [e, vu_at, if_pos rfl], fun u => ?_⟩
    rw [Nat.testBit_or, Bool.or_eq_true, b3 u, Nat.testBit_two_pow, decide_eq_true_iff]
    constructor
    · rintro (k | k)
      · exact Or.inl k
      · exact Or.inr ⟨k.symm, rfl⟩
    · rintro (k | ⟨k, _⟩)
      · exact Or.inl k
      · exact Or.inr k.symm
  · refine ⟨B2, b1, by rw [e, vu_at, if_neg q]; exact b2, fun u => ?_⟩
    rw [b3 u]
    constructor
    · exact fun k => Or.inl k
    · rintro (k | ⟨_, k⟩)
      · exact k
      · exact absurd (qp_inj hj2 hz k) q
set_option maxRecDepth 4000 in
theorem Past_figuresOn_ok {h : Hp_} {a b c e p q r y m t tm i : Nat} {s : Sg_} {x0 : (Nat → Nat) × Nat × List Nat} {E : Nat → (Nat → Nat) → Prop} (S : S_Past h a b c e p q r y) (w : sg_wf s) (X : PX_ h a b c e p q r y s m t) (F : FB_ h r s m t (fun _ => 0)) (R : RQ_ h y s m t E) (hm : m ≤ 12) (ht : tm < m) (hx : (qp_ s m t)[i]? = some x0) : cI 4 mn_Past_figuresOn [.ref 43, .int (nI i), .int (nI tm)] h (fun x h' => (∃ A : Nat, x = nI A ∧ ∀ f, A.testBit f = true ↔ on2_ s m tm x0 f) ∧ RQ_ h' y s m t (fun u w => E u w ∨ (u = tm + 1 ∧ ∃ f, on2_ s m tm x0 f ∧ w = nxt_ s m x0 f)) ∧ fz_ (fun v => v = y) h h') := by
  have n8 := w.1.2
  have hil := (List.getElem?_eq_some_iff.mp hx).1
  have hlen := qp_len w m t
  have hce := ce_6 n8 (kn_6 w m)
  have lns := Past_ln S
  have hq := rx_55 (Past_rx S)
  have dis := Past_dis S
  have d44 := dis.1 44 (Or.inl rfl)
  refine cq_in (q := mi_Past_figuresOn) (L := [some (.ref 43), some (.int (nI i)), some (.int (nI tm)), none, none, none]) rfl (Nat.le_of_ble_eq_true rfl) rfl ?_
  show wq _ tb_Past_figuresOn none 0 _ _ _ _
  refine wq_genQ (fun Q eQ => ?_)
  refine wp_iconst rfl ?_
  refine wp_istore3 rfl rfl ?_
  refine wp_iconst rfl ?_
  refine wp_istore4 rfl rfl ?_
  refine wq_loop (X := Nat × Option Value) (fun f x => [some (.ref 43), some (.int (nI i)), some (.int (nI tm)), some (.int (nI x.1)), some (.int (nI f)), x.2]) (fun f x h1 => fz_ (fun v => v = y) h h1 ∧ (∀ g, x.1.testBit g = true ↔ g < f ∧ on2_ s m tm x0 g) ∧ RQ_ h1 y s m t (fun u w => E u w ∨ (u = tm + 1 ∧ ∃ g, g < f ∧ on2_ s m tm x0 g ∧ w = nxt_ s m x0 g))) (6) (0) ((0, none)) ?_ ?_ ?_ ?_
  · omega
  · refine ⟨fz_refl _ _, fun g => ?_, RQ_cg R (fun u w => ⟨fun k => Or.inl k, ?_⟩)⟩
    · rw [Nat.zero_testBit]
      exact ⟨fun k => (by cases k), fun k => absurd k.1 (Nat.not_lt_zero g)⟩
    · rintro (k | ⟨_, g, k, _⟩)
      · exact k
      · exact absurd k (Nat.not_lt_zero g)
  · intro f x h1 hi I go
    show wq _ tb_Past_figuresOn _ 5 [some (.ref 43), some (.int (nI i)), some (.int (nI tm)), some (.int (nI x.1)), some (.int (nI f)), x.2] [] h1 _
    obtain ⟨A, v5⟩ := x
    obtain ⟨z1, C1, R1⟩ := I
    have hf : f < 6 := hi
    have C1' : ∀ g, A.testBit g = true ↔ g < f ∧ on2_ s m tm x0 g := C1
    show wq _ tb_Past_figuresOn _ 5 [some (.ref 43), some (.int (nI i)), some (.int (nI tm)), some (.int (nI A)), some (.int (nI f)), v5] [] h1 _
    have S1 := Past_fz S z1 (by rw [fz_I z1 (by omega)])
    have X1 := PX_fz X z1 (fun x hx => (dis.1 x hx).2.2.2)
    have F1 := FB_fz F (h2 := h1) (by rw [fz_I z1 (by omega)])
    obtain ⟨st1, st2⟩ := qp_step w X1.2.1 X1.2.2.1 hf hx
    have le1 := X1.2.2.2.1
    have lr1 := X1.2.2.2.2.2.2.1
    have ly1 := X1.2.2.2.2.2.2.2
    have lns1 := Past_ln S1
    have no : ¬ on2_ s m tm x0 f → ∀ v, wq 3 tb_Past_figuresOn none 67 [some (.ref 43), some (.int (nI i)), some (.int (nI tm)), some (.int (nI A)), some (.int (nI f)), v] [] h1 Q := by
      intro hno v
      refine wp_iinc4N rfl rfl ?_
      refine wp_goto rfl ?_
      refine go (A, v) h1 ⟨z1, fun g => (C1' g).trans ⟨fun k => ⟨by omega, k.2⟩, fun k => ⟨?_, k.2⟩⟩, RQ_cg R1 (fun u w => ⟨?_, ?_⟩)⟩
      · rcases Nat.lt_or_ge g f with u | u
        · exact u
        · obtain rfl : g = f := by have := k.1; omega
          exact absurd k.2 hno
      · rintro (k | ⟨k1, g, k2, k3, k4⟩)
        · exact Or.inl k
        · exact Or.inr ⟨k1, g, by omega, k3, k4⟩
      · rintro (k | ⟨k1, g, k2, k3, k4⟩)
        · exact Or.inl k
        · refine Or.inr ⟨k1, g, ?_, k3, k4⟩
          rcases Nat.lt_or_ge g f with u | u
          · exact u
          · obtain rfl : g = f := by omega
            exact absurd k3 hno
    refine wp_iload4 rfl ?_
    refine wp_bipush rfl ?_
    refine wp_icmp_geN f 6 (by omega) (by omega) rfl (fun z => absurd z (by omega)) (fun _ => ?_)
    refine wp_aload0 rfl ?_
    refine wp_getR rfl (Past_kd S1) (Past_R0 S1) (by first | decide | omega) ?_
    refine wp_iload1 rfl ?_
    refine wp_iload4 rfl ?_
    cases hmf : may_ s f with
    | false =>
      refine wp_callV2I rfl (Nat.le_of_ble_eq_true rfl) (Orbit_kd (Past_s0 S1)) (Orbit_step_ok (Past_s0 S1) (show 6 * i + f < hp_ln h1 e by omega) (st2 hmf)) (Nat.le_of_ble_eq_true rfl) ?_
      refine pure_ ?_
      refine wp_istore5 rfl rfl ?_
      refine wp_aload0 rfl ?_
      refine wp_iload5 rfl ?_
      refine wp_iload2 rfl ?_
      refine wp_iconst rfl ?_
      refine wp_iaddE (nI (tm + 1)) (nI_add _ _) rfl ?_
      refine wp_callV2I rfl (Nat.le_of_ble_eq_true rfl) (Past_kd S1) (Past_isFittingNo_ok) (Nat.le_of_ble_eq_true rfl) ?_
      refine pure_ ?_
      refine wp_if_eqB rfl (fun c1 => ?_) (fun c1 => ?_)
      · exact no (fun k => by have k2 := k.2.1; rw [hmf] at k2; cases k2) _
      · cases c1
    | true =>
      obtain ⟨j, z, hz, h2, h3⟩ := st1 hmf
      have hjl := (List.getElem?_eq_some_iff.mp hz).1
      obtain ⟨B0, b1, b2, b3⟩ := F1 j z hz
      have hnw : nw_ s m (m - (tm + 1)) (up_ s z) = nw_ s m (m - (tm + 1)) (fun g => mv_ s f (up_ s x0 g)) := ry_nw w _ (by omega) h3
      refine wp_callV2I rfl (Nat.le_of_ble_eq_true rfl) (Orbit_kd (Past_s0 S1)) (Orbit_step_ok (Past_s0 S1) (show 6 * i + f < hp_ln h1 e by omega) h2) (Nat.le_of_ble_eq_true rfl) ?_
      refine pure_ ?_
      refine wp_istore5 rfl rfl ?_
      refine wp_aload0 rfl ?_
      refine wp_iload5 rfl ?_
      refine wp_iload2 rfl ?_
      refine wp_iconst rfl ?_
      refine wp_iaddE (nI (tm + 1)) (nI_add _ _) rfl ?_
      refine wp_callV2I rfl (Nat.le_of_ble_eq_true rfl) (Past_kd S1) (Past_isFitting_ok S1 (show j < hp_ln h1 r by omega) b2 (by omega) (by omega)) (Nat.le_of_ble_eq_true rfl) ?_
      refine pure_ ?_
      refine wp_if_eqB rfl (fun c1 => ?_) (fun c1 => ?_)
      · refine no (fun k => ?_) _
        rw [(b3 (tm + 1)).mpr ⟨Nat.zero_le _, by omega, by rw [hnw]; exact k.2.2⟩] at c1
        cases c1
      · skip
        refine wp_iload3 rfl ?_
        refine wp_iconst rfl ?_
        refine wp_iload4 rfl ?_
        refine wp_ishlE (nI (2 ^ f)) (nn_shl1 _ (by omega)) rfl ?_
        refine wp_iorE (nI (A ||| (2 ^ f))) (nn_or _ _) rfl ?_
        refine wp_istore3 rfl rfl ?_
        refine wp_aload0 rfl ?_
        refine wp_getR rfl (Past_kd S1) (Past_R11 S1) (by first | decide | omega) ?_
        refine wp_iload5 rfl ?_
        refine wp_aload0 rfl ?_
        refine wp_getR rfl (Past_kd S1) (Past_R11 S1) (by first | decide | omega) ?_
        refine wp_iload5 rfl ?_
        have hon : on2_ s m tm x0 f := ⟨hf, hmf, by rw [← hnw]; exact ((b3 (tm + 1)).mp c1).2.2⟩
        obtain ⟨D0, e1, e2, e3⟩ := R1 j z hz
        refine wp_callS2I rfl (Nat.le_of_ble_eq_true rfl) (Cells_atV_ok (Past_k11 S1) (by omega) (show j < hp_ln h1 y by omega) (by omega) e2) (Nat.le_of_ble_eq_true rfl) ?_
        refine pure_ ?_
        refine wp_iconst rfl ?_
        refine wp_iload2 rfl ?_
        refine wp_iconst rfl ?_
        refine wp_iaddE (nI (tm + 1)) (nI_add _ _) rfl ?_
        refine wp_ishlE (nI (2 ^ (tm + 1))) (nn_shl1 _ (by omega)) rfl ?_
        refine wp_iorE (nI (D0 ||| (2 ^ (tm + 1)))) (nn_or _ _) rfl ?_
        refine wp_callS3V rfl (Nat.le_of_ble_eq_true rfl) (Cells_putN_ok (Past_k11 S1) (by omega) rfl (show j < hp_ln h1 y by omega) (by omega)) (Nat.le_of_ble_eq_true rfl) ?_
        intro h2 eh
        refine wp_iinc4N rfl rfl ?_
        refine wp_goto rfl ?_
        refine go (_, _) h2 ⟨by rw [eh]; exact fz_rI (P := fun v => v = y) z1 rfl _, fun g => ?_, RQ_cg (RQ_put (tm := tm + 1) R1 hz (by omega) e2 e1 (by rw [eh, sd_rI_eq])) (fun u ww => ⟨?_, ?_⟩)⟩
        · show (A ||| 2 ^ f).testBit g = true ↔ _
          rw [Nat.testBit_or, Bool.or_eq_true, C1' g, Nat.testBit_two_pow, decide_eq_true_iff]
          constructor
          · rintro (k | k)
            · exact ⟨by omega, k.2⟩
            · rw [← k]; exact ⟨Nat.lt_succ_self f, hon⟩
          · rintro ⟨k1, k2⟩
            rcases Nat.lt_or_ge g f with u | u
            · exact Or.inl ⟨u, k2⟩
            · exact Or.inr (by omega)
        · rintro ((k | ⟨k1, g, k2, k3, k4⟩) | ⟨k1, k2⟩)
          · exact Or.inl k
          · exact Or.inr ⟨k1, g, by omega, k3, k4⟩
          · exact Or.inr ⟨k1, f, Nat.lt_succ_self f, hon, by rw [k2, (qp_e w (List.mem_of_getElem? hz)).1]; exact h3⟩
        · rintro (k | ⟨k1, g, k2, k3, k4⟩)
          · exact Or.inl (Or.inl k)
          · rcases Nat.lt_or_ge g f with u | u
            · exact Or.inl (Or.inr ⟨k1, g, u, k3, k4⟩)
            · obtain rfl : g = f := by omega
              exact Or.inr ⟨k1, by rw [k4, (qp_e w (List.mem_of_getElem? hz)).1]; exact h3.symm⟩
  · intro x h1 I
    show wq _ tb_Past_figuresOn _ 5 [some (.ref 43), some (.int (nI i)), some (.int (nI tm)), some (.int (nI x.1)), some (.int (nI 6)), x.2] [] h1 _
    obtain ⟨A, v5⟩ := x
    obtain ⟨z1, C1, R1⟩ := I
    have C1' : ∀ g, A.testBit g = true ↔ g < 6 ∧ on2_ s m tm x0 g := C1
    show wq _ tb_Past_figuresOn _ 5 [some (.ref 43), some (.int (nI i)), some (.int (nI tm)), some (.int (nI A)), some (.int (nI 6)), v5] [] h1 _
    refine wp_iload4 rfl ?_
    refine wp_bipush rfl ?_
    refine wp_icmp_geN 6 6 (by omega) (by omega) rfl (fun _ => ?_) (fun z => absurd z (by omega))
    refine wp_iload3 rfl ?_
    exact wp_iret rfl (by rw [eQ]; exact ⟨_, rfl, ⟨A, rfl, fun f => (C1' f).trans ⟨fun k => k.2, fun k => ⟨k.1, k⟩⟩⟩, RQ_cg R1 (fun u w => ⟨fun k => k.imp id (fun ⟨k1, g, _, k3, k4⟩ => ⟨k1, g, k3, k4⟩), fun k => k.imp id (fun ⟨k1, g, k3, k4⟩ => ⟨k1, g, k3.1, k3, k4⟩)⟩), z1⟩)
/-- at tm: times and lyings of rows that fit -/
def gq_ (s : Sg_) (m tm u : Nat) (x : Nat → Nat) : Prop := 0 < nw_ s m m (fun g => g) ∧ u ≤ tm ∧ ∃ v, rc_ s m u v ∧ ry_ s m v = x
theorem on2_ry {s : Sg_} (w : sg_wf s) {m tm f : Nat} {x0 : (Nat → Nat) × Nat × List Nat} {v : Nat → Nat} (h : ry_ s m v = ry_ s m (up_ s x0)) : (on2_ s m tm x0 f ↔ f < 6 ∧ may_ s f = true ∧ 0 < nw_ s m (m - (tm + 1)) (fun g => mv_ s f (v g))) ∧ nxt_ s m x0 f = ry_ s m (fun g => mv_ s f (v g)) := by
  have e : ry_ s m (fun g => mv_ s f (v g)) = ry_ s m (fun g => mv_ s f (up_ s x0 g)) := by rw [← ry_step, ← ry_step, h]
  refine ⟨?_, e.symm⟩
  unfold on2_
  rw [ry_nw w (m - (tm + 1)) (Nat.sub_le _ _) e]
theorem gq_step {s : Sg_} (w : sg_wf s) {m t tm : Nat} (ht : 6 * (qp_ s m t).length ≤ t) (u : Nat) (x : Nat → Nat) : (gq_ s m tm u x ∨ (u = tm + 1 ∧ ∃ (j : Nat) (x0 : (Nat → Nat) × Nat × List Nat) (f : Nat), j < (qp_ s m t).length ∧ (qp_ s m t)[j]? = some x0 ∧ gq_ s m tm tm x0.1 ∧ on2_ s m tm x0 f ∧ x = nxt_ s m x0 f)) ↔ gq_ s m (tm + 1) u x := by
  constructor
  · rintro (⟨k1, k2, k3⟩ | ⟨rfl, j, x0, f, hj, hx, ⟨k1, _, v, k2, k3⟩, k4, rfl⟩)
    · exact ⟨k1, by omega, k3⟩
    · have hv : ry_ s m v = ry_ s m (up_ s x0) := k3.trans (qp_e w (List.mem_of_getElem? hx)).1
      obtain ⟨o1, o2⟩ := on2_ry (tm := tm) (f := f) w hv
      obtain ⟨a1, a2, a3⟩ := o1.mp k4
      exact ⟨k1, Nat.le_refl _, _, ⟨v, f, k2, a1, a2, rfl, a3⟩, o2.symm⟩
  · rintro ⟨k1, k2, v, k3, k4⟩
    by_cases z : u ≤ tm
    · exact Or.inl ⟨k1, z, v, k3, k4⟩
    · obtain rfl : u = tm + 1 := by omega
      obtain ⟨v0, f, a0, a1, a2, a3, a4⟩ := k3
      obtain ⟨wd, hw, hv⟩ := rc_word tm v0 a0
      obtain ⟨j, x0, hj, e1⟩ := qp_all w ht hw
      have hv2 : ry_ s m v0 = ry_ s m (up_ s x0) := by
        rw [hv]
        exact e1.symm.trans (qp_e w (List.mem_of_getElem? hj)).1
      obtain ⟨o1, o2⟩ := on2_ry (tm := tm) (f := f) w hv2
      refine Or.inr ⟨rfl, j, x0, f, (List.getElem?_eq_some_iff.mp hj).1, hj, ⟨k1, Nat.le_refl _, v0, a0, ?_⟩, o1.mpr ⟨a1, a2, by rw [← a3]; exact a4⟩, ?_⟩
      · rw [hv]; exact e1.symm
      · rw [o2, ← k4, a3]
theorem gq_cb {s : Sg_} (w : sg_wf s) {m t tm A : Nat} (ht : 6 * (qp_ s m t).length ≤ t) (hA : ∀ f, A.testBit f = true ↔ ∃ (j : Nat) (x0 : (Nat → Nat) × Nat × List Nat), j < (qp_ s m t).length ∧ (qp_ s m t)[j]? = some x0 ∧ gq_ s m tm tm x0.1 ∧ on2_ s m tm x0 f) (hp : 0 < nw_ s m m (fun g => g)) : cb_ s m tm A := by
  refine ⟨Nat.lt_pow_two_of_testBit (n := 6) A (fun f hf => ?_), fun f => ?_⟩
  · cases e : A.testBit f with
    | false => rfl
    | true =>
      obtain ⟨_, _, _, _, _, k⟩ := (hA f).mp e
      have := k.1
      omega
  · rw [hA f]
    constructor
    · rintro ⟨j, x0, hj, hx, ⟨_, _, v, k2, k3⟩, k4⟩
      have hv : ry_ s m v = ry_ s m (up_ s x0) := k3.trans (qp_e w (List.mem_of_getElem? hx)).1
      obtain ⟨a1, a2, a3⟩ := (on2_ry (tm := tm) (f := f) w hv).1.mp k4
      exact ⟨a1, a2, v, k2, a3⟩
    · rintro ⟨a1, a2, v, a0, a3⟩
      obtain ⟨wd, hw, hv⟩ := rc_word tm v a0
      obtain ⟨j, x0, hj, e1⟩ := qp_all w ht hw
      have e2 : ry_ s m v = x0.1 := by rw [hv]; exact e1.symm
      have hv2 : ry_ s m v = ry_ s m (up_ s x0) := e2.trans (qp_e w (List.mem_of_getElem? hj)).1
      exact ⟨j, x0, (List.getElem?_eq_some_iff.mp hj).1, hj, ⟨hp, Nat.le_refl _, v, a0, e2⟩, (on2_ry (tm := tm) (f := f) w hv2).1.mpr ⟨a1, a2, a3⟩⟩
set_option maxRecDepth 4000 in
set_option maxHeartbeats 4000000 in
theorem Past_gather_ok {h : Hp_} {a b c e p q r y m t : Nat} {s : Sg_} (S : S_Past h a b c e p q r y) (w : sg_wf s) (X : PX_ h a b c e p q r y s m t) (F : FB_ h r s m t (fun _ => 0)) (hm : m ≤ 12) (hz : ∀ i, i < (qp_ s m t).length → hp_I h y i = nI 0) : cV 6 mn_Past_gatherCandidates [.ref 43, .int (nI m)] h (fun h' => fz_ (fun v => v = y ∨ v = 54) h h' ∧ ∀ i, i < m → ∃ A : Nat, hp_I h' 54 i = nI A ∧ (0 < nw_ s m m (fun g => g) → cb_ s m i A)) := by
  have n8 := w.1.2
  have hlen := qp_len w m t
  have hce := ce_6 n8 (kn_6 w m)
  have lns := Past_ln S
  have hq := rx_55 (Past_rx S)
  have hrx := Past_rx S
  unfold rx_ at hrx
  have rwl := Past_rw S
  unfold rw4_ at rwl
  have dis := Past_dis S
  have d44 := dis.1 44 (Or.inl rfl)
  have hl0 := (List.getElem?_eq_some_iff.mp (qp_0 (s := s) (m := m) (t := t))).1
  have lr0 := X.2.2.2.2.2.2.1
  have ly0 := X.2.2.2.2.2.2.2
  obtain ⟨B0, b1, b2, b3⟩ := F 0 _ qp_0
  have hno : ∀ x, (x = 44 ∨ x = a ∨ x = b ∨ x = c ∨ x = e) → ¬ (x = y ∨ x = 54) := fun x hx => by have := dis.1 x hx; omega
  refine cq_in (q := mi_Past_gatherCandidates) (L := [some (.ref 43), some (.int (nI m)), none, none, none]) rfl (Nat.le_of_ble_eq_true rfl) rfl ?_
  show wq _ tb_Past_gatherCandidates none 0 _ _ _ _
  refine wp_aload0 rfl ?_
  refine wp_getR rfl (Past_kd S) (Past_R11 S) (by first | decide | omega) ?_
  refine wp_iconst rfl ?_
  refine wp_aload0 rfl ?_
  refine wp_iconst rfl ?_
  refine wp_iconst rfl ?_
  refine wp_callV2I rfl (Nat.le_of_ble_eq_true rfl) (Past_kd S) (Past_isFitting_ok (j := 0) (tm := 0) S (show 0 < hp_ln h r by omega) b2 (by omega) (by omega)) (Nat.le_of_ble_eq_true rfl) ?_
  refine pure_ ?_
  refine wq_join 22 [some (.ref 43), some (.int (nI m)), none, none, none] [] (hp_rI h y (va_up (hp_I h y) 0 (bo_ (B0.testBit 0)))) ?_ (fun tail => ?_)
  · skip
    have z0 : fz_ (fun v => v = y ∨ v = 54) h (hp_rI h y (va_up (hp_I h y) 0 (bo_ (B0.testBit 0)))) := fz_rI (fz_refl _ _) (Or.inl rfl) _
    have R0 : RQ_ (hp_rI h y (va_up (hp_I h y) 0 (bo_ (B0.testBit 0)))) y s m t (gq_ s m 0) := by
      intro j z hj
      by_cases k : j = 0
      · subst k
        rw [qp_0] at hj
        cases hj
        refine ⟨if B0.testBit 0 then 1 else 0, by split <;> decide, ?_, fun u => ?_⟩
        · rw [sd_rI_eq, vu_at, if_pos rfl]
          cases B0.testBit 0 <;> rfl
        · have hW : B0.testBit 0 = true ↔ 0 < nw_ s m m (fun g => g) := (b3 0).trans ⟨fun k => k.2.2, fun k => ⟨Nat.le_refl _, Nat.zero_le _, k⟩⟩
          constructor
          · intro k
            cases e0 : B0.testBit 0 with
            | false => rw [e0, if_neg (by decide), Nat.zero_testBit] at k; cases k
            | true =>
              rw [e0, if_pos rfl, show (1 : Nat) = 2 ^ 0 from rfl, Nat.testBit_two_pow, decide_eq_true_iff] at k
              exact ⟨hW.mp e0, by omega, fun g => g, by rw [← k]; rfl, rfl⟩
          · rintro ⟨k1, k2, -⟩
            rw [if_pos (hW.mpr k1), show (1 : Nat) = 2 ^ 0 from rfl, Nat.testBit_two_pow, decide_eq_true_iff]
            omega
      · refine ⟨0, by decide, by rw [sd_rI_eq, vu_at, if_neg k]; exact hz j (List.getElem?_eq_some_iff.mp hj).1, fun u => ?_⟩
        rw [Nat.zero_testBit]
        refine ⟨fun k => (by cases k), ?_⟩
        rintro ⟨k1, k2, v, k3, k4⟩
        obtain rfl : u = 0 := by omega
        have k5 : v = fun g => g := k3
        rw [k5] at k4
        exact absurd (qp_inj hj qp_0 k4.symm) k
    generalize hp_rI h y (va_up (hp_I h y) 0 (bo_ (B0.testBit 0))) = h0 at z0 R0
    refine wp_iconst rfl ?_
    refine wp_istore2 rfl rfl ?_
    refine wq_loop (X := Option Value × Option Value) (fun tm x => [some (.ref 43), some (.int (nI m)), some (.int (nI tm)), x.1, x.2]) (fun tm x h1 => fz_ (fun v => v = y ∨ v = 54) h h1 ∧ RQ_ h1 y s m t (gq_ s m tm) ∧ ∀ i, i < tm → ∃ A : Nat, hp_I h1 54 i = nI A ∧ (0 < nw_ s m m (fun g => g) → cb_ s m i A)) (m) (0) ((none, none)) ?_ ?_ ?_ ?_
    · omega
    · exact ⟨z0, R0, fun i hi => absurd hi (Nat.not_lt_zero i)⟩
    · intro tm x h1 hi I go
      show wq _ tb_Past_gatherCandidates _ 24 [some (.ref 43), some (.int (nI m)), some (.int (nI tm)), x.1, x.2] [] h1 _
      obtain ⟨z1, R1, K1⟩ := I
      have htm : tm < m := hi
      refine wp_iload2 rfl ?_
      refine wp_iload1 rfl ?_
      refine wp_icmp_geN tm m (by omega) (by omega) rfl (fun z => absurd z (by omega)) (fun _ => ?_)
      refine wp_iconst rfl ?_
      refine wp_istore3 rfl rfl ?_
      refine wp_iconst rfl ?_
      refine wp_istore4 rfl rfl ?_
      refine wq_loop (X := Nat) (fun i x => [some (.ref 43), some (.int (nI m)), some (.int (nI tm)), some (.int (nI x)), some (.int (nI i))]) (fun i x h2 => fz_ (fun v => v = y ∨ v = 54) h h2 ∧ hp_I h2 54 = hp_I h1 54 ∧ (∀ f, x.testBit f = true ↔ ∃ (j : Nat) (x0 : (Nat → Nat) × Nat × List Nat), j < i ∧ (qp_ s m t)[j]? = some x0 ∧ gq_ s m tm tm x0.1 ∧ on2_ s m tm x0 f) ∧ RQ_ h2 y s m t (fun u w => gq_ s m tm u w ∨ (u = tm + 1 ∧ ∃ (j : Nat) (x0 : (Nat → Nat) × Nat × List Nat) (f : Nat), j < i ∧ (qp_ s m t)[j]? = some x0 ∧ gq_ s m tm tm x0.1 ∧ on2_ s m tm x0 f ∧ w = nxt_ s m x0 f))) ((qp_ s m t).length) (0) (0) ?_ ?_ ?_ ?_
      · omega
      · refine ⟨z1, rfl, fun f => ?_, RQ_cg R1 (fun u w => ⟨fun k => Or.inl k, ?_⟩)⟩
        · rw [Nat.zero_testBit]
          exact ⟨fun k => (by cases k), fun ⟨j, _, k, _⟩ => absurd k (Nat.not_lt_zero j)⟩
        · rintro (k | ⟨_, j, _, _, k, _⟩)
          · exact k
          · exact absurd k (Nat.not_lt_zero j)
      · intro i x h2 hi J go2
        show wq _ tb_Past_gatherCandidates _ 34 [some (.ref 43), some (.int (nI m)), some (.int (nI tm)), some (.int (nI x)), some (.int (nI i))] [] h2 _
        obtain ⟨z2, E2, C2, R2⟩ := J
        have hil : i < (qp_ s m t).length := hi
        have hx := List.getElem?_eq_getElem hil
        generalize (qp_ s m t)[i] = x0 at hx
        have S2 := Past_fz S z2 (by rw [fz_I z2 (by omega)])
        have X2 := PX_fz X z2 hno
        have F2 := FB_fz F (h2 := h2) (by rw [fz_I z2 (by omega)])
        have cnt2 : hp_I h2 44 3 = nI (qp_ s m t).length := by have := X2.1.2.2.1; rw [List.length_map] at this; exact this
        have ly2 := X2.2.2.2.2.2.2.2
        have lns2 := Past_ln S2
        obtain ⟨D0, e1, e2, e3⟩ := R2 i x0 hx
        have hD : D0.testBit tm = true ↔ gq_ s m tm tm x0.1 := (e3 tm).trans ⟨fun k => k.elim id (fun k => absurd k.1 (by omega)), fun k => Or.inl k⟩
        refine wp_iload4 rfl ?_
        refine wp_aload0 rfl ?_
        refine wp_getR rfl (Past_kd S2) (Past_R0 S2) (by first | decide | omega) ?_
        refine wp_getIE rfl (Orbit_kd (Past_s0 S2)) (show _ = nI ((qp_ s m t).length) from cnt2) ?_
        refine wp_icmp_geN i ((qp_ s m t).length) (by omega) (by omega) rfl (fun z => absurd z (by omega)) (fun _ => ?_)
        refine wp_aload0 rfl ?_
        refine wp_getR rfl (Past_kd S2) (Past_R11 S2) (by first | decide | omega) ?_
        refine wp_iload4 rfl ?_
        refine wp_callS2I rfl (Nat.le_of_ble_eq_true rfl) (Cells_atV_ok (Past_k11 S2) (by omega) (show i < hp_ln h2 y by omega) (by omega) e2) (Nat.le_of_ble_eq_true rfl) ?_
        refine pure_ ?_
        refine wp_iload2 rfl ?_
        refine wp_callS2I rfl (Nat.le_of_ble_eq_true rfl) (Cells_isIn_ok (by omega) (by omega)) (Nat.le_of_ble_eq_true rfl) ?_
        refine pure_ ?_
        refine wp_if_eqB rfl (fun c1 => ?_) (fun c1 => ?_)
        · skip
          refine wp_iinc4N rfl rfl ?_
          refine wp_goto rfl ?_
          have hn : ¬ gq_ s m tm tm x0.1 := fun k => by rw [hD.mpr k] at c1; cases c1
          refine go2 x h2 ⟨z2, E2, fun f => (C2 f).trans ⟨fun ⟨j, x1, k1, k⟩ => ⟨j, x1, by omega, k⟩, fun ⟨j, x1, k1, k2, k3, k⟩ => ⟨j, x1, ?_, k2, k3, k⟩⟩, RQ_cg R2 (fun u w => or_congr Iff.rfl (and_congr Iff.rfl ⟨fun ⟨j, x1, f, k1, k⟩ => ⟨j, x1, f, by omega, k⟩, fun ⟨j, x1, f, k1, k2, k3, k⟩ => ⟨j, x1, f, ?_, k2, k3, k⟩⟩))⟩
          · rcases Nat.lt_or_ge j i with v | v
            · exact v
            · obtain rfl : j = i := by omega
              rw [hx] at k2
              cases k2
              exact absurd k3 hn
          · rcases Nat.lt_or_ge j i with v | v
            · exact v
            · obtain rfl : j = i := by omega
              rw [hx] at k2
              cases k2
              exact absurd k3 hn
        · skip
          refine wp_iload3 rfl ?_
          refine wp_aload0 rfl ?_
          refine wp_iload4 rfl ?_
          refine wp_iload2 rfl ?_
          have hg := hD.mp c1
          refine wp_callV2I rfl (Nat.le_of_ble_eq_true rfl) (Past_kd S2) (Past_figuresOn_ok S2 w X2 F2 R2 hm htm hx) (Nat.le_of_ble_eq_true rfl) ?_
          rintro _ h3 ⟨⟨A, rfl, hA⟩, R3, z3⟩
          refine wp_iorE (nI (x ||| A)) (nn_or _ _) rfl ?_
          refine wp_istore3 rfl rfl ?_
          refine wp_iinc4N rfl rfl ?_
          refine wp_goto rfl ?_
          refine go2 (x ||| A) h3 ⟨fz_trans z2 (fz_mono (fun v k => Or.inl k) z3), by rw [fz_I z3 (by omega)]; exact E2, fun f => ?_, RQ_cg R3 (fun u ww => ⟨?_, ?_⟩)⟩
          · rw [Nat.testBit_or, Bool.or_eq_true, C2 f, hA f]
            constructor
            · rintro (⟨j, x1, k1, k⟩ | k)
              · exact ⟨j, x1, by omega, k⟩
              · exact ⟨i, x0, Nat.lt_succ_self i, hx, hg, k⟩
            · rintro ⟨j, x1, k1, k2, k3, k⟩
              rcases Nat.lt_or_ge j i with v | v
              · exact Or.inl ⟨j, x1, v, k2, k3, k⟩
              · obtain rfl : j = i := by omega
                rw [hx] at k2
                cases k2
                exact Or.inr k
          · rintro ((k | ⟨k0, j, x1, f, k1, k⟩) | ⟨k0, f, k1, k2⟩)
            · exact Or.inl k
            · exact Or.inr ⟨k0, j, x1, f, by omega, k⟩
            · exact Or.inr ⟨k0, i, x0, f, Nat.lt_succ_self i, hx, hg, k1, k2⟩
          · rintro (k | ⟨k0, j, x1, f, k1, k2, k3, k4, k5⟩)
            · exact Or.inl (Or.inl k)
            · rcases Nat.lt_or_ge j i with v | v
              · exact Or.inl (Or.inr ⟨k0, j, x1, f, v, k2, k3, k4, k5⟩)
              · obtain rfl : j = i := by omega
                rw [hx] at k2
                cases k2
                exact Or.inr ⟨k0, f, k4, k5⟩
      · intro x h2 J
        show wq _ tb_Past_gatherCandidates _ 34 [some (.ref 43), some (.int (nI m)), some (.int (nI tm)), some (.int (nI x)), some (.int (nI ((qp_ s m t).length)))] [] h2 _
        obtain ⟨z2, E2, C2, R2⟩ := J
        have S2 := Past_fz S z2 (by rw [fz_I z2 (by omega)])
        have X2 := PX_fz X z2 hno
        have cnt2 : hp_I h2 44 3 = nI (qp_ s m t).length := by have := X2.1.2.2.1; rw [List.length_map] at this; exact this
        refine wp_iload4 rfl ?_
        refine wp_aload0 rfl ?_
        refine wp_getR rfl (Past_kd S2) (Past_R0 S2) (by first | decide | omega) ?_
        refine wp_getIE rfl (Orbit_kd (Past_s0 S2)) (show _ = nI ((qp_ s m t).length) from cnt2) ?_
        refine wp_icmp_geN ((qp_ s m t).length) ((qp_ s m t).length) (by omega) (by omega) rfl (fun _ => ?_) (fun z => absurd z (by omega))
        refine wp_aload0 rfl ?_
        refine wp_getR rfl (Past_kd S2) (Past_R4 S2) (by first | decide | omega) ?_
        refine wp_iload2 rfl ?_
        refine wp_iload3 rfl ?_
        refine wp_callS3V rfl (Nat.le_of_ble_eq_true rfl) (Cells_putN_ok (Past_k4 S2) (by decide) (Past_n4 S2) (by omega) (by decide)) (Nat.le_of_ble_eq_true rfl) ?_
        intro h3 e3
        refine wp_iinc2N rfl rfl ?_
        refine wp_goto rfl ?_
        refine go (_, _) h3 ⟨by rw [e3]; exact fz_rI z2 (Or.inr rfl) _, RQ_cg (RQ_fz R2 (by rw [e3, sd_rI_ne (by omega)])) (fun u w2 => gq_step w X.2.2.1 u w2), fun i2 hi2 => ?_⟩
        rw [e3, sd_rI_eq, vu_at]
        by_cases k : i2 = tm
        · rw [if_pos k, k]
          exact ⟨_, rfl, fun hp => gq_cb w X.2.2.1 C2 hp⟩
        · rw [if_neg k, E2]
          exact K1 i2 (by omega)
    · intro x h1 I
      show wq _ tb_Past_gatherCandidates _ 24 [some (.ref 43), some (.int (nI m)), some (.int (nI m)), x.1, x.2] [] h1 _
      obtain ⟨z1, R1, K1⟩ := I
      refine wp_iload2 rfl ?_
      refine wp_iload1 rfl ?_
      refine wp_icmp_geN m m (by omega) (by omega) rfl (fun _ => ?_) (fun z => absurd z (by omega))
      exact wp_vret rfl ⟨rfl, z1, K1⟩
  · skip
    refine wp_if_eqB rfl (fun c1 => ?_) (fun c1 => ?_)
    · skip
      refine wp_iconst rfl ?_
      refine wp_callS3V rfl (Nat.le_of_ble_eq_true rfl) (Cells_putN_ok (j := 0) (Past_k11 S) (by omega) rfl (show 0 < hp_ln h y by omega) (by omega)) (Nat.le_of_ble_eq_true rfl) ?_
      intro h1 e1
      rw [e1]
      rw [c1] at tail
      exact tail
    · skip
      refine wp_iconst rfl ?_
      refine wp_goto rfl ?_
      refine wp_callS3V rfl (Nat.le_of_ble_eq_true rfl) (Cells_putN_ok (j := 0) (Past_k11 S) (by omega) rfl (show 0 < hp_ln h y by omega) (by omega)) (Nat.le_of_ble_eq_true rfl) ?_
      intro h1 e1
      rw [e1]
      rw [c1] at tail
      exact tail
