-- ===== Past: firstFigureOn, findFirstRow =====
theorem neg6_ : ∀ f : Fin 6, (6 : Int32) * (-1) + nI f.1 < 0 := by decide +kernel
theorem Orbit_stepM_ok {h : Hp_} {o a b c e f : Nat} (S : S_Orbit h o a b c e) (hf : f < 6) : cI 2 mn_Orbit_step [.ref o, .int (-1), .int (nI f)] h (fun x h' => x = nI 0 ∧ h' = h) := by
  have h0 := S.2.2.2.1.2.2.2
  have hl := S.2.2.2.2.2.2.2.2.2
  refine cq_in (q := mi_Orbit_step) (L := [some (.ref o), some (.int (-1)), some (.int (nI f))]) rfl (Nat.le_of_ble_eq_true rfl) rfl ?_
  show wq _ tb_Orbit_step none 0 _ _ _ _
  refine wp_aload0 rfl ?_
  refine wp_getR rfl (Orbit_kd S) (Orbit_R7 S) (by first | decide | omega) ?_
  refine wp_bipush rfl ?_
  refine wp_iload1 rfl ?_
  refine wp_imul rfl ?_
  refine wp_iload2 rfl ?_
  refine wp_iadd rfl ?_
  refine wp_callS2I rfl (Nat.le_of_ble_eq_true rfl) (pI_ (ca_neg (neg6_ ⟨f, hf⟩)) (Cells_at_ok (Orbit_k7 S) h0 (by omega))) (Nat.le_of_ble_eq_true rfl) ?_
  refine pure_ ?_
  exact wp_iret rfl ⟨_, rfl, rfl, rfl⟩
theorem fs_ry {s : Sg_} (w : sg_wf s) {m k : Nat} {u v : Nat → Nat} (hk : k ≤ m) (h : ry_ s m u = ry_ s m v) : fs_ s m k u = fs_ s m k v := by
  unfold fs_
  have : (fun f => may_ s f && decide (0 < nw_ s m k (fun g => mv_ s f (u g)))) = (fun f => may_ s f && decide (0 < nw_ s m k (fun g => mv_ s f (v g)))) := funext fun f => by
    rw [ry_nw w k hk (u := fun g => mv_ s f (u g)) (v := fun g => mv_ s f (v g)) (by rw [← ry_step, ← ry_step, h])]
  rw [this]
theorem fs_lt (s : Sg_) (m k : Nat) (u : Nat → Nat) : fs_ s m k u < 6 := by
  unfold fs_
  cases e : ff_ (fun f => may_ s f && decide (0 < nw_ s m k (fun g => mv_ s f (u g)))) 6 0 with
  | none => decide
  | some j =>
    have := (ff_some _ _ _ e).2.1
    show j < 6
    omega
set_option maxRecDepth 4000 in
theorem Past_firstFigureOn_ok {h : Hp_} {a b c e p q r y m t tm i : Nat} {s : Sg_} {x0 : (Nat → Nat) × Nat × List Nat} (S : S_Past h a b c e p q r y) (w : sg_wf s) (X : PX_ h a b c e p q r y s m t) (F : FB_ h r s m t (fun _ => 0)) (hm : m ≤ 12) (ht : tm < m) (hx : (qp_ s m t)[i]? = some x0) : cI 4 mn_Past_firstFigureOn [.ref 43, .int (nI i), .int (nI tm)] h (fun x h' => x = nI (fs_ s m (m - (tm + 1)) (up_ s x0)) ∧ h' = h) := by
  have n8 := w.1.2
  have hil := (List.getElem?_eq_some_iff.mp hx).1
  have hlen := qp_len w m t
  have hce := ce_6 n8 (kn_6 w m)
  have lns := Past_ln S
  have hq := rx_55 (Past_rx S)
  have le1 := X.2.2.2.1
  have lr1 := X.2.2.2.2.2.2.1
  refine cq_in (q := mi_Past_firstFigureOn) (L := [some (.ref 43), some (.int (nI i)), some (.int (nI tm)), none]) rfl (Nat.le_of_ble_eq_true rfl) rfl ?_
  show wq _ tb_Past_firstFigureOn none 0 _ _ _ _
  refine wq_genQ (fun Q eQ => ?_)
  refine wp_iconst rfl ?_
  refine wp_istore3 rfl rfl ?_
  refine wq_loop (X := Unit) (fun f x => [some (.ref 43), some (.int (nI i)), some (.int (nI tm)), some (.int (nI f))]) (fun f x h1 => h1 = h ∧ ∀ g, g < f → (may_ s g && decide (0 < nw_ s m (m - (tm + 1)) (fun v => mv_ s g (up_ s x0 v)))) = false) (6) (0) (()) ?_ ?_ ?_ ?_
  · omega
  · exact ⟨rfl, fun g hg => absurd hg (Nat.not_lt_zero g)⟩
  · intro f x h1 hi I go
    show wq _ tb_Past_firstFigureOn _ 2 [some (.ref 43), some (.int (nI i)), some (.int (nI tm)), some (.int (nI f))] [] h1 _
    obtain ⟨rfl, I2⟩ := I
    have hf : f < 6 := hi
    obtain ⟨st1, st2⟩ := qp_step w X.2.1 X.2.2.1 hf hx
    have no : (may_ s f && decide (0 < nw_ s m (m - (tm + 1)) (fun v => mv_ s f (up_ s x0 v)))) = false → wq 3 tb_Past_firstFigureOn none 29 [some (.ref 43), some (.int (nI i)), some (.int (nI tm)), some (.int (nI f))] [] h1 Q := by
      intro hno
      refine wp_iinc3N rfl rfl ?_
      refine wp_goto rfl ?_
      exact go () h1 ⟨rfl, fun g hg => by
        rcases Nat.lt_or_ge g f with u | u
        · exact I2 g u
        · obtain rfl : g = f := by omega
          exact hno⟩
    refine wp_iload3 rfl ?_
    refine wp_bipush rfl ?_
    refine wp_icmp_geN f 6 (by omega) (by omega) rfl (fun z => absurd z (by omega)) (fun _ => ?_)
    refine wp_aload0 rfl ?_
    refine wp_aload0 rfl ?_
    refine wp_getR rfl (Past_kd S) (Past_R0 S) (by first | decide | omega) ?_
    refine wp_iload1 rfl ?_
    refine wp_iload3 rfl ?_
    cases hmf : may_ s f with
    | false =>
      refine wp_callV2I rfl (Nat.le_of_ble_eq_true rfl) (Orbit_kd (Past_s0 S)) (Orbit_step_ok (Past_s0 S) (show 6 * i + f < hp_ln h1 e by omega) (st2 hmf)) (Nat.le_of_ble_eq_true rfl) ?_
      refine pure_ ?_
      refine wp_iload2 rfl ?_
      refine wp_iconst rfl ?_
      refine wp_iaddE (nI (tm + 1)) (nI_add _ _) rfl ?_
      refine wp_callV2I rfl (Nat.le_of_ble_eq_true rfl) (Past_kd S) (Past_isFittingNo_ok) (Nat.le_of_ble_eq_true rfl) ?_
      refine pure_ ?_
      refine wp_if_eqB rfl (fun c1 => ?_) (fun c1 => ?_)
      · exact no (by rw [hmf]; rfl)
      · cases c1
    | true =>
      obtain ⟨j, z, hz, h2, h3⟩ := st1 hmf
      have hjl := (List.getElem?_eq_some_iff.mp hz).1
      obtain ⟨B0, b1, b2, b3⟩ := F j z hz
      have hnw : nw_ s m (m - (tm + 1)) (up_ s z) = nw_ s m (m - (tm + 1)) (fun g => mv_ s f (up_ s x0 g)) := ry_nw w _ (by omega) h3
      refine wp_callV2I rfl (Nat.le_of_ble_eq_true rfl) (Orbit_kd (Past_s0 S)) (Orbit_step_ok (Past_s0 S) (show 6 * i + f < hp_ln h1 e by omega) h2) (Nat.le_of_ble_eq_true rfl) ?_
      refine pure_ ?_
      refine wp_iload2 rfl ?_
      refine wp_iconst rfl ?_
      refine wp_iaddE (nI (tm + 1)) (nI_add _ _) rfl ?_
      refine wp_callV2I rfl (Nat.le_of_ble_eq_true rfl) (Past_kd S) (Past_isFitting_ok S (show j < hp_ln h1 r by omega) b2 (by omega) (by omega)) (Nat.le_of_ble_eq_true rfl) ?_
      refine pure_ ?_
      refine wp_if_eqB rfl (fun c1 => ?_) (fun c1 => ?_)
      · refine no ?_
        rw [hmf, Bool.true_and]
        refine decide_eq_false (fun k => ?_)
        rw [(b3 (tm + 1)).mpr ⟨Nat.zero_le _, by omega, by rw [hnw]; exact k⟩] at c1
        cases c1
      · skip
        refine wp_iload3 rfl ?_
        have hP : (may_ s f && decide (0 < nw_ s m (m - (tm + 1)) (fun v => mv_ s f (up_ s x0 v)))) = true := by
          rw [hmf, Bool.true_and, ← hnw]
          exact decide_eq_true ((b3 (tm + 1)).mp c1).2.2
        exact wp_iret rfl (by rw [eQ]; exact ⟨_, rfl, by unfold fs_; rw [ff_at (P := fun f => may_ s f && decide (0 < nw_ s m (m - (tm + 1)) (fun g => mv_ s f (up_ s x0 g)))) I2 hf hP]; rfl, rfl⟩)
  · intro x h1 I
    show wq _ tb_Past_firstFigureOn _ 2 [some (.ref 43), some (.int (nI i)), some (.int (nI tm)), some (.int (nI 6))] [] h1 _
    obtain ⟨rfl, I2⟩ := I
    refine wp_iload3 rfl ?_
    refine wp_bipush rfl ?_
    refine wp_icmp_geN 6 6 (by omega) (by omega) rfl (fun _ => ?_) (fun z => absurd z (by omega))
    refine wp_iconst rfl ?_
    exact wp_iret rfl (by rw [eQ]; exact ⟨_, rfl, by unfold fs_; rw [ff_no (P := fun f => may_ s f && decide (0 < nw_ s m (m - (tm + 1)) (fun g => mv_ s f (up_ s x0 g)))) I2]; rfl, rfl⟩)
set_option maxRecDepth 4000 in
theorem Past_firstFigureNo_ok {h : Hp_} {a b c e p q r y m t tm : Nat} {s : Sg_} (S : S_Past h a b c e p q r y) (w : sg_wf s) (X : PX_ h a b c e p q r y s m t) (F : FB_ h r s m t (fun _ => 0)) (hm : m ≤ 12) (ht : tm < m) : cI 4 mn_Past_firstFigureOn [.ref 43, .int (-1), .int (nI tm)] h (fun x h' => x = nI 0 ∧ h' = h) := by
  have n8 := w.1.2
  have hlen := qp_len w m t
  have hce := ce_6 n8 (kn_6 w m)
  have lns := Past_ln S
  have hq := rx_55 (Past_rx S)
  have lr1 := X.2.2.2.2.2.2.1
  have hl0 := (List.getElem?_eq_some_iff.mp (qp_0 (s := s) (m := m) (t := t))).1
  obtain ⟨B0, b1, b2, b3⟩ := F 0 _ qp_0
  refine cq_in (q := mi_Past_firstFigureOn) (L := [some (.ref 43), some (.int (-1)), some (.int (nI tm)), none]) rfl (Nat.le_of_ble_eq_true rfl) rfl ?_
  show wq _ tb_Past_firstFigureOn none 0 _ _ _ _
  refine wp_iconst rfl ?_
  refine wp_istore3 rfl rfl ?_
  refine wq_loop (X := Unit) (fun f x => [some (.ref 43), some (.int (-1)), some (.int (nI tm)), some (.int (nI f))]) (fun f x h1 => h1 = h ∧ ∀ g, g < f → B0.testBit (tm + 1) = false) (6) (0) (()) ?_ ?_ ?_ ?_
  · omega
  · exact ⟨rfl, fun g hg => absurd hg (Nat.not_lt_zero g)⟩
  · intro f x h1 hi I go
    show wq _ tb_Past_firstFigureOn _ 2 [some (.ref 43), some (.int (-1)), some (.int (nI tm)), some (.int (nI f))] [] h1 _
    obtain ⟨rfl, I2⟩ := I
    have hf : f < 6 := hi
    refine wp_iload3 rfl ?_
    refine wp_bipush rfl ?_
    refine wp_icmp_geN f 6 (by omega) (by omega) rfl (fun z => absurd z (by omega)) (fun _ => ?_)
    refine wp_aload0 rfl ?_
    refine wp_aload0 rfl ?_
    refine wp_getR rfl (Past_kd S) (Past_R0 S) (by first | decide | omega) ?_
    refine wp_iload1 rfl ?_
    refine wp_iload3 rfl ?_
    refine wp_callV2I rfl (Nat.le_of_ble_eq_true rfl) (Orbit_kd (Past_s0 S)) (Orbit_stepM_ok (Past_s0 S) hf) (Nat.le_of_ble_eq_true rfl) ?_
    refine pure_ ?_
    refine wp_iload2 rfl ?_
    refine wp_iconst rfl ?_
    refine wp_iaddE (nI (tm + 1)) (nI_add _ _) rfl ?_
    refine wp_callV2I rfl (Nat.le_of_ble_eq_true rfl) (Past_kd S) (Past_isFitting_ok (j := 0) S (show 0 < hp_ln h1 r by omega) b2 (by omega) (by omega)) (Nat.le_of_ble_eq_true rfl) ?_
    refine pure_ ?_
    refine wp_if_eqB rfl (fun c1 => ?_) (fun c1 => ?_)
    · skip
      refine wp_iinc3N rfl rfl ?_
      refine wp_goto rfl ?_
      exact go () h1 ⟨rfl, fun _ _ => c1⟩
    · skip
      refine wp_iload3 rfl ?_
      have h00 : f = 0 := by
        rcases Nat.eq_zero_or_pos f with u | u
        · exact u
        · rw [I2 0 u] at c1; cases c1
      exact wp_iret rfl ⟨_, rfl, by rw [h00], rfl⟩
  · intro x h1 I
    show wq _ tb_Past_firstFigureOn _ 2 [some (.ref 43), some (.int (-1)), some (.int (nI tm)), some (.int (nI 6))] [] h1 _
    obtain ⟨rfl, I2⟩ := I
    refine wp_iload3 rfl ?_
    refine wp_bipush rfl ?_
    refine wp_icmp_geN 6 6 (by omega) (by omega) rfl (fun _ => ?_) (fun z => absurd z (by omega))
    refine wp_iconst rfl ?_
    exact wp_iret rfl ⟨_, rfl, rfl, rfl⟩
/-- a number of a lying, or none -/
def ix_ : Option Nat → Int32
  | none => -1
  | some j => nI j
set_option maxRecDepth 4000 in
set_option maxHeartbeats 4000000 in
theorem Past_findFirstRow_ok {h : Hp_} {a b c e p q r y m t : Nat} {s : Sg_} (S : S_Past h a b c e p q r y) (w : sg_wf s) (X : PX_ h a b c e p q r y s m t) (F : FB_ h r s m t (fun _ => 0)) (hm : m ≤ 12) : cV 5 mn_Past_findFirstRow [.ref 43, .int (nI m)] h (fun h' => fz_ (fun v => v = 53) h h' ∧ (0 < nw_ s m m (fun g => g) → ∀ i, i < m → hp_I h' 53 i = nI (fs_ s m (m - (i + 1)) (pt_ s m i)))) := by
  have n8 := w.1.2
  have hlen := qp_len w m t
  have hce := ce_6 n8 (kn_6 w m)
  have hq := rx_55 (Past_rx S)
  have hrx := Past_rx S
  unfold rx_ at hrx
  have rwl := Past_rw S
  unfold rw4_ at rwl
  refine cq_in (q := mi_Past_findFirstRow) (L := [some (.ref 43), some (.int (nI m)), none, none, none]) rfl (Nat.le_of_ble_eq_true rfl) rfl ?_
  show wq _ tb_Past_findFirstRow none 0 _ _ _ _
  refine wp_iconst rfl ?_
  refine wp_istore2 rfl rfl ?_
  refine wp_iconst rfl ?_
  refine wp_istore3 rfl rfl ?_
  refine wq_loop (X := Option Nat × Option Value) (fun tm x => [some (.ref 43), some (.int (nI m)), some (.int (ix_ x.1)), some (.int (nI tm)), x.2]) (fun tm x h1 => fz_ (fun v => v = 53) h h1 ∧ (∀ j : Nat, x.1 = some j → ∃ z, (qp_ s m t)[j]? = some z) ∧ (0 < nw_ s m m (fun g => g) → (∃ (j : Nat) (z : (Nat → Nat) × Nat × List Nat), x.1 = some j ∧ (qp_ s m t)[j]? = some z ∧ z.1 = ry_ s m (pt_ s m tm)) ∧ ∀ i, i < tm → hp_I h1 53 i = nI (fs_ s m (m - (i + 1)) (pt_ s m i)))) (m) (0) ((some 0, none)) ?_ ?_ ?_ ?_
  · omega
  · exact ⟨fz_refl _ _, fun j hj => by cases hj; exact ⟨_, qp_0⟩, fun _ => ⟨⟨0, _, rfl, qp_0, rfl⟩, fun i hi => absurd hi (Nat.not_lt_zero i)⟩⟩
  · intro tm x h1 hi I go
    show wq _ tb_Past_findFirstRow _ 4 [some (.ref 43), some (.int (nI m)), some (.int (ix_ x.1)), some (.int (nI tm)), x.2] [] h1 _
    obtain ⟨o, v4⟩ := x
    obtain ⟨z1, I1, I2⟩ := I
    have htm : tm < m := hi
    have S1 := Past_fz S z1 (by rw [fz_I z1 (by omega)])
    have X1 := PX_fz X z1 (fun x hx => by have := (Past_dis S).1 x hx; omega)
    have F1 := FB_fz F (h2 := h1) (by rw [fz_I z1 (by omega)])
    show wq _ tb_Past_findFirstRow _ 4 [some (.ref 43), some (.int (nI m)), some (.int (ix_ o)), some (.int (nI tm)), v4] [] h1 _
    cases o with
    | none =>
      have hno : ¬ 0 < nw_ s m m (fun g => g) := fun k => by
        obtain ⟨⟨j, _, k1, _⟩, _⟩ := I2 k
        cases k1
      show wq _ tb_Past_findFirstRow _ 4 [some (.ref 43), some (.int (nI m)), some (.int (-1)), some (.int (nI tm)), v4] [] h1 _
      refine wp_iload3 rfl ?_
      refine wp_iload1 rfl ?_
      refine wp_icmp_geN tm m (by omega) (by omega) rfl (fun z => absurd z (by omega)) (fun _ => ?_)
      refine wp_aload0 rfl ?_
      refine wp_iload2 rfl ?_
      refine wp_iload3 rfl ?_
      refine wp_callV2I rfl (Nat.le_of_ble_eq_true rfl) (Past_kd S1) (Past_firstFigureNo_ok S1 w X1 F1 hm htm) (Nat.le_of_ble_eq_true rfl) ?_
      refine pure_ ?_
      refine wp_istore4 rfl rfl ?_
      refine wp_aload0 rfl ?_
      refine wp_getR rfl (Past_kd S1) (Past_R3 S1) (by first | decide | omega) ?_
      refine wp_iload3 rfl ?_
      refine wp_iload4 rfl ?_
      refine wp_callS3V rfl (Nat.le_of_ble_eq_true rfl) (Cells_putN_ok (Past_k3 S1) (by decide) (Past_n3 S1) (by omega) (by decide)) (Nat.le_of_ble_eq_true rfl) ?_
      intro h2 e2
      have z2 : fz_ (fun v => v = 53) h h2 := by rw [e2]; exact fz_rI (P := fun v => v = 53) z1 rfl _
      have S2 := Past_fz S z2 (by rw [fz_I z2 (by omega)])
      refine wp_aload0 rfl ?_
      refine wp_getR rfl (Past_kd S2) (Past_R0 S2) (by first | decide | omega) ?_
      refine wp_iload2 rfl ?_
      refine wp_iload4 rfl ?_
      refine wp_callV2I rfl (Nat.le_of_ble_eq_true rfl) (Orbit_kd (Past_s0 S2)) (Orbit_stepM_ok (f := 0) (Past_s0 S2) (by omega)) (Nat.le_of_ble_eq_true rfl) ?_
      refine pure_ ?_
      refine wp_istore2 rfl rfl ?_
      refine wp_iinc3N rfl rfl ?_
      refine wp_goto rfl ?_
      exact go (some 0, _) h2 ⟨z2, fun j hj => (by cases hj; exact ⟨_, qp_0⟩), fun k => absurd k hno⟩
    | some j =>
      obtain ⟨z, hz⟩ := I1 j rfl
      have hjl := (List.getElem?_eq_some_iff.mp hz).1
      have hzu := (qp_e w (List.mem_of_getElem? hz)).1
      have hf := fs_lt s m (m - (tm + 1)) (up_ s z)
      have key : 0 < nw_ s m m (fun g => g) → z.1 = ry_ s m (pt_ s m tm) ∧ fs_ s m (m - (tm + 1)) (up_ s z) = fs_ s m (m - (tm + 1)) (pt_ s m tm) ∧ may_ s (fs_ s m (m - (tm + 1)) (up_ s z)) = true := fun k => by
        obtain ⟨⟨j2, z2, k1, k2, k3⟩, _⟩ := I2 k
        have k1' : some j = some j2 := k1
        cases k1'
        rw [hz] at k2
        cases k2
        have e1 : fs_ s m (m - (tm + 1)) (up_ s z) = fs_ s m (m - (tm + 1)) (pt_ s m tm) := fs_ry w (Nat.sub_le _ _) (hzu.symm.trans k3)
        have hp := pt_pos k tm (by omega)
        rw [show m - tm = (m - (tm + 1)) + 1 by omega] at hp
        exact ⟨k3, e1, by rw [e1]; exact (fs_ok hp).2.1⟩
      show wq _ tb_Past_findFirstRow _ 4 [some (.ref 43), some (.int (nI m)), some (.int (nI j)), some (.int (nI tm)), v4] [] h1 _
      have e0 := Past_firstFigureOn_ok S1 w X1 F1 hm htm hz
      generalize fs_ s m (m - (tm + 1)) (up_ s z) = f0 at hf key e0
      refine wp_iload3 rfl ?_
      refine wp_iload1 rfl ?_
      refine wp_icmp_geN tm m (by omega) (by omega) rfl (fun z => absurd z (by omega)) (fun _ => ?_)
      refine wp_aload0 rfl ?_
      refine wp_iload2 rfl ?_
      refine wp_iload3 rfl ?_
      refine wp_callV2I rfl (Nat.le_of_ble_eq_true rfl) (Past_kd S1) (e0) (Nat.le_of_ble_eq_true rfl) ?_
      refine pure_ ?_
      refine wp_istore4 rfl rfl ?_
      refine wp_aload0 rfl ?_
      refine wp_getR rfl (Past_kd S1) (Past_R3 S1) (by first | decide | omega) ?_
      refine wp_iload3 rfl ?_
      refine wp_iload4 rfl ?_
      refine wp_callS3V rfl (Nat.le_of_ble_eq_true rfl) (Cells_putN_ok (Past_k3 S1) (by decide) (Past_n3 S1) (by omega) (by decide)) (Nat.le_of_ble_eq_true rfl) ?_
      intro h2 e2
      have z2 : fz_ (fun v => v = 53) h h2 := by rw [e2]; exact fz_rI (P := fun v => v = 53) z1 rfl _
      have S2 := Past_fz S z2 (by rw [fz_I z2 (by omega)])
      have X2 := PX_fz X z2 (fun x hx => by have := (Past_dis S).1 x hx; omega)
      have le2 := X2.2.2.2.1
      obtain ⟨st1, st2⟩ := qp_step w X2.2.1 X2.2.2.1 hf hz
      have row : 0 < nw_ s m m (fun g => g) → ∀ i, i < tm + 1 → hp_I h2 53 i = nI (fs_ s m (m - (i + 1)) (pt_ s m i)) := by
        intro k i hi2
        rw [e2, sd_rI_eq, vu_at]
        by_cases k2 : i = tm
        · rw [if_pos k2, k2, (key k).2.1]
        · rw [if_neg k2]; exact (I2 k).2 i (by omega)
      refine wp_aload0 rfl ?_
      refine wp_getR rfl (Past_kd S2) (Past_R0 S2) (by first | decide | omega) ?_
      refine wp_iload2 rfl ?_
      refine wp_iload4 rfl ?_
      cases hmf : may_ s f0 with
      | false =>
        refine wp_callV2I rfl (Nat.le_of_ble_eq_true rfl) (Orbit_kd (Past_s0 S2)) (Orbit_step_ok (Past_s0 S2) (show 6 * j + f0 < hp_ln h2 e by omega) (st2 hmf)) (Nat.le_of_ble_eq_true rfl) ?_
        refine pure_ ?_
        refine wp_istore2 rfl rfl ?_
        refine wp_iinc3N rfl rfl ?_
        refine wp_goto rfl ?_
        exact go (none, _) h2 ⟨z2, fun j hj => (by cases hj), fun k => (by rw [(key k).2.2] at hmf; cases hmf)⟩
      | true =>
        obtain ⟨j2, zz, hzz, h3, h4⟩ := st1 hmf
        refine wp_callV2I rfl (Nat.le_of_ble_eq_true rfl) (Orbit_kd (Past_s0 S2)) (Orbit_step_ok (Past_s0 S2) (show 6 * j + f0 < hp_ln h2 e by omega) h3) (Nat.le_of_ble_eq_true rfl) ?_
        refine pure_ ?_
        refine wp_istore2 rfl rfl ?_
        refine wp_iinc3N rfl rfl ?_
        refine wp_goto rfl ?_
        refine go (some j2, _) h2 ⟨z2, fun j hj => (by cases hj; exact ⟨_, hzz⟩), fun k => ⟨⟨j2, zz, rfl, hzz, ?_⟩, row k⟩⟩
        obtain ⟨k1, k2, k3⟩ := key k
        rw [(qp_e w (List.mem_of_getElem? hzz)).1, h4, ← ry_step, ← hzu, k1, ry_step]
        show _ = ry_ s m (fun g => mv_ s (fs_ s m (m - (tm + 1)) (pt_ s m tm)) (pt_ s m tm g))
        rw [← k2]
  · intro x h1 I
    show wq _ tb_Past_findFirstRow _ 4 [some (.ref 43), some (.int (nI m)), some (.int (ix_ x.1)), some (.int (nI m)), x.2] [] h1 _
    obtain ⟨z1, I1, I2⟩ := I
    refine wp_iload3 rfl ?_
    refine wp_iload1 rfl ?_
    refine wp_icmp_geN m m (by omega) (by omega) rfl (fun _ => ?_) (fun z => absurd z (by omega))
    exact wp_vret rfl ⟨rfl, z1, fun k => (I2 k).2⟩
