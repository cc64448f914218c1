-- ===== Past: sumAfter, isFitting =====
theorem qp_step {h : Hp_} {e m t i f : Nat} {s : Sg_} {x : (Nat → Nat) × Nat × List Nat} (w : sg_wf s) (X : SP_ h e (kn_ s m) (mv_ s) (may_ s) (qp_ s m t) t) (ht : 6 * (qp_ s m t).length ≤ t) (hf : f < 6) (hx : (qp_ s m t)[i]? = some x) : (may_ s f = true → ∃ (j : Nat) (z : (Nat → Nat) × Nat × List Nat), (qp_ s m t)[j]? = some z ∧ hp_I h e (6 * i + f) = nI j ∧ ry_ s m (up_ s z) = ry_ s m (fun g => mv_ s f (up_ s x g))) ∧ (may_ s f = false → hp_I h e (6 * i + f) = -1) := by
  have hil := (List.getElem?_eq_some_iff.mp hx).1
  have := X i f x (by omega) hf hx
  constructor
  · intro hm
    rw [if_pos hm] at this
    obtain ⟨j, h1, h2⟩ := this
    rw [List.getElem?_map] at h1
    cases hz : (qp_ s m t)[j]? with
    | none => rw [hz] at h1; cases h1
    | some z =>
      rw [hz] at h1
      have e1 : z.1 = nx2_ (kn_ s m) (mv_ s) x.1 f := Option.some.inj h1
      refine ⟨j, z, hz, h2, ?_⟩
      rw [← (qp_e w (List.mem_of_getElem? hz)).1, e1, (qp_e w (List.mem_of_getElem? hx)).1, ry_step]
  · intro hm
    rw [if_neg (by rw [hm]; decide)] at this
    exact this
/-- ways on by each figure -/
def gw_ (s : Sg_) (m k : Nat) (x0 : (Nat → Nat) × Nat × List Nat) (f : Nat) : Nat := if may_ s f then nw_ s m k (fun g => mv_ s f (up_ s x0 g)) else 0
set_option maxRecDepth 4000 in
theorem Past_sumAfter_ok {h : Hp_} {a b c e p q r y m t i k : Nat} {s : Sg_} {x0 : (Nat → Nat) × Nat × List Nat} (S : S_Past h a b c e p q r y) (w : sg_wf s) (X : PX_ h a b c e p q r y s m t) (hk : k ≤ m) (hm : m ≤ 12) (hx : (qp_ s m t)[i]? = some x0) (hA : ∀ (j : Nat) (z : (Nat → Nat) × Nat × List Nat), (qp_ s m t)[j]? = some z → hp_J h q j = lN (nw_ s m k (up_ s z))) : cJ 4 mn_Past_sumAfter [.ref 43, .int (nI i)] h (fun v h' => v = lN (sm_ (gw_ s m k x0) 6) ∧ h' = h) := by
  have n8 := w.1.2
  obtain ⟨X1, X2, X3, X4, X5, X6, X7, X8⟩ := X
  have hil := (List.getElem?_eq_some_iff.mp hx).1
  have hlen := qp_len w m t
  have hce := ce_6 n8 (kn_6 w m)
  have lns := Past_ln S
  have hq := rx_55 (Past_rx S)
  refine cq_in (q := mi_Past_sumAfter) (L := [some (.ref 43), some (.int (nI i)), none, none, none]) rfl (Nat.le_of_ble_eq_true rfl) rfl ?_
  show wq _ tb_Past_sumAfter none 0 _ _ _ _
  refine wp_lconst rfl ?_
  refine wp_lstore2 rfl rfl ?_
  refine wp_iconst rfl ?_
  refine wp_istore4 rfl rfl ?_
  refine wq_loop (X := Unit) (fun f x => [some (.ref 43), some (.int (nI i)), some (.long (lN (sm_ (gw_ s m k x0) f))), none, some (.int (nI f))]) (fun f x h1 => h1 = h) (6) (0) (()) ?_ ?_ ?_ ?_
  · omega
  · rfl
  · intro f x h1 hi I go
    show wq _ tb_Past_sumAfter _ 5 [some (.ref 43), some (.int (nI i)), some (.long (lN (sm_ (gw_ s m k x0) f))), none, some (.int (nI f))] [] h1 _
    obtain rfl := I
    have hf : f < 6 := hi
    obtain ⟨st1, st2⟩ := qp_step w X2 X3 hf hx
    refine wp_iload4 rfl ?_
    refine wp_bipush rfl ?_
    refine wp_icmp_geN f 6 (by omega) (by omega) rfl (fun z => absurd z (by omega)) (fun _ => ?_)
    refine wp_lload2 rfl ?_
    refine wp_aload0 rfl ?_
    refine wp_getR rfl (Past_kd S) (Past_R9 S) (by first | decide | omega) ?_
    refine wp_aload0 rfl ?_
    refine wp_getR rfl (Past_kd S) (Past_R0 S) (by first | decide | omega) ?_
    refine wp_iload1 rfl ?_
    refine wp_iload4 rfl ?_
    cases hmf : may_ s f with
    | false =>
      refine wp_callV2I rfl (Nat.le_of_ble_eq_true rfl) (Orbit_kd (Past_s0 S)) (Orbit_step_ok (Past_s0 S) (show 6 * i + f < hp_ln h1 e by omega) (st2 hmf)) (Nat.le_of_ble_eq_true rfl) ?_
      refine pure_ ?_
      refine wp_callS2J rfl (Nat.le_of_ble_eq_true rfl) (Cells_longAt_ok (Past_k9 S) (by omega) (by omega)) (Nat.le_of_ble_eq_true rfl) ?_
      refine pure_ ?_
      rw [ca_neg (show (-1 : Int32) < 0 by decide)]
      refine wp_laddE (lN ((sm_ (gw_ s m k x0) f) + 0)) (lN_add _ _) rfl ?_
      refine wp_lstore2 rfl rfl ?_
      refine wp_iinc4N rfl rfl ?_
      refine wp_goto rfl ?_
      have kk := go () h1 rfl
      (try dsimp only at kk)
      rw [show sm_ (gw_ s m k x0) (f + 1) = sm_ (gw_ s m k x0) f + (if may_ s f then nw_ s m k (fun g => mv_ s f (up_ s x0 g)) else 0) from rfl, hmf] at kk
      exact kk
    | true =>
      obtain ⟨j, z, hz, h2, h3⟩ := st1 hmf
      have hjl := (List.getElem?_eq_some_iff.mp hz).1
      refine wp_callV2I rfl (Nat.le_of_ble_eq_true rfl) (Orbit_kd (Past_s0 S)) (Orbit_step_ok (Past_s0 S) (show 6 * i + f < hp_ln h1 e by omega) h2) (Nat.le_of_ble_eq_true rfl) ?_
      refine pure_ ?_
      refine wp_callS2J rfl (Nat.le_of_ble_eq_true rfl) (Cells_longAt_ok (Past_k9 S) (by omega) (by omega)) (Nat.le_of_ble_eq_true rfl) ?_
      refine pure_ ?_
      rw [ca_in (by omega) (by omega), hA j z hz, ry_nw w k hk h3]
      refine wp_laddE (lN ((sm_ (gw_ s m k x0) f) + (nw_ s m k (fun g => mv_ s f (up_ s x0 g))))) (lN_add _ _) rfl ?_
      refine wp_lstore2 rfl rfl ?_
      refine wp_iinc4N rfl rfl ?_
      refine wp_goto rfl ?_
      have kk := go () h1 rfl
      (try dsimp only at kk)
      rw [show sm_ (gw_ s m k x0) (f + 1) = sm_ (gw_ s m k x0) f + (if may_ s f then nw_ s m k (fun g => mv_ s f (up_ s x0 g)) else 0) from rfl, hmf] at kk
      exact kk
  · intro x h1 I
    show wq _ tb_Past_sumAfter _ 5 [some (.ref 43), some (.int (nI i)), some (.long (lN (sm_ (gw_ s m k x0) 6))), none, some (.int (nI 6))] [] h1 _
    obtain rfl := I
    refine wp_iload4 rfl ?_
    refine wp_bipush rfl ?_
    refine wp_icmp_geN 6 6 (by omega) (by omega) rfl (fun _ => ?_) (fun z => absurd z (by omega))
    refine wp_lload2 rfl ?_
    exact wp_lret rfl ⟨_, rfl, rfl, rfl⟩
theorem Past_isFittingNo_ok {h : Hp_} {tm : Nat} : cI 3 mn_Past_isFitting [.ref 43, .int (-1), .int (nI tm)] h (fun x h' => x = bo_ false ∧ h' = h) := by
  refine cq_in (q := mi_Past_isFitting) (L := [some (.ref 43), some (.int (-1)), some (.int (nI tm))]) rfl (Nat.le_of_ble_eq_true rfl) rfl ?_
  show wq _ tb_Past_isFitting none 0 _ _ _ _
  refine wp_iload1 rfl ?_
  refine wp_iconst rfl ?_
  refine wp_icmp_eq rfl (fun _ => ?_) (fun z => absurd z (fun z => z rfl))
  refine wp_iconst rfl ?_
  exact wp_zret rfl (by first | exact bo_01 _ | exact Or.inl rfl | exact Or.inr rfl) ⟨_, rfl, rfl, rfl⟩
theorem Past_isFitting_ok {h : Hp_} {a b c e p q r y j tm B : Nat} (S : S_Past h a b c e p q r y) (hj : j < hp_ln h r) (hB : hp_I h r j = nI B) (hb : B < 2 ^ 32) (ht : tm < 32) : cI 3 mn_Past_isFitting [.ref 43, .int (nI j), .int (nI tm)] h (fun x h' => x = bo_ (B.testBit tm) ∧ h' = h) := by
  have lns := Past_ln S
  have hq := rx_55 (Past_rx S)
  refine cq_in (q := mi_Past_isFitting) (L := [some (.ref 43), some (.int (nI j)), some (.int (nI tm))]) rfl (Nat.le_of_ble_eq_true rfl) rfl ?_
  show wq _ tb_Past_isFitting none 0 _ _ _ _
  refine wp_iload1 rfl ?_
  refine wp_iconst rfl ?_
  refine wp_icmp_eq rfl (fun z => absurd z (fun z => nI_ne_m1 (by omega) z)) (fun _ => ?_)
  refine wp_aload0 rfl ?_
  refine wp_getR rfl (Past_kd S) (Past_R10 S) (by first | decide | omega) ?_
  refine wp_iload1 rfl ?_
  refine wp_callS2I rfl (Nat.le_of_ble_eq_true rfl) (Cells_atV_ok (Past_k10 S) (by omega) hj (by omega) hB) (Nat.le_of_ble_eq_true rfl) ?_
  refine pure_ ?_
  refine wp_iload2 rfl ?_
  refine wp_callS2I rfl (Nat.le_of_ble_eq_true rfl) (Cells_isIn_ok hb ht) (Nat.le_of_ble_eq_true rfl) ?_
  refine pure_ ?_
  refine wp_if_eqB rfl (fun c1 => ?_) (fun c1 => ?_)
  · skip
    refine wp_iconst rfl ?_
    exact wp_zret rfl (by first | exact bo_01 _ | exact Or.inl rfl | exact Or.inr rfl) ⟨_, rfl, (by rw [c1]; rfl), rfl⟩
  · skip
    refine wp_iconst rfl ?_
    refine wp_goto rfl ?_
    exact wp_zret rfl (by first | exact bo_01 _ | exact Or.inl rfl | exact Or.inr rfl) ⟨_, rfl, (by rw [c1]; rfl), rfl⟩
