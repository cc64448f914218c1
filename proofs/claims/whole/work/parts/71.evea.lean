-- ===== Evening: its rows; holding, worth, compare, takeMoves =====
def S_Even (h : Hp_) : Prop := hp_kd h 59 = 19 ∧ (hp_R h 59 0 = 60 ∧ hp_R h 59 1 = 62 ∧ hp_R h 59 2 = 63) ∧ S_Memo h 60 ∧ (hp_kd h 62 = 1 ∧ hp_ln h 62 = 6) ∧ S_Notes h 63
theorem Even_kd {h : Hp_} (S : S_Even h) : hp_kd h 59 = 19 := S.1
theorem Even_R0 {h : Hp_} (S : S_Even h) : hp_R h 59 0 = 60 := S.2.1.1
theorem Even_R1 {h : Hp_} (S : S_Even h) : hp_R h 59 1 = 62 := S.2.1.2.1
theorem Even_R2 {h : Hp_} (S : S_Even h) : hp_R h 59 2 = 63 := S.2.1.2.2
theorem Even_s0 {h : Hp_} (S : S_Even h) : S_Memo h 60 := S.2.2.1
theorem Even_k1 {h : Hp_} (S : S_Even h) : hp_kd h 62 = 1 := S.2.2.2.1.1
theorem Even_n1 {h : Hp_} (S : S_Even h) : hp_ln h 62 = 6 := S.2.2.2.1.2
theorem Even_s2 {h : Hp_} (S : S_Even h) : S_Notes h 63 := S.2.2.2.2
theorem Even_fz {h h2 : Hp_} {P : Nat → Prop} (S : S_Even h) (z : fz_ P h h2) : S_Even h2 := by
  unfold S_Even S_Memo S_Notes at S ⊢
  rw [fz_kd z, fz_ln z, fz_R z]
  exact S
theorem wi_in {s : Sg_} (w : sg_wf s) {k : Nat} (hk : k < (sg_wi s).length) : (1 ≤ (wi_ s k).1 ∧ (wi_ s k).1 ≤ 99) ∧ (wi_ s k).2.1 < sg_n s ∧ (wi_ s k).2.2 < sg_n s := w.2.2.2.2.2.2.2.2.2.2.2.2 _ (List.mem_of_getElem? (wi_get hk))
theorem hk_nx {s : Sg_} {u : Nat → Nat} {k : Nat} : hk_ s u (k + 1) = hk_ s u k ||| (if u (wi_ s k).2.1 = (wi_ s k).2.2 then 2 ^ k else 0) := rfl
theorem wk_nx {s : Sg_} {b k : Nat} : wk_ s b (k + 1) = wk_ s b k + (if b.testBit k then (wi_ s k).1 else 0) := rfl
set_option maxRecDepth 4000 in
theorem Evening_holding_ok {h : Hp_} {s : Sg_} {u : Nat → Nat} (S : S_Even h) (w : sg_wf s) (N : NS_ h 63 (sg_wi s)) (hu : ∀ i, i < 8 → u i < 8) : cI 4 mn_Evening_holding [.ref 59, .int (nI (pq_ u 8))] h (fun x h' => x = nI (hb_ s u) ∧ h' = h) := by
  have n8 := w.1.2
  have hl := wi_len w
  refine cq_in (q := mi_Evening_holding) (L := [some (.ref 59), some (.int (nI (pq_ u 8))), none, none]) rfl (Nat.le_of_ble_eq_true rfl) rfl ?_
  show wq _ tb_Evening_holding none 0 _ _ _ _
  refine wp_iconst rfl ?_
  refine wp_istore2 rfl rfl ?_
  refine wp_iconst rfl ?_
  refine wp_istore3 rfl rfl ?_
  refine wq_loop (X := Unit) (fun k x => [some (.ref 59), some (.int (nI (pq_ u 8))), some (.int (nI (hk_ s u k))), some (.int (nI k))]) (fun k x h1 => h1 = h) ((sg_wi s).length) (0) (()) ?_ ?_ ?_ ?_
  · omega
  · rfl
  · intro k x h1 hi I go
    show wq _ tb_Evening_holding _ 4 [some (.ref 59), some (.int (nI (pq_ u 8))), some (.int (nI (hk_ s u k))), some (.int (nI k))] [] h1 _
    obtain rfl := I
    have hk : k < (sg_wi s).length := hi
    obtain ⟨⟨_, b1⟩, b2, b3⟩ := wi_in w hk
    have hmk := N.2 k _ (wi_get hk)
    refine wp_iload3 rfl ?_
    refine wp_aload0 rfl ?_
    refine wp_getR rfl (Even_kd S) (Even_R2 S) (by first | decide | omega) ?_
    refine wp_getIE rfl (Notes_kd (Even_s2 S)) (show _ = nI ((sg_wi s).length) from N.1) ?_
    refine wp_icmp_geN k ((sg_wi s).length) (by omega) (by omega) rfl (fun z => absurd z (by omega)) (fun _ => ?_)
    refine wp_iload1 rfl ?_
    refine wp_aload0 rfl ?_
    refine wp_getR rfl (Even_kd S) (Even_R2 S) (by first | decide | omega) ?_
    refine wp_iload3 rfl ?_
    refine wp_callV1I rfl (Nat.le_of_ble_eq_true rfl) (Notes_kd (Even_s2 S)) (Notes_good_ok (Even_s2 S) (show k < 6 by omega) hmk (by omega) (by omega) (by omega)) (Nat.le_of_ble_eq_true rfl) ?_
    refine pure_ ?_
    refine wp_callS2I rfl (Nat.le_of_ble_eq_true rfl) (Maps_toP_ok hu (by omega)) (Nat.le_of_ble_eq_true rfl) ?_
    refine pure_ ?_
    have h8 := hu (wi_ s k).2.1 (by omega)
    refine wp_aload0 rfl ?_
    refine wp_getR rfl (Even_kd S) (Even_R2 S) (by first | decide | omega) ?_
    refine wp_iload3 rfl ?_
    refine wp_callV1I rfl (Nat.le_of_ble_eq_true rfl) (Notes_kd (Even_s2 S)) (Notes_place_ok (Even_s2 S) (show k < 6 by omega) hmk (by omega)) (Nat.le_of_ble_eq_true rfl) ?_
    refine pure_ ?_
    refine wp_icmp_neN (u (wi_ s k).2.1) ((wi_ s k).2.2) (by omega) (by omega) rfl (fun c1 => ?_) (fun c1 => ?_)
    · skip
      refine wp_iinc3N rfl rfl ?_
      refine wp_goto rfl ?_
      have kk := go () h1 rfl
      (try dsimp only at kk)
      rw [hk_nx, if_neg c1, Nat.or_zero] at kk
      exact kk
    · skip
      refine wp_iload2 rfl ?_
      refine wp_iconst rfl ?_
      refine wp_iload3 rfl ?_
      refine wp_ishlE (nI (2 ^ k)) (nn_shl1 _ (by omega)) rfl ?_
      refine wp_iorE (nI ((hk_ s u k) ||| (2 ^ k))) (nn_or _ _) rfl ?_
      refine wp_istore2 rfl rfl ?_
      refine wp_iinc3N rfl rfl ?_
      refine wp_goto rfl ?_
      have kk := go () h1 rfl
      (try dsimp only at kk)
      rw [hk_nx, if_pos c1] at kk
      exact kk
  · intro x h1 I
    show wq _ tb_Evening_holding _ 4 [some (.ref 59), some (.int (nI (pq_ u 8))), some (.int (nI (hk_ s u ((sg_wi s).length)))), some (.int (nI ((sg_wi s).length)))] [] h1 _
    obtain rfl := I
    refine wp_iload3 rfl ?_
    refine wp_aload0 rfl ?_
    refine wp_getR rfl (Even_kd S) (Even_R2 S) (by first | decide | omega) ?_
    refine wp_getIE rfl (Notes_kd (Even_s2 S)) (show _ = nI ((sg_wi s).length) from N.1) ?_
    refine wp_icmp_geN ((sg_wi s).length) ((sg_wi s).length) (by omega) (by omega) rfl (fun _ => ?_) (fun z => absurd z (by omega))
    refine wp_iload2 rfl ?_
    exact wp_iret rfl ⟨_, rfl, rfl, rfl⟩
set_option maxRecDepth 4000 in
theorem Evening_worth_ok {h : Hp_} {s : Sg_} {b : Nat} (S : S_Even h) (w : sg_wf s) (N : NS_ h 63 (sg_wi s)) (hb : b < 2 ^ 32) : cI 4 mn_Evening_worth [.ref 59, .int (nI b)] h (fun x h' => x = nI (wk_ s b (sg_wi s).length) ∧ h' = h) := by
  have n8 := w.1.2
  have hl := wi_len w
  refine cq_in (q := mi_Evening_worth) (L := [some (.ref 59), some (.int (nI b)), none, none]) rfl (Nat.le_of_ble_eq_true rfl) rfl ?_
  show wq _ tb_Evening_worth none 0 _ _ _ _
  refine wp_iconst rfl ?_
  refine wp_istore2 rfl rfl ?_
  refine wp_iconst rfl ?_
  refine wp_istore3 rfl rfl ?_
  refine wq_loop (X := Unit) (fun k x => [some (.ref 59), some (.int (nI b)), some (.int (nI (wk_ s b k))), some (.int (nI k))]) (fun k x h1 => h1 = h) ((sg_wi s).length) (0) (()) ?_ ?_ ?_ ?_
  · omega
  · rfl
  · intro k x h1 hi I go
    show wq _ tb_Evening_worth _ 4 [some (.ref 59), some (.int (nI b)), some (.int (nI (wk_ s b k))), some (.int (nI k))] [] h1 _
    obtain rfl := I
    have hk : k < (sg_wi s).length := hi
    obtain ⟨⟨_, b1⟩, b2, b3⟩ := wi_in w hk
    have hmk := N.2 k _ (wi_get hk)
    refine wp_iload3 rfl ?_
    refine wp_aload0 rfl ?_
    refine wp_getR rfl (Even_kd S) (Even_R2 S) (by first | decide | omega) ?_
    refine wp_getIE rfl (Notes_kd (Even_s2 S)) (show _ = nI ((sg_wi s).length) from N.1) ?_
    refine wp_icmp_geN k ((sg_wi s).length) (by omega) (by omega) rfl (fun z => absurd z (by omega)) (fun _ => ?_)
    refine wp_iload1 rfl ?_
    refine wp_iload3 rfl ?_
    refine wp_callS2I rfl (Nat.le_of_ble_eq_true rfl) (Cells_isIn_ok hb (by omega)) (Nat.le_of_ble_eq_true rfl) ?_
    refine pure_ ?_
    refine wp_if_eqB rfl (fun c1 => ?_) (fun c1 => ?_)
    · skip
      refine wp_iinc3N rfl rfl ?_
      refine wp_goto rfl ?_
      have kk := go () h1 rfl
      (try dsimp only at kk)
      rw [wk_nx, c1] at kk
      exact kk
    · skip
      refine wp_iload2 rfl ?_
      refine wp_aload0 rfl ?_
      refine wp_getR rfl (Even_kd S) (Even_R2 S) (by first | decide | omega) ?_
      refine wp_iload3 rfl ?_
      refine wp_callV1I rfl (Nat.le_of_ble_eq_true rfl) (Notes_kd (Even_s2 S)) (Notes_amount_ok (Even_s2 S) (show k < 6 by omega) hmk (by omega) (by omega) (by omega)) (Nat.le_of_ble_eq_true rfl) ?_
      refine pure_ ?_
      refine wp_iaddE (nI ((wk_ s b k) + ((wi_ s k).1))) (nI_add _ _) rfl ?_
      refine wp_istore2 rfl rfl ?_
      refine wp_iinc3N rfl rfl ?_
      refine wp_goto rfl ?_
      have kk := go () h1 rfl
      (try dsimp only at kk)
      rw [wk_nx, if_pos c1] at kk
      exact kk
  · intro x h1 I
    show wq _ tb_Evening_worth _ 4 [some (.ref 59), some (.int (nI b)), some (.int (nI (wk_ s b ((sg_wi s).length)))), some (.int (nI ((sg_wi s).length)))] [] h1 _
    obtain rfl := I
    refine wp_iload3 rfl ?_
    refine wp_aload0 rfl ?_
    refine wp_getR rfl (Even_kd S) (Even_R2 S) (by first | decide | omega) ?_
    refine wp_getIE rfl (Notes_kd (Even_s2 S)) (show _ = nI ((sg_wi s).length) from N.1) ?_
    refine wp_icmp_geN ((sg_wi s).length) ((sg_wi s).length) (by omega) (by omega) rfl (fun _ => ?_) (fun z => absurd z (by omega))
    refine wp_iload2 rfl ?_
    exact wp_iret rfl ⟨_, rfl, rfl, rfl⟩
/-- of figures that do the same the first alone -/
def em_ (s : Sg_) (f : Nat) : Int32 := if ∃ e, e < f ∧ ms_ s e = ms_ s f then -1 else ms_ s f
set_option maxRecDepth 4000 in
theorem Evening_takeMoves_ok {h : Hp_} {s : Sg_} (S : S_Even h) (w : sg_wf s) (hM : hp_kd h 31 = 1 ∧ hp_ln h 31 = 6) (hr : ∀ f, f < 6 → hp_I h 31 f = ms_ s f) : cV 3 mn_Evening_takeMoves [.ref 59, .ref 31] h (fun h' => fz_ (fun v => v = 62) h h' ∧ ∀ f, f < 6 → hp_I h' 62 f = em_ s f) := by
  refine cq_in (q := mi_Evening_takeMoves) (L := [some (.ref 59), some (.ref 31), none, none, none]) rfl (Nat.le_of_ble_eq_true rfl) rfl ?_
  show wq _ tb_Evening_takeMoves none 0 _ _ _ _
  refine wp_iconst rfl ?_
  refine wp_istore2 rfl rfl ?_
  refine wq_loop (X := Option Value × Option Value) (fun f x => [some (.ref 59), some (.ref 31), some (.int (nI f)), x.1, x.2]) (fun f x h1 => fz_ (fun v => v = 62) h h1 ∧ ∀ g, g < f → hp_I h1 62 g = em_ s g) (6) (0) ((none, none)) ?_ ?_ ?_ ?_
  · omega
  · exact ⟨fz_refl _ _, fun g hg => absurd hg (Nat.not_lt_zero g)⟩
  · intro f x h1 hi I go
    show wq _ tb_Evening_takeMoves _ 2 [some (.ref 59), some (.ref 31), some (.int (nI f)), x.1, x.2] [] h1 _
    obtain ⟨z1, I1⟩ := I
    have hf : f < 6 := hi
    have S1 := Even_fz S z1
    have hM1 : hp_kd h1 31 = 1 ∧ hp_ln h1 31 = 6 := by rw [fz_kd z1, fz_ln z1]; exact hM
    have hr1 : ∀ f, f < 6 → hp_I h1 31 f = ms_ s f := fun f hf => by rw [fz_I z1 (by omega)]; exact hr f hf
    refine wp_iload2 rfl ?_
    refine wp_bipush rfl ?_
    refine wp_icmp_geN f 6 (by omega) (by omega) rfl (fun z => absurd z (by omega)) (fun _ => ?_)
    refine wp_aload1 rfl ?_
    refine wp_iload2 rfl ?_
    refine wp_callS2I rfl (Nat.le_of_ble_eq_true rfl) (Cells_atV_ok hM1.1 (by decide) (show f < hp_ln h1 31 by omega) (by omega) (hr1 f hf)) (Nat.le_of_ble_eq_true rfl) ?_
    refine pure_ ?_
    refine wp_istore3 rfl rfl ?_
    refine wp_iconst rfl ?_
    refine wp_istore4 rfl rfl ?_
    refine wq_loop (X := Int32) (fun e x => [some (.ref 59), some (.ref 31), some (.int (nI f)), some (.int x), some (.int (nI e))]) (fun e x h2 => h2 = h1 ∧ (((∃ g, g < e ∧ ms_ s g = ms_ s f) ∧ x = -1) ∨ ((¬ ∃ g, g < e ∧ ms_ s g = ms_ s f) ∧ x = ms_ s f))) (f) (0) ((ms_ s f)) ?_ ?_ ?_ ?_
    · omega
    · exact ⟨rfl, Or.inr ⟨fun ⟨g, k, _⟩ => absurd k (Nat.not_lt_zero g), rfl⟩⟩
    · intro e x h2 hi J go2
      show wq _ tb_Evening_takeMoves _ 17 [some (.ref 59), some (.ref 31), some (.int (nI f)), some (.int x), some (.int (nI e))] [] h2 _
      obtain ⟨rfl, J1⟩ := J
      have he : e < f := hi
      refine wp_iload4 rfl ?_
      refine wp_iload2 rfl ?_
      refine wp_icmp_geN e f (by omega) (by omega) rfl (fun z => absurd z (by omega)) (fun _ => ?_)
      refine wp_aload1 rfl ?_
      refine wp_iload4 rfl ?_
      refine wp_callS2I rfl (Nat.le_of_ble_eq_true rfl) (Cells_atV_ok hM1.1 (by decide) (show e < hp_ln h2 31 by omega) (by omega) (hr1 e (by omega))) (Nat.le_of_ble_eq_true rfl) ?_
      refine pure_ ?_
      refine wp_iload3 rfl ?_
      refine wp_icmp_ne rfl (fun c1 => ?_) (fun c1 => ?_)
      · skip
        refine wp_iinc4N rfl rfl ?_
        refine wp_goto rfl ?_
        refine go2 x h2 ⟨rfl, J1.imp (fun ⟨⟨g, k1, k2⟩, k3⟩ => ⟨⟨g, by omega, k2⟩, k3⟩) (fun ⟨k1, k2⟩ => ⟨fun ⟨g, k3, k4⟩ => ?_, k2⟩)⟩
        rcases Nat.lt_or_ge g e with u | u
        · exact k1 ⟨g, u, k4⟩
        · obtain rfl : g = e := by omega
          exact c1 (k4.trans k2.symm)
      · skip
        refine wp_iconst rfl ?_
        refine wp_istore3 rfl rfl ?_
        refine wp_iinc4N rfl rfl ?_
        refine wp_goto rfl ?_
        refine go2 (-1) h2 ⟨rfl, Or.inl ⟨?_, rfl⟩⟩
        have c1' : ms_ s e = x := Classical.not_not.mp c1
        rcases J1 with ⟨⟨g, k1, k2⟩, k3⟩ | ⟨k1, k2⟩
        · exact ⟨g, by omega, k2⟩
        · exact ⟨e, Nat.lt_succ_self e, c1'.trans k2⟩
    · intro x h2 J
      show wq _ tb_Evening_takeMoves _ 17 [some (.ref 59), some (.ref 31), some (.int (nI f)), some (.int x), some (.int (nI f))] [] h2 _
      obtain ⟨rfl, J1⟩ := J
      refine wp_iload4 rfl ?_
      refine wp_iload2 rfl ?_
      refine wp_icmp_geN f f (by omega) (by omega) rfl (fun _ => ?_) (fun z => absurd z (by omega))
      refine wp_aload0 rfl ?_
      refine wp_getR rfl (Even_kd S1) (Even_R1 S1) (by first | decide | omega) ?_
      refine wp_iload2 rfl ?_
      refine wp_iload3 rfl ?_
      refine wp_callS3V rfl (Nat.le_of_ble_eq_true rfl) (Cells_putN_ok (Even_k1 S1) (by decide) (Even_n1 S1) hf (by decide)) (Nat.le_of_ble_eq_true rfl) ?_
      intro h3 e3
      refine wp_iinc2N rfl rfl ?_
      refine wp_goto rfl ?_
      refine go (_, _) h3 ⟨by rw [e3]; exact fz_rI (P := fun v => v = 62) z1 rfl _, fun g hg => ?_⟩
      rw [e3, sd_rI_eq, vu_at]
      by_cases k : g = f
      · rw [if_pos k, k]
        unfold em_
        rcases J1 with ⟨k1, k2⟩ | ⟨k1, k2⟩
        · rw [if_pos k1]; exact k2
        · rw [if_neg k1]; exact k2
      · rw [if_neg k]; exact I1 g (by omega)
  · intro x h1 I
    show wq _ tb_Evening_takeMoves _ 2 [some (.ref 59), some (.ref 31), some (.int (nI 6)), x.1, x.2] [] h1 _
    obtain ⟨z1, I1⟩ := I
    refine wp_iload2 rfl ?_
    refine wp_bipush rfl ?_
    refine wp_icmp_geN 6 6 (by omega) (by omega) rfl (fun _ => ?_) (fun z => absurd z (by omega))
    exact wp_vret rfl ⟨rfl, z1, I1⟩
