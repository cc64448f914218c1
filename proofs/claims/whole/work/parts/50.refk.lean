-- ===== the reference: fewest, standings, canBe =====
/-- each wanted good is where it is wanted -/
def iw_ (s : Sg_) (w : Nat → Nat) (k : Nat) : Bool := decide (∀ g, g < k → sg_wa s g ≠ 8 → w (sg_wa s g) = g)
theorem Ref_isWanted_ok {h0 h : Hp_} {t : Rt_} {w : Nat → Nat} (B : RB_ h0 h t) (W : Lz_ (sg_n t.1) (sg_n t.1) w) : cI 1 mn_Ref_isWanted [.ref 65, .int (nI (pq_ w (sg_n t.1)))] h (fun x h' => x = bo_ (iw_ t.1 w (sg_n t.1)) ∧ h' = h) := by
  have n8 := B.n8
  have W8 := Lz_lt n8 W
  have hpq := pq_8n n8 (fun i _ => W8 i)
  refine cq_in (q := mi_Ref_isWanted) (L := [some (.ref 65), some (.int (nI (pq_ w (sg_n t.1)))), none, none]) rfl (Nat.le_of_ble_eq_true rfl) rfl ?_
  show wq _ tb_Ref_isWanted none 0 _ _ _ _
  refine wp_iconst rfl ?_
  refine wp_istore2 rfl rfl ?_
  refine wp_iconst rfl ?_
  refine wp_istore3 rfl rfl ?_
  refine wq_loc (L' := [some (.ref 65), some (.int (nI (pq_ w (sg_n t.1)))), some (.int (bo_ (iw_ t.1 w 0))), some (.int (nI 0))]) (by rw [show iw_ t.1 w 0 = true from decide_eq_true (fun g hg => absurd hg (Nat.not_lt_zero g))]; rfl) ?_
  refine wq_loop (X := Unit) (fun g x => [some (.ref 65), some (.int (nI (pq_ w (sg_n t.1)))), some (.int (bo_ (iw_ t.1 w g))), some (.int (nI g))]) (fun g x h1 => h1 = h) (sg_n t.1) (0) (()) ?_ ?_ ?_ ?_
  · omega
  · rfl
  · intro g x h1 hi I k
    show wq _ tb_Ref_isWanted _ 4 [some (.ref 65), some (.int (nI (pq_ w (sg_n t.1)))), some (.int (bo_ (iw_ t.1 w g))), some (.int (nI g))] [] h1 _
    obtain rfl := I
    have hgn := hi
    have nxt : ∀ b : Bool, (b = true ↔ iw_ t.1 w g = true ∧ (sg_wa t.1 g ≠ 8 → w (sg_wa t.1 g) = g)) → b = iw_ t.1 w (g + 1) := by
      intro b hb
      have e : iw_ t.1 w (g + 1) = true ↔ iw_ t.1 w g = true ∧ (sg_wa t.1 g ≠ 8 → w (sg_wa t.1 g) = g) := by
        unfold iw_
        rw [decide_eq_true_iff, decide_eq_true_iff]
        constructor
        · intro z
          exact ⟨fun g2 h2 => z g2 (by omega), z g (by omega)⟩
        · rintro ⟨z1, z2⟩ g2 h2
          rcases Nat.lt_or_ge g2 g with q | q
          · exact z1 g2 q
          · obtain rfl : g2 = g := by omega
            exact z2
      cases b with
      | true => exact (e.mpr (hb.mp rfl)).symm
      | false =>
        cases e2 : iw_ t.1 w (g + 1) with
        | false => rfl
        | true => exact absurd (hb.mpr (e.mp e2)) Bool.false_ne_true
    have wl := wa_le B.w g
    refine wp_iload3 rfl ?_
    refine wp_aload0 rfl ?_
    refine wp_getIE rfl (Ref_kd B.S) (show _ = nI (sg_n t.1) from B.n) ?_
    refine wp_icmp_geN g (sg_n t.1) (by omega) (by omega) rfl (fun z => absurd z (by omega)) (fun _ => ?_)
    refine wp_iload2 rfl ?_
    refine wp_if_eqB rfl (fun c1 => ?_) (fun c1 => ?_)
    · skip
      refine wp_iconst rfl ?_
      refine wp_istore2 rfl rfl ?_
      refine wp_iinc3N rfl rfl ?_
      refine wp_goto rfl ?_
      have := k () _ rfl
      rw [← nxt false ⟨fun z => absurd z Bool.false_ne_true, fun z => by rw [c1] at z; exact absurd z.1 Bool.false_ne_true⟩] at this
      exact this
    · skip
      refine wp_aload0 rfl ?_
      refine wp_getR rfl (Ref_kd B.S) (Ref_R3 B.S) (by first | decide | omega) ?_
      refine wp_iload3 rfl ?_
      by_cases q : sg_wa t.1 g = 8
      · skip
        refine wp_ialdE g rfl (Ref_k3 B.S) (by first | decide | omega) (Nat.lt_of_lt_of_eq (show g < _ by omega) (Eq.symm (Ref_n3 B.S))) (by omega) (by rw [B.wa (by omega), wr_, if_pos q]) rfl ?_
        refine wp_if_lt rfl (fun _ => ?_) (fun z => absurd z (by decide))
        refine wp_iconst rfl ?_
        refine wp_goto rfl ?_
        refine wp_istore2 rfl rfl ?_
        refine wp_iinc3N rfl rfl ?_
        refine wp_goto rfl ?_
        have := k () _ rfl
        rw [← nxt true ⟨fun _ => ⟨c1, fun z => absurd q z⟩, fun _ => rfl⟩] at this
        exact this
      · skip
        have hwn : sg_wa t.1 g < sg_n t.1 := by rcases B.w.2.2.2.2.2.2.2.1.1 g with z | z; exact z; exact absurd z q
        refine wp_ialdE g rfl (Ref_k3 B.S) (by first | decide | omega) (Nat.lt_of_lt_of_eq (show g < _ by omega) (Eq.symm (Ref_n3 B.S))) (by omega) (show _ = nI (sg_wa t.1 g) from by rw [B.wa (by omega), wr_, if_neg q]) rfl ?_
        refine wp_if_ltN (sg_wa t.1 g) 0 (by omega) (by decide) rfl ?_
        refine wp_iload1 rfl ?_
        refine wp_iconst rfl ?_
        refine wp_aload0 rfl ?_
        refine wp_getR rfl (Ref_kd B.S) (Ref_R3 B.S) (by first | decide | omega) ?_
        refine wp_iload3 rfl ?_
        refine wp_ialdE g rfl (Ref_k3 B.S) (by first | decide | omega) (Nat.lt_of_lt_of_eq (show g < _ by omega) (Eq.symm (Ref_n3 B.S))) (by omega) (show _ = nI (sg_wa t.1 g) from by rw [B.wa (by omega), wr_, if_neg q]) rfl ?_
        have hdig : pq_ w (sg_n t.1) / 2 ^ (3 * sg_wa t.1 g) % 8 = w (sg_wa t.1 g) := by rw [← p8]; exact pq_get _ _ (fun i _ => W8 i) hwn
        have hw8 := W8 (sg_wa t.1 g)
        refine wp_imulE (nI (3 * (sg_wa t.1 g))) (pk_mul _ _) rfl ?_
        refine wp_ishrE (nI ((pq_ w (sg_n t.1)) / 2 ^ (3 * (sg_wa t.1 g)))) (nn_sshr _ _ (by omega) (by omega)) rfl ?_
        refine wp_bipush rfl ?_
        refine wp_iandE (nI (((pq_ w (sg_n t.1)) / 2 ^ (3 * (sg_wa t.1 g))) % 8)) (nn_7 _) rfl ?_
        rw [hdig]
        refine wp_iload3 rfl ?_
        refine wp_icmp_neN (w (sg_wa t.1 g)) g (by omega) (by omega) rfl (fun c3 => ?_) (fun c3 => ?_)
        · skip
          refine wp_iconst rfl ?_
          refine wp_istore2 rfl rfl ?_
          refine wp_iinc3N rfl rfl ?_
          refine wp_goto rfl ?_
          have := k () _ rfl
          rw [← nxt false ⟨fun z => absurd z Bool.false_ne_true, fun z => absurd (z.2 q) c3⟩] at this
          exact this
        · skip
          refine wp_iconst rfl ?_
          refine wp_goto rfl ?_
          refine wp_istore2 rfl rfl ?_
          refine wp_iinc3N rfl rfl ?_
          refine wp_goto rfl ?_
          have := k () _ rfl
          rw [← nxt true ⟨fun _ => ⟨c1, fun _ => c3⟩, fun _ => rfl⟩] at this
          exact this
  · intro x h1 I
    show wq _ tb_Ref_isWanted _ 4 [some (.ref 65), some (.int (nI (pq_ w (sg_n t.1)))), some (.int (bo_ (iw_ t.1 w (sg_n t.1)))), some (.int (nI (sg_n t.1)))] [] h1 _
    obtain rfl := I
    refine wp_iload3 rfl ?_
    refine wp_aload0 rfl ?_
    refine wp_getIE rfl (Ref_kd B.S) (show _ = nI (sg_n t.1) from B.n) ?_
    refine wp_icmp_geN (sg_n t.1) (sg_n t.1) (by omega) (by omega) rfl (fun _ => ?_) (fun z => absurd z (by omega))
    refine wp_iload2 rfl ?_
    exact wp_zret rfl (by first | exact bo_01 _ | exact Or.inl rfl | exact Or.inr rfl) ⟨_, rfl, rfl, rfl⟩
theorem iw_WT {s : Sg_} {w : Nat → Nat} {u : List Nat} (ws : sg_wf s) (e : w = ar_ (sg_n s) (fun g => ac_ (mv_ s) u (sg_pos s g))) : iw_ s w (sg_n s) = true ↔ WT_ s u := by
  have n8 := ws.1.2
  have P8 := (ws.2.1.then (ac_P (mv_P ws) u)).mono n8
  unfold iw_ WT_
  rw [decide_eq_true_iff, e]
  refine forall_congr' fun g => forall_congr' fun hg => forall_congr' fun hq => ?_
  have hwn : sg_wa s g < sg_n s := by rcases ws.2.2.2.2.2.2.2.1.1 g with z | z; exact z; exact absurd z hq
  unfold ar_
  rw [if_pos hwn]
  constructor
  · intro z
    have := in_right P8 (sg_wa s g)
    rw [z] at this
    exact this
  · intro z
    have := in_left P8 g
    (try dsimp only at this)
    rw [z] at this
    exact this
def an_fewest_ (t : Rt_) (i : Int32) (x : Int32) : Prop := ∃ o, FW_ t.1 o ∧ x = fv_ o i
/-- the first of the list that is wanted, or none -/
def fd_ (s : Sg_) (q : Bq_ (Nat → Nat)) (x : Int32) : Prop := (x = -6 ∧ ∀ e ∈ q, iw_ s e.1 (sg_n s) = false) ∨ ∃ (j : Nat) (e : (Nat → Nat) × Nat × List Nat), q[j]? = some e ∧ iw_ s e.1 (sg_n s) = true ∧ x = nI (rw_ s e.1) ∧ ∀ (j2 : Nat) (e2 : (Nat → Nat) × Nat × List Nat), j2 < j → q[j2]? = some e2 → iw_ s e2.1 (sg_n s) = false
theorem fd_FW {s : Sg_} {k : Nat} (ws : sg_wf s) (hk : 6 * (qs_ s k).length ≤ k) : ((∀ e ∈ qs_ s k, iw_ s e.1 (sg_n s) = false) → FW_ s none) ∧ ∀ (j : Nat) (e : (Nat → Nat) × Nat × List Nat), (qs_ s k)[j]? = some e → iw_ s e.1 (sg_n s) = true → (∀ (j2 : Nat) (e2 : (Nat → Nat) × Nat × List Nat), j2 < j → (qs_ s k)[j2]? = some e2 → iw_ s e2.1 (sg_n s) = false) → FW_ s (some e.2.2) := by
  have all : ∀ v, wok_ (may_ s) v → ∃ e ∈ qs_ s k, e.1 = ar_ (sg_n s) (fun g => ac_ (mv_ s) v (sg_pos s g)) ∧ va_w e.2.2 ≤ va_w v := by
    intro v hv
    obtain ⟨e, h1, h2, h3⟩ := bf_all (st := fun w f => tr_ (sg_n s) (mv_ s f) w) (ok := may_ s) (s0 := ar_ (sg_n s) (sg_pos s)) (t := k) hk v hv
    exact ⟨e, h1, h2.trans (ar_rn ws.1.2 (mv_P ws) ws.2.1 v), h3⟩
  constructor
  · intro h u hu hW
    obtain ⟨e, h1, h2, _⟩ := all u hu
    have := (iw_WT ws h2).mpr hW
    rw [h e h1] at this
    cases this
  · intro j e he hw hf
    have hm := List.mem_of_getElem? he
    obtain ⟨e1, e2⟩ := qs_word ws hm
    refine ⟨e2, (iw_WT ws e1).mp hw, fun v hv hW => ?_⟩
    obtain ⟨e3, h1, h2, h3⟩ := all v hv
    obtain ⟨j3, hj3⟩ := List.getElem?_of_mem h1
    have hw3 := (iw_WT ws h2).mpr hW
    rcases Nat.lt_trichotomy j j3 with z | z | z
    · have := (qs_inv s k).inc j j3 e e3 he hj3 z
      omega
    · rw [z, hj3] at he
      cases he
      exact h3
    · have := hf j3 e3 z hj3
      rw [hw3] at this
      cases this
theorem pre_get {u v : List Nat} {x : Nat} {i : Nat} (h : v <+: u) (hx : v[i]? = some x) : u[i]? = some x := by
  obtain ⟨r, rfl⟩ := h
  rw [List.getElem?_append_left (List.getElem?_eq_some_iff.mp hx).1]
  exact hx
set_option maxRecDepth 4000 in
theorem Ref_fewest_ok {h0 h : Hp_} {t : Rt_} {i : Int32} (B : RB_ h0 h t) : cI 6 mn_Ref_fewest [.ref 65, .int i] h (fun y h' => an_fewest_ t i y ∧ RB_ h0 h' t) := by
  have n8 := B.n8
  have ws := B.w
  have hce := ce_le n8 (sg_n t.1)
  refine cq_in (q := mi_Ref_fewest) (L := [some (.ref 65), some (.int i), none, none]) rfl (Nat.le_of_ble_eq_true rfl) rfl ?_
  show wq _ tb_Ref_fewest none 0 _ _ _ _
  refine wp_aload0 rfl ?_
  refine wp_callV0V rfl (Nat.le_of_ble_eq_true rfl) (Ref_kd B.S) (Ref_goAll_ok B) (Nat.le_of_ble_eq_true rfl) ?_
  rintro h1 ⟨B1, F1, n, hn, A1⟩
  have hlen := qs_len ws n
  have FD := fd_FW ws hn
  have tail : ∀ (x : Int32) (z : Option Value), fd_ t.1 (qs_ t.1 n) x → wq 5 tb_Ref_fewest none 56 [some (.ref 65), some (.int i), some (.int x), z] [] h1 (fun r h' => ∃ y, r = some (.int y) ∧ an_fewest_ t i y ∧ RB_ h0 h' t) := by
    intro x z hx
    rcases hx with ⟨rfl, hno⟩ | ⟨j, e, he, hw, rfl, hf⟩
    · skip
      refine wp_iload2 rfl ?_
      refine wp_if_ge rfl (fun z => absurd z (by decide)) (fun _ => ?_)
      refine wp_bipush rfl ?_
      exact wp_iret rfl ⟨_, rfl, ⟨none, FD.1 hno, rfl⟩, B1⟩
    · skip
      have hm := List.mem_of_getElem? he
      have eL := qs_Lz ws hm
      have er := rw_lt ws eL
      have hFW := FD.2 j e he hw hf
      have hjl := (List.getElem?_eq_some_iff.mp he).1
      have hwl := qs_wl j e he
      refine wp_iload2 rfl ?_
      refine wp_if_geN (rw_ t.1 e.1) 0 (by omega) (by decide) rfl ?_
      refine wp_iload1 rfl ?_
      refine wp_iconst rfl ?_
      refine wp_icmp_ne rfl (fun c1 => ?_) (fun c1 => ?_)
      · skip
        refine wp_iload1 rfl ?_
        refine wp_i2l rfl ?_
        refine wp_lconst rfl ?_
        refine wp_aload0 rfl ?_
        refine wp_getR rfl (Ref_kd B1.S) (Ref_R29 B1.S) (by first | decide | omega) ?_
        refine wp_iload2 rfl ?_
        refine wp_ialdE (rw_ t.1 e.1) rfl (Ref_k29 B1.S) (by first | decide | omega) (Nat.lt_of_lt_of_eq (show (rw_ t.1 e.1) < _ by omega) (Eq.symm (Ref_n29 B1.S))) (by omega) (show _ = nI (e.2.2.length) from (A1.2.1 j e he).2.1) rfl ?_
        refine wp_iconst rfl ?_
        refine wp_isub rfl ?_
        refine wp_i2l rfl ?_
        refine wp_callS3I rfl (Nat.le_of_ble_eq_true rfl) (Ref_in_ok) (Nat.le_of_ble_eq_true rfl) ?_
        refine pure_ ?_
        have erg : decide ((lN 0).toInt ≤ i.toInt64.toInt ∧ i.toInt64.toInt ≤ (nI e.2.2.length - nI 1).toInt64.toInt) = decide (0 ≤ i.toInt ∧ i.toInt < e.2.2.length) := by
          rw [Int32.toInt_toInt64, Int32.toInt_toInt64, pk_sub_toInt (by omega) (by omega), lN_toInt (by omega)]
          exact decide_eq_decide.mpr (by omega)
        rw [erg]
        refine wp_if_neB rfl (fun c2 => ?_) (fun c2 => ?_)
        · skip
          have c3 := of_decide_eq_true c2
          obtain ⟨m, hmb, rfl⟩ := nI_of (x := i) (by rw [Int32.lt_iff_toInt_lt]; show ¬ i.toInt < 0; omega)
          rw [nI_toInt hmb] at c3
          refine wp_iload2 rfl ?_
          refine wp_istore3 rfl rfl ?_
          refine wq_loop (X := Nat × ((Nat → Nat) × Nat × List Nat)) (fun c x => [some (.ref 65), some (.int (nI m)), some (.int (nI (rw_ t.1 e.1))), some (.int (nI (rw_ t.1 x.2.1)))]) (fun c x h2 => h2 = h1 ∧ (qs_ t.1 n)[x.1]? = some x.2 ∧ x.2.2.2 <+: e.2.2 ∧ x.2.2.2.length + c = e.2.2.length) (e.2.2.length - (m + 1)) (0) ((j, e)) ?_ ?_ ?_ ?_
          · omega
          · exact ⟨rfl, he, List.prefix_rfl, rfl⟩
          · intro c x h2 hi I k
            show wq _ tb_Ref_fewest _ 98 [some (.ref 65), some (.int (nI m)), some (.int (nI (rw_ t.1 e.1))), some (.int (nI (rw_ t.1 x.2.1)))] [] h2 _
            obtain ⟨rfl, q1, q2, q3⟩ := I
            obtain ⟨j2, e2⟩ := x
            dsimp only at q1 q2 q3
            show wq _ tb_Ref_fewest _ 98 [some (.ref 65), some (.int (nI m)), some (.int (nI (rw_ t.1 e.1))), some (.int (nI (rw_ t.1 e2.1)))] [] h2 _
            have e2r := rw_lt ws (qs_Lz ws (List.mem_of_getElem? q1))
            have hj0 : 0 < j2 := by
              rcases Nat.eq_zero_or_pos j2 with z | z
              · rw [z, (qs_inv t.1 n).zero] at q1
                cases q1
                have : 0 + c = e.2.2.length := q3
                omega
              · exact z
            obtain ⟨o1, o2, e3, o3, o4⟩ := (qs_inv t.1 n).orig j2 e2 q1 hj0
            obtain ⟨g1, g2, g3⟩ := A1.2.1 j2 e2 q1
            obtain ⟨g4, e4, g5, g6⟩ := g3 hj0
            rw [o3] at g5
            cases g5
            refine wp_aload0 rfl ?_
            refine wp_getR rfl (Ref_kd B1.S) (Ref_R29 B1.S) (by first | decide | omega) ?_
            refine wp_iload3 rfl ?_
            refine wp_ialdE (rw_ t.1 e2.1) rfl (Ref_k29 B1.S) (by first | decide | omega) (Nat.lt_of_lt_of_eq (show (rw_ t.1 e2.1) < _ by omega) (Eq.symm (Ref_n29 B1.S))) (by omega) (show _ = nI (e2.2.2.length) from g2) rfl ?_
            refine wp_iload1 rfl ?_
            refine wp_iconst rfl ?_
            refine wp_iaddE (nI (m + 1)) (nI_add _ _) rfl ?_
            refine wp_icmp_leN (e2.2.2.length) (m + 1) (by omega) (by omega) rfl (fun z => absurd z (by omega)) (fun _ => ?_)
            refine wp_aload0 rfl ?_
            refine wp_getR rfl (Ref_kd B1.S) (Ref_R28 B1.S) (by first | decide | omega) ?_
            refine wp_iload3 rfl ?_
            refine wp_ialdE (rw_ t.1 e2.1) rfl (Ref_k28 B1.S) (by first | decide | omega) (Nat.lt_of_lt_of_eq (show (rw_ t.1 e2.1) < _ by omega) (Eq.symm (Ref_n28 B1.S))) (by omega) (show _ = nI (rw_ t.1 e3.1) from g6) rfl ?_
            refine wp_istore3 rfl rfl ?_
            refine wp_goto rfl ?_
            refine k (_, e3) _ ⟨rfl, o3, ?_, ?_⟩
            · rw [o4] at q2
              exact List.IsPrefix.trans (List.prefix_append _ _) q2
            · rw [o4, List.length_append] at q3
              have : e3.2.2.length + 1 + c = e.2.2.length := q3
              show e3.2.2.length + (c + 1) = _
              omega
          · intro x h2 I
            show wq _ tb_Ref_fewest _ 98 [some (.ref 65), some (.int (nI m)), some (.int (nI (rw_ t.1 e.1))), some (.int (nI (rw_ t.1 x.2.1)))] [] h2 _
            obtain ⟨rfl, q1, q2, q3⟩ := I
            obtain ⟨j2, e2⟩ := x
            dsimp only at q1 q2 q3
            show wq _ tb_Ref_fewest _ 98 [some (.ref 65), some (.int (nI m)), some (.int (nI (rw_ t.1 e.1))), some (.int (nI (rw_ t.1 e2.1)))] [] h2 _
            have e2r := rw_lt ws (qs_Lz ws (List.mem_of_getElem? q1))
            have hj0 : 0 < j2 := by
              rcases Nat.eq_zero_or_pos j2 with z | z
              · rw [z, (qs_inv t.1 n).zero] at q1
                cases q1
                have : 0 + (e.2.2.length - (m + 1)) = e.2.2.length := q3
                omega
              · exact z
            obtain ⟨o1, o2, e3, o3, o4⟩ := (qs_inv t.1 n).orig j2 e2 q1 hj0
            obtain ⟨g1, g2, g3⟩ := A1.2.1 j2 e2 q1
            obtain ⟨g4, -⟩ := g3 hj0
            have hl3 : e3.2.2.length = m := by
              rw [o4, List.length_append] at q3
              have : e3.2.2.length + 1 + (e.2.2.length - (m + 1)) = e.2.2.length := q3
              omega
            have hx : e2.2.2[m]? = some (e2.2.1 % 6) := by
              rw [o4, ← hl3]
              exact List.getElem?_concat_length
            have hu := pre_get q2 hx
            refine wp_aload0 rfl ?_
            refine wp_getR rfl (Ref_kd B1.S) (Ref_R29 B1.S) (by first | decide | omega) ?_
            refine wp_iload3 rfl ?_
            refine wp_ialdE (rw_ t.1 e2.1) rfl (Ref_k29 B1.S) (by first | decide | omega) (Nat.lt_of_lt_of_eq (show (rw_ t.1 e2.1) < _ by omega) (Eq.symm (Ref_n29 B1.S))) (by omega) (show _ = nI (e2.2.2.length) from g2) rfl ?_
            refine wp_iload1 rfl ?_
            refine wp_iconst rfl ?_
            refine wp_iaddE (nI (m + 1)) (nI_add _ _) rfl ?_
            refine wp_icmp_leN (e2.2.2.length) (m + 1) (by omega) (by omega) rfl (fun _ => ?_) (fun z => absurd z (by omega))
            refine wp_bipush rfl ?_
            refine wp_aload0 rfl ?_
            refine wp_getR rfl (Ref_kd B1.S) (Ref_R27 B1.S) (by first | decide | omega) ?_
            refine wp_iload3 rfl ?_
            refine wp_ialdE (rw_ t.1 e2.1) rfl (Ref_k27 B1.S) (by first | decide | omega) (Nat.lt_of_lt_of_eq (show (rw_ t.1 e2.1) < _ by omega) (Eq.symm (Ref_n27 B1.S))) (by omega) (show _ = nI (e2.2.1 % 6) from g4) rfl ?_
            refine wp_iaddE (nI (65 + (e2.2.1 % 6))) (nI_add _ _) rfl ?_
            exact wp_iret rfl ⟨_, rfl, ⟨some e.2.2, hFW, by unfold fv_; dsimp only; rw [if_neg c1, if_pos (by rw [nI_toInt hmb]; omega), nI_clamp hmb, List.getD_eq_getElem?_getD, hu]; rfl⟩, B1⟩
        · skip
          refine wp_bipush rfl ?_
          exact wp_iret rfl ⟨_, rfl, ⟨some e.2.2, hFW, by unfold fv_; dsimp only; rw [if_neg c1, if_neg (of_decide_eq_false c2)]⟩, B1⟩
      · skip
        refine wp_aload0 rfl ?_
        refine wp_getR rfl (Ref_kd B1.S) (Ref_R29 B1.S) (by first | decide | omega) ?_
        refine wp_iload2 rfl ?_
        refine wp_ialdE (rw_ t.1 e.1) rfl (Ref_k29 B1.S) (by first | decide | omega) (Nat.lt_of_lt_of_eq (show (rw_ t.1 e.1) < _ by omega) (Eq.symm (Ref_n29 B1.S))) (by omega) (show _ = nI (e.2.2.length) from (A1.2.1 j e he).2.1) rfl ?_
        exact wp_iret rfl ⟨_, rfl, ⟨some e.2.2, hFW, by unfold fv_; dsimp only; rw [if_pos (Classical.not_not.mp c1)]⟩, B1⟩
  refine wp_bipush rfl ?_
  refine wp_istore2 rfl rfl ?_
  refine wp_iconst rfl ?_
  refine wp_istore3 rfl rfl ?_
  refine wq_loop (X := Int32) (fun c x => [some (.ref 65), some (.int i), some (.int x), some (.int (nI c))]) (fun c x h2 => h2 = h1 ∧ ((x = -6 ∧ ∀ (j : Nat) (e : (Nat → Nat) × Nat × List Nat), j < c → (qs_ t.1 n)[j]? = some e → iw_ t.1 e.1 (sg_n t.1) = false) ∨ fd_ t.1 (qs_ t.1 n) x ∧ ¬ x < 0)) ((qs_ t.1 n).length) (0) (-6) ?_ ?_ ?_ ?_
  · omega
  · exact ⟨rfl, Or.inl ⟨rfl, fun j e hj => absurd hj (Nat.not_lt_zero j)⟩⟩
  · intro c x h2 hi I k
    show wq _ tb_Ref_fewest _ 9 [some (.ref 65), some (.int i), some (.int x), some (.int (nI c))] [] h2 _
    obtain ⟨rfl, I1⟩ := I
    have hcl := hi
    rcases I1 with ⟨rfl, I2⟩ | ⟨I2, I3⟩
    · skip
      obtain ⟨e, he⟩ : ∃ e, (qs_ t.1 n)[c]? = some e := ⟨_, List.getElem?_eq_getElem hcl⟩
      have hm := List.mem_of_getElem? he
      have eL := qs_Lz ws hm
      have er := rw_lt ws eL
      obtain ⟨g1, g2, g3⟩ := A1.2.1 c e he
      refine wp_iload3 rfl ?_
      refine wp_aload0 rfl ?_
      refine wp_getIE rfl (Ref_kd B1.S) (show _ = nI ((qs_ t.1 n).length) from A1.1) ?_
      refine wp_icmp_geN c ((qs_ t.1 n).length) (by omega) (by omega) rfl (fun z => absurd z (by omega)) (fun _ => ?_)
      refine wp_iload2 rfl ?_
      refine wp_if_ge rfl (fun z => absurd z (by decide)) (fun _ => ?_)
      refine wp_aload0 rfl ?_
      refine wp_aload0 rfl ?_
      refine wp_getR rfl (Ref_kd B1.S) (Ref_R22 B1.S) (by first | decide | omega) ?_
      refine wp_aload0 rfl ?_
      refine wp_getR rfl (Ref_kd B1.S) (Ref_R26 B1.S) (by first | decide | omega) ?_
      refine wp_iload3 rfl ?_
      refine wp_ialdE c rfl (Ref_k26 B1.S) (by first | decide | omega) (Nat.lt_of_lt_of_eq (show c < _ by omega) (Eq.symm (Ref_n26 B1.S))) (by omega) (show _ = nI (rw_ t.1 e.1) from g1) rfl ?_
      refine wp_ialdE (rw_ t.1 e.1) rfl (Ref_k22 B1.S) (by first | decide | omega) (Nat.lt_of_lt_of_eq (show (rw_ t.1 e.1) < _ by omega) (Eq.symm (Ref_n22 B1.S))) (by omega) (show _ = nI (pq_ e.1 (sg_n t.1)) from (F1.2 e.1 eL).1) rfl ?_
      refine wp_callV1I rfl (Nat.le_of_ble_eq_true rfl) (Ref_kd B1.S) (Ref_isWanted_ok B1 eL) (Nat.le_of_ble_eq_true rfl) ?_
      refine pure_ ?_
      refine wp_if_eqB rfl (fun c1 => ?_) (fun c1 => ?_)
      · skip
        refine wp_iload2 rfl ?_
        refine wp_istore2 rfl rfl ?_
        refine wp_iinc3N rfl rfl ?_
        refine wp_goto rfl ?_
        exact k _ _ ⟨rfl, Or.inl ⟨rfl, fun j2 e2 hj2 he2 => by
          rcases Nat.lt_or_ge j2 c with z | z
          · exact I2 j2 e2 z he2
          · obtain rfl : j2 = c := by omega
            rw [he] at he2
            cases he2
            exact c1⟩⟩
      · skip
        refine wp_aload0 rfl ?_
        refine wp_getR rfl (Ref_kd B1.S) (Ref_R26 B1.S) (by first | decide | omega) ?_
        refine wp_iload3 rfl ?_
        refine wp_ialdE c rfl (Ref_k26 B1.S) (by first | decide | omega) (Nat.lt_of_lt_of_eq (show c < _ by omega) (Eq.symm (Ref_n26 B1.S))) (by omega) (show _ = nI (rw_ t.1 e.1) from g1) rfl ?_
        refine wp_goto rfl ?_
        refine wp_istore2 rfl rfl ?_
        refine wp_iinc3N rfl rfl ?_
        refine wp_goto rfl ?_
        exact k _ _ ⟨rfl, Or.inr ⟨Or.inr ⟨c, e, he, c1, rfl, I2⟩, nI_pos (by omega)⟩⟩
    · skip
      refine wp_iload3 rfl ?_
      refine wp_aload0 rfl ?_
      refine wp_getIE rfl (Ref_kd B1.S) (show _ = nI ((qs_ t.1 n).length) from A1.1) ?_
      refine wp_icmp_geN c ((qs_ t.1 n).length) (by omega) (by omega) rfl (fun z => absurd z (by omega)) (fun _ => ?_)
      refine wp_iload2 rfl ?_
      refine wp_if_ge rfl (fun _ => ?_) (fun z => absurd z (fun z => z (Int32.not_lt.mp I3)))
      exact tail x _ I2
  · intro x h2 I
    show wq _ tb_Ref_fewest _ 9 [some (.ref 65), some (.int i), some (.int x), some (.int (nI ((qs_ t.1 n).length)))] [] h2 _
    obtain ⟨rfl, I1⟩ := I
    refine wp_iload3 rfl ?_
    refine wp_aload0 rfl ?_
    refine wp_getIE rfl (Ref_kd B1.S) (show _ = nI ((qs_ t.1 n).length) from A1.1) ?_
    refine wp_icmp_geN ((qs_ t.1 n).length) ((qs_ t.1 n).length) (by omega) (by omega) rfl (fun _ => ?_) (fun z => absurd z (by omega))
    refine tail x _ ?_
    rcases I1 with ⟨rfl, I2⟩ | ⟨I2, -⟩
    · refine Or.inl ⟨rfl, fun e he => ?_⟩
      obtain ⟨j, hj⟩ := List.getElem?_of_mem he
      exact I2 j e (List.getElem?_eq_some_iff.mp hj).1 hj
    · exact I2
theorem qs_ST {s : Sg_} {k : Nat} (ws : sg_wf s) (hk : 6 * (qs_ s k).length ≤ k) : ST_ s (qs_ s k).length := by
  have n8 := ws.1.2
  have inj : ∀ e ∈ qs_ s k, ∀ v, ar_ (sg_n s) (fun g => ac_ (mv_ s) e.2.2 (sg_pos s g)) = ar_ (sg_n s) (fun g => ac_ (mv_ s) v (sg_pos s g)) → ac_ (mv_ s) e.2.2 = ac_ (mv_ s) v := by
    intro e he v h
    have h1 := ar_inj n8 (ws.2.1.then (ac_P (mv_P ws) _)) (ws.2.1.then (ac_P (mv_P ws) _)) h
    funext p
    have := congrFun h1 (in_ (sg_pos s) p)
    (try dsimp only at this)
    rw [in_right (ws.2.1.mono n8)] at this
    exact this
  refine ⟨(qs_ s k).map (fun e => ac_ (mv_ s) e.2.2), ?_, fun m => ?_, by rw [List.length_map]⟩
  · have hn := (qs_inv s k).nod
    unfold List.Nodup at hn ⊢
    rw [List.pairwise_map] at hn ⊢
    refine List.Pairwise.imp_of_mem ?_ hn
    intro a b ha hb hne e
    refine hne ?_
    rw [(qs_word ws ha).1, (qs_word ws hb).1]
    exact congrArg (ar_ (sg_n s)) (funext fun g => congrFun e (sg_pos s g))
  · constructor
    · intro hm
      obtain ⟨e, he, rfl⟩ := List.mem_map.mp hm
      exact ⟨e.2.2, (qs_word ws he).2, rfl⟩
    · rintro ⟨v, hv, rfl⟩
      obtain ⟨e, h1, h2, h3⟩ := bf_all (st := fun w f => tr_ (sg_n s) (mv_ s f) w) (ok := may_ s) (s0 := ar_ (sg_n s) (sg_pos s)) (t := k) hk v hv
      have h4 := h2.trans (ar_rn ws.1.2 (mv_P ws) ws.2.1 v)
      rw [(qs_word ws h1).1] at h4
      exact List.mem_map.mpr ⟨e, h1, inj e h1 v h4⟩
def an_standings_ (t : Rt_) (x : Int32) : Prop := ∃ N, ST_ t.1 N ∧ x = nI N
theorem Ref_standings_ok {h0 h : Hp_} {t : Rt_} (B : RB_ h0 h t) : cI 6 mn_Ref_standings [.ref 65] h (fun y h' => an_standings_ t y ∧ RB_ h0 h' t) := by
  refine cq_in (q := mi_Ref_standings) (L := [some (.ref 65)]) rfl (Nat.le_of_ble_eq_true rfl) rfl ?_
  show wq _ tb_Ref_standings none 0 _ _ _ _
  refine wp_aload0 rfl ?_
  refine wp_callV0V rfl (Nat.le_of_ble_eq_true rfl) (Ref_kd B.S) (Ref_goAll_ok B) (Nat.le_of_ble_eq_true rfl) ?_
  rintro h1 ⟨B1, F1, n, hn, A1⟩
  refine wp_aload0 rfl ?_
  refine wp_getIE rfl (Ref_kd B1.S) (show _ = nI ((qs_ t.1 n).length) from A1.1) ?_
  exact wp_iret rfl ⟨_, rfl, ⟨_, qs_ST B.w hn, rfl⟩, B1⟩
def an_canBe_ (t : Rt_) (x : Int32) : Prop := if fo_ t.2.1 t.2.2.1 97 (sg_n t.1) = -6 then ∃ b, CB_ t.1 (pm_ t.2.1 97 (sg_n t.1)) b ∧ x = bo_ b else x = -5
theorem Ref_canBe_ok {h0 h : Hp_} {t : Rt_} (B : RB_ h0 h t) : cI 6 mn_Ref_canBe [.ref 65] h (fun y h' => an_canBe_ t y ∧ RB_ h0 h' t) := by
  have n8 := B.n8
  have c30 := B.c30
  have ws := B.w
  refine cq_in (q := mi_Ref_canBe) (L := [some (.ref 65), none, none]) rfl (Nat.le_of_ble_eq_true rfl) rfl ?_
  show wq _ tb_Ref_canBe none 0 _ _ _ _
  refine wp_aload0 rfl ?_
  refine wp_bipush rfl ?_
  refine wp_callV1I rfl (Nat.le_of_ble_eq_true rfl) (Ref_kd B.S) (Ref_faultOfOrder_ok B (by decide)) (Nat.le_of_ble_eq_true rfl) ?_
  refine pure_ ?_
  refine wp_if_lt rfl (fun c1 => ?_) (fun c1 => ?_)
  · skip
    have c2 := (fo_lt t.2.1 (base := 97) (n := sg_n t.1) c30).mp c1
    obtain ⟨d1, d2, d3⟩ := fo_none c30 c2
    have pP := pm_P c30 c2
    have pP8 := pP.mono n8
    have WL := ar_Lz n8 (in_Pn n8 pP)
    have e0 : ∀ y, an_canBe_ t y = ∃ b, CB_ t.1 (pm_ t.2.1 97 (sg_n t.1)) b ∧ y = bo_ b := fun y => by unfold an_canBe_; rw [if_pos c2]
    refine wp_aload0 rfl ?_
    refine wp_callV0V rfl (Nat.le_of_ble_eq_true rfl) (Ref_kd B.S) (Ref_goAll_ok B) (Nat.le_of_ble_eq_true rfl) ?_
    rintro h1 ⟨B1, F1, n, hn, A1⟩
    have hlen := qs_len ws n
    refine wp_iconst rfl ?_
    refine wp_istore1 rfl rfl ?_
    refine wp_iconst rfl ?_
    refine wp_istore2 rfl rfl ?_
    refine wq_loop (X := Unit) (fun p x => [some (.ref 65), some (.int (nI (pq_ (pm_ t.2.1 97 (sg_n t.1)) p))), some (.int (nI p))]) (fun p x h2 => h2 = h1) (sg_n t.1) (0) (()) ?_ ?_ ?_ ?_
    · omega
    · rfl
    · intro p x h2 hi I k
      show wq _ tb_Ref_canBe _ 20 [some (.ref 65), some (.int (nI (pq_ (pm_ t.2.1 97 (sg_n t.1)) p))), some (.int (nI p))] [] h2 _
      obtain rfl := I
      have hpn := hi
      have hd := d2 p (by omega)
      have hpp := pP.1 p hpn
      refine wp_iload2 rfl ?_
      refine wp_aload0 rfl ?_
      refine wp_getIE rfl (Ref_kd B1.S) (show _ = nI (sg_n t.1) from B1.n) ?_
      refine wp_icmp_geN p (sg_n t.1) (by omega) (by omega) rfl (fun z => absurd z (by omega)) (fun _ => ?_)
      refine wp_iload1 rfl ?_
      refine wp_aload0 rfl ?_
      refine wp_getR rfl (Ref_kd B1.S) (Ref_R17 B1.S) (by first | decide | omega) ?_
      refine wp_iload2 rfl ?_
      refine wp_ialdE p rfl (Ref_k17 B1.S) (by first | decide | omega) (Nat.lt_of_lt_of_eq (show p < _ by omega) (Eq.symm (Ref_n17 B1.S))) (by omega) (show _ = nI (t.2.1 p) from B1.pad (by omega)) rfl ?_
      refine wp_bipush rfl ?_
      refine wp_isubE (nI ((t.2.1 p) - 97)) (pk_sub (by omega)) rfl ?_
      refine wp_iconst rfl ?_
      refine wp_iload2 rfl ?_
      refine wp_imulE (nI (3 * p)) (pk_mul _ _) rfl ?_
      refine wp_ishlE (nI (((t.2.1 p) - 97) * 2 ^ (3 * p))) (nn_shl _ _ (by omega)) rfl ?_
      refine wp_iorE (nI ((pq_ (pm_ t.2.1 97 (sg_n t.1)) p) ||| (((t.2.1 p) - 97) * 2 ^ (3 * p)))) (nn_or _ _) rfl ?_
      refine wp_istore1 rfl rfl ?_
      refine wp_iinc2N rfl rfl ?_
      refine wp_goto rfl ?_
      have epq : pq_ (pm_ t.2.1 97 (sg_n t.1)) p ||| (t.2.1 p - 97) * 2 ^ (3 * p) = pq_ (pm_ t.2.1 97 (sg_n t.1)) (p + 1) := by
        rw [← p8, pq_or (fun i hi => pP8.1 i (by omega))]
        show _ = pq_ (pm_ t.2.1 97 (sg_n t.1)) p + pm_ t.2.1 97 (sg_n t.1) p * 8 ^ p
        unfold pm_
        rw [if_pos hpn]
      rw [epq]
      exact k () _ rfl
    · intro x h2 I
      show wq _ tb_Ref_canBe _ 20 [some (.ref 65), some (.int (nI (pq_ (pm_ t.2.1 97 (sg_n t.1)) (sg_n t.1)))), some (.int (nI (sg_n t.1)))] [] h2 _
      obtain rfl := I
      have epq : pq_ (pm_ t.2.1 97 (sg_n t.1)) (sg_n t.1) = pq_ (ar_ (sg_n t.1) (in_ (pm_ t.2.1 97 (sg_n t.1)))) (sg_n t.1) := pq_cong _ (fun j hj => by unfold ar_; rw [if_pos hj, in_in pP8])
      have rlt := rw_lt ws WL
      refine wp_iload2 rfl ?_
      refine wp_aload0 rfl ?_
      refine wp_getIE rfl (Ref_kd B1.S) (show _ = nI (sg_n t.1) from B1.n) ?_
      refine wp_icmp_geN (sg_n t.1) (sg_n t.1) (by omega) (by omega) rfl (fun _ => ?_) (fun z => absurd z (by omega))
      refine wp_aload0 rfl ?_
      refine wp_getR rfl (Ref_kd B1.S) (Ref_R29 B1.S) (by first | decide | omega) ?_
      refine wp_aload0 rfl ?_
      refine wp_iload1 rfl ?_
      rw [epq]
      refine wp_callV1I rfl (Nat.le_of_ble_eq_true rfl) (Ref_kd B1.S) (Ref_numberOf_ok B1 WL) (Nat.le_of_ble_eq_true rfl) ?_
      refine pure_ ?_
      change wq _ _ _ _ _ (Value.int (nI (rw_ t.1 (ar_ (sg_n t.1) (in_ (pm_ t.2.1 97 (sg_n t.1)))))) :: _) _ _
      by_cases hin : ar_ (sg_n t.1) (in_ (pm_ t.2.1 97 (sg_n t.1))) ∈ (qs_ t.1 n).map (·.1)
      · skip
        obtain ⟨e, he, ee⟩ := List.mem_map.mp hin
        obtain ⟨j, hj⟩ := List.getElem?_of_mem he
        have hd := (A1.2.1 j e hj).2.1
        rw [ee] at hd
        have hwl := qs_wl j e hj
        have hjl := (List.getElem?_eq_some_iff.mp hj).1
        have hce := ce_le n8 (sg_n t.1)
        refine wp_ialdE (rw_ t.1 (ar_ (sg_n t.1) (in_ (pm_ t.2.1 97 (sg_n t.1))))) rfl (Ref_k29 B1.S) (by first | decide | omega) (Nat.lt_of_lt_of_eq (show (rw_ t.1 (ar_ (sg_n t.1) (in_ (pm_ t.2.1 97 (sg_n t.1))))) < _ by omega) (Eq.symm (Ref_n29 B1.S))) (by omega) (show _ = nI (e.2.2.length) from hd) rfl ?_
        refine wp_if_geN (e.2.2.length) 0 (by omega) (by decide) rfl ?_
        refine wp_iconst rfl ?_
        have hb : CB_ t.1 (pm_ t.2.1 97 (sg_n t.1)) true := ⟨fun _ => by
          have h4 := (qs_word ws he).1
          rw [ee] at h4
          exact ⟨e.2.2, (qs_word ws he).2, (CB_ar ws (ac_P (mv_P ws) _) pP).mp h4.symm⟩, fun _ => rfl⟩
        exact wp_iret rfl ⟨_, rfl, by rw [e0]; exact ⟨true, hb, rfl⟩, B1⟩
      · skip
        have hd := A1.2.2 _ WL hin
        refine wp_ialdE (rw_ t.1 (ar_ (sg_n t.1) (in_ (pm_ t.2.1 97 (sg_n t.1))))) rfl (Ref_k29 B1.S) (by first | decide | omega) (Nat.lt_of_lt_of_eq (show (rw_ t.1 (ar_ (sg_n t.1) (in_ (pm_ t.2.1 97 (sg_n t.1))))) < _ by omega) (Eq.symm (Ref_n29 B1.S))) (by omega) (hd) rfl ?_
        refine wp_if_ge rfl (fun z => absurd z (by decide)) (fun _ => ?_)
        refine wp_iconst rfl ?_
        refine wp_goto rfl ?_
        have hb : CB_ t.1 (pm_ t.2.1 97 (sg_n t.1)) false := ⟨fun z => absurd z Bool.false_ne_true, fun ⟨v, hv, ev⟩ => by
          obtain ⟨e, h1, h2, h3⟩ := bf_all (st := fun w f => tr_ (sg_n t.1) (mv_ t.1 f) w) (ok := may_ t.1) (s0 := ar_ (sg_n t.1) (sg_pos t.1)) (t := n) hn v hv
          have h4 := h2.trans (ar_rn ws.1.2 (mv_P ws) ws.2.1 v)
          rw [(CB_ar ws (ac_P (mv_P ws) v) pP).mpr ev] at h4
          exact absurd (List.mem_map.mpr ⟨e, h1, h4⟩) hin⟩
        exact wp_iret rfl ⟨_, rfl, by rw [e0]; exact ⟨false, hb, rfl⟩, B1⟩
  · skip
    refine wp_bipush rfl ?_
    exact wp_iret rfl ⟨_, rfl, by unfold an_canBe_; rw [if_neg (fun z => c1 ((fo_lt t.2.1 c30).mpr z))], B⟩
