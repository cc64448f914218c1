-- ===== the reference: all standings; fewest, standings, canBe =====
noncomputable def qs_ (s : Sg_) (k : Nat) : Bq_ (Nat → Nat) := bf_ (fun w f => tr_ (sg_n s) (mv_ s f) w) (may_ s) (ar_ (sg_n s) (sg_pos s)) k
theorem qs_inv (s : Sg_) (k : Nat) : BI_ (fun w f => tr_ (sg_n s) (mv_ s f) w) (may_ s) (ar_ (sg_n s) (sg_pos s)) k (qs_ s k) := bf_inv k
theorem qs_word {s : Sg_} (w : sg_wf s) {k : Nat} {e : (Nat → Nat) × Nat × List Nat} (he : e ∈ qs_ s k) : e.1 = ar_ (sg_n s) (fun g => ac_ (mv_ s) e.2.2 (sg_pos s g)) ∧ wok_ (may_ s) e.2.2 := by
  have h := (qs_inv s k).word e he
  refine ⟨h.1.trans (ar_rn w.1.2 (mv_P w) w.2.1 e.2.2), fun f hf => h.2 f hf⟩
theorem qs_Lz {s : Sg_} (w : sg_wf s) {k : Nat} {e : (Nat → Nat) × Nat × List Nat} (he : e ∈ qs_ s k) : Lz_ (sg_n s) (sg_n s) e.1 := by
  rw [(qs_word w he).1]
  exact ar_Lz w.1.2 (w.2.1.then (ac_P (mv_P w) _))
theorem qs_len {s : Sg_} (w : sg_wf s) (k : Nat) : (qs_ s k).length ≤ ce_ (sg_n s) (sg_n s) := by
  have h := Lz_count (n := sg_n s) (k := sg_n s) (qs_inv s k).nod (fun v hv => by
    obtain ⟨e, he, rfl⟩ := List.mem_map.mp hv
    exact qs_Lz w he)
  rw [List.length_map] at h
  exact h
/-- a word is no longer than its place -/
theorem bi_wl {α : Type} {st : α → Nat → α} {ok : Nat → Bool} {s0 : α} {t : Nat} {q : Bq_ α} (I : BI_ st ok s0 t q) : ∀ (j : Nat) (e : α × Nat × List Nat), q[j]? = some e → e.2.2.length ≤ j := by
  intro j
  induction j using Nat.strongRecOn with
  | ind j ih =>
    intro e he
    rcases Nat.eq_zero_or_pos j with z | z
    · rw [z, I.zero] at he
      cases he
      exact Nat.zero_le _
    · obtain ⟨_, h2, e2, h3, h4⟩ := I.orig j e he z
      have := ih _ h2 e2 h3
      rw [h4, List.length_append]
      show e2.2.2.length + 1 ≤ j
      omega
theorem qs_wl {s : Sg_} {k : Nat} (j : Nat) (e : (Nat → Nat) × Nat × List Nat) (h : (qs_ s k)[j]? = some e) : e.2.2.length ≤ j := bi_wl (qs_inv s k) j e h
/-- the rank of a standing -/
def rw_ (s : Sg_) (w : Nat → Nat) : Nat := rk_ (sg_n s) w (sg_n s)
theorem rw_lt {s : Sg_} (ws : sg_wf s) {w : Nat → Nat} (W : Lz_ (sg_n s) (sg_n s) w) : rw_ s w < 40320 := Nat.lt_of_lt_of_le (rk_lt W.1 _ (Nat.le_refl _)) (ce_le ws.1.2 _)
def GA_ (h : Hp_) (s : Sg_) (q : Bq_ (Nat → Nat)) : Prop := hp_I h 65 30 = nI q.length ∧ (∀ (i : Nat) (e : (Nat → Nat) × Nat × List Nat), q[i]? = some e → hp_I h 83 i = nI (rw_ s e.1) ∧ hp_I h 86 (rw_ s e.1) = nI e.2.2.length ∧ (0 < i → hp_I h 84 (rw_ s e.1) = nI (e.2.1 % 6) ∧ ∃ e2, q[e.2.1 / 6]? = some e2 ∧ hp_I h 85 (rw_ s e.1) = nI (rw_ s e2.1))) ∧ ∀ w, Lz_ (sg_n s) (sg_n s) w → ¬ w ∈ q.map (·.1) → hp_I h 86 (rw_ s w) = -6
theorem GA_push {h : Hp_} {s : Sg_} {q : Bq_ (Nat → Nat)} {k f : Nat} {e : (Nat → Nat) × Nat × List Nat} {w : Nat → Nat} {r83 r84 r85 r86 r65 : Nat → Int32} (A : GA_ h s q) (he : q[k]? = some e) (hf : f < 6) (hnew : ¬ w ∈ q.map (·.1)) (W : Lz_ (sg_n s) (sg_n s) w) (hL : ∀ e ∈ q, Lz_ (sg_n s) (sg_n s) e.1) (h86 : r86 = va_up (hp_I h 86) (rw_ s w) (nI (e.2.2.length + 1))) (h84 : r84 = va_up (hp_I h 84) (rw_ s w) (nI f)) (h85 : r85 = va_up (hp_I h 85) (rw_ s w) (nI (rw_ s e.1))) (h83 : r83 = va_up (hp_I h 83) q.length (nI (rw_ s w))) (h65 : r65 30 = nI (q.length + 1)) : GA_ (hp_rI (hp_rI (hp_rI (hp_rI (hp_rI h 86 r86) 84 r84) 85 r85) 83 r83) 65 r65) s (q ++ [(w, 6 * k + f, e.2.2 ++ [f])]) := by
  obtain ⟨A1, A2, A3⟩ := A
  have c86 : hp_I (hp_rI (hp_rI (hp_rI (hp_rI (hp_rI h 86 r86) 84 r84) 85 r85) 83 r83) 65 r65) 86 = r86 := by rw [sd_rI_ne (by decide), sd_rI_ne (by decide), sd_rI_ne (by decide), sd_rI_ne (by decide), sd_rI_eq]
  have c84 : hp_I (hp_rI (hp_rI (hp_rI (hp_rI (hp_rI h 86 r86) 84 r84) 85 r85) 83 r83) 65 r65) 84 = r84 := by rw [sd_rI_ne (by decide), sd_rI_ne (by decide), sd_rI_ne (by decide), sd_rI_eq]
  have c85 : hp_I (hp_rI (hp_rI (hp_rI (hp_rI (hp_rI h 86 r86) 84 r84) 85 r85) 83 r83) 65 r65) 85 = r85 := by rw [sd_rI_ne (by decide), sd_rI_ne (by decide), sd_rI_eq]
  have c83 : hp_I (hp_rI (hp_rI (hp_rI (hp_rI (hp_rI h 86 r86) 84 r84) 85 r85) 83 r83) 65 r65) 83 = r83 := by rw [sd_rI_ne (by decide), sd_rI_eq]
  have c65 : hp_I (hp_rI (hp_rI (hp_rI (hp_rI (hp_rI h 86 r86) 84 r84) 85 r85) 83 r83) 65 r65) 65 = r65 := sd_rI_eq
  have hne : ∀ v, Lz_ (sg_n s) (sg_n s) v → v ≠ w → rw_ s v ≠ rw_ s w := fun v V hv z => hv (Lz_ext V W z)
  have hkl := (List.getElem?_eq_some_iff.mp he).1
  refine ⟨?_, fun i e3 he3 => ?_, fun v V hv => ?_⟩
  · rw [c65, h65, List.length_append]
    rfl
  · rw [c83, c84, c85, c86, h83, h84, h85, h86]
    rcases get_snoc he3 with ⟨z, y⟩ | ⟨z, y⟩
    · have hm := List.mem_of_getElem? y
      have hw : e3.1 ≠ w := fun x => hnew (List.mem_map.mpr ⟨e3, hm, x⟩)
      have hr := hne _ (hL e3 hm) hw
      have := A2 i e3 y
      rw [sd_up_ne (by omega), sd_up_ne hr, sd_up_ne hr, sd_up_ne hr]
      refine ⟨this.1, this.2.1, fun h0 => ⟨(this.2.2 h0).1, ?_⟩⟩
      obtain ⟨e2, h1, h2⟩ := (this.2.2 h0).2
      exact ⟨e2, by rw [List.getElem?_append_left (List.getElem?_eq_some_iff.mp h1).1]; exact h1, h2⟩
    · rw [y, z]
      dsimp only
      rw [sd_up_eq, sd_up_eq, sd_up_eq, sd_up_eq]
      refine ⟨rfl, by rw [List.length_append]; rfl, fun h0 => ⟨by rw [show (6 * k + f) % 6 = f by omega], e, ?_, rfl⟩⟩
      rw [show (6 * k + f) / 6 = k by omega, List.getElem?_append_left hkl]
      exact he
  · have hv1 : ¬ v ∈ q.map (·.1) := fun z => hv (by rw [List.map_append]; exact List.mem_append.mpr (Or.inl z))
    have hv2 : v ≠ w := fun z => hv (by rw [List.map_append, z]; exact List.mem_append.mpr (Or.inr (List.mem_singleton.mpr rfl)))
    rw [c86, h86, sd_up_ne (hne v V hv2)]
    exact A3 v V hv1
theorem FN_cong {h h1 : Hp_} {s : Sg_} (e : hp_I h1 65 25 = hp_I h 65 25) (e80 : hp_I h1 80 = hp_I h 80) (e81 : hp_I h1 81 = hp_I h 81) (F : FN_ h s) : FN_ h1 s := by
  unfold FN_ at F ⊢
  rw [e, e80, e81]
  exact F
set_option maxRecDepth 4000 in
theorem Ref_goAll_ok {h0 h : Hp_} {t : Rt_} (B : RB_ h0 h t) : cV 4 mn_Ref_goAll [.ref 65] h (fun h' => RB_ h0 h' t ∧ FN_ h' t.1 ∧ ∃ k, 6 * (qs_ t.1 k).length ≤ k ∧ GA_ h' t.1 (qs_ t.1 k)) := by
  have n8 := B.n8
  have ws := B.w
  have hce := ce_le n8 (sg_n t.1)
  have W0 := ar_Lz n8 ws.2.1
  have r0 := rw_lt ws W0
  refine cq_in (q := mi_Ref_goAll) (L := [some (.ref 65), none, none, none, none, none]) rfl (Nat.le_of_ble_eq_true rfl) rfl ?_
  show wq _ tb_Ref_goAll none 0 _ _ _ _
  refine wp_aload0 rfl ?_
  refine wp_callV0V rfl (Nat.le_of_ble_eq_true rfl) (Ref_kd B.S) (Ref_findNext_ok B) (Nat.le_of_ble_eq_true rfl) ?_
  rintro h1 ⟨B1, F1, -⟩
  refine wp_iconst rfl ?_
  refine wp_istore1 rfl rfl ?_
  refine wq_loop (X := Unit) (fun i x => [some (.ref 65), some (.int (nI i)), none, none, none, none]) (fun i x h2 => fz_ (fun c => c = 86) h1 h2 ∧ ∀ j, j < i → hp_I h2 86 j = -6) (ce_ (sg_n t.1) (sg_n t.1)) (0) (()) ?_ ?_ ?_ ?_
  · omega
  · exact ⟨fz_refl _ _, fun j hj => absurd hj (Nat.not_lt_zero j)⟩
  · intro i x h2 hi I k
    show wq _ tb_Ref_goAll _ 6 [some (.ref 65), some (.int (nI i)), none, none, none, none] [] h2 _
    obtain ⟨z2, a2⟩ := I
    have B2 : RB_ h0 h2 t := RB_fz B1 (fz_mono (fun c hc => by omega) z2)
    refine wp_iload1 rfl ?_
    refine wp_aload0 rfl ?_
    refine wp_getIE rfl (Ref_kd B2.S) (show _ = nI (ce_ (sg_n t.1) (sg_n t.1)) from by rw [fz_I z2 (by decide)]; exact F1.1) ?_
    refine wp_icmp_geN i (ce_ (sg_n t.1) (sg_n t.1)) (by omega) (by omega) rfl (fun z => absurd z (by omega)) (fun _ => ?_)
    refine wp_aload0 rfl ?_
    refine wp_getR rfl (Ref_kd B2.S) (Ref_R29 B2.S) (by first | decide | omega) ?_
    refine wp_iload1 rfl ?_
    refine wp_bipush rfl ?_
    refine wp_iast i rfl (Ref_k29 B2.S) (Nat.lt_of_lt_of_eq (show i < _ by omega) (Eq.symm (Ref_n29 B2.S))) (by omega) rfl ?_
    refine wp_iinc1N rfl rfl ?_
    refine wp_goto rfl ?_
    refine k () _ ⟨fz_rI z2 rfl _, fun j hj => ?_⟩
    rw [sd_rI_eq, vu_at]
    split
    · rfl
    · exact a2 j (by omega)
  · intro x h2 I
    show wq _ tb_Ref_goAll _ 6 [some (.ref 65), some (.int (nI (ce_ (sg_n t.1) (sg_n t.1)))), none, none, none, none] [] h2 _
    obtain ⟨z2, a2⟩ := I
    have B2 : RB_ h0 h2 t := RB_fz B1 (fz_mono (fun c hc => by omega) z2)
    have F2 : FN_ h2 t.1 := FN_cong (by rw [fz_I z2 (by decide)]) (fz_I z2 (by decide)) (fz_I z2 (by decide)) F1
    refine wp_iload1 rfl ?_
    refine wp_aload0 rfl ?_
    refine wp_getIE rfl (Ref_kd B2.S) (show _ = nI (ce_ (sg_n t.1) (sg_n t.1)) from F2.1) ?_
    refine wp_icmp_geN (ce_ (sg_n t.1) (sg_n t.1)) (ce_ (sg_n t.1) (sg_n t.1)) (by omega) (by omega) rfl (fun _ => ?_) (fun z => absurd z (by omega))
    refine wp_aload0 rfl ?_
    refine wp_aload0 rfl ?_
    refine wp_callV0I rfl (Nat.le_of_ble_eq_true rfl) (Ref_kd B2.S) (Ref_codeNow_ok B2) (Nat.le_of_ble_eq_true rfl) ?_
    refine pure_ ?_
    refine wp_callV1I rfl (Nat.le_of_ble_eq_true rfl) (Ref_kd B2.S) (Ref_numberOf_ok B2 W0) (Nat.le_of_ble_eq_true rfl) ?_
    refine pure_ ?_
    change wq _ _ _ _ _ (Value.int (nI (rw_ t.1 (ar_ (sg_n t.1) (sg_pos t.1)))) :: _) _ _
    refine wp_istore1 rfl rfl ?_
    refine wp_aload0 rfl ?_
    refine wp_getR rfl (Ref_kd B2.S) (Ref_R29 B2.S) (by first | decide | omega) ?_
    refine wp_iload1 rfl ?_
    refine wp_iconst rfl ?_
    refine wp_iast (rw_ t.1 (ar_ (sg_n t.1) (sg_pos t.1))) rfl (Ref_k29 B2.S) (Nat.lt_of_lt_of_eq (show (rw_ t.1 (ar_ (sg_n t.1) (sg_pos t.1))) < _ by omega) (Eq.symm (Ref_n29 B2.S))) (by omega) rfl ?_
    refine wp_aload0 rfl ?_
    refine wp_getR rfl (Ref_kd B2.S) (Ref_R26 B2.S) (by first | decide | omega) ?_
    refine wp_iconst rfl ?_
    refine wp_iload1 rfl ?_
    refine wp_iast 0 rfl (Ref_k26 B2.S) (Nat.lt_of_lt_of_eq (show 0 < _ by omega) (Eq.symm (Ref_n26 B2.S))) (by omega) rfl ?_
    refine wp_aload0 rfl ?_
    refine wp_iconst rfl ?_
    refine wp_putI rfl (Ref_kd B2.S) ?_
    refine wp_iconst rfl ?_
    refine wp_istore2 rfl rfl ?_
    refine wq_while (X := Option Value × Option Value × Option Value) (fun kk x => [some (.ref 65), some (.int (nI (rw_ t.1 (ar_ (sg_n t.1) (sg_pos t.1))))), some (.int (nI kk)), x.1, x.2.1, x.2.2]) (fun kk x h3 => RB_ h0 h3 t ∧ FN_ h3 t.1 ∧ GA_ h3 t.1 (qs_ t.1 (6 * kk)) ∧ kk ≤ (qs_ t.1 (6 * kk)).length) (40320) (0) ((none, none, none)) ?_ ?_ ?_
    · refine ⟨RB_fl (RB_sc (RB_sc B2 (by omega) (by omega) _) (by omega) (by omega) _) (by omega) _, FN_cong (by rw [sd_rI_eq, sd_up_ne (by decide), sd_rI_ne (by decide), sd_rI_ne (by decide)]) (by rw [sd_rI_ne (by decide), sd_rI_ne (by decide), sd_rI_ne (by decide)]) (by rw [sd_rI_ne (by decide), sd_rI_ne (by decide), sd_rI_ne (by decide)]) F2, ⟨?_, fun i e he => ?_, fun v V hv => ?_⟩, Nat.zero_le _⟩
      · rw [sd_rI_eq]; rfl
      · have hi : i < 1 := (List.getElem?_eq_some_iff.mp he).1
        obtain rfl : i = 0 := by omega
        have he2 : (ar_ (sg_n t.1) (sg_pos t.1), 0, ([] : List Nat)) = e := Option.some.inj he
        rw [← he2]
        refine ⟨?_, ?_, fun z => absurd z (Nat.lt_irrefl 0)⟩
        · rw [sd_rI_ne (by decide), sd_rI_eq, sd_up_eq]
        · rw [sd_rI_ne (by decide), sd_rI_ne (by decide), sd_rI_eq, sd_up_eq]; rfl
      · have hv2 : v ≠ ar_ (sg_n t.1) (sg_pos t.1) := fun z => hv (List.mem_map.mpr ⟨_, List.mem_singleton.mpr rfl, z.symm⟩)
        rw [sd_rI_ne (by decide), sd_rI_ne (by decide), sd_rI_eq, sd_up_ne (show rw_ t.1 v ≠ rw_ t.1 (ar_ (sg_n t.1) (sg_pos t.1)) from fun z => hv2 (Lz_ext V W0 z))]
        exact a2 _ (rk_lt V.1 _ (Nat.le_refl _))
    · rintro i x h3 ⟨_, _, _, h5⟩
      have := qs_len ws (6 * i)
      omega
    · intro kk x h3 J k
      show wq _ tb_Ref_goAll _ 58 [some (.ref 65), some (.int (nI (rw_ t.1 (ar_ (sg_n t.1) (sg_pos t.1))))), some (.int (nI kk)), x.1, x.2.1, x.2.2] [] h3 _
      obtain ⟨B3, F3, A3, k3⟩ := J
      have hlen := qs_len ws (6 * kk)
      refine wp_iload2 rfl ?_
      refine wp_aload0 rfl ?_
      refine wp_getIE rfl (Ref_kd B3.S) (show _ = nI ((qs_ t.1 (6 * kk)).length) from A3.1) ?_
      refine wp_icmp_geN kk ((qs_ t.1 (6 * kk)).length) (by omega) (by omega) rfl (fun c1 => ?_) (fun c1 => ?_)
      · skip
        exact wp_vret rfl ⟨rfl, B3, F3, 6 * kk, by omega, A3⟩
      · skip
        have hk0 : (qs_ t.1 (6 * kk))[kk]? = some ((qs_ t.1 (6 * kk))[kk]'c1) := List.getElem?_eq_getElem c1
        obtain ⟨e, he⟩ : ∃ e, (qs_ t.1 (6 * kk))[kk]? = some e := ⟨_, hk0⟩
        have hem := List.mem_of_getElem? he
        have eL := qs_Lz ws hem
        have er := rw_lt ws eL
        refine wp_aload0 rfl ?_
        refine wp_getR rfl (Ref_kd B3.S) (Ref_R26 B3.S) (by first | decide | omega) ?_
        refine wp_iload2 rfl ?_
        refine wp_ialdE kk rfl (Ref_k26 B3.S) (by first | decide | omega) (Nat.lt_of_lt_of_eq (show kk < _ by omega) (Eq.symm (Ref_n26 B3.S))) (by omega) (show _ = nI (rw_ t.1 e.1) from (A3.2.1 kk e he).1) rfl ?_
        refine wp_istore3 rfl rfl ?_
        refine wp_iconst rfl ?_
        refine wp_istore4 rfl rfl ?_
        refine wq_loop (X := Option Value) (fun f x => [some (.ref 65), some (.int (nI (rw_ t.1 (ar_ (sg_n t.1) (sg_pos t.1))))), some (.int (nI kk)), some (.int (nI (rw_ t.1 e.1))), some (.int (nI f)), x]) (fun f x h4 => RB_ h0 h4 t ∧ FN_ h4 t.1 ∧ GA_ h4 t.1 (qs_ t.1 (6 * kk + f))) (6) (0) (x.2.2) ?_ ?_ ?_ ?_
        · omega
        · exact ⟨B3, F3, A3⟩
        · intro f x h4 hi K k
          show wq _ tb_Ref_goAll _ 76 [some (.ref 65), some (.int (nI (rw_ t.1 (ar_ (sg_n t.1) (sg_pos t.1))))), some (.int (nI kk)), some (.int (nI (rw_ t.1 e.1))), some (.int (nI f)), x] [] h4 _
          obtain ⟨B4, F4, A4⟩ := K
          have hf6 := hi
          have hek : (qs_ t.1 (6 * kk + f))[kk]? = some e := bf_get (6 * kk) f kk e he
          have hek6 : (qs_ t.1 (6 * kk + f))[(6 * kk + f) / 6]? = some e := by rw [show (6 * kk + f) / 6 = kk by omega]; exact hek
          have hl4 := qs_len ws (6 * kk + f)
          have TL := tr_Lz n8 (mv_P ws f) eL
          have tlt := rw_lt ws TL
          have hnext := (F4.2 e.1 eL).2 f hf6
          have hmod : (6 * kk + f) % 6 = f := by omega
          refine wp_iload4 rfl ?_
          refine wp_bipush rfl ?_
          refine wp_icmp_geN f 6 (by omega) (by omega) rfl (fun z => absurd z (by omega)) (fun _ => ?_)
          refine wp_aload0 rfl ?_
          refine wp_getR rfl (Ref_kd B4.S) (Ref_R23 B4.S) (by first | decide | omega) ?_
          refine wp_ldc rfl ?_
          refine wp_iload4 rfl ?_
          refine wp_imulE (nI (40320 * f)) (pk_mul _ _) rfl ?_
          refine wp_iload3 rfl ?_
          refine wp_iaddE (nI ((40320 * f) + (rw_ t.1 e.1))) (nI_add _ _) rfl ?_
          cases hm : may_ t.1 f with
          | false =>
            rw [hm, if_neg Bool.false_ne_true] at hnext
            refine wp_ialdE ((40320 * f) + (rw_ t.1 e.1)) rfl (Ref_k23 B4.S) (by first | decide | omega) (Nat.lt_of_lt_of_eq (show ((40320 * f) + (rw_ t.1 e.1)) < _ from by omega) (Eq.symm (Ref_n23 B4.S))) (by omega) (hnext) rfl ?_
            refine wp_istore5 rfl rfl ?_
            refine wp_iload5 rfl ?_
            refine wp_if_lt rfl (fun _ => ?_) (fun z => absurd z (by decide))
            refine wp_iinc4N rfl rfl ?_
            refine wp_goto rfl ?_
            have hq : qs_ t.1 (6 * kk + (f + 1)) = qs_ t.1 (6 * kk + f) := by
              rcases bs_cases (st := fun w f => tr_ (sg_n t.1) (mv_ t.1 f) w) (ok := may_ t.1) (6 * kk + f) (qs_ t.1 (6 * kk + f)) with ⟨z, _⟩ | ⟨e2, _, z, _⟩
              · exact z
              · rw [hmod, hm] at z; cases z
            exact k _ _ ⟨B4, F4, by rw [hq]; exact A4⟩
          | true =>
            rw [hm, if_pos rfl] at hnext
            refine wp_ialdE ((40320 * f) + (rw_ t.1 e.1)) rfl (Ref_k23 B4.S) (by first | decide | omega) (Nat.lt_of_lt_of_eq (show ((40320 * f) + (rw_ t.1 e.1)) < _ from by omega) (Eq.symm (Ref_n23 B4.S))) (by omega) (show _ = nI (rw_ t.1 (tr_ (sg_n t.1) (mv_ t.1 f) e.1)) from hnext) rfl ?_
            change wq _ _ _ _ _ (Value.int (nI (rw_ t.1 (tr_ (sg_n t.1) (mv_ t.1 f) e.1))) :: _) _ _
            refine wp_istore5 rfl rfl ?_
            refine wp_iload5 rfl ?_
            refine wp_if_ltN (rw_ t.1 (tr_ (sg_n t.1) (mv_ t.1 f) e.1)) 0 (by omega) (by decide) rfl ?_
            refine wp_aload0 rfl ?_
            refine wp_getR rfl (Ref_kd B4.S) (Ref_R29 B4.S) (by first | decide | omega) ?_
            refine wp_iload5 rfl ?_
            by_cases hin : tr_ (sg_n t.1) (mv_ t.1 f) e.1 ∈ (qs_ t.1 (6 * kk + f)).map (·.1)
            · skip
              obtain ⟨e2, he2, ee⟩ := List.mem_map.mp hin
              obtain ⟨i2, hi2⟩ := List.getElem?_of_mem he2
              have hd := (A4.2.1 i2 e2 hi2).2.1
              rw [ee] at hd
              have hwl := qs_wl i2 e2 hi2
              have hil := (List.getElem?_eq_some_iff.mp hi2).1
              refine wp_ialdE (rw_ t.1 (tr_ (sg_n t.1) (mv_ t.1 f) e.1)) rfl (Ref_k29 B4.S) (by first | decide | omega) (Nat.lt_of_lt_of_eq (show (rw_ t.1 (tr_ (sg_n t.1) (mv_ t.1 f) e.1)) < _ by omega) (Eq.symm (Ref_n29 B4.S))) (by omega) (show _ = nI (e2.2.2.length) from hd) rfl ?_
              refine wp_if_geN (e2.2.2.length) 0 (by omega) (by decide) rfl ?_
              refine wp_iinc4N rfl rfl ?_
              refine wp_goto rfl ?_
              have hq : qs_ t.1 (6 * kk + (f + 1)) = qs_ t.1 (6 * kk + f) := by
                rcases bs_cases (st := fun w f => tr_ (sg_n t.1) (mv_ t.1 f) w) (ok := may_ t.1) (6 * kk + f) (qs_ t.1 (6 * kk + f)) with ⟨z, _⟩ | ⟨e3, z1, _, z, _⟩
                · exact z
                · rw [hek6] at z1; cases z1; rw [hmod] at z; exact absurd hin z
              exact k _ _ ⟨B4, F4, by rw [hq]; exact A4⟩
            · skip
              have hd := A4.2.2 _ TL hin
              refine wp_ialdE (rw_ t.1 (tr_ (sg_n t.1) (mv_ t.1 f) e.1)) rfl (Ref_k29 B4.S) (by first | decide | omega) (Nat.lt_of_lt_of_eq (show (rw_ t.1 (tr_ (sg_n t.1) (mv_ t.1 f) e.1)) < _ by omega) (Eq.symm (Ref_n29 B4.S))) (by omega) (hd) rfl ?_
              refine wp_if_ge rfl (fun z => absurd z (by decide)) (fun _ => ?_)
              have hwl := qs_wl kk e hek
              have hq : qs_ t.1 (6 * kk + (f + 1)) = qs_ t.1 (6 * kk + f) ++ [(tr_ (sg_n t.1) (mv_ t.1 f) e.1, 6 * kk + f, e.2.2 ++ [f])] := by
                rcases bs_cases (st := fun w f => tr_ (sg_n t.1) (mv_ t.1 f) w) (ok := may_ t.1) (6 * kk + f) (qs_ t.1 (6 * kk + f)) with ⟨_, z⟩ | ⟨e3, z1, _, z, z2⟩
                · have := z e hek6 (by rw [hmod]; exact hm)
                  rw [hmod] at this
                  exact absurd this hin
                · rw [hek6] at z1; cases z1; rw [hmod] at z2; exact z2
              have hl5 : (qs_ t.1 (6 * kk + f)).length + 1 ≤ ce_ (sg_n t.1) (sg_n t.1) := by
                have := qs_len ws (6 * kk + (f + 1))
                rw [hq, List.length_append] at this
                exact this
              refine wp_aload0 rfl ?_
              refine wp_getR rfl (Ref_kd B4.S) (Ref_R29 B4.S) (by first | decide | omega) ?_
              refine wp_iload5 rfl ?_
              refine wp_aload0 rfl ?_
              refine wp_getR rfl (Ref_kd B4.S) (Ref_R29 B4.S) (by first | decide | omega) ?_
              refine wp_iload3 rfl ?_
              refine wp_ialdE (rw_ t.1 e.1) rfl (Ref_k29 B4.S) (by first | decide | omega) (Nat.lt_of_lt_of_eq (show (rw_ t.1 e.1) < _ by omega) (Eq.symm (Ref_n29 B4.S))) (by omega) (show _ = nI (e.2.2.length) from (A4.2.1 kk e hek).2.1) rfl ?_
              refine wp_iconst rfl ?_
              refine wp_iaddE (nI ((e.2.2.length) + 1)) (nI_add _ _) rfl ?_
              refine wp_iast (rw_ t.1 (tr_ (sg_n t.1) (mv_ t.1 f) e.1)) rfl (Ref_k29 B4.S) (Nat.lt_of_lt_of_eq (show (rw_ t.1 (tr_ (sg_n t.1) (mv_ t.1 f) e.1)) < _ by omega) (Eq.symm (Ref_n29 B4.S))) (by omega) rfl ?_
              refine wp_aload0 rfl ?_
              refine wp_getR rfl (Ref_kd B4.S) (Ref_R27 B4.S) (by first | decide | omega) ?_
              refine wp_iload5 rfl ?_
              refine wp_iload4 rfl ?_
              refine wp_iast (rw_ t.1 (tr_ (sg_n t.1) (mv_ t.1 f) e.1)) rfl (Ref_k27 B4.S) (Nat.lt_of_lt_of_eq (show (rw_ t.1 (tr_ (sg_n t.1) (mv_ t.1 f) e.1)) < _ by omega) (Eq.symm (Ref_n27 B4.S))) (by omega) rfl ?_
              refine wp_aload0 rfl ?_
              refine wp_getR rfl (Ref_kd B4.S) (Ref_R28 B4.S) (by first | decide | omega) ?_
              refine wp_iload5 rfl ?_
              refine wp_iload3 rfl ?_
              refine wp_iast (rw_ t.1 (tr_ (sg_n t.1) (mv_ t.1 f) e.1)) rfl (Ref_k28 B4.S) (Nat.lt_of_lt_of_eq (show (rw_ t.1 (tr_ (sg_n t.1) (mv_ t.1 f) e.1)) < _ by omega) (Eq.symm (Ref_n28 B4.S))) (by omega) rfl ?_
              refine wp_aload0 rfl ?_
              refine wp_getR rfl (Ref_kd B4.S) (Ref_R26 B4.S) (by first | decide | omega) ?_
              refine wp_aload0 rfl ?_
              refine wp_getIE rfl (Ref_kd B4.S) (show _ = nI ((qs_ t.1 (6 * kk + f)).length) from by rw [sd_rI_ne (by decide), sd_rI_ne (by decide), sd_rI_ne (by decide)]; exact A4.1) ?_
              refine wp_iload5 rfl ?_
              refine wp_iast ((qs_ t.1 (6 * kk + f)).length) rfl (Ref_k26 B4.S) (Nat.lt_of_lt_of_eq (show ((qs_ t.1 (6 * kk + f)).length) < _ by omega) (Eq.symm (Ref_n26 B4.S))) (by omega) rfl ?_
              refine wp_aload0 rfl ?_
              refine wp_dup rfl ?_
              refine wp_getIE rfl (Ref_kd B4.S) (show _ = nI ((qs_ t.1 (6 * kk + f)).length) from by rw [sd_rI_ne (by decide), sd_rI_ne (by decide), sd_rI_ne (by decide), sd_rI_ne (by decide)]; exact A4.1) ?_
              refine wp_iconst rfl ?_
              refine wp_iaddE (nI (((qs_ t.1 (6 * kk + f)).length) + 1)) (nI_add _ _) rfl ?_
              refine wp_putI rfl (Ref_kd B4.S) ?_
              refine wp_iinc4N rfl rfl ?_
              refine wp_goto rfl ?_
              refine k _ _ ⟨RB_fl (RB_sc (RB_sc (RB_sc (RB_sc B4 (by omega) (by omega) _) (by omega) (by omega) _) (by omega) (by omega) _) (by omega) (by omega) _) (by omega) _, FN_cong (by rw [sd_rI_eq, sd_up_ne (by decide), sd_rI_ne (by decide), sd_rI_ne (by decide), sd_rI_ne (by decide), sd_rI_ne (by decide)]) (by rw [sd_rI_ne (by decide), sd_rI_ne (by decide), sd_rI_ne (by decide), sd_rI_ne (by decide), sd_rI_ne (by decide)]) (by rw [sd_rI_ne (by decide), sd_rI_ne (by decide), sd_rI_ne (by decide), sd_rI_ne (by decide), sd_rI_ne (by decide)]) F4, ?_⟩
              rw [hq]
              exact GA_push A4 hek hf6 hin TL (fun e he => qs_Lz ws he) rfl (by rw [sd_rI_ne (by decide)]) (by rw [sd_rI_ne (by decide), sd_rI_ne (by decide)]) (by rw [sd_rI_ne (by decide), sd_rI_ne (by decide), sd_rI_ne (by decide)]) (by rw [sd_up_eq])
        · intro x h4 K
          show wq _ tb_Ref_goAll _ 76 [some (.ref 65), some (.int (nI (rw_ t.1 (ar_ (sg_n t.1) (sg_pos t.1))))), some (.int (nI kk)), some (.int (nI (rw_ t.1 e.1))), some (.int (nI 6)), x] [] h4 _
          obtain ⟨B4, F4, A4⟩ := K
          refine wp_iload4 rfl ?_
          refine wp_bipush rfl ?_
          refine wp_icmp_geN 6 6 (by omega) (by omega) rfl (fun _ => ?_) (fun z => absurd z (by omega))
          refine wp_iinc2N rfl rfl ?_
          refine wp_goto rfl ?_
          refine k (by omega) (_, _, _) _ ⟨B4, F4, A4, ?_⟩
          have h6 : (qs_ t.1 (6 * kk + 6))[kk]? = some e := bf_get (6 * kk) 6 kk e he
          have := (List.getElem?_eq_some_iff.mp h6).1
          exact this
