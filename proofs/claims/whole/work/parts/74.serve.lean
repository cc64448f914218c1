-- ===== Evening: serve =====
def kE_ (s : Sg_) (m j : Nat) : Int32 := if j < 6 then ms_ s j else if j = 6 then nI m else if j = 7 then nI (pq_ (sg_pos s) 8) else match (sg_wi s)[j - 8]? with | some x => nI (mk_ x.1 x.2.1 x.2.2) | none => -1
theorem kE_note {s : Sg_} {m i : Nat} : kE_ s m (8 + i) = match (sg_wi s)[i]? with | some x => nI (mk_ x.1 x.2.1 x.2.2) | none => -1 := by
  unfold kE_
  rw [if_neg (by omega), if_neg (by omega), if_neg (by omega), Nat.add_sub_cancel_left]
theorem kE_same {s s2 : Sg_} {m m2 : Nat} (w : sg_wf s) (w2 : sg_wf s2) (hm : m ≤ 6) (hm2 : m2 ≤ 6) (h : ∀ j, j < 14 → kE_ s m j = kE_ s2 m2 j) : (∀ f, f < 6 → ms_ s f = ms_ s2 f) ∧ m = m2 ∧ sg_pos s = sg_pos s2 ∧ sg_wi s = sg_wi s2 := by
  have n1 := w.1.2
  have n2 := w2.1.2
  have l1 := wi_len w
  have l2 := wi_len w2
  have a := h 6 (by omega)
  have b := h 7 (by omega)
  have em : m = m2 := nI_inj (by omega) (by omega) a
  refine ⟨fun f hf => ?_, em, ?_, ?_⟩
  · have := h f (by omega)
    unfold kE_ at this
    rw [if_pos hf, if_pos hf] at this
    exact this
  · have p1 := pq_lt24 (sg_pos8 w)
    have p2 := pq_lt24 (sg_pos8 w2)
    have e := pq_inj (sg_pos8 w) (sg_pos8 w2) (nI_inj (by omega) (by omega) b)
    funext p
    rcases Nat.lt_or_ge p 8 with q | q
    · exact e p q
    · rw [w.2.1.2.2 p (by omega), w2.2.1.2.2 p (by omega)]
  · refine List.ext_getElem? (fun i => ?_)
    rcases Nat.lt_or_ge i 6 with z | z
    · have e := h (8 + i) (by omega)
      rw [kE_note, kE_note] at e
      cases e1 : (sg_wi s)[i]? with
      | none =>
        cases e2 : (sg_wi s2)[i]? with
        | none => rfl
        | some x2 =>
          rw [e1, e2] at e
          have b2 := w2.2.2.2.2.2.2.2.2.2.2.2.2 _ (List.mem_of_getElem? e2)
          have : (-1 : Int32) = nI (mk_ x2.1 x2.2.1 x2.2.2) := e
          exact absurd this.symm (nI_ne_m1 (by unfold mk_; omega))
      | some x1 =>
        have b1 := w.2.2.2.2.2.2.2.2.2.2.2.2 _ (List.mem_of_getElem? e1)
        cases e2 : (sg_wi s2)[i]? with
        | none =>
          rw [e1, e2] at e
          have : nI (mk_ x1.1 x1.2.1 x1.2.2) = (-1 : Int32) := e
          exact absurd this (nI_ne_m1 (by unfold mk_; omega))
        | some x2 =>
          have b2 := w2.2.2.2.2.2.2.2.2.2.2.2.2 _ (List.mem_of_getElem? e2)
          rw [e1, e2] at e
          have e3 : nI (mk_ x1.1 x1.2.1 x1.2.2) = nI (mk_ x2.1 x2.2.1 x2.2.2) := e
          have e4 := mk_inj (by omega) (by omega) (by omega) (by omega) (nI_inj (by unfold mk_; omega) (by unfold mk_; omega) e3)
          obtain ⟨p1, p2, p3⟩ := x1
          obtain ⟨q1, q2, q3⟩ := x2
          obtain ⟨rfl, rfl, rfl⟩ : p1 = q1 ∧ p2 = q2 ∧ p3 = q3 := e4
          rfl
    · rw [List.getElem?_eq_none (by omega), List.getElem?_eq_none (by omega)]
/-- two states that are alike for an evening -/
def ae_ (s s2 : Sg_) : Prop := (∀ f, f < 6 → may_ s f = may_ s2 f ∧ (may_ s f = true → mv_ s f = mv_ s2 f)) ∧ sg_pos s = sg_pos s2 ∧ sg_wi s = sg_wi s2
theorem ae_sym {s s2 : Sg_} (A : ae_ s s2) : ae_ s2 s := ⟨fun f hf => ⟨(A.1 f hf).1.symm, fun k => ((A.1 f hf).2 (by rw [(A.1 f hf).1]; exact k)).symm⟩, A.2.1.symm, A.2.2.symm⟩
theorem ae_wi {s s2 : Sg_} (A : ae_ s s2) (k : Nat) : wi_ s k = wi_ s2 k := by unfold wi_; rw [A.2.2]
theorem ae_hk {s s2 : Sg_} (A : ae_ s s2) (u : Nat → Nat) : ∀ k, hk_ s u k = hk_ s2 u k
  | 0 => rfl
  | k + 1 => by rw [hk_nx, hk_nx, ae_hk A u k, ae_wi A k]
theorem ae_hb {s s2 : Sg_} (A : ae_ s s2) (u : Nat → Nat) : hb_ s u = hb_ s2 u := by
  unfold hb_
  rw [ae_hk A u, A.2.2]
theorem ae_wk {s s2 : Sg_} (A : ae_ s s2) (b : Nat) : ∀ k, wk_ s b k = wk_ s2 b k
  | 0 => rfl
  | k + 1 => by rw [wk_nx, wk_nx, ae_wk A b k, ae_wi A k]
theorem ae_hr {s s2 : Sg_} (A : ae_ s s2) : ∀ (r : List Nat) (p : Nat → Nat) (b : Nat), wok_ (may_ s) r → hr_ s p b r = hr_ s2 p b r
  | [], _, _, _ => rfl
  | f :: r, p, b, h => by
    obtain ⟨h1, h2⟩ := h f List.mem_cons_self
    show hr_ s (fun g => mv_ s f (p g)) (b ||| hb_ s (fun g => mv_ s f (p g))) r = hr_ s2 (fun g => mv_ s2 f (p g)) (b ||| hb_ s2 (fun g => mv_ s2 f (p g))) r
    rw [(A.1 f h1).2 h2, ae_hb A]
    exact ae_hr A r _ _ (fun g hg => h g (List.mem_cons_of_mem _ hg))
theorem ae_wo {s s2 : Sg_} (A : ae_ s s2) {r : List Nat} (h : wok_ (may_ s) r) : wo_ s r = wo_ s2 r := by
  unfold wo_
  rw [ae_hr A r _ _ h, ae_wk A, A.2.1, A.2.2, ae_hb A]
theorem ae_RW {s s2 : Sg_} (A : ae_ s s2) {m : Nat} (r : List Nat) : RW_ s m r ↔ RW_ s2 m r := and_congr Iff.rfl (wok_cong (fun f hf => (A.1 f hf).1) r)
theorem ae_SV {s s2 : Sg_} (A : ae_ s s2) {m : Nat} {o : Option (Nat × List Nat)} (h : SV_ s m o) : SV_ s2 m o := by
  cases o with
  | none => exact fun r hr => h r ((ae_RW A r).mpr hr)
  | some e =>
    obtain ⟨b, r⟩ := e
    obtain ⟨h1, h2, h3⟩ := h
    refine ⟨(ae_RW A r).mp h1, by rw [← ae_wo A h1.2]; exact h2, fun r2 hr2 => ?_⟩
    have k := (ae_RW A r2).mpr hr2
    rw [← ae_wo A k.2]
    exact h3 r2 k
/-- what an evening has found -/
def EO_ (h : Hp_) (s : Sg_) (m : Nat) : Prop := (hp_I h 59 5 = -1 ∧ SV_ s m none) ∨ ∃ (b : Nat) (r : List Nat), b ≤ 594 ∧ SV_ s m (some (b, r)) ∧ hp_I h 59 5 = nI b ∧ hp_I h 59 6 = nI (pq_ (fun i => r.getD i 0) 8)
theorem EO_ae {h h2 : Hp_} {s s2 : Sg_} {m : Nat} (A : ae_ s s2) (e : hp_I h2 59 = hp_I h 59) (O : EO_ h s m) : EO_ h2 s2 m := by
  unfold EO_ at O ⊢
  rw [e]
  rcases O with ⟨a, b⟩ | ⟨b, r, a1, a2, a3, a4⟩
  · exact Or.inl ⟨a, ae_SV A b⟩
  · exact Or.inr ⟨b, r, a1, ae_SV A a2, a3, a4⟩
theorem EO_of {h : Hp_} {s : Sg_} {m : Nat} (w : sg_wf s) (T : TB_ h s m (fun r => False ∨ [] <+: r)) : EO_ h s m := by
  rcases T with ⟨a, b⟩ | ⟨r, a1, _, a3, a4, a5⟩
  · exact Or.inl ⟨a, fun r hr => b r hr (Or.inr (List.nil_prefix))⟩
  · exact Or.inr ⟨wo_ s r, r, wo_le w r, ⟨a1, rfl, fun r2 h2 => a5 r2 h2 (Or.inr List.nil_prefix)⟩, a3, a4⟩
def EH_ (h : Hp_) (P : Nat → Int32) (st : Bool) : Prop := MM_ h 60 P st ∧ (st = true → ∃ (s : Sg_) (m : Nat), sg_wf s ∧ m ≤ 6 ∧ (∀ j, j < 14 → P j = kE_ s m j) ∧ EO_ h s m)
theorem EP_put {h h2 : Hp_} {k : Nat} {x : Int32} (e : h2 = hp_rI h 59 (va_up (hp_I h 59) k x)) : fz_ (fun v => v = 59) h h2 ∧ hp_I h2 59 k = x ∧ ∀ j, j ≠ k → hp_I h2 59 j = hp_I h 59 j := by
  refine ⟨by rw [e]; exact fz_rI (P := fun v => v = 59) (fz_refl _ _) rfl _, ?_, fun j hj => ?_⟩
  · rw [e, sd_rI_eq, vu_at, if_pos rfl]
  · rw [e, sd_rI_eq, vu_at, if_neg hj]
theorem Evening_worthAll_ok {h : Hp_} {s : Sg_} (S : S_Even h) (w : sg_wf s) (N : NS_ h 63 (sg_wi s)) : cI 4 mn_Evening_worth [.ref 59, .int (-1)] h (fun x h' => x = nI (aw_ s) ∧ h' = h) := by
  have k := Evening_worth_ok (b := 4294967295) S w N (by decide)
  rw [show nI 4294967295 = (-1 : Int32) by decide] at k
  exact k
set_option maxRecDepth 4000 in
set_option maxHeartbeats 4000000 in
theorem Evening_serve_ok {h : Hp_} {P : Nat → Int32} {st : Bool} {s : Sg_} {m : Nat} (S : S_Even h) (H : EH_ h P st) (Mk : S_Market h 4) (M : MK_ h 4 s) (w : sg_wf s) (hm : m ≤ 6) (hM : hp_kd h 31 = 1 ∧ hp_ln h 31 = 6) (hr : ∀ f, f < 6 → hp_I h 31 f = ms_ s f) : cV 14 mn_Evening_serve [.ref 59, .ref 4, .ref 31, .int (nI m)] h (fun h' => ∃ P2, EH_ h' P2 true ∧ EO_ h' s m ∧ fz_ (fun v => 59 ≤ v ∧ v ≤ 64) h h') := by
  have n8 := w.1.2
  have hl := wi_len w
  refine cq_in (q := mi_Evening_serve) (L := [some (.ref 59), some (.ref 4), some (.ref 31), some (.int (nI m))]) rfl (Nat.le_of_ble_eq_true rfl) rfl ?_
  show wq _ tb_Evening_serve none 0 _ _ _ _
  refine wp_aload0 rfl ?_
  refine wp_getR rfl (Even_kd S) (Even_R0 S) (by first | decide | omega) ?_
  refine wp_callV0V rfl (Nat.le_of_ble_eq_true rfl) (Memo_kd (Even_s0 S)) (Memo_begin_ok (Even_s0 S)) (Nat.le_of_ble_eq_true rfl) ?_
  intro h2 e2
  rw [mm_begin H.1] at e2
  subst e2
  refine wp_aload0 rfl ?_
  refine wp_getR rfl (Even_kd S) (Even_R0 S) (by first | decide | omega) ?_
  refine wp_aload2 rfl ?_
  refine wp_callV1V rfl (Nat.le_of_ble_eq_true rfl) (Memo_kd (Even_s0 S)) (Memo_partsOfRow_ok (m := 6) (Even_s0 S) hM.1 (by decide) hM.2 (by decide) (by decide) (by decide)) (Nat.le_of_ble_eq_true rfl) ?_
  intro h2 e2
  obtain ⟨P1, g1, e3, Q1⟩ : ∃ P1 g1, h2 = mm_ h 60 P1 6 g1 ∧ MQ_ P st (kE_ s m) 6 P1 g1 := ⟨_, _, e2, MQ_row (c := 0) (m := 6) (fun i hi => by rw [Nat.zero_add, hr i hi]; exact if_pos hi) (MQ_0 P st (kE_ s m))⟩
  subst e3
  clear e2
  refine wp_aload0 rfl ?_
  refine wp_getR rfl (Even_kd S) (Even_R0 S) (by first | decide | omega) ?_
  refine wp_iload3 rfl ?_
  refine wp_callV1V rfl (Nat.le_of_ble_eq_true rfl) (Memo_kd (Even_s0 S)) (Memo_part_ok (c := 6) (Even_s0 S) (by decide)) (Nat.le_of_ble_eq_true rfl) ?_
  intro h2 e2
  obtain ⟨P2, g2, e3, Q2⟩ : ∃ P2 g2, h2 = mm_ h 60 P2 7 g2 ∧ MQ_ P st (kE_ s m) 7 P2 g2 := ⟨_, _, e2, MQ_part (c := 6) rfl Q1⟩
  subst e3
  clear e2
  refine wp_aload0 rfl ?_
  refine wp_getR rfl (Even_kd S) (Even_R0 S) (by first | decide | omega) ?_
  refine wp_aload1 rfl ?_
  refine wp_getIE rfl (Market_kd Mk) (show _ = nI (pq_ (sg_pos s) 8) from by rw [mm_ne (by decide) (by decide)]; exact M.1.2.1) ?_
  refine wp_callV1V rfl (Nat.le_of_ble_eq_true rfl) (Memo_kd (Even_s0 S)) (Memo_part_ok (c := 7) (Even_s0 S) (by decide)) (Nat.le_of_ble_eq_true rfl) ?_
  intro h2 e2
  obtain ⟨P3, g3, e3, Q3⟩ : ∃ P3 g3, h2 = mm_ h 60 P3 8 g3 ∧ MQ_ P st (kE_ s m) 8 P3 g3 := ⟨_, _, e2, MQ_part (c := 7) rfl Q2⟩
  subst e3
  clear e2
  refine wp_aload0 rfl ?_
  refine wp_getR rfl (Even_kd S) (Even_R0 S) (by first | decide | omega) ?_
  refine wp_aload1 rfl ?_
  refine wp_getR rfl (Market_kd Mk) (Market_R10 Mk) (by first | decide | omega) ?_
  refine wp_callV1V rfl (Nat.le_of_ble_eq_true rfl) (Memo_kd (Even_s0 S)) (Memo_partsOfNotes_ok (c := 8) (n := (sg_wi s).length) (Even_s0 S) (Market_s10 Mk) M.2.2.2.2.2.2.1 hl (by decide) (by decide)) (Nat.le_of_ble_eq_true rfl) ?_
  intro h2 e2
  obtain ⟨P5, g5, e3, Q5⟩ : ∃ P5 g5, h2 = mm_ h 60 P5 14 g5 ∧ MQ_ P st (kE_ s m) 14 P5 g5 := ⟨_, _, e2, MQ_row (c := 8) (m := 6) (fun i hi => by
    rw [kE_note]
    by_cases z : i < (sg_wi s).length
    · rw [if_pos z, M.2.2.2.2.2.2.2 i _ (List.getElem?_eq_getElem z), List.getElem?_eq_getElem z]
    · rw [if_neg z, List.getElem?_eq_none (by omega)]) Q3⟩
  subst e3
  clear e2
  refine wp_aload0 rfl ?_
  refine wp_getR rfl (Even_kd S) (Even_R0 S) (by first | decide | omega) ?_
  refine wp_callV0I rfl (Nat.le_of_ble_eq_true rfl) (Memo_kd (Even_s0 S)) (Memo_endsStale_ok (Even_s0 S)) (Nat.le_of_ble_eq_true rfl) ?_
  refine pure_ ?_
  have z2 := mm_fz h 60 P5 14 true
  have MM2 := mm_MM h 60 P5 14 true
  have y2 : fz_ (fun v => 59 ≤ v ∧ v ≤ 64) h (mm_ h 60 P5 14 true) := fz_mono (fun v hv => by omega) z2
  refine wp_if_eqB rfl (fun c1 => ?_) (fun c1 => ?_)
  · skip
    have c2 : g5 = true := by cases g5; cases c1; rfl
    obtain ⟨r1, r2⟩ := Q5.2.2 c2
    obtain ⟨s1, m1, w1, hm1, k1, R1⟩ := H.2 r1
    obtain ⟨e1, em, ep, ew⟩ := kE_same w1 w hm1 hm (fun j hj => by rw [← k1 j hj, r2 j hj])
    subst em
    have EO2 : EO_ (mm_ h 60 P5 14 true) s m1 := EO_ae ⟨fun f hf => ms_same w1 w e1 hf, ep, ew⟩ (mm_ne (by decide) (by decide)) R1
    exact wp_vret rfl ⟨rfl, P5, ⟨MM2, fun _ => ⟨s, m1, w, hm, Q5.1, EO2⟩⟩, EO2, y2⟩
  · skip
    generalize hh : mm_ h 60 P5 14 true = hk at z2 MM2 y2
    have S2 := Even_fz S z2
    have Mk2 : S_Market hk 4 := by unfold S_Market S_Notes at Mk ⊢; rw [fz_kd z2, fz_ln z2, fz_R z2]; exact Mk
    have hM2 : hp_kd hk 31 = 1 ∧ hp_ln hk 31 = 6 := by rw [fz_kd z2, fz_ln z2]; exact hM
    refine wp_aload0 rfl ?_
    refine wp_aload2 rfl ?_
    refine wp_callV1V rfl (Nat.le_of_ble_eq_true rfl) (Even_kd S2) (Evening_takeMoves_ok S2 w hM2 (fun f hf => by rw [fz_I z2 (by omega)]; exact hr f hf)) (Nat.le_of_ble_eq_true rfl) ?_
    intro h3 ⟨z3, K3⟩
    have S3 := Even_fz S2 z3
    have Mk3 : S_Market h3 4 := by unfold S_Market S_Notes at Mk2 ⊢; rw [fz_kd z3, fz_ln z3, fz_R z3]; exact Mk2
    have i3 : ∀ v, v < 59 → hp_I h3 v = hp_I h v := fun v hv => by rw [fz_I z3 (by omega), fz_I z2 (by omega)]
    refine wp_aload0 rfl ?_
    refine wp_getR rfl (Even_kd S3) (Even_R2 S3) (by first | decide | omega) ?_
    refine wp_aload1 rfl ?_
    refine wp_getR rfl (Market_kd Mk3) (Market_R10 Mk3) (by first | decide | omega) ?_
    refine wp_callV1V rfl (Nat.le_of_ble_eq_true rfl) (Notes_kd (Even_s2 S3)) (Notes_take_ok (Even_s2 S3) (Market_s10 Mk3) (by decide)) (Nat.le_of_ble_eq_true rfl) ?_
    intro h4 e4
    have z4 : fz_ (fun v => v = 63 ∨ v = 64) h3 h4 := by rw [e4]; exact fz_rI (P := fun v => v = 63 ∨ v = 64) (fz_rI (P := fun v => v = 63 ∨ v = 64) (fz_refl _ _) (Or.inr rfl) _) (Or.inl rfl) _
    have N4 : NS_ h4 63 (sg_wi s) := by
      refine ⟨?_, fun i q hi => ?_⟩
      · rw [e4, sd_rI_eq, vu_at, if_pos rfl]
        show hp_I h3 11 1 = _
        rw [i3 11 (by decide)]
        exact M.2.2.2.2.2.2.1
      · have hil := (List.getElem?_eq_some_iff.mp hi).1
        show hp_I h4 64 i = _
        rw [e4, sd_rI_ne (by decide), sd_rI_eq, if_pos (by omega)]
        show hp_I h3 12 i = _
        rw [i3 12 (by decide)]
        exact M.2.2.2.2.2.2.2 i q hi
    clear e4
    have S4 := Even_fz S3 z4
    have Mk4 : S_Market h4 4 := by unfold S_Market S_Notes at Mk3 ⊢; rw [fz_kd z4, fz_ln z4, fz_R z4]; exact Mk3
    refine wp_aload0 rfl ?_
    refine wp_aload0 rfl ?_
    refine wp_iconst rfl ?_
    refine wp_callV1I rfl (Nat.le_of_ble_eq_true rfl) (Even_kd S4) (Evening_worthAll_ok S4 w N4) (Nat.le_of_ble_eq_true rfl) ?_
    refine pure_ ?_
    refine wp_putI rfl (Even_kd S4) ?_
    refine wq_gen (fun h5 e5 => ?_)
    obtain ⟨z5, a5, b5⟩ := EP_put e5
    clear e5
    have S5 := Even_fz S4 z5
    refine wp_aload0 rfl ?_
    refine wp_iload3 rfl ?_
    refine wp_putI rfl (Even_kd S5) ?_
    refine wq_gen (fun h6 e6 => ?_)
    obtain ⟨z6, a6, b6⟩ := EP_put e6
    clear e6
    have S6 := Even_fz S5 z6
    refine wp_aload0 rfl ?_
    refine wp_iconst rfl ?_
    refine wp_putI rfl (Even_kd S6) ?_
    refine wq_gen (fun h7 e7 => ?_)
    obtain ⟨z7, a7, b7⟩ := EP_put e7
    clear e7
    have S7 := Even_fz S6 z7
    refine wp_aload0 rfl ?_
    refine wp_iconst rfl ?_
    refine wp_putI rfl (Even_kd S7) ?_
    refine wq_gen (fun h8 e8 => ?_)
    obtain ⟨z8, a8, b8⟩ := EP_put e8
    clear e8
    have S8 := Even_fz S7 z8
    have y8 : fz_ (fun v => v = 59) h4 h8 := fz_trans (fz_trans (fz_trans z5 z6) z7) z8
    have Mk8 : S_Market h8 4 := by unfold S_Market S_Notes at Mk4 ⊢; rw [fz_kd y8, fz_ln y8, fz_R y8]; exact Mk4
    have st8 : hp_I h8 4 1 = nI (pq_ (sg_pos s) 8) := by
      rw [fz_I y8 (by omega), fz_I z4 (by omega), i3 4 (by decide)]
      exact M.1.2.1
    have C8 : EC_ h8 s m := by
      refine ⟨?_, ?_, ?_, fun f hf => ?_⟩
      · unfold NS_ at N4 ⊢
        rw [fz_I y8 (show ¬ (63 : Nat) = 59 by decide), show 63 + 1 = 64 from rfl, fz_I y8 (show ¬ (64 : Nat) = 59 by decide)]
        exact N4
      · rw [b8 3 (by decide), b7 3 (by decide), a6]
      · rw [b8 4 (by decide), b7 4 (by decide), b6 4 (by decide), a5]
      · rw [fz_I y8 (by omega), fz_I z4 (by omega)]; exact K3 f hf
    have T8 : TB_ h8 s m (fun _ => False) := Or.inl ⟨by rw [b8 5 (by decide), a7], fun r _ k => k⟩
    have key : cV 12 mn_Evening_tryRows [.ref 59, .int (nI 0), .int (nI (pq_ (sg_pos s) 8)), .int (nI 0), .int (nI 0)] h8 (fun h' => EF_ h8 h' ∧ TB_ h' s m (fun r => False ∨ [] <+: r)) := cq_deeper (show m + 6 ≤ 12 by omega) (Evening_tryRows_ok w hm m [] (Nat.zero_add m) (b0 := 0) (V := fun _ => False) S8 C8 (wok_nil _) (Nat.zero_or _) T8 (fun _ _ _ _ k => k.elim))
    refine wp_aload0 rfl ?_
    refine wp_iconst rfl ?_
    refine wp_aload1 rfl ?_
    refine wp_getIE rfl (Market_kd Mk8) (show _ = nI (pq_ (sg_pos s) 8) from st8) ?_
    refine wp_iconst rfl ?_
    refine wp_iconst rfl ?_
    refine wp_callS5V rfl (Nat.le_of_ble_eq_true rfl) (key) (Nat.le_of_ble_eq_true rfl) ?_
    intro h9 ⟨F9, T9⟩
    have EO9 := EO_of w T9
    have y9 : fz_ (fun v => 59 ≤ v ∧ v ≤ 64) h h9 := fz_trans (fz_trans (fz_trans y2 (fz_mono (fun v hv => by omega) z3)) (fz_mono (fun v hv => by omega) z4)) (fz_mono (fun v hv => by omega) (fz_trans y8 F9.1))
    have M9 : MM_ h9 60 P5 true := MM_cg MM2 (by rw [fz_I F9.1 (by omega), fz_I y8 (by omega), fz_I z4 (by omega), fz_I z3 (by omega)]) (by rw [fz_I F9.1 (by omega), fz_I y8 (by omega), fz_I z4 (by omega), fz_I z3 (by omega)])
    exact wp_vret rfl ⟨rfl, P5, ⟨M9, fun _ => ⟨s, m, w, hm, Q5.1, EO9⟩⟩, EO9, y9⟩
