-- ===== the reference: images =====
def lf_ : Nat → Nat
  | 0 => 0
  | 1 => 4
  | 2 => 5
  | 3 => 6
  | 4 => 12
  | _ => 16
def lw_c : Nat → Nat
  | 0 => 69
  | 1 => 71
  | 2 => 72
  | 3 => 73
  | 4 => 74
  | 5 => 75
  | _ => 76
/-- where the j-th number of an image stands -/
def lc_ (j : Nat) : Nat × Nat := if j < 6 then (65, lf_ j) else if j < 8 then (70, j - 6) else if j < 56 then (66, j - 8) else if j < 72 then (if (j - 56) % 2 = 0 then (67, (j - 56) / 2) else (68, (j - 56) / 2)) else (lw_c ((j - 72) % 7), (j - 72) / 7)
theorem lc_inj : ∀ i, i < 114 → ∀ j, j < 114 → lc_ i = lc_ j → i = j := by decide +kernel
theorem lc_in : ∀ j, j < 114 → 65 ≤ (lc_ j).1 ∧ (lc_ j).1 ≤ 76 ∧ ((lc_ j).1 = 65 → (lc_ j).2 = 0 ∨ (lc_ j).2 = 4 ∨ (lc_ j).2 = 5 ∨ (lc_ j).2 = 6 ∨ (lc_ j).2 = 12 ∨ (lc_ j).2 = 16) := by decide +kernel
theorem lc_told {k : Nat} (hk : k < 48) : lc_ (8 + k) = (66, k) := by
  unfold lc_
  rw [if_neg (by omega), if_neg (by omega), if_pos (by omega), Nat.add_sub_cancel_left]
theorem lc_good {p : Nat} (hp : p < 8) : lc_ (56 + 2 * p) = (67, p) := by
  unfold lc_
  rw [if_neg (by omega), if_neg (by omega), if_neg (by omega), if_pos (by omega), if_pos (by omega)]
  exact congrArg (fun z => (67, z)) (by omega)
theorem lc_want {p : Nat} (hp : p < 8) : lc_ (57 + 2 * p) = (68, p) := by
  unfold lc_
  rw [if_neg (by omega), if_neg (by omega), if_neg (by omega), if_pos (by omega), if_neg (by omega)]
  exact congrArg (fun z => (68, z)) (by omega)
theorem lc_last {f r : Nat} (hf : f < 6) (hr : r < 7) : lc_ (72 + r + 7 * f) = (lw_c r, f) := by
  unfold lc_
  rw [if_neg (by omega), if_neg (by omega), if_neg (by omega), if_neg (by omega), show (72 + r + 7 * f - 72) % 7 = r by omega, show (72 + r + 7 * f - 72) / 7 = f by omega]
theorem lc_call {c : Nat} (hc : c < 2) : lc_ (6 + c) = (70, c) := by
  unfold lc_
  rw [if_neg (by omega), if_pos (by omega), Nat.add_sub_cancel_left]
theorem MV_cong {v v2 : Nat → Int32} {s : Sg_} (w : sg_wf s) (e : ∀ j, j < 114 → v2 j = v j) (M : MV_ v s) : MV_ v2 s := by
  obtain ⟨⟨a1, a2, a3, a4, a5, a6⟩, b1, b2, b3, b4, b5, b6, b7⟩ := M
  refine ⟨⟨by rw [e 0 (by omega)]; exact a1, by rw [e 1 (by omega)]; exact a2, by rw [e 2 (by omega)]; exact a3, by rw [e 3 (by omega)]; exact a4, by rw [e 4 (by omega)]; exact a5, by rw [e 5 (by omega)]; exact a6⟩, ?_, ?_, ?_, ?_, ?_, ?_, ?_⟩
  · intro f p hf hp; rw [e _ (by omega)]; exact b1 f p hf hp
  · intro p hp; rw [e _ (by omega)]; exact b2 p hp
  · intro p hp; rw [e _ (by omega)]; exact b3 p hp
  · intro p hp; rw [e _ (by omega)]; exact b4 p hp
  · intro p hp; rw [e _ (by omega)]; exact b5 p hp
  · intro i q hq
    have hi : i < 6 := Nat.lt_of_lt_of_le (List.getElem?_eq_some_iff.mp hq).1 (si_len w)
    rw [e _ (by omega), e _ (by omega), e _ (by omega)]; exact b6 i q hq
  · intro i q hq
    have hi : i < 6 := Nat.lt_of_lt_of_le (List.getElem?_eq_some_iff.mp hq).1 (wi_len w)
    rw [e _ (by omega), e _ (by omega), e _ (by omega)]; exact b7 i q hq
theorem MV_MR {h : Hp_} {s : Sg_} (w : sg_wf s) : MV_ (fun j => hp_I h (lc_ j).1 (lc_ j).2) s ↔ MR_ h s := by
  have e1 : ∀ f p, f < 6 → p < 8 → lc_ (8 + (8 * f + p)) = (66, 8 * f + p) := fun f p hf hp => lc_told (by omega)
  have l : ∀ i r, i < 6 → r < 7 → lc_ (72 + r + 7 * i) = (lw_c r, i) := fun i r h1 h2 => lc_last h1 h2
  constructor
  · rintro ⟨a, b1, b2, b3, b4, b5, b6, b7⟩
    refine ⟨a, fun f p hf hp => ?_, fun p hp => ?_, fun p hp => ?_, fun f hf => ?_, fun c hc => ?_, fun i q hq => ?_, fun i q hq => ?_⟩
    · have := b1 f p hf hp; dsimp only at this; rw [e1 f p hf hp] at this; exact this
    · have := b2 p hp; dsimp only at this; rw [lc_good hp] at this; exact this
    · have := b3 p hp; dsimp only at this; rw [lc_want hp] at this; exact this
    · have := b4 f hf; dsimp only at this; rw [l f 0 hf (by omega)] at this; exact this
    · have := b5 c hc; dsimp only at this; rw [lc_call hc] at this; exact this
    · have hi : i < 6 := Nat.lt_of_lt_of_le (List.getElem?_eq_some_iff.mp hq).1 (si_len w)
      have := b6 i q hq; dsimp only at this; rw [l i 1 hi (by omega), l i 2 hi (by omega), l i 3 hi (by omega)] at this; exact this
    · have hi : i < 6 := Nat.lt_of_lt_of_le (List.getElem?_eq_some_iff.mp hq).1 (wi_len w)
      have := b7 i q hq; dsimp only at this; rw [l i 6 hi (by omega), l i 4 hi (by omega), l i 5 hi (by omega)] at this; exact this
  · rintro ⟨a, b1, b2, b3, b4, b5, b6, b7⟩
    refine ⟨a, fun f p hf hp => ?_, fun p hp => ?_, fun p hp => ?_, fun f hf => ?_, fun c hc => ?_, fun i q hq => ?_, fun i q hq => ?_⟩
    · have := b1 f p hf hp; dsimp only; rw [e1 f p hf hp]; exact this
    · have := b2 p hp; dsimp only; rw [lc_good hp]; exact this
    · have := b3 p hp; dsimp only; rw [lc_want hp]; exact this
    · have := b4 f hf; dsimp only; rw [l f 0 hf (by omega)]; exact this
    · have := b5 c hc; dsimp only; rw [lc_call hc]; exact this
    · have hi : i < 6 := Nat.lt_of_lt_of_le (List.getElem?_eq_some_iff.mp hq).1 (si_len w)
      have := b6 i q hq; dsimp only; rw [l i 1 hi (by omega), l i 2 hi (by omega), l i 3 hi (by omega)]; exact this
    · have hi : i < 6 := Nat.lt_of_lt_of_le (List.getElem?_eq_some_iff.mp hq).1 (wi_len w)
      have := b7 i q hq; dsimp only; rw [l i 6 hi (by omega), l i 4 hi (by omega), l i 5 hi (by omega)]; exact this
/-- a numbers have been passed -/
def PA_ (h h1 : Hp_) (b : Nat) (w : Bool) (a : Nat) : Prop := S_Ref h1 ∧ fz_ (fun c => (65 ≤ c ∧ c ≤ 76) ∨ c = 92) h h1 ∧ hp_I h1 65 39 = nI (b + a) ∧ hp_I h1 65 40 = bo_ w ∧ (∀ j, j < 114 → hp_I h1 (lc_ j).1 (lc_ j).2 = if j < a then (if w then hp_I h (lc_ j).1 (lc_ j).2 else hp_I h 92 (b + j)) else hp_I h (lc_ j).1 (lc_ j).2) ∧ (∀ j, hp_I h1 92 j = if b ≤ j ∧ j < b + a then (if w then hp_I h (lc_ (j - b)).1 (lc_ (j - b)).2 else hp_I h 92 j) else hp_I h 92 j) ∧ hp_I h1 65 18 = hp_I h 65 18
theorem PA_.k {h h1 : Hp_} {b a : Nat} {w : Bool} (P : PA_ h h1 b w a) : hp_I h1 65 39 = nI (b + a) := P.2.2.1
theorem PA_.w {h h1 : Hp_} {b a : Nat} {w : Bool} (P : PA_ h h1 b w a) : hp_I h1 65 40 = bo_ w := P.2.2.2.1
theorem wq_PA {d pc b a : Nat} {w : Bool} {tab : Tab_} {sc : Sc_} {L : Lc_} {st : List Value} {h h1 : Hp_} {Q : Option Value → Hp_ → Prop} (P : PA_ h h1 b w a) (k : ∀ h', PA_ h h' b w a → wq d tab sc pc L st h' Q) : wq d tab sc pc L st h1 Q := k h1 P
theorem Ref_pass_ok {h : Hp_} {k : Nat} {w : Bool} {v : Int32} (S : S_Ref h) (hk : hp_I h 65 39 = nI k) (hw : hp_I h 65 40 = bo_ w) (hb : k < 320) : cI 1 mn_Ref_pass [.ref 65, .int v] h (fun x h' => x = (if w then v else hp_I h 92 k) ∧ h' = hp_rI (hp_rI h 92 (va_up (hp_I h 92) k x)) 65 (va_up (hp_I h 65) 39 (nI (k + 1)))) := by
  refine cq_in (q := mi_Ref_pass) (L := [some (.ref 65), some (.int v), none]) rfl (Nat.le_of_ble_eq_true rfl) rfl ?_
  show wq _ tb_Ref_pass none 0 _ _ _ _

  refine wp_aload0 rfl ?_
  refine wp_getZE rfl (Ref_kd S) (show _ = bo_ w from hw) ?_
  refine wp_if_eqB rfl (fun c1 => ?_) (fun c1 => ?_)
  · skip
    refine wp_aload0 rfl ?_
    refine wp_getR rfl (Ref_kd S) (Ref_R37 S) (by first | decide | omega) ?_
    refine wp_aload0 rfl ?_
    refine wp_getIE rfl (Ref_kd S) (show _ = nI k from hk) ?_
    refine wp_iald k rfl (Ref_k37 S) (by first | decide | omega) (Nat.lt_of_lt_of_eq (show k < _ by omega) (Eq.symm (Ref_n37 S))) (by omega) rfl ?_
    refine wp_istore2 rfl rfl ?_
    refine wp_aload0 rfl ?_
    refine wp_getR rfl (Ref_kd S) (Ref_R37 S) (by first | decide | omega) ?_
    refine wp_aload0 rfl ?_
    refine wp_getIE rfl (Ref_kd S) (show _ = nI k from hk) ?_
    refine wp_iload2 rfl ?_
    refine wp_iast k rfl (Ref_k37 S) (Nat.lt_of_lt_of_eq (show k < _ by omega) (Eq.symm (Ref_n37 S))) (by omega) rfl ?_
    refine wp_aload0 rfl ?_
    refine wp_dup rfl ?_
    refine wp_getIE rfl (Ref_kd S) (show _ = nI k from by rw [sd_rI_ne (by decide)]; exact hk) ?_
    refine wp_iconst rfl ?_
    refine wp_iaddE (nI (k + 1)) (nI_add _ _) rfl ?_
    refine wp_putI rfl (Ref_kd S) ?_
    refine wp_iload2 rfl ?_
    rw [sd_rI_ne (show (65 : Nat) ≠ 92 by decide)]
    exact wp_iret rfl ⟨_, rfl, by rw [c1]; rfl, rfl⟩
  · skip
    refine wp_iload1 rfl ?_
    refine wp_goto rfl ?_
    refine wp_istore2 rfl rfl ?_
    refine wp_aload0 rfl ?_
    refine wp_getR rfl (Ref_kd S) (Ref_R37 S) (by first | decide | omega) ?_
    refine wp_aload0 rfl ?_
    refine wp_getIE rfl (Ref_kd S) (show _ = nI k from hk) ?_
    refine wp_iload2 rfl ?_
    refine wp_iast k rfl (Ref_k37 S) (Nat.lt_of_lt_of_eq (show k < _ by omega) (Eq.symm (Ref_n37 S))) (by omega) rfl ?_
    refine wp_aload0 rfl ?_
    refine wp_dup rfl ?_
    refine wp_getIE rfl (Ref_kd S) (show _ = nI k from by rw [sd_rI_ne (by decide)]; exact hk) ?_
    refine wp_iconst rfl ?_
    refine wp_iaddE (nI (k + 1)) (nI_add _ _) rfl ?_
    refine wp_putI rfl (Ref_kd S) ?_
    refine wp_iload2 rfl ?_
    rw [sd_rI_ne (show (65 : Nat) ≠ 92 by decide)]
    exact wp_iret rfl ⟨_, rfl, by rw [c1]; rfl, rfl⟩
theorem PA_step {h h1 : Hp_} {b a c i : Nat} {w : Bool} {x : Int32} (ha : a < 114) (hlc : lc_ a = (c, i)) (P : PA_ h h1 b w a) (hx : x = if w then hp_I h1 c i else hp_I h1 92 (b + a)) : PA_ h (hp_rI (hp_rI (hp_rI h1 92 (va_up (hp_I h1 92) (b + a) x)) 65 (va_up (hp_I h1 65) 39 (nI (b + a + 1)))) c (va_up (hp_I (hp_rI (hp_rI h1 92 (va_up (hp_I h1 92) (b + a) x)) 65 (va_up (hp_I h1 65) 39 (nI (b + a + 1)))) c) i x)) b w (a + 1) := by
  obtain ⟨S, z, k, w1, s1, s2, p1⟩ := P
  have hin := lc_in a ha
  rw [hlc] at hin
  obtain ⟨i1, i2, i3⟩ := hin
  dsimp only at i1 i2 i3
  have hx2 : x = if w then hp_I h c i else hp_I h 92 (b + a) := by
    have e1 := s1 a ha
    rw [hlc, if_neg (Nat.lt_irrefl a)] at e1
    have e2 := s2 (b + a)
    rw [if_neg (by omega)] at e2
    rw [hx, e2]
    dsimp only at e1
    rw [e1]
  have cH : ∀ c2 i2 : Nat, hp_I (hp_rI (hp_rI h1 92 (va_up (hp_I h1 92) (b + a) x)) 65 (va_up (hp_I h1 65) 39 (nI (b + a + 1)))) c2 i2 = if c2 = 65 ∧ i2 = 39 then nI (b + a + 1) else if c2 = 92 ∧ i2 = b + a then x else hp_I h1 c2 i2 := by
    intro c2 i2
    rw [hI_rI]
    by_cases q3 : c2 = 65
    · rw [if_pos q3, vu_at]
      by_cases q4 : i2 = 39
      · rw [if_pos q4, if_pos ⟨q3, q4⟩]
      · rw [if_neg q4, if_neg (fun z => q4 z.2), if_neg (fun z => absurd z.1 (by omega)), q3]
    · rw [if_neg q3, if_neg (fun z => q3 z.1), hI_rI]
      by_cases q5 : c2 = 92
      · rw [if_pos q5, vu_at]
        by_cases q6 : i2 = b + a
        · rw [if_pos q6, if_pos ⟨q5, q6⟩]
        · rw [if_neg q6, if_neg (fun z => q6 z.2), q5]
      · rw [if_neg q5, if_neg (fun z => q5 z.1)]
  have cell : ∀ c2 i2 : Nat, hp_I (hp_rI (hp_rI (hp_rI h1 92 (va_up (hp_I h1 92) (b + a) x)) 65 (va_up (hp_I h1 65) 39 (nI (b + a + 1)))) c (va_up (hp_I (hp_rI (hp_rI h1 92 (va_up (hp_I h1 92) (b + a) x)) 65 (va_up (hp_I h1 65) 39 (nI (b + a + 1)))) c) i x)) c2 i2 = if c2 = c ∧ i2 = i then x else if c2 = 65 ∧ i2 = 39 then nI (b + a + 1) else if c2 = 92 ∧ i2 = b + a then x else hp_I h1 c2 i2 := by
    intro c2 i2
    rw [hI_rI]
    by_cases q1 : c2 = c
    · rw [if_pos q1, vu_at]
      by_cases q2 : i2 = i
      · rw [if_pos q2, if_pos ⟨q1, q2⟩]
      · rw [if_neg q2, if_neg (fun z => q2 z.2), cH, q1]
    · rw [if_neg q1, if_neg (fun z => q1 z.1), cH]
  refine ⟨S, fz_rI (fz_rI (fz_rI z (Or.inr rfl) _) (Or.inl (by omega)) _) (Or.inl ⟨i1, i2⟩) _, ?_, ?_, fun j hj => ?_, fun j => ?_, ?_⟩
  · rw [cell]
    rw [if_neg (fun y => by have := i3 y.1.symm; omega), if_pos ⟨rfl, rfl⟩]
    rfl
  · rw [cell, if_neg (fun y => by have := i3 y.1.symm; omega), if_neg (fun y => absurd y.2 (by decide)), if_neg (fun y => absurd y.1 (by decide))]
    exact w1
  · rw [cell]
    obtain ⟨j1, j2, j3⟩ := lc_in j hj
    by_cases q : j = a
    · rw [q, hlc, if_pos ⟨rfl, rfl⟩, if_pos (Nat.lt_succ_self a)]
      exact hx2
    · rw [if_neg (fun y => q (lc_inj j hj a ha (by rw [hlc, ← y.1, ← y.2]))), if_neg (fun y => by have := j3 y.1; omega), if_neg (fun y => by omega), s1 j hj]
      by_cases q2 : j < a
      · rw [if_pos q2, if_pos (show j < a + 1 by omega)]
      · rw [if_neg q2, if_neg (show ¬ j < a + 1 by omega)]
  · rw [cell, if_neg (fun y => by omega), if_neg (fun y => absurd y.1 (by decide))]
    by_cases q : j = b + a
    · rw [if_pos ⟨rfl, q⟩, if_pos (by omega), q, Nat.add_sub_cancel_left, hlc]
      exact hx2
    · rw [if_neg (fun y => q y.2), s2 j]
      by_cases q2 : b ≤ j ∧ j < b + a
      · rw [if_pos q2, if_pos (show b ≤ j ∧ j < b + (a + 1) by omega)]
      · rw [if_neg q2, if_neg (show ¬ (b ≤ j ∧ j < b + (a + 1)) by omega)]
  · rw [cell, if_neg (fun y => by have := i3 y.1.symm; omega), if_neg (fun y => absurd y.2 (by decide)), if_neg (fun y => absurd y.1 (by decide))]
    exact p1
set_option maxRecDepth 8000 in
theorem Ref_passAll_ok {h : Hp_} {b : Nat} {w : Bool} (S : S_Ref h) (hk : hp_I h 65 39 = nI b) (hw : hp_I h 65 40 = bo_ w) (hb : b + 114 ≤ 320) : cV 2 mn_Ref_passAll [.ref 65] h (fun h' => PA_ h h' b w 114) := by
  refine cq_in (q := mi_Ref_passAll) (L := [some (.ref 65), none]) rfl (Nat.le_of_ble_eq_true rfl) rfl ?_
  show wq _ tb_Ref_passAll none 0 _ _ _ _
  refine wq_PA (a := 0) (b := b) (w := w) (h := h) ⟨S, fz_refl _ _, hk, hw, fun j hj => by rw [if_neg (Nat.not_lt_zero j)], fun j => by rw [if_neg (by omega)], rfl⟩ (fun g0 P0 => ?_)
  refine wp_aload0 rfl ?_
  refine wp_aload0 rfl ?_
  refine wp_aload0 rfl ?_
  refine wp_getI rfl (Ref_kd P0.1) ?_
  refine wp_callV1I rfl (Nat.le_of_ble_eq_true rfl) (Ref_kd P0.1) (Ref_pass_ok P0.1 P0.k P0.w (by omega)) (Nat.le_of_ble_eq_true rfl) ?_
  rintro x0 _ ⟨hx0, rfl⟩
  refine wp_putI rfl (Ref_kd P0.1) ?_
  refine wq_PA (PA_step (by omega) (show lc_ 0 = _ from rfl) P0 hx0) (fun g1 P1 => ?_)
  refine wp_aload0 rfl ?_
  refine wp_aload0 rfl ?_
  refine wp_aload0 rfl ?_
  refine wp_getI rfl (Ref_kd P1.1) ?_
  refine wp_callV1I rfl (Nat.le_of_ble_eq_true rfl) (Ref_kd P1.1) (Ref_pass_ok P1.1 P1.k P1.w (by omega)) (Nat.le_of_ble_eq_true rfl) ?_
  rintro x1 _ ⟨hx1, rfl⟩
  refine wp_putI rfl (Ref_kd P1.1) ?_
  refine wq_PA (PA_step (by omega) (show lc_ 1 = _ from rfl) P1 hx1) (fun g2 P2 => ?_)
  refine wp_aload0 rfl ?_
  refine wp_aload0 rfl ?_
  refine wp_aload0 rfl ?_
  refine wp_getI rfl (Ref_kd P2.1) ?_
  refine wp_callV1I rfl (Nat.le_of_ble_eq_true rfl) (Ref_kd P2.1) (Ref_pass_ok P2.1 P2.k P2.w (by omega)) (Nat.le_of_ble_eq_true rfl) ?_
  rintro x2 _ ⟨hx2, rfl⟩
  refine wp_putI rfl (Ref_kd P2.1) ?_
  refine wq_PA (PA_step (by omega) (show lc_ 2 = _ from rfl) P2 hx2) (fun g3 P3 => ?_)
  refine wp_aload0 rfl ?_
  refine wp_aload0 rfl ?_
  refine wp_aload0 rfl ?_
  refine wp_getI rfl (Ref_kd P3.1) ?_
  refine wp_callV1I rfl (Nat.le_of_ble_eq_true rfl) (Ref_kd P3.1) (Ref_pass_ok P3.1 P3.k P3.w (by omega)) (Nat.le_of_ble_eq_true rfl) ?_
  rintro x3 _ ⟨hx3, rfl⟩
  refine wp_putI rfl (Ref_kd P3.1) ?_
  refine wq_PA (PA_step (by omega) (show lc_ 3 = _ from rfl) P3 hx3) (fun g4 P4 => ?_)
  refine wp_aload0 rfl ?_
  refine wp_aload0 rfl ?_
  refine wp_aload0 rfl ?_
  refine wp_getI rfl (Ref_kd P4.1) ?_
  refine wp_callV1I rfl (Nat.le_of_ble_eq_true rfl) (Ref_kd P4.1) (Ref_pass_ok P4.1 P4.k P4.w (by omega)) (Nat.le_of_ble_eq_true rfl) ?_
  rintro x4 _ ⟨hx4, rfl⟩
  refine wp_putI rfl (Ref_kd P4.1) ?_
  refine wq_PA (PA_step (by omega) (show lc_ 4 = _ from rfl) P4 hx4) (fun g5 P5 => ?_)
  refine wp_aload0 rfl ?_
  refine wp_aload0 rfl ?_
  refine wp_aload0 rfl ?_
  refine wp_getI rfl (Ref_kd P5.1) ?_
  refine wp_callV1I rfl (Nat.le_of_ble_eq_true rfl) (Ref_kd P5.1) (Ref_pass_ok P5.1 P5.k P5.w (by omega)) (Nat.le_of_ble_eq_true rfl) ?_
  rintro x5 _ ⟨hx5, rfl⟩
  refine wp_putI rfl (Ref_kd P5.1) ?_
  refine wq_PA (PA_step (by omega) (show lc_ 5 = _ from rfl) P5 hx5) (fun g6 P6 => ?_)
  refine wp_aload0 rfl ?_
  refine wp_getR rfl (Ref_kd P6.1) (Ref_R8 P6.1) (by first | decide | omega) ?_
  refine wp_iconst rfl ?_
  refine wp_aload0 rfl ?_
  refine wp_aload0 rfl ?_
  refine wp_getR rfl (Ref_kd P6.1) (Ref_R8 P6.1) (by first | decide | omega) ?_
  refine wp_iconst rfl ?_
  refine wp_iald 0 rfl (Ref_k8 P6.1) (by first | decide | omega) (Nat.lt_of_lt_of_eq (show 0 < _ by omega) (Eq.symm (Ref_n8 P6.1))) (by omega) rfl ?_
  refine wp_callV1I rfl (Nat.le_of_ble_eq_true rfl) (Ref_kd P6.1) (Ref_pass_ok P6.1 P6.k P6.w (by omega)) (Nat.le_of_ble_eq_true rfl) ?_
  rintro x6 _ ⟨hx6, rfl⟩
  refine wp_iast 0 rfl (Ref_k8 P6.1) (Nat.lt_of_lt_of_eq (show 0 < _ by omega) (Eq.symm (Ref_n8 P6.1))) (by omega) rfl ?_
  refine wq_PA (PA_step (by omega) (show lc_ 6 = _ from rfl) P6 hx6) (fun g7 P7 => ?_)
  refine wp_aload0 rfl ?_
  refine wp_getR rfl (Ref_kd P7.1) (Ref_R8 P7.1) (by first | decide | omega) ?_
  refine wp_iconst rfl ?_
  refine wp_aload0 rfl ?_
  refine wp_aload0 rfl ?_
  refine wp_getR rfl (Ref_kd P7.1) (Ref_R8 P7.1) (by first | decide | omega) ?_
  refine wp_iconst rfl ?_
  refine wp_iald 1 rfl (Ref_k8 P7.1) (by first | decide | omega) (Nat.lt_of_lt_of_eq (show 1 < _ by omega) (Eq.symm (Ref_n8 P7.1))) (by omega) rfl ?_
  refine wp_callV1I rfl (Nat.le_of_ble_eq_true rfl) (Ref_kd P7.1) (Ref_pass_ok P7.1 P7.k P7.w (by omega)) (Nat.le_of_ble_eq_true rfl) ?_
  rintro x7 _ ⟨hx7, rfl⟩
  refine wp_iast 1 rfl (Ref_k8 P7.1) (Nat.lt_of_lt_of_eq (show 1 < _ by omega) (Eq.symm (Ref_n8 P7.1))) (by omega) rfl ?_
  refine wq_PA (PA_step (by omega) (show lc_ 7 = _ from rfl) P7 hx7) (fun g8 P8 => ?_)
  refine wp_iconst rfl ?_
  refine wp_istore1 rfl rfl ?_
  refine wq_loop (X := Unit) (fun i x => [some (.ref 65), some (.int (nI i))]) (fun i x h1 => PA_ h h1 b w (8 + i)) (48) (0) (()) ?_ ?_ ?_ ?_
  · omega
  · exact P8
  · intro i x h1 hi I k
    show wq _ tb_Ref_passAll _ 106 [some (.ref 65), some (.int (nI i))] [] h1 _
    refine wp_iload1 rfl ?_
    refine wp_bipush rfl ?_
    refine wp_icmp_geN i 48 (by omega) (by omega) rfl (fun z => absurd z (by omega)) (fun _ => ?_)
    refine wp_aload0 rfl ?_
    refine wp_getR rfl (Ref_kd I.1) (Ref_R1 I.1) (by first | decide | omega) ?_
    refine wp_iload1 rfl ?_
    refine wp_aload0 rfl ?_
    refine wp_aload0 rfl ?_
    refine wp_getR rfl (Ref_kd I.1) (Ref_R1 I.1) (by first | decide | omega) ?_
    refine wp_iload1 rfl ?_
    refine wp_iald i rfl (Ref_k1 I.1) (by first | decide | omega) (Nat.lt_of_lt_of_eq (show i < _ by omega) (Eq.symm (Ref_n1 I.1))) (by omega) rfl ?_
    refine wp_callV1I rfl (Nat.le_of_ble_eq_true rfl) (Ref_kd I.1) (Ref_pass_ok I.1 I.k I.w (by omega)) (Nat.le_of_ble_eq_true rfl) ?_
    rintro x0 _ ⟨hx0, rfl⟩
    refine wp_iast i rfl (Ref_k1 I.1) (Nat.lt_of_lt_of_eq (show i < _ by omega) (Eq.symm (Ref_n1 I.1))) (by omega) rfl ?_
    refine wq_PA (PA_step (by omega) (lc_told (by omega)) I hx0) (fun g1 P1 => ?_)
    refine wp_iinc1N rfl rfl ?_
    refine wp_goto rfl ?_
    exact k () _ (by rw [show 8 + (i + 1) = 8 + i + 1 by omega]; exact P1)
  · intro x h1 I
    show wq _ tb_Ref_passAll _ 106 [some (.ref 65), some (.int (nI 48))] [] h1 _
    refine wp_iload1 rfl ?_
    refine wp_bipush rfl ?_
    refine wp_icmp_geN 48 48 (by omega) (by omega) rfl (fun _ => ?_) (fun z => absurd z (by omega))
    refine wp_iconst rfl ?_
    refine wp_istore1 rfl rfl ?_
    refine wq_loop (X := Unit) (fun i x => [some (.ref 65), some (.int (nI i))]) (fun i x h1 => PA_ h h1 b w (56 + 2 * i)) (8) (0) (()) ?_ ?_ ?_ ?_
    · omega
    · exact I
    · intro i x h1 hi I k
      show wq _ tb_Ref_passAll _ 136 [some (.ref 65), some (.int (nI i))] [] h1 _
      refine wp_iload1 rfl ?_
      refine wp_bipush rfl ?_
      refine wp_icmp_geN i 8 (by omega) (by omega) rfl (fun z => absurd z (by omega)) (fun _ => ?_)
      refine wp_aload0 rfl ?_
      refine wp_getR rfl (Ref_kd I.1) (Ref_R2 I.1) (by first | decide | omega) ?_
      refine wp_iload1 rfl ?_
      refine wp_aload0 rfl ?_
      refine wp_aload0 rfl ?_
      refine wp_getR rfl (Ref_kd I.1) (Ref_R2 I.1) (by first | decide | omega) ?_
      refine wp_iload1 rfl ?_
      refine wp_iald i rfl (Ref_k2 I.1) (by first | decide | omega) (Nat.lt_of_lt_of_eq (show i < _ by omega) (Eq.symm (Ref_n2 I.1))) (by omega) rfl ?_
      refine wp_callV1I rfl (Nat.le_of_ble_eq_true rfl) (Ref_kd I.1) (Ref_pass_ok I.1 I.k I.w (by omega)) (Nat.le_of_ble_eq_true rfl) ?_
      rintro x0 _ ⟨hx0, rfl⟩
      refine wp_iast i rfl (Ref_k2 I.1) (Nat.lt_of_lt_of_eq (show i < _ by omega) (Eq.symm (Ref_n2 I.1))) (by omega) rfl ?_
      refine wq_PA (PA_step (by omega) (lc_good (by omega)) I hx0) (fun g1 P1 => ?_)
      refine wp_aload0 rfl ?_
      refine wp_getR rfl (Ref_kd P1.1) (Ref_R3 P1.1) (by first | decide | omega) ?_
      refine wp_iload1 rfl ?_
      refine wp_aload0 rfl ?_
      refine wp_aload0 rfl ?_
      refine wp_getR rfl (Ref_kd P1.1) (Ref_R3 P1.1) (by first | decide | omega) ?_
      refine wp_iload1 rfl ?_
      refine wp_iald i rfl (Ref_k3 P1.1) (by first | decide | omega) (Nat.lt_of_lt_of_eq (show i < _ by omega) (Eq.symm (Ref_n3 P1.1))) (by omega) rfl ?_
      refine wp_callV1I rfl (Nat.le_of_ble_eq_true rfl) (Ref_kd P1.1) (Ref_pass_ok P1.1 P1.k P1.w (by omega)) (Nat.le_of_ble_eq_true rfl) ?_
      rintro x1 _ ⟨hx1, rfl⟩
      refine wp_iast i rfl (Ref_k3 P1.1) (Nat.lt_of_lt_of_eq (show i < _ by omega) (Eq.symm (Ref_n3 P1.1))) (by omega) rfl ?_
      refine wq_PA (PA_step (by omega) (by rw [show 56 + 2 * i + 1 = 57 + 2 * i by omega]; exact lc_want (by omega)) P1 hx1) (fun g2 P2 => ?_)
      refine wp_iinc1N rfl rfl ?_
      refine wp_goto rfl ?_
      exact k () _ (by rw [show 56 + 2 * (i + 1) = 56 + 2 * i + 1 + 1 by omega]; exact P2)
    · intro x h1 I
      show wq _ tb_Ref_passAll _ 136 [some (.ref 65), some (.int (nI 8))] [] h1 _
      refine wp_iload1 rfl ?_
      refine wp_bipush rfl ?_
      refine wp_icmp_geN 8 8 (by omega) (by omega) rfl (fun _ => ?_) (fun z => absurd z (by omega))
      refine wp_iconst rfl ?_
      refine wp_istore1 rfl rfl ?_
      refine wq_loop (X := Unit) (fun i x => [some (.ref 65), some (.int (nI i))]) (fun i x h1 => PA_ h h1 b w (72 + 7 * i)) (6) (0) (()) ?_ ?_ ?_ ?_
      · omega
      · exact I
      · intro i x h1 hi I k
        show wq _ tb_Ref_passAll _ 182 [some (.ref 65), some (.int (nI i))] [] h1 _
        refine wp_iload1 rfl ?_
        refine wp_bipush rfl ?_
        refine wp_icmp_geN i 6 (by omega) (by omega) rfl (fun z => absurd z (by omega)) (fun _ => ?_)
        refine wp_aload0 rfl ?_
        refine wp_getR rfl (Ref_kd I.1) (Ref_R7 I.1) (by first | decide | omega) ?_
        refine wp_iload1 rfl ?_
        refine wp_aload0 rfl ?_
        refine wp_aload0 rfl ?_
        refine wp_getR rfl (Ref_kd I.1) (Ref_R7 I.1) (by first | decide | omega) ?_
        refine wp_iload1 rfl ?_
        refine wp_iald i rfl (Ref_k7 I.1) (by first | decide | omega) (Nat.lt_of_lt_of_eq (show i < _ by omega) (Eq.symm (Ref_n7 I.1))) (by omega) rfl ?_
        refine wp_callV1I rfl (Nat.le_of_ble_eq_true rfl) (Ref_kd I.1) (Ref_pass_ok I.1 I.k I.w (by omega)) (Nat.le_of_ble_eq_true rfl) ?_
        rintro x0 _ ⟨hx0, rfl⟩
        refine wp_iast i rfl (Ref_k7 I.1) (Nat.lt_of_lt_of_eq (show i < _ by omega) (Eq.symm (Ref_n7 I.1))) (by omega) rfl ?_
        refine wq_PA (PA_step (by omega) (by rw [show 72 + 7 * i = 72 + 0 + 7 * i by omega]; exact lc_last (by omega) (by omega)) I hx0) (fun g1 P1 => ?_)
        refine wp_aload0 rfl ?_
        refine wp_getR rfl (Ref_kd P1.1) (Ref_R9 P1.1) (by first | decide | omega) ?_
        refine wp_iload1 rfl ?_
        refine wp_aload0 rfl ?_
        refine wp_aload0 rfl ?_
        refine wp_getR rfl (Ref_kd P1.1) (Ref_R9 P1.1) (by first | decide | omega) ?_
        refine wp_iload1 rfl ?_
        refine wp_iald i rfl (Ref_k9 P1.1) (by first | decide | omega) (Nat.lt_of_lt_of_eq (show i < _ by omega) (Eq.symm (Ref_n9 P1.1))) (by omega) rfl ?_
        refine wp_callV1I rfl (Nat.le_of_ble_eq_true rfl) (Ref_kd P1.1) (Ref_pass_ok P1.1 P1.k P1.w (by omega)) (Nat.le_of_ble_eq_true rfl) ?_
        rintro x1 _ ⟨hx1, rfl⟩
        refine wp_iast i rfl (Ref_k9 P1.1) (Nat.lt_of_lt_of_eq (show i < _ by omega) (Eq.symm (Ref_n9 P1.1))) (by omega) rfl ?_
        refine wq_PA (PA_step (by omega) (by rw [show 72 + 7 * i + 1 = 72 + 1 + 7 * i by omega]; exact lc_last (by omega) (by omega)) P1 hx1) (fun g2 P2 => ?_)
        refine wp_aload0 rfl ?_
        refine wp_getR rfl (Ref_kd P2.1) (Ref_R10 P2.1) (by first | decide | omega) ?_
        refine wp_iload1 rfl ?_
        refine wp_aload0 rfl ?_
        refine wp_aload0 rfl ?_
        refine wp_getR rfl (Ref_kd P2.1) (Ref_R10 P2.1) (by first | decide | omega) ?_
        refine wp_iload1 rfl ?_
        refine wp_iald i rfl (Ref_k10 P2.1) (by first | decide | omega) (Nat.lt_of_lt_of_eq (show i < _ by omega) (Eq.symm (Ref_n10 P2.1))) (by omega) rfl ?_
        refine wp_callV1I rfl (Nat.le_of_ble_eq_true rfl) (Ref_kd P2.1) (Ref_pass_ok P2.1 P2.k P2.w (by omega)) (Nat.le_of_ble_eq_true rfl) ?_
        rintro x2 _ ⟨hx2, rfl⟩
        refine wp_iast i rfl (Ref_k10 P2.1) (Nat.lt_of_lt_of_eq (show i < _ by omega) (Eq.symm (Ref_n10 P2.1))) (by omega) rfl ?_
        refine wq_PA (PA_step (by omega) (by rw [show 72 + 7 * i + 1 + 1 = 72 + 2 + 7 * i by omega]; exact lc_last (by omega) (by omega)) P2 hx2) (fun g3 P3 => ?_)
        refine wp_aload0 rfl ?_
        refine wp_getR rfl (Ref_kd P3.1) (Ref_R11 P3.1) (by first | decide | omega) ?_
        refine wp_iload1 rfl ?_
        refine wp_aload0 rfl ?_
        refine wp_aload0 rfl ?_
        refine wp_getR rfl (Ref_kd P3.1) (Ref_R11 P3.1) (by first | decide | omega) ?_
        refine wp_iload1 rfl ?_
        refine wp_iald i rfl (Ref_k11 P3.1) (by first | decide | omega) (Nat.lt_of_lt_of_eq (show i < _ by omega) (Eq.symm (Ref_n11 P3.1))) (by omega) rfl ?_
        refine wp_callV1I rfl (Nat.le_of_ble_eq_true rfl) (Ref_kd P3.1) (Ref_pass_ok P3.1 P3.k P3.w (by omega)) (Nat.le_of_ble_eq_true rfl) ?_
        rintro x3 _ ⟨hx3, rfl⟩
        refine wp_iast i rfl (Ref_k11 P3.1) (Nat.lt_of_lt_of_eq (show i < _ by omega) (Eq.symm (Ref_n11 P3.1))) (by omega) rfl ?_
        refine wq_PA (PA_step (by omega) (by rw [show 72 + 7 * i + 1 + 1 + 1 = 72 + 3 + 7 * i by omega]; exact lc_last (by omega) (by omega)) P3 hx3) (fun g4 P4 => ?_)
        refine wp_aload0 rfl ?_
        refine wp_getR rfl (Ref_kd P4.1) (Ref_R13 P4.1) (by first | decide | omega) ?_
        refine wp_iload1 rfl ?_
        refine wp_aload0 rfl ?_
        refine wp_aload0 rfl ?_
        refine wp_getR rfl (Ref_kd P4.1) (Ref_R13 P4.1) (by first | decide | omega) ?_
        refine wp_iload1 rfl ?_
        refine wp_iald i rfl (Ref_k13 P4.1) (by first | decide | omega) (Nat.lt_of_lt_of_eq (show i < _ by omega) (Eq.symm (Ref_n13 P4.1))) (by omega) rfl ?_
        refine wp_callV1I rfl (Nat.le_of_ble_eq_true rfl) (Ref_kd P4.1) (Ref_pass_ok P4.1 P4.k P4.w (by omega)) (Nat.le_of_ble_eq_true rfl) ?_
        rintro x4 _ ⟨hx4, rfl⟩
        refine wp_iast i rfl (Ref_k13 P4.1) (Nat.lt_of_lt_of_eq (show i < _ by omega) (Eq.symm (Ref_n13 P4.1))) (by omega) rfl ?_
        refine wq_PA (PA_step (by omega) (by rw [show 72 + 7 * i + 1 + 1 + 1 + 1 = 72 + 4 + 7 * i by omega]; exact lc_last (by omega) (by omega)) P4 hx4) (fun g5 P5 => ?_)
        refine wp_aload0 rfl ?_
        refine wp_getR rfl (Ref_kd P5.1) (Ref_R14 P5.1) (by first | decide | omega) ?_
        refine wp_iload1 rfl ?_
        refine wp_aload0 rfl ?_
        refine wp_aload0 rfl ?_
        refine wp_getR rfl (Ref_kd P5.1) (Ref_R14 P5.1) (by first | decide | omega) ?_
        refine wp_iload1 rfl ?_
        refine wp_iald i rfl (Ref_k14 P5.1) (by first | decide | omega) (Nat.lt_of_lt_of_eq (show i < _ by omega) (Eq.symm (Ref_n14 P5.1))) (by omega) rfl ?_
        refine wp_callV1I rfl (Nat.le_of_ble_eq_true rfl) (Ref_kd P5.1) (Ref_pass_ok P5.1 P5.k P5.w (by omega)) (Nat.le_of_ble_eq_true rfl) ?_
        rintro x5 _ ⟨hx5, rfl⟩
        refine wp_iast i rfl (Ref_k14 P5.1) (Nat.lt_of_lt_of_eq (show i < _ by omega) (Eq.symm (Ref_n14 P5.1))) (by omega) rfl ?_
        refine wq_PA (PA_step (by omega) (by rw [show 72 + 7 * i + 1 + 1 + 1 + 1 + 1 = 72 + 5 + 7 * i by omega]; exact lc_last (by omega) (by omega)) P5 hx5) (fun g6 P6 => ?_)
        refine wp_aload0 rfl ?_
        refine wp_getR rfl (Ref_kd P6.1) (Ref_R15 P6.1) (by first | decide | omega) ?_
        refine wp_iload1 rfl ?_
        refine wp_aload0 rfl ?_
        refine wp_aload0 rfl ?_
        refine wp_getR rfl (Ref_kd P6.1) (Ref_R15 P6.1) (by first | decide | omega) ?_
        refine wp_iload1 rfl ?_
        refine wp_iald i rfl (Ref_k15 P6.1) (by first | decide | omega) (Nat.lt_of_lt_of_eq (show i < _ by omega) (Eq.symm (Ref_n15 P6.1))) (by omega) rfl ?_
        refine wp_callV1I rfl (Nat.le_of_ble_eq_true rfl) (Ref_kd P6.1) (Ref_pass_ok P6.1 P6.k P6.w (by omega)) (Nat.le_of_ble_eq_true rfl) ?_
        rintro x6 _ ⟨hx6, rfl⟩
        refine wp_iast i rfl (Ref_k15 P6.1) (Nat.lt_of_lt_of_eq (show i < _ by omega) (Eq.symm (Ref_n15 P6.1))) (by omega) rfl ?_
        refine wq_PA (PA_step (by omega) (by rw [show 72 + 7 * i + 1 + 1 + 1 + 1 + 1 + 1 = 72 + 6 + 7 * i by omega]; exact lc_last (by omega) (by omega)) P6 hx6) (fun g7 P7 => ?_)
        refine wp_iinc1N rfl rfl ?_
        refine wp_goto rfl ?_
        exact k () _ (by rw [show 72 + 7 * (i + 1) = 72 + 7 * i + 1 + 1 + 1 + 1 + 1 + 1 + 1 by omega]; exact P7)
      · intro x h1 I
        show wq _ tb_Ref_passAll _ 182 [some (.ref 65), some (.int (nI 6))] [] h1 _
        refine wp_iload1 rfl ?_
        refine wp_bipush rfl ?_
        refine wp_icmp_geN 6 6 (by omega) (by omega) rfl (fun _ => ?_) (fun z => absurd z (by omega))
        exact wp_vret rfl ⟨rfl, I⟩
def an_image (t : Rt_) (x : Int32) : Int32 × Rt_ := if rg_ 0 1 x then (nI 1, (t.1, t.2.1, t.2.2.1, (if x = nI 0 then some t.1 else t.2.2.2.1), if x = nI 0 then t.2.2.2.2 else some t.1)) else (-2, t)
def an_rs (t : Rt_) (o : Option Sg_) : Int32 × Rt_ := match o with
  | none => (-3, t)
  | some s => (nI 1, (s, t.2))
def an_restore (t : Rt_) (x : Int32) : Int32 × Rt_ := if rg_ 0 1 x then an_rs t (if x = nI 0 then t.2.2.2.1 else t.2.2.2.2) else (-2, t)
theorem PA_IM {h h1 : Hp_} {b k : Nat} {w : Bool} {o : Option Sg_} (P : PA_ h h1 b w 114) (hk : k < 2) (hb : b + 160 ≤ 160 * k ∨ 160 * k + 160 ≤ b ∨ w = false) (I : IM_ h k o) : IM_ h1 k o := by
  refine ⟨by rw [fz_I P.2.1 (by omega)]; exact I.1, fun s hs => ⟨(I.2 s hs).1, MV_cong (I.2 s hs).1 (fun j hj => ?_) (I.2 s hs).2⟩⟩
  (try dsimp only)
  rw [P.2.2.2.2.2.1]
  split
  · rename_i q
    rcases hb with z | z | z
    · omega
    · omega
    · rw [z]; rfl
  · rfl
theorem Ref_image_ok {h0 h : Hp_} {t : Rt_} {x : Int32} (B : RB_ h0 h t) : cI 3 mn_Ref_image [.ref 65, .int x] h (fun y h' => y = (an_image t x).1 ∧ RB_ h0 h' (an_image t x).2) := by
  refine cq_in (q := mi_Ref_image) (L := [some (.ref 65), some (.int x)]) rfl (Nat.le_of_ble_eq_true rfl) rfl ?_
  show wq _ tb_Ref_image none 0 _ _ _ _
  refine wp_iload1 rfl ?_
  refine wp_i2l rfl ?_
  refine wp_lconst rfl ?_
  refine wp_lconst rfl ?_
  refine wp_callS3I rfl (Nat.le_of_ble_eq_true rfl) (Ref_inN_ok (a := 0) (b := 1) (by omega) (by omega)) (Nat.le_of_ble_eq_true rfl) ?_
  refine pure_ ?_
  refine wp_if_neB rfl (fun c1 => ?_) (fun c1 => ?_)
  · skip
    obtain ⟨n, hn, rfl⟩ := rg01 c1
    refine wp_aload0 rfl ?_
    refine wp_sipush rfl ?_
    refine wp_iload1 rfl ?_
    refine wp_imulE (nI (160 * n)) (pk_mul _ _) rfl ?_
    refine wp_putI rfl (Ref_kd B.S) ?_
    refine wp_aload0 rfl ?_
    refine wp_iconst rfl ?_
    refine wp_putZ rfl (Ref_kd B.S) (by first | exact Or.inl rfl | exact Or.inr rfl | exact bo_01 _) ?_
    refine wp_aload0 rfl ?_
    rw [sd_rI_eq, hp_rI_rI]
    have B1 : RB_ h0 (hp_rI h 65 (va_up (va_up (hp_I h 65) 39 (nI (160 * n))) 40 (nI 1))) t := by
      have := RB_fl (RB_fl B (k := 39) (by omega) (nI (160 * n))) (k := 40) (by omega) (nI 1)
      rw [sd_rI_eq, hp_rI_rI] at this
      exact this
    refine wq_gen (fun g1 eg => ?_)
    rw [← eg] at B1
    refine wp_callV0V rfl (Nat.le_of_ble_eq_true rfl) (Ref_kd B1.S) (Ref_passAll_ok (b := 160 * n) (w := true) B1.S (by rw [eg, sd_rI_eq]; rfl) (by rw [eg, sd_rI_eq]; rfl) (by omega)) (Nat.le_of_ble_eq_true rfl) ?_
    rintro h1 P
    refine wp_aload0 rfl ?_
    refine wp_getR rfl (Ref_kd P.1) (Ref_R38 P.1) (by first | decide | omega) ?_
    refine wp_iload1 rfl ?_
    refine wp_iconst rfl ?_
    refine wp_zast n rfl (Ref_k38 P.1) (by first | exact Or.inl rfl | exact Or.inr rfl | exact bo_01 _) (Nat.lt_of_lt_of_eq (show n < _ by omega) (Eq.symm (Ref_n38 P.1))) (by omega) rfl ?_
    refine wp_iconst rfl ?_
    have e : an_image t (nI n) = (nI 1, (t.1, t.2.1, t.2.2.1, (if nI n = nI 0 then some t.1 else t.2.2.2.1), if nI n = nI 0 then t.2.2.2.2 else some t.1)) := by unfold an_image; rw [show rg_ 0 1 (nI n) = true from c1, if_pos rfl]
    rw [e]
    refine wp_iret rfl ?_
    have src : ∀ j, j < 114 → hp_I h1 (lc_ j).1 (lc_ j).2 = hp_I g1 (lc_ j).1 (lc_ j).2 := fun j hj => by rw [P.2.2.2.2.1 j hj, if_pos hj]; rfl
    have kep : ∀ j, j < 114 → hp_I h1 92 (160 * n + j) = hp_I g1 (lc_ j).1 (lc_ j).2 := fun j hj => by rw [P.2.2.2.2.2.1, if_pos (by omega), Nat.add_sub_cancel_left]; rfl
    have V0 := (MV_MR B1.w).mpr B1.M
    have M1 : MR_ h1 t.1 := (MV_MR B1.w).mp (MV_cong B1.w src V0)
    have K1 : KS_ h1 (160 * n) t.1 := MV_cong B1.w kep V0
    have z2 : fz_ (fun c => 65 ≤ c ∧ c ≤ 93) h0 (hp_rI h1 93 (va_up (hp_I h1 93) n (nI 1))) := fz_rI (fz_trans B1.z (fz_mono (fun c hc => by omega) P.2.1)) (by omega) _
    have PD : PD_ h1 t.2.1 t.2.2.1 := ⟨by rw [P.2.2.2.2.2.2]; exact B1.c, B1.c30, by rw [fz_I P.2.1 (by omega)]; exact B1.P.2.2.1, B1.g127⟩
    have IMn : IM_ (hp_rI h1 93 (va_up (hp_I h1 93) n (nI 1))) n (some t.1) := ⟨by rw [sd_rI_eq, sd_up_eq]; rfl, fun s hs => by cases hs; exact ⟨B1.w, KS_cong (sd_rI_ne (by decide)) K1⟩⟩
    have IMo : ∀ (k : Nat) (o : Option Sg_), k < 2 → k ≠ n → IM_ g1 k o → IM_ (hp_rI h1 93 (va_up (hp_I h1 93) n (nI 1))) k o := by
      intro k o hk hkn I
      have I1 := PA_IM P hk (by omega) I
      exact ⟨by rw [sd_rI_eq, sd_up_ne hkn]; exact I1.1, fun s hs => ⟨(I1.2 s hs).1, KS_cong (sd_rI_ne (by decide)) (I1.2 s hs).2⟩⟩
    refine ⟨_, rfl, rfl, P.1, z2, MR_cong (fun c h1 h2 => sd_rI_ne (by omega)) (fun k _ => by rw [sd_rI_ne (by decide)]) M1, B1.w, ⟨by rw [sd_rI_ne (by decide)]; exact PD.1, PD.2.1, by rw [sd_rI_ne (by decide)]; exact PD.2.2.1, PD.2.2.2⟩, ?_, ?_⟩
    · rcases (show n = 0 ∨ n = 1 by omega) with rfl | rfl
      · exact IMn
      · exact IMo 0 _ (by omega) (by omega) B1.2.2.2.2.2.1
    · rcases (show n = 0 ∨ n = 1 by omega) with rfl | rfl
      · exact IMo 1 _ (by omega) (by omega) B1.2.2.2.2.2.2
      · exact IMn
  · skip
    refine wp_bipush rfl ?_
    have e : an_image t x = (-2, t) := by unfold an_image; rw [show rg_ 0 1 x = false from c1]; rfl
    rw [e]
    exact wp_iret rfl ⟨_, rfl, rfl, B⟩
theorem Ref_restore_ok {h0 h : Hp_} {t : Rt_} {x : Int32} (B : RB_ h0 h t) : cI 3 mn_Ref_restore [.ref 65, .int x] h (fun y h' => y = (an_restore t x).1 ∧ RB_ h0 h' (an_restore t x).2) := by
  refine cq_in (q := mi_Ref_restore) (L := [some (.ref 65), some (.int x)]) rfl (Nat.le_of_ble_eq_true rfl) rfl ?_
  show wq _ tb_Ref_restore none 0 _ _ _ _
  refine wp_iload1 rfl ?_
  refine wp_i2l rfl ?_
  refine wp_lconst rfl ?_
  refine wp_lconst rfl ?_
  refine wp_callS3I rfl (Nat.le_of_ble_eq_true rfl) (Ref_inN_ok (a := 0) (b := 1) (by omega) (by omega)) (Nat.le_of_ble_eq_true rfl) ?_
  refine pure_ ?_
  refine wp_if_neB rfl (fun c1 => ?_) (fun c1 => ?_)
  · skip
    obtain ⟨n, hn, rfl⟩ := rg01 c1
    obtain ⟨o, ho, hIM⟩ : ∃ o, (if nI n = nI 0 then t.2.2.2.1 else t.2.2.2.2) = o ∧ IM_ h n o := by
      rcases (show n = 0 ∨ n = 1 by omega) with rfl | rfl
      · exact ⟨_, rfl, B.2.2.2.2.2.1⟩
      · exact ⟨_, rfl, B.2.2.2.2.2.2⟩
    have e0 : an_restore t (nI n) = an_rs t o := by unfold an_restore; rw [show rg_ 0 1 (nI n) = true from c1, if_pos rfl, ho]
    refine wp_aload0 rfl ?_
    refine wp_getR rfl (Ref_kd B.S) (Ref_R38 B.S) (by first | decide | omega) ?_
    refine wp_iload1 rfl ?_
    refine wp_zaldE n rfl (Ref_k38 B.S) (Nat.lt_of_lt_of_eq (show n < _ by omega) (Eq.symm (Ref_n38 B.S))) (by omega) (show _ = bo_ (o.isSome) from hIM.1) rfl ?_
    refine wp_if_neB rfl (fun c2 => ?_) (fun c2 => ?_)
    · skip
      obtain ⟨s, rfl⟩ := Option.isSome_iff_exists.mp c2
      rw [e0]
      have ws := (hIM.2 s rfl).1
      have KS := (hIM.2 s rfl).2
      refine wp_aload0 rfl ?_
      refine wp_sipush rfl ?_
      refine wp_iload1 rfl ?_
      refine wp_imulE (nI (160 * n)) (pk_mul _ _) rfl ?_
      refine wp_putI rfl (Ref_kd B.S) ?_
      refine wp_aload0 rfl ?_
      refine wp_iconst rfl ?_
      refine wp_putZ rfl (Ref_kd B.S) (by first | exact Or.inl rfl | exact Or.inr rfl | exact bo_01 _) ?_
      refine wp_aload0 rfl ?_
      rw [sd_rI_eq, hp_rI_rI]
      have B1 : RB_ h0 (hp_rI h 65 (va_up (va_up (hp_I h 65) 39 (nI (160 * n))) 40 (nI 0))) t := by
        have := RB_fl (RB_fl B (k := 39) (by omega) (nI (160 * n))) (k := 40) (by omega) (nI 0)
        rw [sd_rI_eq, hp_rI_rI] at this
        exact this
      refine wq_gen (fun g1 eg => ?_)
      rw [← eg] at B1
      have KS1 : KS_ g1 (160 * n) s := KS_cong (by rw [eg, sd_rI_ne (by decide)]) KS
      refine wp_callV0V rfl (Nat.le_of_ble_eq_true rfl) (Ref_kd B1.S) (Ref_passAll_ok (b := 160 * n) (w := false) B1.S (by rw [eg, sd_rI_eq]; rfl) (by rw [eg, sd_rI_eq]; rfl) (by omega)) (Nat.le_of_ble_eq_true rfl) ?_
      rintro h1 P
      refine wp_iconst rfl ?_
      refine wp_iret rfl ?_
      have src : ∀ j, j < 114 → hp_I h1 (lc_ j).1 (lc_ j).2 = hp_I g1 92 (160 * n + j) := fun j hj => by rw [P.2.2.2.2.1 j hj, if_pos hj]; rfl
      have M1 : MR_ h1 s := (MV_MR ws).mp (MV_cong ws src KS1)
      exact ⟨_, rfl, rfl, P.1, fz_trans B1.z (fz_mono (fun c hc => by omega) P.2.1), M1, ws, ⟨by rw [P.2.2.2.2.2.2]; exact B1.c, B1.c30, by rw [fz_I P.2.1 (by omega)]; exact B1.P.2.2.1, B1.g127⟩, PA_IM P (by omega) (Or.inr (Or.inr rfl)) B1.2.2.2.2.2.1, PA_IM P (by omega) (Or.inr (Or.inr rfl)) B1.2.2.2.2.2.2⟩
    · skip
      refine wp_bipush rfl ?_
      obtain rfl : o = none := by
        cases o with
        | none => rfl
        | some s => cases c2
      rw [e0]
      exact wp_iret rfl ⟨_, rfl, rfl, B⟩
  · skip
    refine wp_bipush rfl ?_
    have e : an_restore t x = (-2, t) := by unfold an_restore; rw [show rg_ 0 1 x = false from c1]; rfl
    rw [e]
    exact wp_iret rfl ⟨_, rfl, rfl, B⟩
