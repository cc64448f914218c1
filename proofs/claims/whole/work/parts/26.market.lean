-- ===== frames over int rows; Market, the rest =====
theorem hI_rI (h : Hp_) (c : Nat) (f : Nat → Int32) (q k : Nat) : hp_I (hp_rI h c f) q k = if q = c then f k else hp_I h q k := by
  by_cases z : q = c
  · rw [if_pos z, z, sd_rI_eq]
  · rw [if_neg z, sd_rI_ne z]
/-- the int rows put anew -/
def hp_wI (h : Hp_) (g : Nat → Nat → Int32) : Hp_ := (h.1, h.2.1, h.2.2.1, h.2.2.2.1, g, h.2.2.2.2.2)
theorem hp_wI_I (h : Hp_) (g : Nat → Nat → Int32) : hp_I (hp_wI h g) = g := rfl
theorem hp_wI_wI (h : Hp_) (g g2 : Nat → Nat → Int32) : hp_wI (hp_wI h g) g2 = hp_wI h g2 := rfl
theorem hp_wI_self (h : Hp_) : hp_wI h (hp_I h) = h := rfl
theorem hp_rI_w (h : Hp_) (c : Nat) (f : Nat → Int32) : hp_rI h c f = hp_wI h (va_up (hp_I h) c f) := rfl
/-- only int rows of P's cells have changed -/
def fr_ (P : Nat → Prop) (h h' : Hp_) : Prop := ∃ g, h' = hp_wI h g ∧ ∀ c, ¬ P c → g c = hp_I h c
theorem fr_refl (P : Nat → Prop) (h : Hp_) : fr_ P h h := ⟨hp_I h, rfl, fun _ _ => rfl⟩
theorem fr_row {P : Nat → Prop} {h h' : Hp_} {c : Nat} {f : Nat → Int32} (hc : P c) (hf : fr_ P h h') : fr_ P h (hp_rI h' c f) := by
  obtain ⟨g, rfl, hg⟩ := hf
  refine ⟨va_up g c f, rfl, fun q hq => ?_⟩
  rw [sd_up_ne (fun z => hq (by rw [z]; exact hc))]
  exact hg q hq
theorem fr_trans {P : Nat → Prop} {h h' h2 : Hp_} (h1 : fr_ P h h') (h3 : fr_ P h' h2) : fr_ P h h2 := by
  obtain ⟨g, rfl, hg⟩ := h1
  obtain ⟨g2, rfl, hg2⟩ := h3
  exact ⟨g2, rfl, fun q hq => (hg2 q hq).trans (hg q hq)⟩
theorem fr_mono {P Q : Nat → Prop} {h h' : Hp_} (hPQ : ∀ c, P c → Q c) (hf : fr_ P h h') : fr_ Q h h' := by
  obtain ⟨g, rfl, hg⟩ := hf
  exact ⟨g, rfl, fun q hq => hg q (fun z => hq (hPQ q z))⟩
theorem fr_I {P : Nat → Prop} {h h' : Hp_} (hf : fr_ P h h') {c : Nat} (hc : ¬ P c) : hp_I h' c = hp_I h c := by
  obtain ⟨g, rfl, hg⟩ := hf
  exact hg c hc
theorem fr_S {P : Nat → Prop} {h h' : Hp_} (hf : fr_ P h h') : hp_nx h' = hp_nx h ∧ hp_sl h' = hp_sl h ∧ hp_kd h' = hp_kd h ∧ hp_ln h' = hp_ln h ∧ hp_J h' = hp_J h ∧ hp_R h' = hp_R h := by
  obtain ⟨g, rfl, hg⟩ := hf
  exact ⟨rfl, rfl, rfl, rfl, rfl, rfl⟩
theorem MK_fr {P : Nat → Prop} {h h' : Hp_} {m : Nat} {s : Sg_} (hf : fr_ P h h') (hP : ∀ k, k ≤ 8 → ¬ P (m + k)) (M : MK_ h m s) : MK_ h' m s := by
  obtain ⟨⟨m1, m2, m3, m4, m5⟩, m6, m7, m8, m9, ⟨m10, m11⟩, m12, m13⟩ := M
  have e : ∀ k, k ≤ 8 → hp_I h' (m + k) = hp_I h (m + k) := fun k hk => fr_I hf (hP k hk)
  have e0 : hp_I h' m = hp_I h m := fr_I hf (hP 0 (by omega))
  refine ⟨⟨by rw [e0]; exact m1, by rw [e0]; exact m2, by rw [e0]; exact m3, by rw [e0]; exact m4, by rw [e0]; exact m5⟩, fun f hf => by rw [e 1 (by omega)]; exact m6 f hf, fun f hf => by rw [e 2 (by omega)]; exact m7 f hf, fun f hf => by rw [e 3 (by omega)]; exact m8 f hf, fun f hf => by rw [e 4 (by omega)]; exact m9 f hf, ⟨by rw [e 5 (by omega)]; exact m10, fun i q hq => ?_⟩, by rw [e 7 (by omega)]; exact m12, fun i q hq => ?_⟩
  · rw [show m + 5 + 1 = m + 6 from rfl, e 6 (by omega)]
    exact m11 i q hq
  · rw [show m + 7 + 1 = m + 8 from rfl, e 8 (by omega)]
    exact m13 i q hq
theorem S_Market_fr {P : Nat → Prop} {h h' : Hp_} {m : Nat} (hf : fr_ P h h') (S : S_Market h m) : S_Market h' m := by
  obtain ⟨g, rfl, hg⟩ := hf
  exact S
theorem Market_isWantedByOther_ok {h : Hp_} {m g p : Nat} {s : Sg_} (S : S_Market h m) (M : MK_ h m s) (w : sg_wf s) (hg : g < 8) (hp : p < 8) : cI 2 mn_Market_isWantedByOther [.ref m, .int (nI g), .int (nI p)] h (fun x h' => x = bo_ (decide (∃ o, o < sg_n s ∧ o ≠ g ∧ sg_wa s o = p)) ∧ h' = h) := by
  refine cq_in (q := mi_Market_isWantedByOther) (L := [some (.ref m), some (.int (nI g)), some (.int (nI p)), none]) rfl (Nat.le_of_ble_eq_true rfl) rfl ?_
  show wq _ tb_Market_isWantedByOther none 0 _ _ _ _
  have hn8 := w.1.2
  have hwv : ∀ o, (wv_ (sg_wa s o) = nI p ↔ sg_wa s o = p) := by
    intro o
    unfold wv_
    rcases w.2.2.2.2.2.2.2.1.1 o with q | q
    · rw [if_neg (by omega), nI_eq (by omega) (by omega)]
    · rw [if_pos q]
      refine ⟨fun z => absurd z ?_, fun z => by omega⟩
      intro z
      have := congrArg Int32.toInt z
      rw [nI_toInt (by omega)] at this
      have e1 : (-1 : Int32).toInt = -1 := by decide
      omega
  have loop : ∀ k i, i ≤ sg_n s → sg_n s - i = k → (∀ o, o < i → ¬ (o ≠ g ∧ sg_wa s o = p)) → wq 1 tb_Market_isWantedByOther none 2 [some (.ref m), some (.int (nI g)), some (.int (nI p)), some (.int (nI i))] [] h (fun r h' => ∃ x, r = some (.int x) ∧ x = bo_ (decide (∃ o, o < sg_n s ∧ o ≠ g ∧ sg_wa s o = p)) ∧ h' = h) := by
    intro k
    induction k with
    | zero =>
      intro i hi hk0 hno
      obtain rfl : i = sg_n s := by omega
      refine wp_iload3 rfl ?_
      refine wp_aload0 rfl ?_
      refine wp_getI rfl (Market_kd S) ?_
      rw [M.1.1]
      refine wp_icmp_geN (sg_n s) (sg_n s) (by omega) (by omega) rfl (fun c1 => ?_) (fun c1 => ?_)
      · skip
        refine wp_iconst rfl ?_
        exact wp_zret rfl (by first | exact Or.inl rfl | exact Or.inr rfl) ⟨_, rfl, by rw [decide_eq_false (by rintro ⟨o, h1, h2⟩; exact hno o h1 h2)]; rfl, rfl⟩
      · exact absurd c1 (Nat.lt_irrefl _)
    | succ k ih =>
      intro i hi hk0 hno
      refine wp_iload3 rfl ?_
      refine wp_aload0 rfl ?_
      refine wp_getI rfl (Market_kd S) ?_
      rw [M.1.1]
      refine wp_icmp_geN (i) (sg_n s) (by omega) (by omega) rfl (fun c1 => ?_) (fun c1 => ?_)
      · exact absurd c1 (by omega)
      · skip
        refine wp_iload3 rfl ?_
        refine wp_iload1 rfl ?_
        refine wp_icmp_eqN (i) (g) (by omega) (by omega) rfl (fun c2 => ?_) (fun c2 => ?_)
        · skip
          refine wp_iinc3N rfl rfl ?_
          refine wp_goto rfl ?_
          exact ih (i + 1) (by omega) (by omega) (fun o ho => by
            rcases Nat.lt_or_ge o i with q | q
            · exact hno o q
            · rintro ⟨z, -⟩
              omega)
        · skip
          refine wp_aload0 rfl ?_
          refine wp_getR rfl (Market_kd S) (Market_R7 S) (by first | decide | omega) ?_
          refine wp_iload3 rfl ?_
          refine wp_callS2I rfl (Nat.le_of_ble_eq_true rfl) (Cells_at_ok (Market_k7 S) (by omega) (by rw [Market_n7 S]; decide)) (Nat.le_of_ble_eq_true rfl) ?_
          rintro _ _ ⟨rfl, rfl⟩
          rw [Market_n7 S, ca_in (show i < 8 by omega) (by omega), M.2.2.2.1 i (by omega)]
          refine wp_iload2 rfl ?_
          refine wp_icmp_ne rfl (fun c3 => ?_) (fun c3 => ?_)
          · skip
            refine wp_iinc3N rfl rfl ?_
            refine wp_goto rfl ?_
            exact ih (i + 1) (by omega) (by omega) (fun o ho => by
              rcases Nat.lt_or_ge o i with q | q
              · exact hno o q
              · obtain rfl : o = i := by omega
                rintro ⟨-, z⟩
                exact c3 ((hwv o).mpr z))
          · skip
            refine wp_iconst rfl ?_
            exact wp_zret rfl (by first | exact Or.inl rfl | exact Or.inr rfl) ⟨_, rfl, by rw [decide_eq_true ⟨i, by omega, c2, (hwv i).mp (Classical.not_not.mp c3)⟩]; rfl, rfl⟩
  refine wp_iconst rfl ?_
  refine wp_istore3 rfl rfl ?_
  exact loop (sg_n s) 0 (Nat.zero_le _) rfl (fun o ho => by omega)
/-- n places, and all as at first, but music, Lent and callers -/
def op_ (s : Sg_) (n : Nat) : Sg_ := (n, fun p => p, 0, sg_pl s, sg_le s, fun _ p => p, sg_mu s, fun _ => 8, sg_ca s, [], [])
theorem stays_ : (16434824 : Nat) = pq_ (fun p => p) 8 := by decide +kernel
theorem Market_open_ok {h : Hp_} {m n : Nat} {s : Sg_} (S : S_Market h m) (h3 : hp_I h m 3 = nI (sg_pl s)) (h4 : hp_I h m 4 = nI (sg_le s)) (hmu : ∀ f, f < 6 → hp_I h (m + 2) f = nI (sg_mu s f)) (hca : ∀ c, c < 2 → hp_I h (m + 4) c = nI (sg_ca s c)) : cV 2 mn_Market_open [.ref m, .int (nI n)] h (fun h' => MK_ h' m (op_ s n) ∧ fr_ (fun c => m ≤ c ∧ c ≤ m + 8) h h') := by
  refine cq_in (q := mi_Market_open) (L := [some (.ref m), some (.int (nI n))]) rfl (Nat.le_of_ble_eq_true rfl) rfl ?_
  show wq _ tb_Market_open none 0 _ _ _ _
  refine wp_aload0 rfl ?_
  refine wp_iload1 rfl ?_
  refine wp_putI rfl (Market_kd S) ?_
  refine wp_aload0 rfl ?_
  refine wp_ldc rfl ?_
  refine wp_putI rfl (Market_kd S) ?_
  refine wp_aload0 rfl ?_
  refine wp_iconst rfl ?_
  refine wp_putI rfl (Market_kd S) ?_
  refine wp_aload0 rfl ?_
  refine wp_getR rfl (Market_kd S) (Market_R5 S) (by first | decide | omega) ?_
  refine wp_ldc rfl ?_
  refine wp_callS2V rfl (Nat.le_of_ble_eq_true rfl) (Cells_fill_ok (Market_k5 S) (by omega) (Market_n5 S) (by decide)) (Nat.le_of_ble_eq_true rfl) ?_
  rintro _ rfl
  refine wp_aload0 rfl ?_
  refine wp_getR rfl (Market_kd S) (Market_R7 S) (by first | decide | omega) ?_
  refine wp_iconst rfl ?_
  refine wp_callS2V rfl (Nat.le_of_ble_eq_true rfl) (Cells_fill_ok (Market_k7 S) (by omega) (Market_n7 S) (by decide)) (Nat.le_of_ble_eq_true rfl) ?_
  rintro _ rfl
  refine wp_aload0 rfl ?_
  refine wp_getR rfl (Market_kd S) (Market_R9 S) (by first | decide | omega) ?_
  refine wp_iconst rfl ?_
  refine wp_putI rfl (Notes_kd (Market_s9 S)) ?_
  refine wp_aload0 rfl ?_
  refine wp_getR rfl (Market_kd S) (Market_R10 S) (by first | decide | omega) ?_
  refine wp_iconst rfl ?_
  refine wp_putI rfl (Notes_kd (Market_s10 S)) ?_
  refine wp_vret rfl ?_
  refine ⟨rfl, ?_, ?_⟩
  · refine ⟨⟨?_, ?_, ?_, ?_, ?_⟩, fun f hf => ?_, fun f hf => ?_, fun g hg => ?_, fun c hc => ?_, ⟨?_, fun i q hq => by cases hq⟩, ?_, fun i q hq => by cases hq⟩
    all_goals simp (disch := omega) only [hI_rI, va_up, if_pos, if_neg]
    · rfl
    · rw [stays_]; rfl
    · rfl
    · exact h3
    · exact h4
    · rw [stays_]; rfl
    · exact hmu f hf
    · rfl
    · exact hca c hc
    · rfl
    · rfl
  · exact fr_row (by omega) (fr_row (by omega) (fr_row (by omega) (fr_row (by omega) (fr_row (by omega) (fr_row (by omega) (fr_row (by omega) (fr_refl _ _)))))))
theorem wq_gen {d : Nat} {tab : Tab_} {sc : Sc_} {pc : Nat} {L : Lc_} {st : List Value} {h : Hp_} {Q : Option Value → Hp_ → Prop} (k : ∀ h1, h1 = h → wq d tab sc pc L st h1 Q) : wq d tab sc pc L st h Q := k h rfl
theorem Market_take_ok {h : Hp_} {m q : Nat} {s : Sg_} (S : S_Market h m) (S2 : S_Market h q) (M : MK_ h q s) (w : sg_wf s) (hne : m + 8 < q ∨ q + 8 < m) : cV 3 mn_Market_take [.ref m, .ref q] h (fun h' => MK_ h' m s ∧ fr_ (fun c => m ≤ c ∧ c ≤ m + 8) h h') := by
  obtain ⟨⟨m1, m2, m3, m4, m5⟩, m6, m7, m8, m9, ⟨m10, m11⟩, m12, m13⟩ := M
  refine cq_in (q := mi_Market_take) (L := [some (.ref m), some (.ref q)]) rfl (Nat.le_of_ble_eq_true rfl) rfl ?_
  show wq _ tb_Market_take none 0 _ _ _ _
  refine wp_aload0 rfl ?_
  refine wp_aload1 rfl ?_
  refine wp_getI rfl (Market_kd S2) ?_
  refine wp_putI rfl (Market_kd S) ?_
  refine wp_aload0 rfl ?_
  refine wp_aload1 rfl ?_
  refine wp_getI rfl (Market_kd S2) ?_
  rw [sd_rI_ne (show q ≠ m by omega)]
  refine wp_putI rfl (Market_kd S) ?_
  rw [sd_rI_eq, hp_rI_rI]
  refine wp_aload0 rfl ?_
  refine wp_aload1 rfl ?_
  refine wp_getI rfl (Market_kd S2) ?_
  rw [sd_rI_ne (show q ≠ m by omega)]
  refine wp_putI rfl (Market_kd S) ?_
  rw [sd_rI_eq, hp_rI_rI]
  refine wp_aload0 rfl ?_
  refine wp_aload1 rfl ?_
  refine wp_getI rfl (Market_kd S2) ?_
  rw [sd_rI_ne (show q ≠ m by omega)]
  refine wp_putI rfl (Market_kd S) ?_
  rw [sd_rI_eq, hp_rI_rI]
  refine wp_aload0 rfl ?_
  refine wp_aload1 rfl ?_
  refine wp_getI rfl (Market_kd S2) ?_
  rw [sd_rI_ne (show q ≠ m by omega)]
  refine wp_putI rfl (Market_kd S) ?_
  rw [sd_rI_eq, hp_rI_rI]
  refine wq_gen (fun h1 e1 => ?_)
  have S3 : S_Market h1 m := by rw [e1]; exact S
  have T3 : S_Market h1 q := by rw [e1]; exact S2
  have f1 : fr_ (fun c => c = m) h h1 := by rw [e1]; exact fr_row rfl (fr_refl _ _)
  refine wp_aload1 rfl ?_
  refine wp_getR rfl (Market_kd T3) (Market_R5 T3) (by first | decide | omega) ?_
  refine wp_aload0 rfl ?_
  refine wp_getR rfl (Market_kd S3) (Market_R5 S3) (by first | decide | omega) ?_
  refine wp_callS2V rfl (Nat.le_of_ble_eq_true rfl) (Cells_copy_ok (Market_k5 T3) (Market_k5 S3) (by omega) (by omega) (by omega) (Market_n5 T3) (Market_n5 S3) rfl (by decide)) (Nat.le_of_ble_eq_true rfl) ?_
  rintro _ rfl
  refine wq_gen (fun h2 e2 => ?_)
  have S4 : S_Market h2 m := by rw [e2]; exact S3
  have T4 : S_Market h2 q := by rw [e2]; exact T3
  have f2 : fr_ (fun c => c = m + 1) h1 h2 := by rw [e2]; exact fr_row rfl (fr_refl _ _)
  have r2 : ∀ f, f < 6 → hp_I h2 (m + 1) f = hp_I h (q + 1) f := fun f hf => by rw [e2, sd_rI_eq]; rw [if_pos hf, fr_I f1 (by omega)]
  refine wp_aload1 rfl ?_
  refine wp_getR rfl (Market_kd T4) (Market_R6 T4) (by first | decide | omega) ?_
  refine wp_aload0 rfl ?_
  refine wp_getR rfl (Market_kd S4) (Market_R6 S4) (by first | decide | omega) ?_
  refine wp_callS2V rfl (Nat.le_of_ble_eq_true rfl) (Cells_copy_ok (Market_k6 T4) (Market_k6 S4) (by omega) (by omega) (by omega) (Market_n6 T4) (Market_n6 S4) rfl (by decide)) (Nat.le_of_ble_eq_true rfl) ?_
  rintro _ rfl
  refine wq_gen (fun h3 e3 => ?_)
  have S5 : S_Market h3 m := by rw [e3]; exact S4
  have T5 : S_Market h3 q := by rw [e3]; exact T4
  have f3 : fr_ (fun c => c = m + 2) h2 h3 := by rw [e3]; exact fr_row rfl (fr_refl _ _)
  have r3 : ∀ f, f < 6 → hp_I h3 (m + 2) f = hp_I h (q + 2) f := fun f hf => by rw [e3, sd_rI_eq]; rw [if_pos hf, fr_I f2 (by omega), fr_I f1 (by omega)]
  refine wp_aload1 rfl ?_
  refine wp_getR rfl (Market_kd T5) (Market_R7 T5) (by first | decide | omega) ?_
  refine wp_aload0 rfl ?_
  refine wp_getR rfl (Market_kd S5) (Market_R7 S5) (by first | decide | omega) ?_
  refine wp_callS2V rfl (Nat.le_of_ble_eq_true rfl) (Cells_copy_ok (Market_k7 T5) (Market_k7 S5) (by omega) (by omega) (by omega) (Market_n7 T5) (Market_n7 S5) rfl (by decide)) (Nat.le_of_ble_eq_true rfl) ?_
  rintro _ rfl
  refine wq_gen (fun h4 e4 => ?_)
  have S6 : S_Market h4 m := by rw [e4]; exact S5
  have T6 : S_Market h4 q := by rw [e4]; exact T5
  have f4 : fr_ (fun c => c = m + 3) h3 h4 := by rw [e4]; exact fr_row rfl (fr_refl _ _)
  have r4 : ∀ f, f < 8 → hp_I h4 (m + 3) f = hp_I h (q + 3) f := fun f hf => by rw [e4, sd_rI_eq]; rw [if_pos hf, fr_I f3 (by omega), fr_I f2 (by omega), fr_I f1 (by omega)]
  refine wp_aload1 rfl ?_
  refine wp_getR rfl (Market_kd T6) (Market_R8 T6) (by first | decide | omega) ?_
  refine wp_aload0 rfl ?_
  refine wp_getR rfl (Market_kd S6) (Market_R8 S6) (by first | decide | omega) ?_
  refine wp_callS2V rfl (Nat.le_of_ble_eq_true rfl) (Cells_copy_ok (Market_k8 T6) (Market_k8 S6) (by omega) (by omega) (by omega) (Market_n8 T6) (Market_n8 S6) rfl (by decide)) (Nat.le_of_ble_eq_true rfl) ?_
  rintro _ rfl
  refine wq_gen (fun h5 e5 => ?_)
  have S7 : S_Market h5 m := by rw [e5]; exact S6
  have T7 : S_Market h5 q := by rw [e5]; exact T6
  have f5 : fr_ (fun c => c = m + 4) h4 h5 := by rw [e5]; exact fr_row rfl (fr_refl _ _)
  have r5 : ∀ f, f < 2 → hp_I h5 (m + 4) f = hp_I h (q + 4) f := fun f hf => by rw [e5, sd_rI_eq]; rw [if_pos hf, fr_I f4 (by omega), fr_I f3 (by omega), fr_I f2 (by omega), fr_I f1 (by omega)]
  have g5 : ∀ c, c < m ∨ m + 4 < c → hp_I h5 c = hp_I h c := fun c hc => by rw [fr_I f5 (by omega), fr_I f4 (by omega), fr_I f3 (by omega), fr_I f2 (by omega), fr_I f1 (by omega)]
  refine wp_aload0 rfl ?_
  refine wp_getR rfl (Market_kd S7) (Market_R9 S7) (by first | decide | omega) ?_
  refine wp_aload1 rfl ?_
  refine wp_getR rfl (Market_kd T7) (Market_R9 T7) (by first | decide | omega) ?_
  refine wp_callV1V rfl (Nat.le_of_ble_eq_true rfl) (Notes_kd (Market_s9 S7)) (Notes_take_ok (Market_s9 S7) (Market_s9 T7) (by omega)) (Nat.le_of_ble_eq_true rfl) ?_
  rintro _ rfl
  refine wq_gen (fun h6 e6 => ?_)
  have S8 : S_Market h6 m := by rw [e6]; exact S7
  have T8 : S_Market h6 q := by rw [e6]; exact T7
  have f6 : fr_ (fun c => c = m + 5 ∨ c = m + 6) h5 h6 := by rw [e6]; exact fr_row (Or.inl rfl) (fr_row (Or.inr rfl) (fr_refl _ _))
  have r6 : hp_I h6 (m + 5) 1 = hp_I h (q + 5) 1 := by rw [e6, sd_rI_eq, sd_up_eq, g5 _ (by omega)]
  have r6b : ∀ i, i < 6 → hp_I h6 (m + 6) i = hp_I h (q + 6) i := fun i hi => by rw [e6, sd_rI_ne (by omega), sd_rI_eq]; rw [if_pos hi, g5 _ (by omega)]
  refine wp_aload0 rfl ?_
  refine wp_getR rfl (Market_kd S8) (Market_R10 S8) (by first | decide | omega) ?_
  refine wp_aload1 rfl ?_
  refine wp_getR rfl (Market_kd T8) (Market_R10 T8) (by first | decide | omega) ?_
  refine wp_callV1V rfl (Nat.le_of_ble_eq_true rfl) (Notes_kd (Market_s10 S8)) (Notes_take_ok (Market_s10 S8) (Market_s10 T8) (by omega)) (Nat.le_of_ble_eq_true rfl) ?_
  rintro _ rfl
  refine wq_gen (fun h7 e7 => ?_)
  have f7 : fr_ (fun c => c = m + 7 ∨ c = m + 8) h6 h7 := by rw [e7]; exact fr_row (Or.inl rfl) (fr_row (Or.inr rfl) (fr_refl _ _))
  have r7 : hp_I h7 (m + 7) 1 = hp_I h (q + 7) 1 := by rw [e7, sd_rI_eq, sd_up_eq, fr_I f6 (by omega), g5 _ (by omega)]
  have r7b : ∀ i, i < 6 → hp_I h7 (m + 8) i = hp_I h (q + 8) i := fun i hi => by rw [e7, sd_rI_ne (by omega), sd_rI_eq]; rw [if_pos hi, fr_I f6 (by omega), g5 _ (by omega)]
  refine wp_vret rfl ?_
  have back : ∀ c, c < m + 5 → hp_I h7 c = hp_I h5 c := fun c hc => by rw [fr_I f7 (by omega), fr_I f6 (by omega)]
  have b0 : hp_I h7 m = hp_I h1 m := by rw [back _ (by omega), fr_I f5 (by omega), fr_I f4 (by omega), fr_I f3 (by omega), fr_I f2 (by omega)]
  refine ⟨rfl, ⟨⟨?_, ?_, ?_, ?_, ?_⟩, fun f hf => ?_, fun f hf => ?_, fun g hg => ?_, fun c hc => ?_, ⟨?_, fun i z hz => ?_⟩, ?_, fun i z hz => ?_⟩, ?_⟩
  · rw [b0, e1, sd_rI_eq, ← m1]; rfl
  · rw [b0, e1, sd_rI_eq, ← m2]; rfl
  · rw [b0, e1, sd_rI_eq, ← m3]; rfl
  · rw [b0, e1, sd_rI_eq, ← m4]; rfl
  · rw [b0, e1, sd_rI_eq, ← m5]; rfl
  · rw [back _ (by omega), fr_I f5 (by omega), fr_I f4 (by omega), fr_I f3 (by omega), r2 f hf]; exact m6 f hf
  · rw [back _ (by omega), fr_I f5 (by omega), fr_I f4 (by omega), r3 f hf]; exact m7 f hf
  · rw [back _ (by omega), fr_I f5 (by omega), r4 g hg]; exact m8 g hg
  · rw [back _ (by omega), r5 c hc]; exact m9 c hc
  · rw [fr_I f7 (by omega), r6]; exact m10
  · have hi : i < 6 := Nat.lt_of_lt_of_le (List.getElem?_eq_some_iff.mp hz).1 w.2.2.2.2.2.2.2.2.2.1
    rw [show m + 5 + 1 = m + 6 from rfl, fr_I f7 (by omega), r6b i hi]; exact m11 i z hz
  · rw [r7]; exact m12
  · have hi : i < 6 := Nat.lt_of_lt_of_le (List.getElem?_eq_some_iff.mp hz).1 w.2.2.2.2.2.2.2.2.2.2.2.1
    rw [show m + 7 + 1 = m + 8 from rfl, r7b i hi]; exact m13 i z hz
  · exact fr_trans (fr_mono (by intros; omega) f1) (fr_trans (fr_mono (by intros; omega) f2) (fr_trans (fr_mono (by intros; omega) f3) (fr_trans (fr_mono (by intros; omega) f4) (fr_trans (fr_mono (by intros; omega) f5) (fr_trans (fr_mono (by intros; omega) f6) (fr_mono (by intros; omega) f7))))))
