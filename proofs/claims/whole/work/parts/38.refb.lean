-- ===== the reference: figure, goes, set, music, judge, dance, home, where =====
theorem wq_join {d pc : Nat} {tab : Tab_} {sc : Sc_} {L : Lc_} {st : List Value} {h : Hp_} {Q : Option Value → Hp_ → Prop} (pc2 : Nat) (L2 : Lc_) (st2 : List Value) (h2 : Hp_) (a : wq d tab sc pc2 L2 st2 h2 Q) (b : wq d tab sc pc2 L2 st2 h2 Q → wq d tab sc pc L st h Q) : wq d tab sc pc L st h Q := b a
def sw_pos (s : Sg_) (p : Nat → Nat) : Sg_ := (sg_n s, p, sg_lm s, sg_pl s, sg_le s, sg_fig s, sg_mu s, sg_wa s, sg_ca s, sg_si s, sg_wi s)
def sw_lm (s : Sg_) (v : Nat) : Sg_ := (sg_n s, sg_pos s, v, sg_pl s, sg_le s, sg_fig s, sg_mu s, sg_wa s, sg_ca s, sg_si s, sg_wi s)
def sw_pl (s : Sg_) (v : Nat) : Sg_ := (sg_n s, sg_pos s, sg_lm s, v, sg_le s, sg_fig s, sg_mu s, sg_wa s, sg_ca s, sg_si s, sg_wi s)
def sw_le (s : Sg_) (v : Nat) : Sg_ := (sg_n s, sg_pos s, sg_lm s, sg_pl s, v, sg_fig s, sg_mu s, sg_wa s, sg_ca s, sg_si s, sg_wi s)
def sw_fig (s : Sg_) (f : Nat → Nat → Nat) : Sg_ := (sg_n s, sg_pos s, sg_lm s, sg_pl s, sg_le s, f, sg_mu s, sg_wa s, sg_ca s, sg_si s, sg_wi s)
def sw_mu (s : Sg_) (f : Nat → Nat) : Sg_ := (sg_n s, sg_pos s, sg_lm s, sg_pl s, sg_le s, sg_fig s, f, sg_wa s, sg_ca s, sg_si s, sg_wi s)
def sw_wa (s : Sg_) (f : Nat → Nat) : Sg_ := (sg_n s, sg_pos s, sg_lm s, sg_pl s, sg_le s, sg_fig s, sg_mu s, f, sg_ca s, sg_si s, sg_wi s)
def sw_ca (s : Sg_) (f : Nat → Nat) : Sg_ := (sg_n s, sg_pos s, sg_lm s, sg_pl s, sg_le s, sg_fig s, sg_mu s, sg_wa s, f, sg_si s, sg_wi s)
def sw_si (s : Sg_) (l : List (Nat × Nat × Nat)) : Sg_ := (sg_n s, sg_pos s, sg_lm s, sg_pl s, sg_le s, sg_fig s, sg_mu s, sg_wa s, sg_ca s, l, sg_wi s)
def sw_wi (s : Sg_) (l : List (Nat × Nat × Nat)) : Sg_ := (sg_n s, sg_pos s, sg_lm s, sg_pl s, sg_le s, sg_fig s, sg_mu s, sg_wa s, sg_ca s, sg_si s, l)
theorem sw_pos_wf {s : Sg_} (w : sg_wf s) {p : Nat → Nat} (h : IsP (sg_n s) p) : sg_wf (sw_pos s p) := by
  obtain ⟨a1, a2, a3, a4, a5, a6, a7, a8, a9, a10, a11, a12, a13⟩ := w
  exact ⟨a1, h, a3, a4, a5, a6, a7, a8, a9, a10, a11, a12, a13⟩
theorem sw_lm_wf {s : Sg_} (w : sg_wf s) {v : Nat} (h : v < 2 ^ sg_n s) : sg_wf (sw_lm s v) := by
  obtain ⟨a1, a2, a3, a4, a5, a6, a7, a8, a9, a10, a11, a12, a13⟩ := w
  exact ⟨a1, a2, h, a4, a5, a6, a7, a8, a9, a10, a11, a12, a13⟩
theorem sw_pl_wf {s : Sg_} (w : sg_wf s) {v : Nat} (h : v = 1 ∨ v = 2) : sg_wf (sw_pl s v) := by
  obtain ⟨a1, a2, a3, a4, a5, a6, a7, a8, a9, a10, a11, a12, a13⟩ := w
  exact ⟨a1, a2, a3, h, a5, a6, a7, a8, a9, a10, a11, a12, a13⟩
theorem sw_le_wf {s : Sg_} (w : sg_wf s) {v : Nat} (h : v < 64) : sg_wf (sw_le s v) := by
  obtain ⟨a1, a2, a3, a4, a5, a6, a7, a8, a9, a10, a11, a12, a13⟩ := w
  exact ⟨a1, a2, a3, a4, h, a6, a7, a8, a9, a10, a11, a12, a13⟩
theorem sw_fig_wf {s : Sg_} (w : sg_wf s) {v : Nat → Nat → Nat} (h : ∀ f, IsP (sg_n s) (v f)) : sg_wf (sw_fig s v) := by
  obtain ⟨a1, a2, a3, a4, a5, a6, a7, a8, a9, a10, a11, a12, a13⟩ := w
  exact ⟨a1, a2, a3, a4, a5, h, a7, a8, a9, a10, a11, a12, a13⟩
theorem sw_mu_wf {s : Sg_} (w : sg_wf s) {v : Nat → Nat} (h : ∀ f, 1 ≤ v f ∧ v f ≤ 3) : sg_wf (sw_mu s v) := by
  obtain ⟨a1, a2, a3, a4, a5, a6, a7, a8, a9, a10, a11, a12, a13⟩ := w
  exact ⟨a1, a2, a3, a4, a5, a6, h, a8, a9, a10, a11, a12, a13⟩
theorem sw_wa_wf {s : Sg_} (w : sg_wf s) {v : Nat → Nat} (h : (∀ g, v g < sg_n s ∨ v g = 8) ∧ (∀ g g2, v g = v g2 → v g ≠ 8 → g = g2) ∧ ∀ g, sg_n s ≤ g → v g = 8) : sg_wf (sw_wa s v) := by
  obtain ⟨a1, a2, a3, a4, a5, a6, a7, a8, a9, a10, a11, a12, a13⟩ := w
  exact ⟨a1, a2, a3, a4, a5, a6, a7, h, a9, a10, a11, a12, a13⟩
theorem sw_ca_wf {s : Sg_} (w : sg_wf s) {v : Nat → Nat} (h : ∀ c, v c < 64) : sg_wf (sw_ca s v) := by
  obtain ⟨a1, a2, a3, a4, a5, a6, a7, a8, a9, a10, a11, a12, a13⟩ := w
  exact ⟨a1, a2, a3, a4, a5, a6, a7, a8, h, a10, a11, a12, a13⟩
theorem sw_si_wf {s : Sg_} (w : sg_wf s) {l : List (Nat × Nat × Nat)} (h : l.length ≤ 6) (h2 : ∀ q ∈ l, q.1 ≤ 12 ∧ q.2.1 < sg_n s ∧ q.2.2 < sg_n s) : sg_wf (sw_si s l) := by
  obtain ⟨a1, a2, a3, a4, a5, a6, a7, a8, a9, a10, a11, a12, a13⟩ := w
  exact ⟨a1, a2, a3, a4, a5, a6, a7, a8, a9, h, h2, a12, a13⟩
theorem sw_wi_wf {s : Sg_} (w : sg_wf s) {l : List (Nat × Nat × Nat)} (h : l.length ≤ 6) (h2 : ∀ q ∈ l, (1 ≤ q.1 ∧ q.1 ≤ 99) ∧ q.2.1 < sg_n s ∧ q.2.2 < sg_n s) : sg_wf (sw_wi s l) := by
  obtain ⟨a1, a2, a3, a4, a5, a6, a7, a8, a9, a10, a11, a12, a13⟩ := w
  exact ⟨a1, a2, a3, a4, a5, a6, a7, a8, a9, a10, a11, h, h2⟩
theorem rg05 {x : Int32} (h : rg_ 0 5 x = true) : ∃ j : Nat, j < 6 ∧ x = nI j := by
  obtain ⟨j, h1, h2, h3, e⟩ := rg_of (a := 0) (b := 5) h
  exact ⟨j, by omega, e⟩
theorem rg01 {x : Int32} (h : rg_ 0 1 x = true) : ∃ j : Nat, j < 2 ∧ x = nI j := by
  obtain ⟨j, h1, h2, h3, e⟩ := rg_of (a := 0) (b := 1) h
  exact ⟨j, by omega, e⟩
theorem um_us (g : Nat → Nat) (base : Nat) : ∀ i, um_ g base i = us_ (fun j => g j - base) i
  | 0 => rfl
  | i + 1 => by
    show um_ g base i ||| 2 ^ (g i - base) = us_ (fun j => g j - base) i ||| 2 ^ (g i - base)
    rw [um_us g base i]
theorem ff_some {P : Nat → Bool} : ∀ k i j, ff_ P k i = some j → i ≤ j ∧ j < i + k ∧ P j = true := by
  intro k
  induction k with
  | zero => intro i j h; cases h
  | succ k ih =>
    intro i j h
    have h' : (if P i then some i else ff_ P k (i + 1)) = some j := h
    by_cases q : P i = true
    · rw [if_pos q] at h'; cases h'; exact ⟨Nat.le_refl _, by omega, q⟩
    · rw [if_neg q] at h'
      have := ih (i + 1) j h'
      exact ⟨by omega, by omega, this.2.2⟩
theorem fo_cases (g : Nat → Nat) {c base n : Nat} (hc : c ≤ 30) : fo_ g c base n = -6 ∨ ∃ i, i ≤ 30 ∧ fo_ g c base n = nI i := by
  unfold fo_
  cases e : ff_ (eb_ g base n) c 0 with
  | some i => exact Or.inr ⟨i, by have := ff_some _ _ _ e; omega, rfl⟩
  | none =>
    dsimp only
    by_cases q : c < n
    · rw [if_pos q]; exact Or.inr ⟨c, hc, rfl⟩
    · rw [if_neg q]; exact Or.inl rfl
theorem fw_cases (g : Nat → Nat) {c base n : Nat} (hc : c ≤ 30) : fw_ g c base n = -6 ∨ ∃ i, i ≤ 30 ∧ fw_ g c base n = nI i := by
  unfold fw_
  cases e : ff_ (rb_ g base n) c 0 with
  | some i => exact Or.inr ⟨i, by have := ff_some _ _ _ e; omega, rfl⟩
  | none => exact Or.inl rfl
theorem m6_ne {i : Nat} (hi : i < 2 ^ 31) : nI i ≠ -6 := fun z => nI_pos hi (by rw [z]; decide)
/-- how a fault's answer is tested: below 0 or not -/
theorem fo_lt (g : Nat → Nat) {c base n : Nat} (hc : c ≤ 30) : fo_ g c base n < 0 ↔ fo_ g c base n = -6 := by
  rcases fo_cases g (base := base) (n := n) hc with e | ⟨i, hi, e⟩
  · rw [e]; exact ⟨fun _ => rfl, fun _ => by decide⟩
  · rw [e]; exact ⟨fun z => absurd z (nI_pos (by omega)), fun z => absurd z (m6_ne (by omega))⟩
theorem fw_lt (g : Nat → Nat) {c base n : Nat} (hc : c ≤ 30) : fw_ g c base n < 0 ↔ fw_ g c base n = -6 := by
  rcases fw_cases g (base := base) (n := n) hc with e | ⟨i, hi, e⟩
  · rw [e]; exact ⟨fun _ => rfl, fun _ => by decide⟩
  · rw [e]; exact ⟨fun z => absurd z (nI_pos (by omega)), fun z => absurd z (m6_ne (by omega))⟩
theorem fo_none {g : Nat → Nat} {c base n : Nat} (hc : c ≤ 30) (h : fo_ g c base n = -6) : n ≤ c ∧ (∀ i, i < c → base ≤ g i ∧ g i < base + n) ∧ ∀ i j, i < c → j < c → g i = g j → i = j := by
  unfold fo_ at h
  cases e : ff_ (eb_ g base n) c 0 with
  | some i =>
    rw [e] at h
    have := ff_some _ _ _ e
    exact absurd h (m6_ne (by omega))
  | none =>
    rw [e] at h
    dsimp only at h
    have h1 : ∀ i, i < c → eb_ g base n i = false := fun i hi => ff_none _ _ e i (Nat.zero_le _) (by omega)
    have h2 : ∀ i, i < c → base ≤ g i ∧ g i < base + n ∧ (um_ g base i).testBit (g i - base) = false := by
      intro i hi
      have := h1 i hi
      unfold eb_ at this
      rw [Bool.or_eq_false_iff, Bool.or_eq_false_iff] at this
      have a1 := of_decide_eq_false this.1.1
      have a2 := of_decide_eq_false this.1.2
      exact ⟨by omega, by omega, this.2⟩
    have apart : ∀ i j, i < j → j < c → g i ≠ g j := by
      intro i j hij hj z
      have a := (h2 j hj).2.2
      rw [um_us, (us_bit (fun j => g j - base) (g j - base) j).mpr ⟨i, hij, by show g i - base = _; rw [z]⟩] at a
      cases a
    refine ⟨?_, fun i hi => ⟨(h2 i hi).1, (h2 i hi).2.1⟩, fun i j hi hj z => ?_⟩
    · by_cases q : c < n
      · rw [if_pos q] at h; exact absurd h (m6_ne (by omega))
      · omega
    · rcases Nat.lt_trichotomy i j with q | q | q
      · exact absurd z (apart i j q hj)
      · exact q
      · exact absurd z.symm (apart j i q hi)
def pm_ (g : Nat → Nat) (base n : Nat) : Nat → Nat := fun p => if p < n then g p - base else p
theorem pm_P {g : Nat → Nat} {c base n : Nat} (hc : c ≤ 30) (h : fo_ g c base n = -6) : IsP n (pm_ g base n) := by
  obtain ⟨h1, h2, h3⟩ := fo_none hc h
  refine ⟨fun i hi => ?_, fun i j hi hj e => ?_, fun i hi => if_neg (by omega)⟩
  · have := h2 i (by omega)
    unfold pm_
    rw [if_pos hi]
    omega
  · unfold pm_ at e
    rw [if_pos hi, if_pos hj] at e
    have a := h2 i (by omega)
    have b := h2 j (by omega)
    exact h3 i j (by omega) (by omega) (by omega)
def an_figure (t : Rt_) (x : Int32) : Int32 × Rt_ := if rg_ 0 5 x then (if fo_ t.2.1 t.2.2.1 48 (sg_n t.1) = -6 then (nI 1, (sw_fig t.1 (va_up (sg_fig t.1) x.toNatClampNeg (pm_ t.2.1 48 (sg_n t.1))), t.2.1, 0, t.2.2.2)) else (-5, t)) else (-1, t)
theorem Ref_figure_ok {h0 h : Hp_} {t : Rt_} {x : Int32} (B : RB_ h0 h t) : cI 4 mn_Ref_figure [.ref 65, .int x] h (fun y h' => y = (an_figure t x).1 ∧ RB_ h0 h' (an_figure t x).2) := by
  have n8 := B.n8
  have c30 := B.c30
  refine cq_in (q := mi_Ref_figure) (L := [some (.ref 65), some (.int x), none]) rfl (Nat.le_of_ble_eq_true rfl) rfl ?_
  show wq _ tb_Ref_figure none 0 _ _ _ _
  refine wp_iload1 rfl ?_
  refine wp_callS1I rfl (Nat.le_of_ble_eq_true rfl) (Ref_isFigure_ok) (Nat.le_of_ble_eq_true rfl) ?_
  refine pure_ ?_
  refine wp_if_neB rfl (fun c1 => ?_) (fun c1 => ?_)
  · skip
    obtain ⟨f, hf, rfl⟩ := rg05 c1
    have hfb : f < 2 ^ 31 := by omega
    refine wp_aload0 rfl ?_
    refine wp_bipush rfl ?_
    refine wp_callV1I rfl (Nat.le_of_ble_eq_true rfl) (Ref_kd B.S) (Ref_faultOfOrder_ok B (by decide)) (Nat.le_of_ble_eq_true rfl) ?_
    refine pure_ ?_
    refine wp_if_lt rfl (fun c2 => ?_) (fun c2 => ?_)
    · skip
      have c3 := (fo_lt t.2.1 (base := 48) (n := sg_n t.1) c30).mp c2
      obtain ⟨d1, d2, d3⟩ := fo_none c30 c3
      have e : an_figure t (nI f) = (nI 1, (sw_fig t.1 (va_up (sg_fig t.1) f (pm_ t.2.1 48 (sg_n t.1))), t.2.1, 0, t.2.2.2)) := by unfold an_figure; rw [show rg_ 0 5 (nI f) = true from c1, if_pos rfl, if_pos c3, nI_clamp hfb]
      rw [e]
      refine wp_iconst rfl ?_
      refine wp_istore2 rfl rfl ?_
      refine wq_loop (X := Unit) (fun p x => [some (.ref 65), some (.int (nI f)), some (.int (nI p))]) (fun p x h1 => S_Ref h1 ∧ fz_ (fun c => c = 66) h h1 ∧ ∀ j, hp_I h1 66 j = if 8 * f ≤ j ∧ j < 8 * f + p then nI (t.2.1 (j - 8 * f) - 48) else hp_I h 66 j) (sg_n t.1) (0) (()) ?_ ?_ ?_ ?_
      · omega
      · exact ⟨B.S, fz_refl _ _, fun j => (if_neg (by omega)).symm⟩
      · intro p x h1 hi I k
        show wq _ tb_Ref_figure _ 23 [some (.ref 65), some (.int (nI f)), some (.int (nI p))] [] h1 _
        obtain ⟨S1, z1, a1⟩ := I
        have hd := d2 p (by omega)
        refine wp_iload2 rfl ?_
        refine wp_aload0 rfl ?_
        refine wp_getIE rfl (Ref_kd S1) (show _ = nI (sg_n t.1) from by rw [fz_I z1 (by decide)]; exact B.n) ?_
        refine wp_icmp_geN p (sg_n t.1) (by omega) (by omega) rfl (fun z => absurd z (by omega)) (fun _ => ?_)
        refine wp_aload0 rfl ?_
        refine wp_getR rfl (Ref_kd S1) (Ref_R1 S1) (by first | decide | omega) ?_
        refine wp_bipush rfl ?_
        refine wp_iload1 rfl ?_
        refine wp_imulE (nI (8 * f)) (pk_mul _ _) rfl ?_
        refine wp_iload2 rfl ?_
        refine wp_iaddE (nI ((8 * f) + p)) (nI_add _ _) rfl ?_
        refine wp_aload0 rfl ?_
        refine wp_getR rfl (Ref_kd S1) (Ref_R17 S1) (by first | decide | omega) ?_
        refine wp_iload2 rfl ?_
        refine wp_ialdE p rfl (Ref_k17 S1) (by first | decide | omega) (Nat.lt_of_lt_of_eq (show p < _ by omega) (Eq.symm (Ref_n17 S1))) (by omega) (show _ = nI (t.2.1 p) from by rw [fz_I z1 (by decide)]; exact B.pad (by omega)) rfl ?_
        refine wp_bipush rfl ?_
        refine wp_isubE (nI ((t.2.1 p) - 48)) (pk_sub (by omega)) rfl ?_
        refine wp_iast ((8 * f) + p) rfl (Ref_k1 S1) (Nat.lt_of_lt_of_eq (show ((8 * f) + p) < _ by omega) (Eq.symm (Ref_n1 S1))) (by omega) rfl ?_
        refine wp_iinc2N rfl rfl ?_
        refine wp_goto rfl ?_
        refine k () _ ⟨S1, fz_rI z1 rfl _, fun j => ?_⟩
        rw [sd_rI_eq, vu_at, a1 j]
        by_cases q : j = 8 * f + p
        · rw [if_pos q, if_pos (by omega), q, Nat.add_sub_cancel_left]
        · rw [if_neg q]
          by_cases q2 : 8 * f ≤ j ∧ j < 8 * f + p
          · rw [if_pos q2, if_pos (by omega)]
          · rw [if_neg q2, if_neg (by omega)]
      · intro x h1 I
        show wq _ tb_Ref_figure _ 23 [some (.ref 65), some (.int (nI f)), some (.int (nI (sg_n t.1)))] [] h1 _
        obtain ⟨S1, z1, a1⟩ := I
        refine wp_iload2 rfl ?_
        refine wp_aload0 rfl ?_
        refine wp_getIE rfl (Ref_kd S1) (show _ = nI (sg_n t.1) from by rw [fz_I z1 (by decide)]; exact B.n) ?_
        refine wp_icmp_geN (sg_n t.1) (sg_n t.1) (by omega) (by omega) rfl (fun _ => ?_) (fun z => absurd z (by omega))
        refine wp_aload0 rfl ?_
        refine wp_iconst rfl ?_
        refine wp_putI rfl (Ref_kd S1) ?_
        refine wp_iconst rfl ?_
        refine wp_iret rfl ?_
        have B1 : RB_ h0 h1 (sw_fig t.1 (va_up (sg_fig t.1) f (pm_ t.2.1 48 (sg_n t.1))), t.2) := by
          refine ⟨S1, fz_trans B.z (fz_mono (fun c hc => by omega) z1), ?_, sw_fig_wf B.w (fun f2 => ?_), ⟨by rw [fz_I z1 (by decide)]; exact B.c, c30, by rw [fz_I z1 (by decide)]; exact B.P.2.2.1, B.g127⟩, IM_cong (fz_I z1 (by decide)) (fz_I z1 (by decide)) B.2.2.2.2.2.1, IM_cong (fz_I z1 (by decide)) (fz_I z1 (by decide)) B.2.2.2.2.2.2⟩
          · obtain ⟨b1, b2, b3⟩ := B.M
            have M2 := MR_cong (h := h) (h1 := hp_rI h1 66 (hp_I h 66)) (s := t.1) (fun c h1 h2 => by
              by_cases q : c = 66
              · rw [q, sd_rI_eq]
              · rw [sd_rI_ne q, fz_I z1 q]) (fun k hk => by rw [sd_rI_ne (by decide), fz_I z1 (by decide)]) B.M
            obtain ⟨e1, e2, e3⟩ := M2
            refine ⟨e1, fun f2 p hf2 hp => ?_, e3⟩
            rw [a1]
            show _ = nI (va_up (sg_fig t.1) f (pm_ t.2.1 48 (sg_n t.1)) f2 p)
            rw [vu_at]
            by_cases q : f2 = f
            · rw [if_pos q, q]
              unfold pm_
              by_cases q2 : p < sg_n t.1
              · rw [if_pos (by omega), if_pos q2, Nat.add_sub_cancel_left]
              · rw [if_neg (by omega), if_neg q2, B.told hf hp, (B.w.2.2.2.2.2.1 f).2.2 p (by omega)]
            · rw [if_neg q, if_neg (by omega)]
              exact B.told hf2 hp
          · rw [vu_at]
            split
            · exact pm_P c30 c3
            · exact B.w.2.2.2.2.2.1 f2
        exact ⟨_, rfl, rfl, RB_clear B1⟩
    · skip
      refine wp_bipush rfl ?_
      have c3 : fo_ t.2.1 t.2.2.1 48 (sg_n t.1) ≠ -6 := fun z => c2 ((fo_lt t.2.1 c30).mpr z)
      have e : an_figure t (nI f) = (-5, t) := by unfold an_figure; rw [show rg_ 0 5 (nI f) = true from c1, if_pos rfl, if_neg c3]
      rw [e]
      exact wp_iret rfl ⟨_, rfl, rfl, B⟩
  · skip
    refine wp_iconst rfl ?_
    have e : an_figure t x = (-1, t) := by unfold an_figure; rw [show rg_ 0 5 x = false from c1]; rfl
    rw [e]
    exact wp_iret rfl ⟨_, rfl, rfl, B⟩
/-- goesTo holds the figures as danced -/
def GO_ (h : Hp_) (s : Sg_) : Prop := ∀ f p, f < 6 → p < sg_n s → hp_I h 78 (8 * f + p) = nI (mv_ s f p)
theorem Ref_findGoes_ok {h0 h : Hp_} {t : Rt_} (B : RB_ h0 h t) : cV 2 mn_Ref_findGoes [.ref 65] h (fun h' => GO_ h' t.1 ∧ fz_ (fun c => c = 78) h h') := by
  have n8 := B.n8
  refine cq_in (q := mi_Ref_findGoes) (L := [some (.ref 65), none, none, none]) rfl (Nat.le_of_ble_eq_true rfl) rfl ?_
  show wq _ tb_Ref_findGoes none 0 _ _ _ _
  refine wp_iconst rfl ?_
  refine wp_istore1 rfl rfl ?_
  refine wq_loop (X := Option Value × Option Value) (fun f x => [some (.ref 65), some (.int (nI f)), x.1, x.2]) (fun f x h1 => fz_ (fun c => c = 78) h h1 ∧ ∀ f2 p, f2 < f → p < sg_n t.1 → hp_I h1 78 (8 * f2 + p) = nI (mv_ t.1 f2 p)) (6) (0) ((none, none)) ?_ ?_ ?_ ?_
  · omega
  · exact ⟨fz_refl _ _, fun f2 p hf => by omega⟩
  · intro f x h1 hi I k
    show wq _ tb_Ref_findGoes _ 2 [some (.ref 65), some (.int (nI f)), x.1, x.2] [] h1 _
    obtain ⟨z1, a1⟩ := I
    refine wp_iload1 rfl ?_
    refine wp_bipush rfl ?_
    refine wp_icmp_geN f 6 (by omega) (by omega) rfl (fun z => absurd z (by omega)) (fun _ => ?_)
    refine wp_iconst rfl ?_
    refine wp_istore2 rfl rfl ?_
    refine wq_loop (X := Option Value) (fun p x => [some (.ref 65), some (.int (nI f)), some (.int (nI p)), x]) (fun p x h2 => fz_ (fun c => c = 78) h h2 ∧ (∀ f2 p, f2 < f → p < sg_n t.1 → hp_I h2 78 (8 * f2 + p) = nI (mv_ t.1 f2 p)) ∧ ∀ q, q < p → hp_I h2 78 (8 * f + q) = nI (mv_ t.1 f q)) (sg_n t.1) (0) (x.2) ?_ ?_ ?_ ?_
    · omega
    · exact ⟨z1, a1, fun q hq => by omega⟩
    · intro p x h2 hi J k
      show wq _ tb_Ref_findGoes _ 10 [some (.ref 65), some (.int (nI f)), some (.int (nI p)), x] [] h2 _
      obtain ⟨z2, a2, b2⟩ := J
      have B2 : RB_ h0 h2 t := RB_fz B (fz_mono (fun c hc => by omega) z2)
      have hp8 : p < 8 := by omega
      have hfP := (B.w.2.2.2.2.2.1 f)
      have hf8 := hfP.mono n8
      have hmv := (mv_P B.w f).1 p hi
      refine wq_join 63 [some (.ref 65), some (.int (nI f)), some (.int (nI p)), some (.int (nI (mv_ t.1 f p)))] [] h2 ?_ (fun tail => ?_)
      · skip
        refine wp_aload0 rfl ?_
        refine wp_getR rfl (Ref_kd B2.S) (Ref_R19 B2.S) (by first | decide | omega) ?_
        refine wp_bipush rfl ?_
        refine wp_iload1 rfl ?_
        refine wp_imulE (nI (8 * f)) (pk_mul _ _) rfl ?_
        refine wp_iload2 rfl ?_
        refine wp_iaddE (nI ((8 * f) + p)) (nI_add _ _) rfl ?_
        refine wp_iload3 rfl ?_
        refine wp_iast ((8 * f) + p) rfl (Ref_k19 B2.S) (Nat.lt_of_lt_of_eq (show ((8 * f) + p) < _ by omega) (Eq.symm (Ref_n19 B2.S))) (by omega) rfl ?_
        refine wp_iinc2N rfl rfl ?_
        refine wp_goto rfl ?_
        refine k _ _ ⟨fz_rI z2 rfl _, fun f2 q hf2 hq => ?_, fun q hq => ?_⟩
        · rw [sd_rI_eq, sd_up_ne (by omega)]; exact a2 f2 q hf2 hq
        · rw [sd_rI_eq, vu_at]
          by_cases y : q = p
          · rw [if_pos (by omega), y]
          · rw [if_neg (by omega)]; exact b2 q (by omega)
      · skip
        refine wp_iload2 rfl ?_
        refine wp_aload0 rfl ?_
        refine wp_getIE rfl (Ref_kd B2.S) (show _ = nI (sg_n t.1) from B2.n) ?_
        refine wp_icmp_geN p (sg_n t.1) (by omega) (by omega) rfl (fun z => absurd z (by omega)) (fun _ => ?_)
        refine wp_iload2 rfl ?_
        refine wp_istore3 rfl rfl ?_
        refine wp_aload0 rfl ?_
        refine wp_iload2 rfl ?_
        refine wp_callV1I rfl (Nat.le_of_ble_eq_true rfl) (Ref_kd B2.S) (Ref_isLame_ok B2 hp8) (Nat.le_of_ble_eq_true rfl) ?_
        refine pure_ ?_
        refine wp_if_neB rfl (fun c1 => ?_) (fun c1 => ?_)
        · skip
          rw [show mv_ t.1 f p = p from if_pos c1] at tail
          exact tail
        · skip
          refine wp_aload0 rfl ?_
          refine wp_getR rfl (Ref_kd B2.S) (Ref_R1 B2.S) (by first | decide | omega) ?_
          refine wp_bipush rfl ?_
          refine wp_iload1 rfl ?_
          refine wp_imulE (nI (8 * f)) (pk_mul _ _) rfl ?_
          refine wp_iload2 rfl ?_
          refine wp_iaddE (nI ((8 * f) + p)) (nI_add _ _) rfl ?_
          refine wp_ialdE ((8 * f) + p) rfl (Ref_k1 B2.S) (by first | decide | omega) (Nat.lt_of_lt_of_eq (show ((8 * f) + p) < _ by omega) (Eq.symm (Ref_n1 B2.S))) (by omega) (show _ = nI (sg_fig t.1 f p) from B2.told (show f < 6 from by assumption) hp8) rfl ?_
          refine wp_istore3 rfl rfl ?_
          obtain ⟨j, j1, j8, je, jl, jb⟩ := dz_it hf8 hp8 c1
          refine wq_loop (X := Unit) (fun m x => [some (.ref 65), some (.int (nI f)), some (.int (nI p)), some (.int (nI (it_ (sg_fig t.1 f) m p)))]) (fun m x h3 => h3 = h2 ∧ 1 ≤ m) (j) (1) (()) ?_ ?_ ?_ ?_
          · exact j1
          · exact ⟨rfl, Nat.le_refl _⟩
          · intro m x h3 hi K k
            show wq _ tb_Ref_findGoes _ 40 [some (.ref 65), some (.int (nI f)), some (.int (nI p)), some (.int (nI (it_ (sg_fig t.1 f) m p)))] [] h3 _
            obtain ⟨rfl, m1⟩ := K
            have h8 := it_lt hf8.1 m p hp8
            refine wp_aload0 rfl ?_
            refine wp_iload3 rfl ?_
            refine wp_callV1I rfl (Nat.le_of_ble_eq_true rfl) (Ref_kd B2.S) (Ref_isLame_ok B2 h8) (Nat.le_of_ble_eq_true rfl) ?_
            refine pure_ ?_
            refine wp_if_eqB rfl (fun c2 => ?_) (fun c2 => ?_)
            · skip
              have c3 := jl m m1 (by omega)
              rw [c2] at c3
              cases c3
            · skip
              refine wp_aload0 rfl ?_
              refine wp_getR rfl (Ref_kd B2.S) (Ref_R1 B2.S) (by first | decide | omega) ?_
              refine wp_bipush rfl ?_
              refine wp_iload1 rfl ?_
              refine wp_imulE (nI (8 * f)) (pk_mul _ _) rfl ?_
              refine wp_iload3 rfl ?_
              refine wp_iaddE (nI ((8 * f) + (it_ (sg_fig t.1 f) m p))) (nI_add _ _) rfl ?_
              refine wp_ialdE ((8 * f) + (it_ (sg_fig t.1 f) m p)) rfl (Ref_k1 B2.S) (by first | decide | omega) (Nat.lt_of_lt_of_eq (show ((8 * f) + (it_ (sg_fig t.1 f) m p)) < _ by omega) (Eq.symm (Ref_n1 B2.S))) (by omega) (show _ = nI (sg_fig t.1 f (it_ (sg_fig t.1 f) m p)) from B2.told (show f < 6 from by assumption) h8) rfl ?_
              refine wp_istore3 rfl rfl ?_
              refine wp_goto rfl ?_
              exact k () _ ⟨rfl, by omega⟩
          · intro x h3 K
            show wq _ tb_Ref_findGoes _ 40 [some (.ref 65), some (.int (nI f)), some (.int (nI p)), some (.int (nI (it_ (sg_fig t.1 f) j p)))] [] h3 _
            obtain ⟨rfl, m1⟩ := K
            have h8 := it_lt hf8.1 j p hp8
            refine wp_aload0 rfl ?_
            refine wp_iload3 rfl ?_
            refine wp_callV1I rfl (Nat.le_of_ble_eq_true rfl) (Ref_kd B2.S) (Ref_isLame_ok B2 h8) (Nat.le_of_ble_eq_true rfl) ?_
            refine pure_ ?_
            refine wp_if_eqB rfl (fun _ => ?_) (fun z => absurd z (by rw [jb]; decide))
            have tail2 := tail
            rw [show mv_ t.1 f p = it_ (sg_fig t.1 f) j p from je] at tail2
            exact tail2
    · intro x h2 J
      show wq _ tb_Ref_findGoes _ 10 [some (.ref 65), some (.int (nI f)), some (.int (nI (sg_n t.1))), x] [] h2 _
      obtain ⟨z2, a2, b2⟩ := J
      have B2 : RB_ h0 h2 t := RB_fz B (fz_mono (fun c hc => by omega) z2)
      refine wp_iload2 rfl ?_
      refine wp_aload0 rfl ?_
      refine wp_getIE rfl (Ref_kd B2.S) (show _ = nI (sg_n t.1) from B2.n) ?_
      refine wp_icmp_geN (sg_n t.1) (sg_n t.1) (by omega) (by omega) rfl (fun _ => ?_) (fun z => absurd z (by omega))
      refine wp_iinc1N rfl rfl ?_
      refine wp_goto rfl ?_
      refine k (_, _) _ ⟨z2, fun f2 p hf2 hp => ?_⟩
      rcases Nat.lt_or_ge f2 f with q | q
      · exact a2 f2 p q hp
      · obtain rfl : f2 = f := by omega
        exact b2 p hp
  · intro x h1 I
    show wq _ tb_Ref_findGoes _ 2 [some (.ref 65), some (.int (nI 6)), x.1, x.2] [] h1 _
    obtain ⟨z1, a1⟩ := I
    refine wp_iload1 rfl ?_
    refine wp_bipush rfl ?_
    refine wp_icmp_geN 6 6 (by omega) (by omega) rfl (fun _ => ?_) (fun z => absurd z (by omega))
    exact wp_vret rfl ⟨rfl, fun f p hf hp => a1 f p hf hp, z1⟩
