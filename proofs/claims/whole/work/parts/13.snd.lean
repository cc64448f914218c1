-- ===== CALLS, RUNS: the pure machine's runs are the real ones =====
def sd_ws (q : Mi_) : List Cond := Cond.code q.1 q.2.1 q.2.2.1 q.2.2.2.1 :: sd_WS
def sd_rm (d k n : Nat) : Room := { frames := d, cells := k, slots := n, locals := 50 * d }
def sd_Pc (D : va_G) (cy : Nat → ClassId) (h : Hp_) (ad : Nat → Nat) (as : List Value) (sz : Nat) : Array Value → State → Prop := va_Pc (as.map (sd_re ad)) (fun U => U.heap.size = sz ∧ va_P D tt_cls (sd_w cy h ad) U.heap ∧ va_K D tt_cls (sd_tys cy) U ∧ va_D (fun _ => True) (sd_w cy h ad) ∧ sd_NW U ∧ sd_wf h ∧ ∀ v ∈ as, sd_vf (hp_nx h) v)
def sd_Qc (D : va_G) (cy : Nat → ClassId) (h : Hp_) (ad : Nat → Nat) (h' : Hp_) (r : Option Value) (sz : Nat) : Array Value → State → Outcome → State → Prop := fun _ st oc t => (∃ ad' : Nat → Nat, (∀ i, i ≤ hp_nx h → ad' i = ad i) ∧ oc = .returned (r.map (sd_re ad')) ∧ va_P D tt_cls (sd_w cy h' ad') t.heap ∧ va_D (va_A (sd_w cy h ad) sz) (sd_w cy h' ad') ∧ sd_wf h' ∧ (∀ v, r = some v → sd_vf (hp_nx h') v)) ∧ va_F (va_A (sd_w cy h ad) sz) st t
def sd_Met (l : Launch) (d : Nat) (D : va_G) (cy : Nat → ClassId) (q : Mi_) (h : Hp_) (ad : Nat → Nat) (as : List Value) (h' : Hp_) (r : Option Value) (sz : Nat) : Prop :=
  Met l q.1 (sd_ws q) (sd_rm d (hp_nx h' - hp_nx h) (hp_sl h' - hp_sl h)) (sd_Pc D cy h ad as sz) (sd_Qc D cy h ad h' r sz) (hp_nx h' - hp_nx h) (hp_sl h' - hp_sl h) (va_A (sd_w cy h ad) sz)
theorem sd_Pc_blind {D : va_G} {cy : Nat → ClassId} {h : Hp_} {ad : Nat → Nat} {as : List Value} {sz : Nat} : FrameBlind (sd_Pc D cy h ad as sz) := by
  intro a U g mk q
  obtain ⟨q1, q2, qP, qK, qD, qN, qW⟩ := q
  exact ⟨q1, q2, qP, va_K.moved (u := U) (U := U.calling g mk a) (Vm.Alike.refl U.vm) qK, qD, sd_NW.same (u := U) (U := U.calling g mk a) rfl qN, qW⟩
/-- what the tables say of a method -/
theorem sd_ml_ck {m : Nat} (hm : m < 206) : sd_ckM m = true ∧ sd_ckm m = true := by
  have key : ∀ (f : Nat → Bool) (lo n : Nat), (List.range' lo n).all f = true → lo ≤ m → m < lo + n → f m = true := by
    intro f lo n h h1 h2
    exact List.all_eq_true.mp h m (List.mem_range'_1.mpr ⟨h1, h2⟩)
  refine ⟨?_, ?_⟩
  · by_cases h : m < 13
    · exact key _ _ _ sd_okml0 (by omega) (by omega)
    by_cases h : m < 26
    · exact key _ _ _ sd_okml1 (by omega) (by omega)
    by_cases h : m < 39
    · exact key _ _ _ sd_okml2 (by omega) (by omega)
    by_cases h : m < 52
    · exact key _ _ _ sd_okml3 (by omega) (by omega)
    by_cases h : m < 65
    · exact key _ _ _ sd_okml4 (by omega) (by omega)
    by_cases h : m < 78
    · exact key _ _ _ sd_okml5 (by omega) (by omega)
    by_cases h : m < 91
    · exact key _ _ _ sd_okml6 (by omega) (by omega)
    by_cases h : m < 104
    · exact key _ _ _ sd_okml7 (by omega) (by omega)
    by_cases h : m < 117
    · exact key _ _ _ sd_okml8 (by omega) (by omega)
    by_cases h : m < 130
    · exact key _ _ _ sd_okml9 (by omega) (by omega)
    by_cases h : m < 143
    · exact key _ _ _ sd_okml10 (by omega) (by omega)
    by_cases h : m < 156
    · exact key _ _ _ sd_okml11 (by omega) (by omega)
    by_cases h : m < 169
    · exact key _ _ _ sd_okml12 (by omega) (by omega)
    by_cases h : m < 182
    · exact key _ _ _ sd_okml13 (by omega) (by omega)
    by_cases h : m < 195
    · exact key _ _ _ sd_okml14 (by omega) (by omega)
    · exact key _ _ _ sd_okml15 (by omega) (by omega)
  · by_cases h : m < 13
    · exact key _ _ _ sd_okT0 (by omega) (by omega)
    by_cases h : m < 26
    · exact key _ _ _ sd_okT1 (by omega) (by omega)
    by_cases h : m < 39
    · exact key _ _ _ sd_okT2 (by omega) (by omega)
    by_cases h : m < 52
    · exact key _ _ _ sd_okT3 (by omega) (by omega)
    by_cases h : m < 65
    · exact key _ _ _ sd_okT4 (by omega) (by omega)
    by_cases h : m < 78
    · exact key _ _ _ sd_okT5 (by omega) (by omega)
    by_cases h : m < 91
    · exact key _ _ _ sd_okT6 (by omega) (by omega)
    by_cases h : m < 104
    · exact key _ _ _ sd_okT7 (by omega) (by omega)
    by_cases h : m < 117
    · exact key _ _ _ sd_okU0 (by omega) (by omega)
    by_cases h : m < 130
    · exact key _ _ _ sd_okU1 (by omega) (by omega)
    by_cases h : m < 143
    · exact key _ _ _ sd_okU2 (by omega) (by omega)
    by_cases h : m < 156
    · exact key _ _ _ sd_okU3 (by omega) (by omega)
    by_cases h : m < 169
    · exact key _ _ _ sd_okU4 (by omega) (by omega)
    by_cases h : m < 182
    · exact key _ _ _ sd_okU5 (by omega) (by omega)
    by_cases h : m < 195
    · exact key _ _ _ sd_okU6 (by omega) (by omega)
    · exact key _ _ _ sd_okU7 (by omega) (by omega)
theorem sd_ml_len : tt_ml.length = 206 := by decide +kernel
theorem sd_mw_len : tt_mw.length = 206 := by decide +kernel
theorem sd_xl_len : tt_xl.length = 206 := by decide +kernel
theorem sd_M {m : Nat} {q : Mi_} (hq : tt_ml[m]? = some q) : m < 206 := by rw [← sd_ml_len]; exact (List.getElem?_eq_some_iff.mp hq).1
/-- words of a method: own class, code, initialized, static or (instance, selects) -/
theorem sd_Mw {m : Nat} {q : Mi_} (hq : tt_ml[m]? = some q) : ∃ z, tt_mw[m]? = some z ∧ q.1.cls = tt_name z.1 ∧ plainName q.1.cls = true ∧ (q.1.cls ≠ "java/lang/invoke/MethodHandle" ∧ q.1.cls ≠ "java/lang/invoke/VarHandle") ∧ q.2.2.1 ≤ 30 ∧ Cond.code q.1 q.2.1 q.2.2.1 q.2.2.2.1 ∈ sd_WS ∧ Cond.initialized q.1.cls ∈ sd_WS ∧ (z.2.2.2.1 = true → Cond.static q.1 ∈ sd_WS) ∧ (z.2.2.2.1 = false → Cond.instanceMethod q.1 ∈ sd_WS ∧ (q.1.name ≠ "<init>" → Cond.selects q.1.cls q.1 q.1 ∈ sd_WS)) := by
  have hm := sd_M hq
  have h := (sd_ml_ck hm).1
  unfold sd_ckM at h
  rw [hq] at h
  obtain ⟨z, hz⟩ : ∃ z, tt_mw[m]? = some z := ⟨_, List.getElem?_eq_getElem (by rw [sd_mw_len]; exact hm)⟩
  rw [hz] at h
  obtain ⟨y, b, nL, ret, t⟩ := q
  obtain ⟨o, k1, k2, st, k3, k4⟩ := z
  simp only [Bool.and_eq_true, decide_eq_true_eq] at h
  obtain ⟨⟨⟨⟨⟨⟨⟨h1, h2⟩, h3⟩, h4⟩, h5⟩, h6⟩, h7⟩, h8⟩ := h
  refine ⟨_, hz, h1, h2, ⟨h3, h4⟩, h5, sd_in (by rw [Bool.and_eq_true, decide_eq_true_eq]; exact h6), sd_in (by rw [Bool.and_eq_true, decide_eq_true_eq]; exact h7), fun hst => ?_, fun hst => ?_⟩
  · dsimp only at hst
    subst hst
    simp only [if_true] at h8
    exact sd_in h8
  · dsimp only at hst
    subst hst
    rw [if_neg Bool.false_ne_true, Bool.and_eq_true] at h8
    refine ⟨sd_in h8.1, fun hn => ?_⟩
    rcases Bool.or_eq_true _ _ ▸ h8.2 with z | z
    · exact absurd (of_decide_eq_true z) hn
    · exact sd_in z
theorem sd_lk_zip {t : Tab_} {xs : List Nat} {f : (Nat × Ent_) × Nat → Bool} {pc : Nat} {e : Ent_} (hl : t.length = xs.length) (h : (t.zip xs).all f = true) (he : pm_lk t pc = some e) : ∃ x, f ((pc, e), x) = true := by
  induction t generalizing xs with
  | nil => cases he
  | cons a r ih =>
    obtain ⟨k, e0⟩ := a
    cases xs with
    | nil => cases hl
    | cons x xs =>
      rw [List.zip_cons_cons, List.all_cons, Bool.and_eq_true] at h
      unfold pm_lk at he
      split at he
      · rename_i hk
        cases he
        subst hk
        exact ⟨x, h.1⟩
      · exact ih (by simpa using hl) h.2 he
/-- every entry of a method's table has been looked at -/
theorem sd_Mt {m : Nat} {q : Mi_} (hq : tt_ml[m]? = some q) {z} (hz : tt_mw[m]? = some z) : ∀ pc e, pm_lk q.2.2.2.2 pc = some e → ∃ x, sd_ckE z.1 (decide (q.1.name = "<init>")) q.2.1 q.2.2.2.1 pc e x = true := by
  intro pc e he
  have hm := sd_M hq
  have h := (sd_ml_ck hm).2
  unfold sd_ckm at h
  obtain ⟨xs, hx⟩ : ∃ xs, tt_xl[m]? = some xs := ⟨_, List.getElem?_eq_getElem (by rw [sd_xl_len]; exact hm)⟩
  rw [hq, hz, hx] at h
  obtain ⟨y, b, nL, ret, t⟩ := q
  obtain ⟨o, z2⟩ := z
  unfold sd_ckT at h
  rw [Bool.and_eq_true, decide_eq_true_eq] at h
  exact sd_lk_zip h.1 h.2 he
theorem sd_rM_of {x : Nat} {r : Nat × Nat × Nat × Nat × Nat} (hx : tt_rM[x]? = some r) : r ∈ tt_rM ∧ (r.2.2.2.1 ≠ 1 → sd_wM r ∈ sd_WS) := by
  have hm := List.mem_of_getElem? hx
  have h := List.all_eq_true.mp sd_okM r hm
  simp only [Bool.and_eq_true, Bool.or_eq_true, decide_eq_true_eq] at h
  refine ⟨hm, fun hd => ?_⟩
  rcases h.2 with q | q
  · exact absurd q hd
  · exact sd_in (by rw [Bool.and_eq_true, decide_eq_true_eq]; exact ⟨h.1, q⟩)
theorem sd_y_of {m : Nat} {q : Mi_} (hq : tt_ml[m]? = some q) : sd_y m = q.1 := by
  obtain ⟨h1, h2⟩ := List.getElem?_eq_some_iff.mp hq
  unfold sd_y
  rw [dif_pos h1, h2]
