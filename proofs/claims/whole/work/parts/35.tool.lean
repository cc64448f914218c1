-- ===== tools for the newer walker: loops, pure calls, values known =====
theorem wq_loop {X : Type} {d pc : Nat} {tab : Tab_} {sc : Sc_} {Q : Option Value → Hp_ → Prop} (L : Nat → X → Lc_) (I : Nat → X → Hp_ → Prop) (m i0 : Nat) (x0 : X) {h : Hp_} (hi0 : i0 ≤ m) (h0 : I i0 x0 h) (step : ∀ i x h, i < m → I i x h → (∀ x' h', I (i + 1) x' h' → wq d tab sc pc (L (i + 1) x') [] h' Q) → wq d tab sc pc (L i x) [] h Q) (done : ∀ x h, I m x h → wq d tab sc pc (L m x) [] h Q) : wq d tab sc pc (L i0 x0) [] h Q := by
  have key : ∀ k i x h, i ≤ m → m - i = k → I i x h → wq d tab sc pc (L i x) [] h Q := by
    intro k
    induction k with
    | zero =>
      intro i x h hi hk hI
      obtain rfl : i = m := by omega
      exact done x h hI
    | succ k ih =>
      intro i x h hi hk hI
      exact step i x h (by omega) hI (fun x' h' hI' => ih (i + 1) x' h' (by omega) (by omega) hI')
  exact key (m - i0) i0 x0 h hi0 rfl h0
theorem pure_ {α : Type} {P : α → Hp_ → Prop} {v : α} {h : Hp_} (k : P v h) : ∀ x h', (x = v ∧ h' = h) → P x h' := by
  rintro _ _ ⟨rfl, rfl⟩
  exact k
theorem nn_shl1 (k : Nat) (hk : k < 32) : nI 1 <<< (nI k &&& 31) = nI (2 ^ k) := by
  rw [nn_shl 1 k hk, Nat.one_mul]
theorem tb_mod (a k : Nat) : a / 2 ^ k % 2 = 1 ↔ a.testBit k = true := by
  rw [Nat.testBit_eq_decide_div_mod_eq]
  exact ⟨fun h => decide_eq_true h, fun h => of_decide_eq_true h⟩
theorem tb_mod0 (a k : Nat) : a / 2 ^ k % 2 ≠ 1 ↔ a.testBit k = false := by
  rw [← Bool.not_eq_true, ← tb_mod]
section TLW
variable {d n a b c e k y : Nat} {v : Int32} {w : Int64} {tab : Tab_} {sc : Sc_} {pc : Nat} {L L' : Lc_} {st st' : List Value} {h h' : Hp_} {Q : Option Value → Hp_ → Prop}
theorem wp_getIE {k1 x : Nat} {z : Int32} (hc : pm_lk tab pc = some (.getfield k1, n, a, b, 0, e, v, w)) (hk : hp_kd h x = a + 10) (hv : hp_I h x b = z) (kk : wq d tab sc n (L) (.int z :: st) h Q) : wq d tab sc pc (L) (.ref x :: st) h Q := by
  subst hv
  exact wp_getI hc hk kk
theorem wp_getZE {k1 x : Nat} {z : Int32} (hc : pm_lk tab pc = some (.getfield k1, n, a, b, 1, e, v, w)) (hk : hp_kd h x = a + 10) (hv : hp_I h x b = z) (kk : wq d tab sc n (L) (.int z :: st) h Q) : wq d tab sc pc (L) (.ref x :: st) h Q := by
  subst hv
  exact wp_getZ hc hk kk
theorem wp_getJE {k1 x : Nat} {z : Int64} (hc : pm_lk tab pc = some (.getfield k1, n, a, b, 2, e, v, w)) (hk : hp_kd h x = a + 10) (hv : hp_J h x b = z) (kk : wq d tab sc n (L) (.long z :: st) h Q) : wq d tab sc pc (L) (.ref x :: st) h Q := by
  subst hv
  exact wp_getJ hc hk kk
theorem wp_ialdE {x : Nat} {z : Int32} (j : Nat) {i : Int32} (hi : i = nI j) (hk : hp_kd h x = 1) (h0 : x ≠ 0) (hj : j < hp_ln h x) (hz : j < 2 ^ 31) (hv : hp_I h x j = z) (hc : pm_lk tab pc = some (.iaload, n, a, b, c, e, v, w)) (kk : wq d tab sc n (L) (.int z :: st) h Q) : wq d tab sc pc (L) (.int i :: .ref x :: st) h Q := by
  subst hv
  exact wp_iald j hi hk h0 hj hz hc kk
theorem wp_zaldE {x : Nat} {z : Int32} (j : Nat) {i : Int32} (hi : i = nI j) (hk : hp_kd h x = 3) (hj : j < hp_ln h x) (hz : j < 2 ^ 31) (hv : hp_I h x j = z) (hc : pm_lk tab pc = some (.baload, n, a, b, c, e, v, w)) (kk : wq d tab sc n (L) (.int z :: st) h Q) : wq d tab sc pc (L) (.int i :: .ref x :: st) h Q := by
  subst hv
  exact wp_zald j hi hk hj hz hc kk
theorem wp_laldE {x : Nat} {z : Int64} (j : Nat) {i : Int32} (hi : i = nI j) (hk : hp_kd h x = 2) (hj : j < hp_ln h x) (hz : j < 2 ^ 31) (hv : hp_J h x j = z) (hc : pm_lk tab pc = some (.laload, n, a, b, c, e, v, w)) (kk : wq d tab sc n (L) (.long z :: st) h Q) : wq d tab sc pc (L) (.int i :: .ref x :: st) h Q := by
  subst hv
  exact wp_lald j hi hk hj hz hc kk
theorem wp_i2lE {x : Int32} (z : Int64) (hz : x.toInt64 = z) (hc : pm_lk tab pc = some (.i2l, n, a, b, c, e, v, w)) (kk : wq d tab sc n (L) (.long z :: st) h Q) : wq d tab sc pc (L) (.int x :: st) h Q := by
  subst hz
  exact wp_i2l hc kk
theorem wp_l2iE {x : Int64} (z : Int32) (hz : x.toInt32 = z) (hc : pm_lk tab pc = some (.l2i, n, a, b, c, e, v, w)) (kk : wq d tab sc n (L) (.int z :: st) h Q) : wq d tab sc pc (L) (.long x :: st) h Q := by
  subst hz
  exact wp_l2i hc kk
theorem wp_dupI {x : Int32} (hc : pm_lk tab pc = some (.dup, n, a, b, c, e, v, w)) (kk : wq d tab sc n (L) (.int x :: .int x :: st) h Q) : wq d tab sc pc (L) (.int x :: st) h Q := wq_step hc rfl kk
theorem wq_loc (hL : L = L') (kk : wq d tab sc pc L' st h Q) : wq d tab sc pc L st h Q := by rw [hL]; exact kk
end TLW
-- frames without new cells: int rows and long rows of P's cells alone have changed
def fz_ (P : Nat → Prop) (h h' : Hp_) : Prop := (hp_nx h' = hp_nx h ∧ hp_sl h' = hp_sl h ∧ hp_kd h' = hp_kd h ∧ hp_ln h' = hp_ln h ∧ hp_R h' = hp_R h) ∧ ∀ c, ¬ P c → hp_I h' c = hp_I h c ∧ hp_J h' c = hp_J h c
theorem fz_refl (P : Nat → Prop) (h : Hp_) : fz_ P h h := ⟨⟨rfl, rfl, rfl, rfl, rfl⟩, fun _ _ => ⟨rfl, rfl⟩⟩
theorem fz_I {P : Nat → Prop} {h h' : Hp_} (f : fz_ P h h') {c : Nat} (hc : ¬ P c) : hp_I h' c = hp_I h c := (f.2 c hc).1
theorem fz_J {P : Nat → Prop} {h h' : Hp_} (f : fz_ P h h') {c : Nat} (hc : ¬ P c) : hp_J h' c = hp_J h c := (f.2 c hc).2
theorem fz_kd {P : Nat → Prop} {h h' : Hp_} (f : fz_ P h h') : hp_kd h' = hp_kd h := f.1.2.2.1
theorem fz_ln {P : Nat → Prop} {h h' : Hp_} (f : fz_ P h h') : hp_ln h' = hp_ln h := f.1.2.2.2.1
theorem fz_R {P : Nat → Prop} {h h' : Hp_} (f : fz_ P h h') : hp_R h' = hp_R h := f.1.2.2.2.2
theorem fz_trans {P : Nat → Prop} {h h1 h2 : Hp_} (f : fz_ P h h1) (g : fz_ P h1 h2) : fz_ P h h2 := by
  obtain ⟨⟨a1, a2, a3, a4, a5⟩, a6⟩ := f
  obtain ⟨⟨b1, b2, b3, b4, b5⟩, b6⟩ := g
  exact ⟨⟨b1.trans a1, b2.trans a2, b3.trans a3, b4.trans a4, b5.trans a5⟩, fun c hc => ⟨(b6 c hc).1.trans (a6 c hc).1, (b6 c hc).2.trans (a6 c hc).2⟩⟩
theorem fz_mono {P Q : Nat → Prop} {h h' : Hp_} (hPQ : ∀ c, P c → Q c) (f : fz_ P h h') : fz_ Q h h' := ⟨f.1, fun c hc => f.2 c (fun z => hc (hPQ c z))⟩
theorem fz_rI {P : Nat → Prop} {h h' : Hp_} (f : fz_ P h h') {c : Nat} (hc : P c) (g : Nat → Int32) : fz_ P h (hp_rI h' c g) := ⟨f.1, fun q hq => ⟨(sd_up_ne (fun z => hq (by rw [z]; exact hc))).trans (f.2 q hq).1, (f.2 q hq).2⟩⟩
theorem fz_rJ {P : Nat → Prop} {h h' : Hp_} (f : fz_ P h h') {c : Nat} (hc : P c) (g : Nat → Int64) : fz_ P h (hp_rJ h' c g) := ⟨f.1, fun q hq => ⟨(f.2 q hq).1, (sd_up_ne (fun z => hq (by rw [z]; exact hc))).trans (f.2 q hq).2⟩⟩
theorem fz_fr {P : Nat → Prop} {h h' : Hp_} (f : fr_ P h h') : fz_ P h h' := by
  obtain ⟨e1, e2, e3, e4, e5, e6⟩ := fr_S f
  exact ⟨⟨e1, e2, e3, e4, e6⟩, fun c hc => ⟨fr_I f hc, by rw [e5]⟩⟩
theorem ag_fz {P : Nat → Prop} {h h' : Hp_} (f : fz_ P h h') : ag_ P h h' := by
  obtain ⟨⟨e1, e2, e3, e4, e6⟩, e7⟩ := f
  exact ⟨Nat.le_of_eq e1.symm, Nat.le_of_eq e2.symm, fun c _ => ⟨by rw [e3], by rw [e4], fun hP => ⟨(e7 c hP).1, (e7 c hP).2, by rw [e6]⟩⟩⟩
theorem hJ_rJ (h : Hp_) (c : Nat) (f : Nat → Int64) (q k : Nat) : hp_J (hp_rJ h c f) q k = if q = c then f k else hp_J h q k := by
  by_cases z : q = c
  · rw [if_pos z, z]; exact congrFun (sd_up_eq) k
  · rw [if_neg z]; exact congrFun (sd_up_ne z) k
theorem vu_at {α : Type} (f : Nat → α) (k : Nat) (v : α) (j : Nat) : va_up f k v j = if j = k then v else f j := rfl
