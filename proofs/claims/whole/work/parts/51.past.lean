-- ===== how it came: rows that fit what was seen =====
/-- what was seen behind b figures fits -/
def ft_ (s : Sg_) (b : Nat) (u : Nat → Nat) : Bool := (sg_si s).all (fun q => decide (q.1 ≠ b) || decide (u q.2.1 = q.2.2))
def sm_ (g : Nat → Nat) : Nat → Nat
  | 0 => 0
  | f + 1 => sm_ g f + g f
theorem sm_le {g : Nat → Nat} {c : Nat} : ∀ n, (∀ f, f < n → g f ≤ c) → sm_ g n ≤ n * c
  | 0, _ => Nat.zero_le _
  | n + 1, h => by
    have h1 := sm_le n (fun f hf => h f (by omega))
    have h2 := h n (by omega)
    show sm_ g n + g n ≤ (n + 1) * c
    rw [Nat.add_mul, Nat.one_mul]
    omega
theorem sm_mono {g : Nat → Nat} : ∀ n, sm_ g n ≤ sm_ g (n + 1) := fun n => Nat.le_add_right _ _
theorem sm_mono2 {g : Nat → Nat} {n : Nat} : ∀ k, sm_ g n ≤ sm_ g (n + k)
  | 0 => Nat.le_refl _
  | k + 1 => Nat.le_trans (sm_mono2 k) (sm_mono (n + k))
theorem sm_pos {g : Nat → Nat} : ∀ n, 0 < sm_ g n → ∃ f, f < n ∧ 0 < g f
  | 0, h => absurd h (Nat.lt_irrefl 0)
  | n + 1, h => by
    have h' : 0 < sm_ g n + g n := h
    rcases Nat.eq_zero_or_pos (g n) with z | z
    · obtain ⟨f, h1, h2⟩ := sm_pos (g := g) n (by omega)
      exact ⟨f, by omega, h2⟩
    · exact ⟨n, Nat.lt_succ_self n, z⟩
theorem sm_cong {g g2 : Nat → Nat} : ∀ n, (∀ f, f < n → g f = g2 f) → sm_ g n = sm_ g2 n
  | 0, _ => rfl
  | n + 1, h => by
    show sm_ g n + g n = sm_ g2 n + g2 n
    rw [sm_cong n (fun f hf => h f (by omega)), h n (by omega)]
/-- how many ends of rows of m figures, k figures ahead of their end, the goods being at u -/
def nw_ (s : Sg_) (m : Nat) : Nat → (Nat → Nat) → Nat
  | 0, u => if ft_ s m u then 1 else 0
  | k + 1, u => if ft_ s (m - (k + 1)) u then sm_ (fun f => if may_ s f then nw_ s m k (fun g => mv_ s f (u g)) else 0) 6 else 0
theorem nw_le (s : Sg_) (m : Nat) : ∀ k u, nw_ s m k u ≤ 6 ^ k
  | 0, u => by unfold nw_; split <;> decide
  | k + 1, u => by
    unfold nw_
    split
    · have := sm_le (g := fun f => if may_ s f then nw_ s m k (fun g => mv_ s f (u g)) else 0) (c := 6 ^ k) 6 (fun f _ => by
        (try dsimp only)
        split
        · exact nw_le s m k _
        · exact Nat.zero_le _)
      rw [Nat.pow_succ, Nat.mul_comm]
      exact this
    · exact Nat.zero_le _
theorem nw_12 (s : Sg_) (m : Nat) {k : Nat} (hk : k ≤ 12) (u : Nat → Nat) : nw_ s m k u < 2 ^ 62 := Nat.lt_of_le_of_lt (nw_le s m k u) (Nat.lt_of_le_of_lt (Nat.pow_le_pow_right (by decide) hk) (by decide))
theorem nw_on {s : Sg_} {m k : Nat} {u : Nat → Nat} (h : 0 < nw_ s m (k + 1) u) : ∃ f, f < 6 ∧ may_ s f = true ∧ 0 < nw_ s m k (fun g => mv_ s f (u g)) := by
  unfold nw_ at h
  split at h
  · obtain ⟨f, h1, h2⟩ := sm_pos 6 h
    (try dsimp only at h2)
    split at h2
    · rename_i z
      exact ⟨f, h1, z, h2⟩
    · exact absurd h2 (Nat.lt_irrefl 0)
  · exact absurd h (Nat.lt_irrefl 0)
/-- the first figure on a row that fits, with k figures behind it -/
def fs_ (s : Sg_) (m k : Nat) (u : Nat → Nat) : Nat := (ff_ (fun f => may_ s f && decide (0 < nw_ s m k (fun g => mv_ s f (u g)))) 6 0).getD 0
theorem fs_ok {s : Sg_} {m k : Nat} {u : Nat → Nat} (h : 0 < nw_ s m (k + 1) u) : fs_ s m k u < 6 ∧ may_ s (fs_ s m k u) = true ∧ 0 < nw_ s m k (fun g => mv_ s (fs_ s m k u) (u g)) ∧ ∀ f, f < fs_ s m k u → ¬ (may_ s f = true ∧ 0 < nw_ s m k (fun g => mv_ s f (u g))) := by
  obtain ⟨f0, h1, h2, h3⟩ := nw_on h
  have key : ∃ f, f < 6 ∧ may_ s f = true ∧ 0 < nw_ s m k (fun g => mv_ s f (u g)) ∧ ∀ f2, f2 < f → ¬ (may_ s f2 = true ∧ 0 < nw_ s m k (fun g => mv_ s f2 (u g))) := by
    obtain ⟨f, a1, a2⟩ := pk_least (fun f => may_ s f = true ∧ 0 < nw_ s m k (fun g => mv_ s f (u g))) ⟨f0, h2, h3⟩
    refine ⟨f, ?_, a1.1, a1.2, a2⟩
    rcases Nat.lt_or_ge f0 f with z | z
    · exact absurd ⟨h2, h3⟩ (a2 f0 z)
    · omega
  obtain ⟨f, b1, b2, b3, b4⟩ := key
  have e : fs_ s m k u = f := by
    unfold fs_
    rw [ff_at (i := f) (fun j hj => by
      have := b4 j hj
      cases hm : may_ s j with
      | false => rfl
      | true => rw [Bool.true_and]; exact decide_eq_false (fun z => this ⟨hm, z⟩)) b1 (by rw [b2, Bool.true_and]; exact decide_eq_true b3)]
    rfl
  rw [e]
  exact ⟨b1, b2, b3, b4⟩
/-- where the goods are behind i figures of the first row -/
def pt_ (s : Sg_) (m : Nat) : Nat → Nat → Nat
  | 0 => fun g => g
  | i + 1 => fun g => mv_ s (fs_ s m (m - (i + 1)) (pt_ s m i)) (pt_ s m i g)
theorem pt_P {s : Sg_} (w : sg_wf s) (m : Nat) : ∀ i, IsP (sg_n s) (pt_ s m i)
  | 0 => IsP.id _
  | i + 1 => (pt_P w m i).then (mv_P w _)
theorem pt_pos {s : Sg_} {m : Nat} (h : 0 < nw_ s m m (fun g => g)) : ∀ i, i ≤ m → 0 < nw_ s m (m - i) (pt_ s m i)
  | 0, _ => h
  | i + 1, hi => by
    have ih := pt_pos h i (by omega)
    rw [show m - i = (m - (i + 1)) + 1 by omega] at ih
    exact (fs_ok ih).2.2.1
/-- where they can have been behind i figures -/
def rc_ (s : Sg_) (m : Nat) : Nat → (Nat → Nat) → Prop
  | 0, u => u = fun g => g
  | i + 1, v => ∃ u f, rc_ s m i u ∧ f < 6 ∧ may_ s f = true ∧ v = (fun g => mv_ s f (u g)) ∧ 0 < nw_ s m (m - (i + 1)) v
theorem rc_P {s : Sg_} (w : sg_wf s) (m : Nat) : ∀ i u, rc_ s m i u → IsP (sg_n s) u
  | 0, u, h => by rw [show u = fun g => g from h]; exact IsP.id _
  | i + 1, v, h => by
    obtain ⟨u, f, h1, _, _, h2, _⟩ := h
    rw [h2]
    exact (rc_P w m i u h1).then (mv_P w f)
/-- figures that can have been the i-th -/
def cb_ (s : Sg_) (m i x : Nat) : Prop := x < 64 ∧ ∀ f, x.testBit f = true ↔ f < 6 ∧ may_ s f = true ∧ ∃ u, rc_ s m i u ∧ 0 < nw_ s m (m - (i + 1)) (fun g => mv_ s f (u g))
theorem tb_ext {x y : Nat} (h : ∀ i, x.testBit i = true ↔ y.testBit i = true) : x = y := Nat.eq_of_testBit_eq fun i => by
  cases e : x.testBit i with
  | true => exact ((h i).mp e).symm
  | false =>
    cases e2 : y.testBit i with
    | false => rfl
    | true => rw [(h i).mpr e2] at e; cases e
theorem cb_uniq {s : Sg_} {m i x y : Nat} (a : cb_ s m i x) (b : cb_ s m i y) : x = y := tb_ext fun f => (a.2 f).trans (b.2 f).symm
theorem ar_surj {n : Nat} {w : Nat → Nat} (hn : n ≤ 8) (W : Lz_ n n w) : ∃ u, IsP n u ∧ ar_ n u = w := by
  have P : IsP n (fun p => if p < n then w p else p) := ⟨fun i hi => by dsimp only; rw [if_pos hi]; exact W.1.1 i hi, fun i j hi hj e => by dsimp only at e; rw [if_pos hi, if_pos hj] at e; exact W.1.2 i j hi hj e, fun i hi => if_neg (by omega)⟩
  refine ⟨in_ (fun p => if p < n then w p else p), in_Pn hn P, funext fun p => ?_⟩
  unfold ar_
  rw [in_in (P.mono hn)]
  by_cases z : p < n
  · rw [if_pos z]; exact if_pos z
  · rw [if_neg z, W.2 p (by omega)]
theorem rk_surj {n num : Nat} (h : num < ce_ n n) : ∃ w, Lz_ n n w ∧ rk_ n w n = num := by
  have key : ∀ p, p ≤ n → ∃ w, Ly_ n p w ∧ rk_ n w p = lr_ num (n - p) := by
    intro p
    induction p with
    | zero =>
      intro _
      refine ⟨fun _ => 0, ⟨fun i hi => absurd hi (Nat.not_lt_zero i), fun i j hi => absurd hi (Nat.not_lt_zero i)⟩, ?_⟩
      rw [Nat.sub_zero, lr_0 h]
      rfl
    | succ p ih =>
      intro hp
      obtain ⟨w, h1, h2⟩ := ih (by omega)
      have hcnt : ub_ (us_ w p) n = n - p := by unfold ub_; rw [us_count h1 p (Nat.le_refl p)]
      have hdl := Nat.mod_lt (lr_ num (n - p - 1)) (show n - p > 0 by omega)
      obtain ⟨g, g1, g2, g3⟩ := ub_find (us_ w p) (lr_ num (n - p - 1) % (n - p)) n (by rw [hcnt]; exact hdl)
      obtain ⟨R1, R2, _⟩ := rk_more h1 (by omega) g1 g2 g3 h2
      exact ⟨_, R1, R2⟩
  obtain ⟨w, h1, h2⟩ := key n (Nat.le_refl n)
  refine ⟨fun i => if i < n then w i else 0, ⟨⟨fun i hi => by dsimp only; rw [if_pos hi]; exact h1.1 i hi, fun i j hi hj e => by dsimp only at e; rw [if_pos hi, if_pos hj] at e; exact h1.2 i j hi hj e⟩, fun i hi => if_neg (by omega)⟩, ?_⟩
  rw [rk_cong n (fun j hj => if_pos hj), h2, Nat.sub_self]
  rfl
theorem rk_id : ∀ n : Fin 9, rk_ n.1 (fun p => if p < n.1 then p else 0) n.1 = 0 := by decide +kernel
/-- the rank of where goods are -/
def ru_ (s : Sg_) (u : Nat → Nat) : Nat := rw_ s (ar_ (sg_n s) u)
theorem ru_id {s : Sg_} (w : sg_wf s) : ru_ s (fun g => g) = 0 := by
  have h := rk_id ⟨sg_n s, by have := w.1.2; omega⟩
  dsimp only at h
  unfold ru_ rw_
  rw [← h]
  unfold ar_
  rw [in_id]
theorem ru_lt {s : Sg_} (w : sg_wf s) {u : Nat → Nat} (hu : IsP (sg_n s) u) : ru_ s u < 40320 := rw_lt w (ar_Lz w.1.2 hu)
theorem ru_ce {s : Sg_} (w : sg_wf s) {u : Nat → Nat} (hu : IsP (sg_n s) u) : ru_ s u < ce_ (sg_n s) (sg_n s) := rk_lt (ar_Lz w.1.2 hu).1 _ (Nat.le_refl _)
theorem ru_inj {s : Sg_} (w : sg_wf s) {u v : Nat → Nat} (hu : IsP (sg_n s) u) (hv : IsP (sg_n s) v) (e : ru_ s u = ru_ s v) : u = v := ar_inj w.1.2 hu hv (Lz_ext (ar_Lz w.1.2 hu) (ar_Lz w.1.2 hv) e)
theorem ru_surj {s : Sg_} (w : sg_wf s) {i : Nat} (hi : i < ce_ (sg_n s) (sg_n s)) : ∃ u, IsP (sg_n s) u ∧ ru_ s u = i := by
  obtain ⟨v, h1, h2⟩ := rk_surj hi
  obtain ⟨u, h3, h4⟩ := ar_surj w.1.2 h1
  exact ⟨u, h3, by unfold ru_ rw_; rw [h4]; exact h2⟩
