-- ===== RULES for the pure machine =====
/-- call's answers are call2's too -/
def wq_sub (call call2 : Nat → List Value → Hp_ → Option (Option Value × Hp_)) : Prop := ∀ y as h o, call y as h = some o → call2 y as h = some o
theorem wq_ex_mono {call call2 : Nat → List Value → Hp_ → Option (Option Value × Hp_)} (hc : wq_sub call call2) {tab : Tab_} {sc : Sc_} : ∀ (N M pc : Nat) (L : Lc_) (st : List Value) (h : Hp_) (o : Option Value × Hp_), N ≤ M → pm_ex call tab sc N pc L st h = some o → pm_ex call2 tab sc M pc L st h = some o := by
  intro N
  induction N with
  | zero => intro M pc L st h o _ hs; cases hs
  | succ N ih =>
    intro M pc L st h o hM hs
    obtain ⟨M, rfl⟩ : ∃ M', M = M' + 1 := ⟨M - 1, by omega⟩
    rw [pm_ex] at hs ⊢
    split at hs
    · cases hs
    · rename_i e he
      (try rw [he])
      (try dsimp only)
      split at hs
      · cases hs
      · rename_i pc1 L1 st1 h1 hs1
        (try rw [hs1])
        exact ih _ _ _ _ _ _ (by omega) hs
      · rename_i r1 hs1
        (try rw [hs1])
        exact hs
      · rename_i y as pc1 L1 st1 hs1
        (try rw [hs1])
        (try dsimp only)
        split at hs
        · cases hs
        · rename_i r1 h1 hcl
          (try rw [hc _ _ _ _ hcl])
          exact ih _ _ _ _ _ _ (by omega) hs
theorem wq_call_fuel (ms : Nat → Option Mi_) {N M : Nat} (hN : N ≤ M) : ∀ d, wq_sub (pm_call ms d N) (pm_call ms d M) := by
  intro d
  induction d with
  | zero => intro y as h o hs; cases hs
  | succ d ih =>
    intro y as h o hs
    rw [pm_call] at hs ⊢
    split at hs
    · cases hs
    · rename_i q1 q2 q3 q4 q5 hy
      (try rw [hy])
      (try dsimp only)
      split at hs
      · rename_i hsum
        (try rw [if_pos hsum])
        exact wq_ex_mono ih _ _ _ _ _ _ _ hN hs
      · cases hs
theorem wq_call_deep (ms : Nat → Option Mi_) (N : Nat) : ∀ d, wq_sub (pm_call ms d N) (pm_call ms (d + 1) N) := by
  intro d
  induction d with
  | zero => intro y as h o hs; cases hs
  | succ d ih =>
    intro y as h o hs
    rw [pm_call] at hs ⊢
    split at hs
    · cases hs
    · rename_i q1 q2 q3 q4 q5 hy
      (try rw [hy])
      (try dsimp only)
      split at hs
      · rename_i hsum
        (try rw [if_pos hsum])
        exact wq_ex_mono ih _ _ _ _ _ _ _ (Nat.le_refl _) hs
      · cases hs
/-- a run comes to an end with Q; a call of depth d does -/
def wq (d : Nat) (tab : Tab_) (sc : Sc_) (pc : Nat) (L : Lc_) (st : List Value) (h : Hp_) (Q : Option Value → Hp_ → Prop) : Prop := ∃ (N : Nat) (r : Option Value) (h' : Hp_), pm_ex (pm_call tt_ms d N) tab sc N pc L st h = some (r, h') ∧ Q r h'
def cq (d y : Nat) (as : List Value) (h : Hp_) (Q : Option Value → Hp_ → Prop) : Prop := ∃ (N : Nat) (r : Option Value) (h' : Hp_), pm_call tt_ms d N y as h = some (r, h') ∧ Q r h'
def cI (d y : Nat) (as : List Value) (h : Hp_) (P : Int32 → Hp_ → Prop) : Prop := cq d y as h (fun r h' => ∃ x, r = some (.int x) ∧ P x h')
def cJ (d y : Nat) (as : List Value) (h : Hp_) (P : Int64 → Hp_ → Prop) : Prop := cq d y as h (fun r h' => ∃ x, r = some (.long x) ∧ P x h')
def cA (d y : Nat) (as : List Value) (h : Hp_) (P : Nat → Hp_ → Prop) : Prop := cq d y as h (fun r h' => ∃ x, r = some (.ref x) ∧ P x h')
def cV (d y : Nat) (as : List Value) (h : Hp_) (P : Hp_ → Prop) : Prop := cq d y as h (fun r h' => r = none ∧ P h')
theorem cq_deeper {d k y : Nat} {as : List Value} {h : Hp_} {Q : Option Value → Hp_ → Prop} (hd : d ≤ k) (hc : cq d y as h Q) : cq k y as h Q := by
  obtain ⟨N, r, h', h1, h2⟩ := hc
  refine ⟨N, r, h', ?_, h2⟩
  induction k with
  | zero => obtain rfl : d = 0 := by omega
            exact h1
  | succ k ih =>
    rcases Nat.lt_or_ge k d with q | q
    · obtain rfl : d = k + 1 := by omega
      exact h1
    · exact wq_call_deep tt_ms N k _ _ _ _ (ih q)
theorem cq_post {d y : Nat} {as : List Value} {h : Hp_} {Q Q2 : Option Value → Hp_ → Prop} (hc : cq d y as h Q) (hq : ∀ r h', Q r h' → Q2 r h') : cq d y as h Q2 := by
  obtain ⟨N, r, h', h1, h2⟩ := hc
  exact ⟨N, r, h', h1, hq _ _ h2⟩
theorem cI_post {d y : Nat} {as : List Value} {h : Hp_} {P P2 : Int32 → Hp_ → Prop} (hc : cI d y as h P) (hq : ∀ x h', P x h' → P2 x h') : cI d y as h P2 := cq_post hc (fun r h' => by rintro ⟨x, e, p⟩; exact ⟨x, e, hq _ _ p⟩)
theorem cJ_post {d y : Nat} {as : List Value} {h : Hp_} {P P2 : Int64 → Hp_ → Prop} (hc : cJ d y as h P) (hq : ∀ x h', P x h' → P2 x h') : cJ d y as h P2 := cq_post hc (fun r h' => by rintro ⟨x, e, p⟩; exact ⟨x, e, hq _ _ p⟩)
theorem cA_post {d y : Nat} {as : List Value} {h : Hp_} {P P2 : Nat → Hp_ → Prop} (hc : cA d y as h P) (hq : ∀ x h', P x h' → P2 x h') : cA d y as h P2 := cq_post hc (fun r h' => by rintro ⟨x, e, p⟩; exact ⟨x, e, hq _ _ p⟩)
theorem cV_post {d y : Nat} {as : List Value} {h : Hp_} {P P2 : Hp_ → Prop} (hc : cV d y as h P) (hq : ∀ h', P h' → P2 h') : cV d y as h P2 := cq_post hc (fun r h' => by rintro ⟨e, p⟩; exact ⟨e, hq _ p⟩)
theorem wq_post {d : Nat} {tab : Tab_} {sc : Sc_} {pc : Nat} {L : Lc_} {st : List Value} {h : Hp_} {Q Q2 : Option Value → Hp_ → Prop} (hc : wq d tab sc pc L st h Q) (hq : ∀ r h', Q r h' → Q2 r h') : wq d tab sc pc L st h Q2 := by
  obtain ⟨N, r, h', h1, h2⟩ := hc
  exact ⟨N, r, h', h1, hq _ _ h2⟩
section WQ
variable {d n a b c e k y : Nat} {v : Int32} {w : Int64} {tab : Tab_} {sc : Sc_} {pc : Nat} {L L' : Lc_} {st st' : List Value} {h h' : Hp_} {Q : Option Value → Hp_ → Prop}
theorem wq_step {en : Ent_} (hc : pm_lk tab pc = some en) (hs : pm_sem sc pc en L st h = some (.inl (n, L', st', h'))) (kk : wq d tab sc n L' st' h' Q) : wq d tab sc pc L st h Q := by
  obtain ⟨N, r, h1, e1, e2⟩ := kk
  refine ⟨N + 1, r, h1, ?_, e2⟩
  rw [pm_ex, hc]
  dsimp only
  rw [hs]
  exact wq_ex_mono (wq_call_fuel tt_ms (Nat.le_succ N) d) N N _ _ _ _ _ (Nat.le_refl _) e1
theorem wq_ret {en : Ent_} {r : Option Value} (hc : pm_lk tab pc = some en) (hs : pm_sem sc pc en L st h = some (.inr (.inl (r, h')))) (kk : Q r h') : wq d tab sc pc L st h Q := by
  refine ⟨1, r, h', ?_, kk⟩
  rw [pm_ex, hc]
  dsimp only
  rw [hs]
theorem wq_call {en : Ent_} {as : List Value} {Q1 : Option Value → Hp_ → Prop} (hc : pm_lk tab pc = some en) (hs : pm_sem sc pc en L st h = some (.inr (.inr (y, as, n, L', st')))) (hd : k ≤ d) (hq : cq k y as h Q1) (kk : ∀ r h', Q1 r h' → wq d tab sc n L' (r.toList ++ st') h' Q) : wq d tab sc pc L st h Q := by
  obtain ⟨N, r, h1, e1, e2⟩ := cq_deeper hd hq
  obtain ⟨M, r2, h2, e3, e4⟩ := kk r h1 e2
  refine ⟨max N M + 1, r2, h2, ?_, e4⟩
  rw [pm_ex, hc]
  dsimp only
  rw [hs]
  dsimp only
  rw [wq_call_fuel tt_ms (show N ≤ max N M + 1 by omega) d _ _ _ _ e1]
  exact wq_ex_mono (wq_call_fuel tt_ms (show M ≤ max N M + 1 by omega) d) M (max N M) _ _ _ _ _ (by omega) e3
theorem cq_in {q : Mi_} {as : List Value} (hy : tt_ml[y]? = some q) (hs : (as.map (fun v => v.category)).sum ≤ q.2.2.1) (hl : pm_lay as q.2.2.1 = L) (kk : wq d q.2.2.2.2 none 0 L [] h Q) : cq (d + 1) y as h Q := by
  obtain ⟨N, r, h', e1, e2⟩ := kk
  refine ⟨N, r, h', ?_, e2⟩
  obtain ⟨q1, q2, q3, q4, q5⟩ := q
  rw [pm_call]
  rw [show tt_ms y = tt_ml[y]? from rfl, hy]
  dsimp only at hs hl e1 ⊢
  rw [if_pos hs, hl]
  exact e1
def nl_ (z : Option Value) : Bool := match z with
  | some v => decide (v.category ≠ 2)
  | none => true
theorem pm_st_nl {L : Lc_} {i : Nat} {v : Value} (z : Option Value) (h : L[i]? = some z) (hz : nl_ z = true) : pm_st L (i + 1) v = L.set (i + 1) (some v) := by
  unfold pm_st pm_kill
  dsimp only
  rw [h]
  cases z with
  | none => rfl
  | some w =>
    dsimp only
    rw [if_neg (of_decide_eq_true hz)]
theorem pm_st_0 {L : Lc_} {v : Value} : pm_st L 0 v = L.set 0 (some v) := rfl

theorem wp_iload0 {x : Int32} {t : Lc_} (hc : pm_lk tab pc = some (.iload_n 0, n, a, b, c, e, v, w)) (kk : wq d tab sc n (some (.int x) :: t) (.int x :: st) h Q) : wq d tab sc pc (some (.int x) :: t) (st) h Q := wq_step hc rfl kk
theorem wp_lload0 {x : Int64} {t : Lc_} (hc : pm_lk tab pc = some (.lload_n 0, n, a, b, c, e, v, w)) (kk : wq d tab sc n (some (.long x) :: t) (.long x :: st) h Q) : wq d tab sc pc (some (.long x) :: t) (st) h Q := wq_step hc rfl kk
theorem wp_aload0 {x : Nat} {t : Lc_} (hc : pm_lk tab pc = some (.aload_n 0, n, a, b, c, e, v, w)) (kk : wq d tab sc n (some (.ref x) :: t) (.ref x :: st) h Q) : wq d tab sc pc (some (.ref x) :: t) (st) h Q := wq_step hc rfl kk
theorem wp_istore0 {x : Int32} {z : Option Value} {t : Lc_} (hc : pm_lk tab pc = some (.istore_n 0, n, a, b, c, e, v, w)) (kk : wq d tab sc n (some (.int x) :: t) (st) h Q) : wq d tab sc pc (z :: t) (.int x :: st) h Q := by
  have e1 : pm_st (z :: t) 0 (.int x) = some (.int x) :: t := rfl
  exact wq_step hc (show (if 0 < (z :: t).length then some (Sum.inl (n, pm_st (z :: t) 0 (.int x), st, h)) else none) = some (Sum.inl (n, some (.int x) :: t, st, h)) by rw [if_pos (by simp), e1]) kk
theorem wp_astore0 {x : Nat} {z : Option Value} {t : Lc_} (hc : pm_lk tab pc = some (.astore_n 0, n, a, b, c, e, v, w)) (kk : wq d tab sc n (some (.ref x) :: t) (st) h Q) : wq d tab sc pc (z :: t) (.ref x :: st) h Q := by
  have e1 : pm_st (z :: t) 0 (.ref x) = some (.ref x) :: t := rfl
  exact wq_step hc (show (if 0 < (z :: t).length then some (Sum.inl (n, pm_st (z :: t) 0 (.ref x), st, h)) else none) = some (Sum.inl (n, some (.ref x) :: t, st, h)) by rw [if_pos (by simp), e1]) kk
theorem wp_lstore0 {x : Int64} {z z2 : Option Value} {t : Lc_} (hc : pm_lk tab pc = some (.lstore_n 0, n, a, b, c, e, v, w)) (kk : wq d tab sc n (some (.long x) :: none :: t) (st) h Q) : wq d tab sc pc (z :: z2 :: t) (.long x :: st) h Q := by
  have e1 : pm_st (z :: z2 :: t) 0 (.long x) = some (.long x) :: z2 :: t := rfl
  have e2 : pm_stJ (z :: z2 :: t) 0 (.long x) = some (.long x) :: none :: t := by
    show (pm_st (z :: z2 :: t) 0 (.long x)).set (0 + 1) none = _
    rw [e1]
    rfl
  exact wq_step hc (show (if 0 + 1 < (z :: z2 :: t).length then some (Sum.inl (n, pm_stJ (z :: z2 :: t) 0 (.long x), st, h)) else none) = some (Sum.inl (n, some (.long x) :: none :: t, st, h)) by rw [if_pos (by simp), e2]) kk
theorem wp_iinc0 {x : Int32} {w1 : Int} {t : Lc_} (hc : pm_lk tab pc = some (.iinc 0 w1, n, a, b, c, e, v, w)) (kk : wq d tab sc n (some (.int (x + v)) :: t) (st) h Q) : wq d tab sc pc (some (.int x) :: t) (st) h Q := by
  have e1 : pm_st (some (.int x) :: t) 0 (.int (x + v)) = some (.int (x + v)) :: t := rfl
  exact wq_step hc (show some (Sum.inl (n, pm_st (some (.int x) :: t) 0 (.int (x + v)), st, h)) = _ by rw [e1]) kk
theorem wp_iload1 {x : Int32} {a0 : Option Value} {t : Lc_} (hc : pm_lk tab pc = some (.iload_n 1, n, a, b, c, e, v, w)) (kk : wq d tab sc n (a0 :: some (.int x) :: t) (.int x :: st) h Q) : wq d tab sc pc (a0 :: some (.int x) :: t) (st) h Q := wq_step hc rfl kk
theorem wp_lload1 {x : Int64} {a0 : Option Value} {t : Lc_} (hc : pm_lk tab pc = some (.lload_n 1, n, a, b, c, e, v, w)) (kk : wq d tab sc n (a0 :: some (.long x) :: t) (.long x :: st) h Q) : wq d tab sc pc (a0 :: some (.long x) :: t) (st) h Q := wq_step hc rfl kk
theorem wp_aload1 {x : Nat} {a0 : Option Value} {t : Lc_} (hc : pm_lk tab pc = some (.aload_n 1, n, a, b, c, e, v, w)) (kk : wq d tab sc n (a0 :: some (.ref x) :: t) (.ref x :: st) h Q) : wq d tab sc pc (a0 :: some (.ref x) :: t) (st) h Q := wq_step hc rfl kk
theorem wp_istore1 {x : Int32} {a0 : Option Value} {z : Option Value} {t : Lc_} (hc : pm_lk tab pc = some (.istore_n 1, n, a, b, c, e, v, w)) (hz : nl_ a0 = true := by rfl) (kk : wq d tab sc n (a0 :: some (.int x) :: t) (st) h Q) : wq d tab sc pc (a0 :: z :: t) (.int x :: st) h Q := by
  have e1 : pm_st (a0 :: z :: t) 1 (.int x) = a0 :: some (.int x) :: t := (pm_st_nl a0 rfl hz)
  exact wq_step hc (show (if 1 < (a0 :: z :: t).length then some (Sum.inl (n, pm_st (a0 :: z :: t) 1 (.int x), st, h)) else none) = some (Sum.inl (n, a0 :: some (.int x) :: t, st, h)) by rw [if_pos (by simp), e1]) kk
theorem wp_astore1 {x : Nat} {a0 : Option Value} {z : Option Value} {t : Lc_} (hc : pm_lk tab pc = some (.astore_n 1, n, a, b, c, e, v, w)) (hz : nl_ a0 = true := by rfl) (kk : wq d tab sc n (a0 :: some (.ref x) :: t) (st) h Q) : wq d tab sc pc (a0 :: z :: t) (.ref x :: st) h Q := by
  have e1 : pm_st (a0 :: z :: t) 1 (.ref x) = a0 :: some (.ref x) :: t := (pm_st_nl a0 rfl hz)
  exact wq_step hc (show (if 1 < (a0 :: z :: t).length then some (Sum.inl (n, pm_st (a0 :: z :: t) 1 (.ref x), st, h)) else none) = some (Sum.inl (n, a0 :: some (.ref x) :: t, st, h)) by rw [if_pos (by simp), e1]) kk
theorem wp_lstore1 {x : Int64} {a0 : Option Value} {z z2 : Option Value} {t : Lc_} (hc : pm_lk tab pc = some (.lstore_n 1, n, a, b, c, e, v, w)) (hz : nl_ a0 = true := by rfl) (kk : wq d tab sc n (a0 :: some (.long x) :: none :: t) (st) h Q) : wq d tab sc pc (a0 :: z :: z2 :: t) (.long x :: st) h Q := by
  have e1 : pm_st (a0 :: z :: z2 :: t) 1 (.long x) = a0 :: some (.long x) :: z2 :: t := (pm_st_nl a0 rfl hz)
  have e2 : pm_stJ (a0 :: z :: z2 :: t) 1 (.long x) = a0 :: some (.long x) :: none :: t := by
    show (pm_st (a0 :: z :: z2 :: t) 1 (.long x)).set (1 + 1) none = _
    rw [e1]
    rfl
  exact wq_step hc (show (if 1 + 1 < (a0 :: z :: z2 :: t).length then some (Sum.inl (n, pm_stJ (a0 :: z :: z2 :: t) 1 (.long x), st, h)) else none) = some (Sum.inl (n, a0 :: some (.long x) :: none :: t, st, h)) by rw [if_pos (by simp), e2]) kk
theorem wp_iinc1 {x : Int32} {w1 : Int} {a0 : Option Value} {t : Lc_} (hc : pm_lk tab pc = some (.iinc 1 w1, n, a, b, c, e, v, w)) (hz : nl_ a0 = true := by rfl) (kk : wq d tab sc n (a0 :: some (.int (x + v)) :: t) (st) h Q) : wq d tab sc pc (a0 :: some (.int x) :: t) (st) h Q := by
  have e1 : pm_st (a0 :: some (.int x) :: t) 1 (.int (x + v)) = a0 :: some (.int (x + v)) :: t := (pm_st_nl a0 rfl hz)
  exact wq_step hc (show some (Sum.inl (n, pm_st (a0 :: some (.int x) :: t) 1 (.int (x + v)), st, h)) = _ by rw [e1]) kk
theorem wp_iload2 {x : Int32} {a0 a1 : Option Value} {t : Lc_} (hc : pm_lk tab pc = some (.iload_n 2, n, a, b, c, e, v, w)) (kk : wq d tab sc n (a0 :: a1 :: some (.int x) :: t) (.int x :: st) h Q) : wq d tab sc pc (a0 :: a1 :: some (.int x) :: t) (st) h Q := wq_step hc rfl kk
theorem wp_lload2 {x : Int64} {a0 a1 : Option Value} {t : Lc_} (hc : pm_lk tab pc = some (.lload_n 2, n, a, b, c, e, v, w)) (kk : wq d tab sc n (a0 :: a1 :: some (.long x) :: t) (.long x :: st) h Q) : wq d tab sc pc (a0 :: a1 :: some (.long x) :: t) (st) h Q := wq_step hc rfl kk
theorem wp_aload2 {x : Nat} {a0 a1 : Option Value} {t : Lc_} (hc : pm_lk tab pc = some (.aload_n 2, n, a, b, c, e, v, w)) (kk : wq d tab sc n (a0 :: a1 :: some (.ref x) :: t) (.ref x :: st) h Q) : wq d tab sc pc (a0 :: a1 :: some (.ref x) :: t) (st) h Q := wq_step hc rfl kk
theorem wp_istore2 {x : Int32} {a0 a1 : Option Value} {z : Option Value} {t : Lc_} (hc : pm_lk tab pc = some (.istore_n 2, n, a, b, c, e, v, w)) (hz : nl_ a1 = true := by rfl) (kk : wq d tab sc n (a0 :: a1 :: some (.int x) :: t) (st) h Q) : wq d tab sc pc (a0 :: a1 :: z :: t) (.int x :: st) h Q := by
  have e1 : pm_st (a0 :: a1 :: z :: t) 2 (.int x) = a0 :: a1 :: some (.int x) :: t := (pm_st_nl a1 rfl hz)
  exact wq_step hc (show (if 2 < (a0 :: a1 :: z :: t).length then some (Sum.inl (n, pm_st (a0 :: a1 :: z :: t) 2 (.int x), st, h)) else none) = some (Sum.inl (n, a0 :: a1 :: some (.int x) :: t, st, h)) by rw [if_pos (by simp), e1]) kk
theorem wp_astore2 {x : Nat} {a0 a1 : Option Value} {z : Option Value} {t : Lc_} (hc : pm_lk tab pc = some (.astore_n 2, n, a, b, c, e, v, w)) (hz : nl_ a1 = true := by rfl) (kk : wq d tab sc n (a0 :: a1 :: some (.ref x) :: t) (st) h Q) : wq d tab sc pc (a0 :: a1 :: z :: t) (.ref x :: st) h Q := by
  have e1 : pm_st (a0 :: a1 :: z :: t) 2 (.ref x) = a0 :: a1 :: some (.ref x) :: t := (pm_st_nl a1 rfl hz)
  exact wq_step hc (show (if 2 < (a0 :: a1 :: z :: t).length then some (Sum.inl (n, pm_st (a0 :: a1 :: z :: t) 2 (.ref x), st, h)) else none) = some (Sum.inl (n, a0 :: a1 :: some (.ref x) :: t, st, h)) by rw [if_pos (by simp), e1]) kk
theorem wp_lstore2 {x : Int64} {a0 a1 : Option Value} {z z2 : Option Value} {t : Lc_} (hc : pm_lk tab pc = some (.lstore_n 2, n, a, b, c, e, v, w)) (hz : nl_ a1 = true := by rfl) (kk : wq d tab sc n (a0 :: a1 :: some (.long x) :: none :: t) (st) h Q) : wq d tab sc pc (a0 :: a1 :: z :: z2 :: t) (.long x :: st) h Q := by
  have e1 : pm_st (a0 :: a1 :: z :: z2 :: t) 2 (.long x) = a0 :: a1 :: some (.long x) :: z2 :: t := (pm_st_nl a1 rfl hz)
  have e2 : pm_stJ (a0 :: a1 :: z :: z2 :: t) 2 (.long x) = a0 :: a1 :: some (.long x) :: none :: t := by
    show (pm_st (a0 :: a1 :: z :: z2 :: t) 2 (.long x)).set (2 + 1) none = _
    rw [e1]
    rfl
  exact wq_step hc (show (if 2 + 1 < (a0 :: a1 :: z :: z2 :: t).length then some (Sum.inl (n, pm_stJ (a0 :: a1 :: z :: z2 :: t) 2 (.long x), st, h)) else none) = some (Sum.inl (n, a0 :: a1 :: some (.long x) :: none :: t, st, h)) by rw [if_pos (by simp), e2]) kk
theorem wp_iinc2 {x : Int32} {w1 : Int} {a0 a1 : Option Value} {t : Lc_} (hc : pm_lk tab pc = some (.iinc 2 w1, n, a, b, c, e, v, w)) (hz : nl_ a1 = true := by rfl) (kk : wq d tab sc n (a0 :: a1 :: some (.int (x + v)) :: t) (st) h Q) : wq d tab sc pc (a0 :: a1 :: some (.int x) :: t) (st) h Q := by
  have e1 : pm_st (a0 :: a1 :: some (.int x) :: t) 2 (.int (x + v)) = a0 :: a1 :: some (.int (x + v)) :: t := (pm_st_nl a1 rfl hz)
  exact wq_step hc (show some (Sum.inl (n, pm_st (a0 :: a1 :: some (.int x) :: t) 2 (.int (x + v)), st, h)) = _ by rw [e1]) kk
theorem wp_iload3 {x : Int32} {a0 a1 a2 : Option Value} {t : Lc_} (hc : pm_lk tab pc = some (.iload_n 3, n, a, b, c, e, v, w)) (kk : wq d tab sc n (a0 :: a1 :: a2 :: some (.int x) :: t) (.int x :: st) h Q) : wq d tab sc pc (a0 :: a1 :: a2 :: some (.int x) :: t) (st) h Q := wq_step hc rfl kk
theorem wp_lload3 {x : Int64} {a0 a1 a2 : Option Value} {t : Lc_} (hc : pm_lk tab pc = some (.lload_n 3, n, a, b, c, e, v, w)) (kk : wq d tab sc n (a0 :: a1 :: a2 :: some (.long x) :: t) (.long x :: st) h Q) : wq d tab sc pc (a0 :: a1 :: a2 :: some (.long x) :: t) (st) h Q := wq_step hc rfl kk
theorem wp_aload3 {x : Nat} {a0 a1 a2 : Option Value} {t : Lc_} (hc : pm_lk tab pc = some (.aload_n 3, n, a, b, c, e, v, w)) (kk : wq d tab sc n (a0 :: a1 :: a2 :: some (.ref x) :: t) (.ref x :: st) h Q) : wq d tab sc pc (a0 :: a1 :: a2 :: some (.ref x) :: t) (st) h Q := wq_step hc rfl kk
theorem wp_istore3 {x : Int32} {a0 a1 a2 : Option Value} {z : Option Value} {t : Lc_} (hc : pm_lk tab pc = some (.istore_n 3, n, a, b, c, e, v, w)) (hz : nl_ a2 = true := by rfl) (kk : wq d tab sc n (a0 :: a1 :: a2 :: some (.int x) :: t) (st) h Q) : wq d tab sc pc (a0 :: a1 :: a2 :: z :: t) (.int x :: st) h Q := by
  have e1 : pm_st (a0 :: a1 :: a2 :: z :: t) 3 (.int x) = a0 :: a1 :: a2 :: some (.int x) :: t := (pm_st_nl a2 rfl hz)
  exact wq_step hc (show (if 3 < (a0 :: a1 :: a2 :: z :: t).length then some (Sum.inl (n, pm_st (a0 :: a1 :: a2 :: z :: t) 3 (.int x), st, h)) else none) = some (Sum.inl (n, a0 :: a1 :: a2 :: some (.int x) :: t, st, h)) by rw [if_pos (by simp), e1]) kk
theorem wp_astore3 {x : Nat} {a0 a1 a2 : Option Value} {z : Option Value} {t : Lc_} (hc : pm_lk tab pc = some (.astore_n 3, n, a, b, c, e, v, w)) (hz : nl_ a2 = true := by rfl) (kk : wq d tab sc n (a0 :: a1 :: a2 :: some (.ref x) :: t) (st) h Q) : wq d tab sc pc (a0 :: a1 :: a2 :: z :: t) (.ref x :: st) h Q := by
  have e1 : pm_st (a0 :: a1 :: a2 :: z :: t) 3 (.ref x) = a0 :: a1 :: a2 :: some (.ref x) :: t := (pm_st_nl a2 rfl hz)
  exact wq_step hc (show (if 3 < (a0 :: a1 :: a2 :: z :: t).length then some (Sum.inl (n, pm_st (a0 :: a1 :: a2 :: z :: t) 3 (.ref x), st, h)) else none) = some (Sum.inl (n, a0 :: a1 :: a2 :: some (.ref x) :: t, st, h)) by rw [if_pos (by simp), e1]) kk
theorem wp_lstore3 {x : Int64} {a0 a1 a2 : Option Value} {z z2 : Option Value} {t : Lc_} (hc : pm_lk tab pc = some (.lstore_n 3, n, a, b, c, e, v, w)) (hz : nl_ a2 = true := by rfl) (kk : wq d tab sc n (a0 :: a1 :: a2 :: some (.long x) :: none :: t) (st) h Q) : wq d tab sc pc (a0 :: a1 :: a2 :: z :: z2 :: t) (.long x :: st) h Q := by
  have e1 : pm_st (a0 :: a1 :: a2 :: z :: z2 :: t) 3 (.long x) = a0 :: a1 :: a2 :: some (.long x) :: z2 :: t := (pm_st_nl a2 rfl hz)
  have e2 : pm_stJ (a0 :: a1 :: a2 :: z :: z2 :: t) 3 (.long x) = a0 :: a1 :: a2 :: some (.long x) :: none :: t := by
    show (pm_st (a0 :: a1 :: a2 :: z :: z2 :: t) 3 (.long x)).set (3 + 1) none = _
    rw [e1]
    rfl
  exact wq_step hc (show (if 3 + 1 < (a0 :: a1 :: a2 :: z :: z2 :: t).length then some (Sum.inl (n, pm_stJ (a0 :: a1 :: a2 :: z :: z2 :: t) 3 (.long x), st, h)) else none) = some (Sum.inl (n, a0 :: a1 :: a2 :: some (.long x) :: none :: t, st, h)) by rw [if_pos (by simp), e2]) kk
theorem wp_iinc3 {x : Int32} {w1 : Int} {a0 a1 a2 : Option Value} {t : Lc_} (hc : pm_lk tab pc = some (.iinc 3 w1, n, a, b, c, e, v, w)) (hz : nl_ a2 = true := by rfl) (kk : wq d tab sc n (a0 :: a1 :: a2 :: some (.int (x + v)) :: t) (st) h Q) : wq d tab sc pc (a0 :: a1 :: a2 :: some (.int x) :: t) (st) h Q := by
  have e1 : pm_st (a0 :: a1 :: a2 :: some (.int x) :: t) 3 (.int (x + v)) = a0 :: a1 :: a2 :: some (.int (x + v)) :: t := (pm_st_nl a2 rfl hz)
  exact wq_step hc (show some (Sum.inl (n, pm_st (a0 :: a1 :: a2 :: some (.int x) :: t) 3 (.int (x + v)), st, h)) = _ by rw [e1]) kk
theorem wp_iload4 {x : Int32} {a0 a1 a2 a3 : Option Value} {t : Lc_} (hc : pm_lk tab pc = some (.iload 4, n, a, b, c, e, v, w)) (kk : wq d tab sc n (a0 :: a1 :: a2 :: a3 :: some (.int x) :: t) (.int x :: st) h Q) : wq d tab sc pc (a0 :: a1 :: a2 :: a3 :: some (.int x) :: t) (st) h Q := wq_step hc rfl kk
theorem wp_lload4 {x : Int64} {a0 a1 a2 a3 : Option Value} {t : Lc_} (hc : pm_lk tab pc = some (.lload 4, n, a, b, c, e, v, w)) (kk : wq d tab sc n (a0 :: a1 :: a2 :: a3 :: some (.long x) :: t) (.long x :: st) h Q) : wq d tab sc pc (a0 :: a1 :: a2 :: a3 :: some (.long x) :: t) (st) h Q := wq_step hc rfl kk
theorem wp_aload4 {x : Nat} {a0 a1 a2 a3 : Option Value} {t : Lc_} (hc : pm_lk tab pc = some (.aload 4, n, a, b, c, e, v, w)) (kk : wq d tab sc n (a0 :: a1 :: a2 :: a3 :: some (.ref x) :: t) (.ref x :: st) h Q) : wq d tab sc pc (a0 :: a1 :: a2 :: a3 :: some (.ref x) :: t) (st) h Q := wq_step hc rfl kk
theorem wp_istore4 {x : Int32} {a0 a1 a2 a3 : Option Value} {z : Option Value} {t : Lc_} (hc : pm_lk tab pc = some (.istore 4, n, a, b, c, e, v, w)) (hz : nl_ a3 = true := by rfl) (kk : wq d tab sc n (a0 :: a1 :: a2 :: a3 :: some (.int x) :: t) (st) h Q) : wq d tab sc pc (a0 :: a1 :: a2 :: a3 :: z :: t) (.int x :: st) h Q := by
  have e1 : pm_st (a0 :: a1 :: a2 :: a3 :: z :: t) 4 (.int x) = a0 :: a1 :: a2 :: a3 :: some (.int x) :: t := (pm_st_nl a3 rfl hz)
  exact wq_step hc (show (if 4 < (a0 :: a1 :: a2 :: a3 :: z :: t).length then some (Sum.inl (n, pm_st (a0 :: a1 :: a2 :: a3 :: z :: t) 4 (.int x), st, h)) else none) = some (Sum.inl (n, a0 :: a1 :: a2 :: a3 :: some (.int x) :: t, st, h)) by rw [if_pos (by simp), e1]) kk
theorem wp_astore4 {x : Nat} {a0 a1 a2 a3 : Option Value} {z : Option Value} {t : Lc_} (hc : pm_lk tab pc = some (.astore 4, n, a, b, c, e, v, w)) (hz : nl_ a3 = true := by rfl) (kk : wq d tab sc n (a0 :: a1 :: a2 :: a3 :: some (.ref x) :: t) (st) h Q) : wq d tab sc pc (a0 :: a1 :: a2 :: a3 :: z :: t) (.ref x :: st) h Q := by
  have e1 : pm_st (a0 :: a1 :: a2 :: a3 :: z :: t) 4 (.ref x) = a0 :: a1 :: a2 :: a3 :: some (.ref x) :: t := (pm_st_nl a3 rfl hz)
  exact wq_step hc (show (if 4 < (a0 :: a1 :: a2 :: a3 :: z :: t).length then some (Sum.inl (n, pm_st (a0 :: a1 :: a2 :: a3 :: z :: t) 4 (.ref x), st, h)) else none) = some (Sum.inl (n, a0 :: a1 :: a2 :: a3 :: some (.ref x) :: t, st, h)) by rw [if_pos (by simp), e1]) kk
theorem wp_lstore4 {x : Int64} {a0 a1 a2 a3 : Option Value} {z z2 : Option Value} {t : Lc_} (hc : pm_lk tab pc = some (.lstore 4, n, a, b, c, e, v, w)) (hz : nl_ a3 = true := by rfl) (kk : wq d tab sc n (a0 :: a1 :: a2 :: a3 :: some (.long x) :: none :: t) (st) h Q) : wq d tab sc pc (a0 :: a1 :: a2 :: a3 :: z :: z2 :: t) (.long x :: st) h Q := by
  have e1 : pm_st (a0 :: a1 :: a2 :: a3 :: z :: z2 :: t) 4 (.long x) = a0 :: a1 :: a2 :: a3 :: some (.long x) :: z2 :: t := (pm_st_nl a3 rfl hz)
  have e2 : pm_stJ (a0 :: a1 :: a2 :: a3 :: z :: z2 :: t) 4 (.long x) = a0 :: a1 :: a2 :: a3 :: some (.long x) :: none :: t := by
    show (pm_st (a0 :: a1 :: a2 :: a3 :: z :: z2 :: t) 4 (.long x)).set (4 + 1) none = _
    rw [e1]
    rfl
  exact wq_step hc (show (if 4 + 1 < (a0 :: a1 :: a2 :: a3 :: z :: z2 :: t).length then some (Sum.inl (n, pm_stJ (a0 :: a1 :: a2 :: a3 :: z :: z2 :: t) 4 (.long x), st, h)) else none) = some (Sum.inl (n, a0 :: a1 :: a2 :: a3 :: some (.long x) :: none :: t, st, h)) by rw [if_pos (by simp), e2]) kk
theorem wp_iinc4 {x : Int32} {w1 : Int} {a0 a1 a2 a3 : Option Value} {t : Lc_} (hc : pm_lk tab pc = some (.iinc 4 w1, n, a, b, c, e, v, w)) (hz : nl_ a3 = true := by rfl) (kk : wq d tab sc n (a0 :: a1 :: a2 :: a3 :: some (.int (x + v)) :: t) (st) h Q) : wq d tab sc pc (a0 :: a1 :: a2 :: a3 :: some (.int x) :: t) (st) h Q := by
  have e1 : pm_st (a0 :: a1 :: a2 :: a3 :: some (.int x) :: t) 4 (.int (x + v)) = a0 :: a1 :: a2 :: a3 :: some (.int (x + v)) :: t := (pm_st_nl a3 rfl hz)
  exact wq_step hc (show some (Sum.inl (n, pm_st (a0 :: a1 :: a2 :: a3 :: some (.int x) :: t) 4 (.int (x + v)), st, h)) = _ by rw [e1]) kk
theorem wp_iload5 {x : Int32} {a0 a1 a2 a3 a4 : Option Value} {t : Lc_} (hc : pm_lk tab pc = some (.iload 5, n, a, b, c, e, v, w)) (kk : wq d tab sc n (a0 :: a1 :: a2 :: a3 :: a4 :: some (.int x) :: t) (.int x :: st) h Q) : wq d tab sc pc (a0 :: a1 :: a2 :: a3 :: a4 :: some (.int x) :: t) (st) h Q := wq_step hc rfl kk
theorem wp_lload5 {x : Int64} {a0 a1 a2 a3 a4 : Option Value} {t : Lc_} (hc : pm_lk tab pc = some (.lload 5, n, a, b, c, e, v, w)) (kk : wq d tab sc n (a0 :: a1 :: a2 :: a3 :: a4 :: some (.long x) :: t) (.long x :: st) h Q) : wq d tab sc pc (a0 :: a1 :: a2 :: a3 :: a4 :: some (.long x) :: t) (st) h Q := wq_step hc rfl kk
theorem wp_aload5 {x : Nat} {a0 a1 a2 a3 a4 : Option Value} {t : Lc_} (hc : pm_lk tab pc = some (.aload 5, n, a, b, c, e, v, w)) (kk : wq d tab sc n (a0 :: a1 :: a2 :: a3 :: a4 :: some (.ref x) :: t) (.ref x :: st) h Q) : wq d tab sc pc (a0 :: a1 :: a2 :: a3 :: a4 :: some (.ref x) :: t) (st) h Q := wq_step hc rfl kk
theorem wp_istore5 {x : Int32} {a0 a1 a2 a3 a4 : Option Value} {z : Option Value} {t : Lc_} (hc : pm_lk tab pc = some (.istore 5, n, a, b, c, e, v, w)) (hz : nl_ a4 = true := by rfl) (kk : wq d tab sc n (a0 :: a1 :: a2 :: a3 :: a4 :: some (.int x) :: t) (st) h Q) : wq d tab sc pc (a0 :: a1 :: a2 :: a3 :: a4 :: z :: t) (.int x :: st) h Q := by
  have e1 : pm_st (a0 :: a1 :: a2 :: a3 :: a4 :: z :: t) 5 (.int x) = a0 :: a1 :: a2 :: a3 :: a4 :: some (.int x) :: t := (pm_st_nl a4 rfl hz)
  exact wq_step hc (show (if 5 < (a0 :: a1 :: a2 :: a3 :: a4 :: z :: t).length then some (Sum.inl (n, pm_st (a0 :: a1 :: a2 :: a3 :: a4 :: z :: t) 5 (.int x), st, h)) else none) = some (Sum.inl (n, a0 :: a1 :: a2 :: a3 :: a4 :: some (.int x) :: t, st, h)) by rw [if_pos (by simp), e1]) kk
theorem wp_astore5 {x : Nat} {a0 a1 a2 a3 a4 : Option Value} {z : Option Value} {t : Lc_} (hc : pm_lk tab pc = some (.astore 5, n, a, b, c, e, v, w)) (hz : nl_ a4 = true := by rfl) (kk : wq d tab sc n (a0 :: a1 :: a2 :: a3 :: a4 :: some (.ref x) :: t) (st) h Q) : wq d tab sc pc (a0 :: a1 :: a2 :: a3 :: a4 :: z :: t) (.ref x :: st) h Q := by
  have e1 : pm_st (a0 :: a1 :: a2 :: a3 :: a4 :: z :: t) 5 (.ref x) = a0 :: a1 :: a2 :: a3 :: a4 :: some (.ref x) :: t := (pm_st_nl a4 rfl hz)
  exact wq_step hc (show (if 5 < (a0 :: a1 :: a2 :: a3 :: a4 :: z :: t).length then some (Sum.inl (n, pm_st (a0 :: a1 :: a2 :: a3 :: a4 :: z :: t) 5 (.ref x), st, h)) else none) = some (Sum.inl (n, a0 :: a1 :: a2 :: a3 :: a4 :: some (.ref x) :: t, st, h)) by rw [if_pos (by simp), e1]) kk
theorem wp_lstore5 {x : Int64} {a0 a1 a2 a3 a4 : Option Value} {z z2 : Option Value} {t : Lc_} (hc : pm_lk tab pc = some (.lstore 5, n, a, b, c, e, v, w)) (hz : nl_ a4 = true := by rfl) (kk : wq d tab sc n (a0 :: a1 :: a2 :: a3 :: a4 :: some (.long x) :: none :: t) (st) h Q) : wq d tab sc pc (a0 :: a1 :: a2 :: a3 :: a4 :: z :: z2 :: t) (.long x :: st) h Q := by
  have e1 : pm_st (a0 :: a1 :: a2 :: a3 :: a4 :: z :: z2 :: t) 5 (.long x) = a0 :: a1 :: a2 :: a3 :: a4 :: some (.long x) :: z2 :: t := (pm_st_nl a4 rfl hz)
  have e2 : pm_stJ (a0 :: a1 :: a2 :: a3 :: a4 :: z :: z2 :: t) 5 (.long x) = a0 :: a1 :: a2 :: a3 :: a4 :: some (.long x) :: none :: t := by
    show (pm_st (a0 :: a1 :: a2 :: a3 :: a4 :: z :: z2 :: t) 5 (.long x)).set (5 + 1) none = _
    rw [e1]
    rfl
  exact wq_step hc (show (if 5 + 1 < (a0 :: a1 :: a2 :: a3 :: a4 :: z :: z2 :: t).length then some (Sum.inl (n, pm_stJ (a0 :: a1 :: a2 :: a3 :: a4 :: z :: z2 :: t) 5 (.long x), st, h)) else none) = some (Sum.inl (n, a0 :: a1 :: a2 :: a3 :: a4 :: some (.long x) :: none :: t, st, h)) by rw [if_pos (by simp), e2]) kk
theorem wp_iinc5 {x : Int32} {w1 : Int} {a0 a1 a2 a3 a4 : Option Value} {t : Lc_} (hc : pm_lk tab pc = some (.iinc 5 w1, n, a, b, c, e, v, w)) (hz : nl_ a4 = true := by rfl) (kk : wq d tab sc n (a0 :: a1 :: a2 :: a3 :: a4 :: some (.int (x + v)) :: t) (st) h Q) : wq d tab sc pc (a0 :: a1 :: a2 :: a3 :: a4 :: some (.int x) :: t) (st) h Q := by
  have e1 : pm_st (a0 :: a1 :: a2 :: a3 :: a4 :: some (.int x) :: t) 5 (.int (x + v)) = a0 :: a1 :: a2 :: a3 :: a4 :: some (.int (x + v)) :: t := (pm_st_nl a4 rfl hz)
  exact wq_step hc (show some (Sum.inl (n, pm_st (a0 :: a1 :: a2 :: a3 :: a4 :: some (.int x) :: t) 5 (.int (x + v)), st, h)) = _ by rw [e1]) kk
theorem wp_iload6 {x : Int32} {a0 a1 a2 a3 a4 a5 : Option Value} {t : Lc_} (hc : pm_lk tab pc = some (.iload 6, n, a, b, c, e, v, w)) (kk : wq d tab sc n (a0 :: a1 :: a2 :: a3 :: a4 :: a5 :: some (.int x) :: t) (.int x :: st) h Q) : wq d tab sc pc (a0 :: a1 :: a2 :: a3 :: a4 :: a5 :: some (.int x) :: t) (st) h Q := wq_step hc rfl kk
theorem wp_lload6 {x : Int64} {a0 a1 a2 a3 a4 a5 : Option Value} {t : Lc_} (hc : pm_lk tab pc = some (.lload 6, n, a, b, c, e, v, w)) (kk : wq d tab sc n (a0 :: a1 :: a2 :: a3 :: a4 :: a5 :: some (.long x) :: t) (.long x :: st) h Q) : wq d tab sc pc (a0 :: a1 :: a2 :: a3 :: a4 :: a5 :: some (.long x) :: t) (st) h Q := wq_step hc rfl kk
theorem wp_aload6 {x : Nat} {a0 a1 a2 a3 a4 a5 : Option Value} {t : Lc_} (hc : pm_lk tab pc = some (.aload 6, n, a, b, c, e, v, w)) (kk : wq d tab sc n (a0 :: a1 :: a2 :: a3 :: a4 :: a5 :: some (.ref x) :: t) (.ref x :: st) h Q) : wq d tab sc pc (a0 :: a1 :: a2 :: a3 :: a4 :: a5 :: some (.ref x) :: t) (st) h Q := wq_step hc rfl kk
theorem wp_istore6 {x : Int32} {a0 a1 a2 a3 a4 a5 : Option Value} {z : Option Value} {t : Lc_} (hc : pm_lk tab pc = some (.istore 6, n, a, b, c, e, v, w)) (hz : nl_ a5 = true := by rfl) (kk : wq d tab sc n (a0 :: a1 :: a2 :: a3 :: a4 :: a5 :: some (.int x) :: t) (st) h Q) : wq d tab sc pc (a0 :: a1 :: a2 :: a3 :: a4 :: a5 :: z :: t) (.int x :: st) h Q := by
  have e1 : pm_st (a0 :: a1 :: a2 :: a3 :: a4 :: a5 :: z :: t) 6 (.int x) = a0 :: a1 :: a2 :: a3 :: a4 :: a5 :: some (.int x) :: t := (pm_st_nl a5 rfl hz)
  exact wq_step hc (show (if 6 < (a0 :: a1 :: a2 :: a3 :: a4 :: a5 :: z :: t).length then some (Sum.inl (n, pm_st (a0 :: a1 :: a2 :: a3 :: a4 :: a5 :: z :: t) 6 (.int x), st, h)) else none) = some (Sum.inl (n, a0 :: a1 :: a2 :: a3 :: a4 :: a5 :: some (.int x) :: t, st, h)) by rw [if_pos (by simp), e1]) kk
theorem wp_astore6 {x : Nat} {a0 a1 a2 a3 a4 a5 : Option Value} {z : Option Value} {t : Lc_} (hc : pm_lk tab pc = some (.astore 6, n, a, b, c, e, v, w)) (hz : nl_ a5 = true := by rfl) (kk : wq d tab sc n (a0 :: a1 :: a2 :: a3 :: a4 :: a5 :: some (.ref x) :: t) (st) h Q) : wq d tab sc pc (a0 :: a1 :: a2 :: a3 :: a4 :: a5 :: z :: t) (.ref x :: st) h Q := by
  have e1 : pm_st (a0 :: a1 :: a2 :: a3 :: a4 :: a5 :: z :: t) 6 (.ref x) = a0 :: a1 :: a2 :: a3 :: a4 :: a5 :: some (.ref x) :: t := (pm_st_nl a5 rfl hz)
  exact wq_step hc (show (if 6 < (a0 :: a1 :: a2 :: a3 :: a4 :: a5 :: z :: t).length then some (Sum.inl (n, pm_st (a0 :: a1 :: a2 :: a3 :: a4 :: a5 :: z :: t) 6 (.ref x), st, h)) else none) = some (Sum.inl (n, a0 :: a1 :: a2 :: a3 :: a4 :: a5 :: some (.ref x) :: t, st, h)) by rw [if_pos (by simp), e1]) kk
theorem wp_lstore6 {x : Int64} {a0 a1 a2 a3 a4 a5 : Option Value} {z z2 : Option Value} {t : Lc_} (hc : pm_lk tab pc = some (.lstore 6, n, a, b, c, e, v, w)) (hz : nl_ a5 = true := by rfl) (kk : wq d tab sc n (a0 :: a1 :: a2 :: a3 :: a4 :: a5 :: some (.long x) :: none :: t) (st) h Q) : wq d tab sc pc (a0 :: a1 :: a2 :: a3 :: a4 :: a5 :: z :: z2 :: t) (.long x :: st) h Q := by
  have e1 : pm_st (a0 :: a1 :: a2 :: a3 :: a4 :: a5 :: z :: z2 :: t) 6 (.long x) = a0 :: a1 :: a2 :: a3 :: a4 :: a5 :: some (.long x) :: z2 :: t := (pm_st_nl a5 rfl hz)
  have e2 : pm_stJ (a0 :: a1 :: a2 :: a3 :: a4 :: a5 :: z :: z2 :: t) 6 (.long x) = a0 :: a1 :: a2 :: a3 :: a4 :: a5 :: some (.long x) :: none :: t := by
    show (pm_st (a0 :: a1 :: a2 :: a3 :: a4 :: a5 :: z :: z2 :: t) 6 (.long x)).set (6 + 1) none = _
    rw [e1]
    rfl
  exact wq_step hc (show (if 6 + 1 < (a0 :: a1 :: a2 :: a3 :: a4 :: a5 :: z :: z2 :: t).length then some (Sum.inl (n, pm_stJ (a0 :: a1 :: a2 :: a3 :: a4 :: a5 :: z :: z2 :: t) 6 (.long x), st, h)) else none) = some (Sum.inl (n, a0 :: a1 :: a2 :: a3 :: a4 :: a5 :: some (.long x) :: none :: t, st, h)) by rw [if_pos (by simp), e2]) kk
theorem wp_iinc6 {x : Int32} {w1 : Int} {a0 a1 a2 a3 a4 a5 : Option Value} {t : Lc_} (hc : pm_lk tab pc = some (.iinc 6 w1, n, a, b, c, e, v, w)) (hz : nl_ a5 = true := by rfl) (kk : wq d tab sc n (a0 :: a1 :: a2 :: a3 :: a4 :: a5 :: some (.int (x + v)) :: t) (st) h Q) : wq d tab sc pc (a0 :: a1 :: a2 :: a3 :: a4 :: a5 :: some (.int x) :: t) (st) h Q := by
  have e1 : pm_st (a0 :: a1 :: a2 :: a3 :: a4 :: a5 :: some (.int x) :: t) 6 (.int (x + v)) = a0 :: a1 :: a2 :: a3 :: a4 :: a5 :: some (.int (x + v)) :: t := (pm_st_nl a5 rfl hz)
  exact wq_step hc (show some (Sum.inl (n, pm_st (a0 :: a1 :: a2 :: a3 :: a4 :: a5 :: some (.int x) :: t) 6 (.int (x + v)), st, h)) = _ by rw [e1]) kk
theorem wp_iload7 {x : Int32} {a0 a1 a2 a3 a4 a5 a6 : Option Value} {t : Lc_} (hc : pm_lk tab pc = some (.iload 7, n, a, b, c, e, v, w)) (kk : wq d tab sc n (a0 :: a1 :: a2 :: a3 :: a4 :: a5 :: a6 :: some (.int x) :: t) (.int x :: st) h Q) : wq d tab sc pc (a0 :: a1 :: a2 :: a3 :: a4 :: a5 :: a6 :: some (.int x) :: t) (st) h Q := wq_step hc rfl kk
theorem wp_lload7 {x : Int64} {a0 a1 a2 a3 a4 a5 a6 : Option Value} {t : Lc_} (hc : pm_lk tab pc = some (.lload 7, n, a, b, c, e, v, w)) (kk : wq d tab sc n (a0 :: a1 :: a2 :: a3 :: a4 :: a5 :: a6 :: some (.long x) :: t) (.long x :: st) h Q) : wq d tab sc pc (a0 :: a1 :: a2 :: a3 :: a4 :: a5 :: a6 :: some (.long x) :: t) (st) h Q := wq_step hc rfl kk
theorem wp_aload7 {x : Nat} {a0 a1 a2 a3 a4 a5 a6 : Option Value} {t : Lc_} (hc : pm_lk tab pc = some (.aload 7, n, a, b, c, e, v, w)) (kk : wq d tab sc n (a0 :: a1 :: a2 :: a3 :: a4 :: a5 :: a6 :: some (.ref x) :: t) (.ref x :: st) h Q) : wq d tab sc pc (a0 :: a1 :: a2 :: a3 :: a4 :: a5 :: a6 :: some (.ref x) :: t) (st) h Q := wq_step hc rfl kk
theorem wp_istore7 {x : Int32} {a0 a1 a2 a3 a4 a5 a6 : Option Value} {z : Option Value} {t : Lc_} (hc : pm_lk tab pc = some (.istore 7, n, a, b, c, e, v, w)) (hz : nl_ a6 = true := by rfl) (kk : wq d tab sc n (a0 :: a1 :: a2 :: a3 :: a4 :: a5 :: a6 :: some (.int x) :: t) (st) h Q) : wq d tab sc pc (a0 :: a1 :: a2 :: a3 :: a4 :: a5 :: a6 :: z :: t) (.int x :: st) h Q := by
  have e1 : pm_st (a0 :: a1 :: a2 :: a3 :: a4 :: a5 :: a6 :: z :: t) 7 (.int x) = a0 :: a1 :: a2 :: a3 :: a4 :: a5 :: a6 :: some (.int x) :: t := (pm_st_nl a6 rfl hz)
  exact wq_step hc (show (if 7 < (a0 :: a1 :: a2 :: a3 :: a4 :: a5 :: a6 :: z :: t).length then some (Sum.inl (n, pm_st (a0 :: a1 :: a2 :: a3 :: a4 :: a5 :: a6 :: z :: t) 7 (.int x), st, h)) else none) = some (Sum.inl (n, a0 :: a1 :: a2 :: a3 :: a4 :: a5 :: a6 :: some (.int x) :: t, st, h)) by rw [if_pos (by simp), e1]) kk
theorem wp_astore7 {x : Nat} {a0 a1 a2 a3 a4 a5 a6 : Option Value} {z : Option Value} {t : Lc_} (hc : pm_lk tab pc = some (.astore 7, n, a, b, c, e, v, w)) (hz : nl_ a6 = true := by rfl) (kk : wq d tab sc n (a0 :: a1 :: a2 :: a3 :: a4 :: a5 :: a6 :: some (.ref x) :: t) (st) h Q) : wq d tab sc pc (a0 :: a1 :: a2 :: a3 :: a4 :: a5 :: a6 :: z :: t) (.ref x :: st) h Q := by
  have e1 : pm_st (a0 :: a1 :: a2 :: a3 :: a4 :: a5 :: a6 :: z :: t) 7 (.ref x) = a0 :: a1 :: a2 :: a3 :: a4 :: a5 :: a6 :: some (.ref x) :: t := (pm_st_nl a6 rfl hz)
  exact wq_step hc (show (if 7 < (a0 :: a1 :: a2 :: a3 :: a4 :: a5 :: a6 :: z :: t).length then some (Sum.inl (n, pm_st (a0 :: a1 :: a2 :: a3 :: a4 :: a5 :: a6 :: z :: t) 7 (.ref x), st, h)) else none) = some (Sum.inl (n, a0 :: a1 :: a2 :: a3 :: a4 :: a5 :: a6 :: some (.ref x) :: t, st, h)) by rw [if_pos (by simp), e1]) kk
theorem wp_lstore7 {x : Int64} {a0 a1 a2 a3 a4 a5 a6 : Option Value} {z z2 : Option Value} {t : Lc_} (hc : pm_lk tab pc = some (.lstore 7, n, a, b, c, e, v, w)) (hz : nl_ a6 = true := by rfl) (kk : wq d tab sc n (a0 :: a1 :: a2 :: a3 :: a4 :: a5 :: a6 :: some (.long x) :: none :: t) (st) h Q) : wq d tab sc pc (a0 :: a1 :: a2 :: a3 :: a4 :: a5 :: a6 :: z :: z2 :: t) (.long x :: st) h Q := by
  have e1 : pm_st (a0 :: a1 :: a2 :: a3 :: a4 :: a5 :: a6 :: z :: z2 :: t) 7 (.long x) = a0 :: a1 :: a2 :: a3 :: a4 :: a5 :: a6 :: some (.long x) :: z2 :: t := (pm_st_nl a6 rfl hz)
  have e2 : pm_stJ (a0 :: a1 :: a2 :: a3 :: a4 :: a5 :: a6 :: z :: z2 :: t) 7 (.long x) = a0 :: a1 :: a2 :: a3 :: a4 :: a5 :: a6 :: some (.long x) :: none :: t := by
    show (pm_st (a0 :: a1 :: a2 :: a3 :: a4 :: a5 :: a6 :: z :: z2 :: t) 7 (.long x)).set (7 + 1) none = _
    rw [e1]
    rfl
  exact wq_step hc (show (if 7 + 1 < (a0 :: a1 :: a2 :: a3 :: a4 :: a5 :: a6 :: z :: z2 :: t).length then some (Sum.inl (n, pm_stJ (a0 :: a1 :: a2 :: a3 :: a4 :: a5 :: a6 :: z :: z2 :: t) 7 (.long x), st, h)) else none) = some (Sum.inl (n, a0 :: a1 :: a2 :: a3 :: a4 :: a5 :: a6 :: some (.long x) :: none :: t, st, h)) by rw [if_pos (by simp), e2]) kk
theorem wp_iinc7 {x : Int32} {w1 : Int} {a0 a1 a2 a3 a4 a5 a6 : Option Value} {t : Lc_} (hc : pm_lk tab pc = some (.iinc 7 w1, n, a, b, c, e, v, w)) (hz : nl_ a6 = true := by rfl) (kk : wq d tab sc n (a0 :: a1 :: a2 :: a3 :: a4 :: a5 :: a6 :: some (.int (x + v)) :: t) (st) h Q) : wq d tab sc pc (a0 :: a1 :: a2 :: a3 :: a4 :: a5 :: a6 :: some (.int x) :: t) (st) h Q := by
  have e1 : pm_st (a0 :: a1 :: a2 :: a3 :: a4 :: a5 :: a6 :: some (.int x) :: t) 7 (.int (x + v)) = a0 :: a1 :: a2 :: a3 :: a4 :: a5 :: a6 :: some (.int (x + v)) :: t := (pm_st_nl a6 rfl hz)
  exact wq_step hc (show some (Sum.inl (n, pm_st (a0 :: a1 :: a2 :: a3 :: a4 :: a5 :: a6 :: some (.int x) :: t) 7 (.int (x + v)), st, h)) = _ by rw [e1]) kk
theorem wp_iload8 {x : Int32} {a0 a1 a2 a3 a4 a5 a6 a7 : Option Value} {t : Lc_} (hc : pm_lk tab pc = some (.iload 8, n, a, b, c, e, v, w)) (kk : wq d tab sc n (a0 :: a1 :: a2 :: a3 :: a4 :: a5 :: a6 :: a7 :: some (.int x) :: t) (.int x :: st) h Q) : wq d tab sc pc (a0 :: a1 :: a2 :: a3 :: a4 :: a5 :: a6 :: a7 :: some (.int x) :: t) (st) h Q := wq_step hc rfl kk
theorem wp_lload8 {x : Int64} {a0 a1 a2 a3 a4 a5 a6 a7 : Option Value} {t : Lc_} (hc : pm_lk tab pc = some (.lload 8, n, a, b, c, e, v, w)) (kk : wq d tab sc n (a0 :: a1 :: a2 :: a3 :: a4 :: a5 :: a6 :: a7 :: some (.long x) :: t) (.long x :: st) h Q) : wq d tab sc pc (a0 :: a1 :: a2 :: a3 :: a4 :: a5 :: a6 :: a7 :: some (.long x) :: t) (st) h Q := wq_step hc rfl kk
theorem wp_aload8 {x : Nat} {a0 a1 a2 a3 a4 a5 a6 a7 : Option Value} {t : Lc_} (hc : pm_lk tab pc = some (.aload 8, n, a, b, c, e, v, w)) (kk : wq d tab sc n (a0 :: a1 :: a2 :: a3 :: a4 :: a5 :: a6 :: a7 :: some (.ref x) :: t) (.ref x :: st) h Q) : wq d tab sc pc (a0 :: a1 :: a2 :: a3 :: a4 :: a5 :: a6 :: a7 :: some (.ref x) :: t) (st) h Q := wq_step hc rfl kk
theorem wp_istore8 {x : Int32} {a0 a1 a2 a3 a4 a5 a6 a7 : Option Value} {z : Option Value} {t : Lc_} (hc : pm_lk tab pc = some (.istore 8, n, a, b, c, e, v, w)) (hz : nl_ a7 = true := by rfl) (kk : wq d tab sc n (a0 :: a1 :: a2 :: a3 :: a4 :: a5 :: a6 :: a7 :: some (.int x) :: t) (st) h Q) : wq d tab sc pc (a0 :: a1 :: a2 :: a3 :: a4 :: a5 :: a6 :: a7 :: z :: t) (.int x :: st) h Q := by
  have e1 : pm_st (a0 :: a1 :: a2 :: a3 :: a4 :: a5 :: a6 :: a7 :: z :: t) 8 (.int x) = a0 :: a1 :: a2 :: a3 :: a4 :: a5 :: a6 :: a7 :: some (.int x) :: t := (pm_st_nl a7 rfl hz)
  exact wq_step hc (show (if 8 < (a0 :: a1 :: a2 :: a3 :: a4 :: a5 :: a6 :: a7 :: z :: t).length then some (Sum.inl (n, pm_st (a0 :: a1 :: a2 :: a3 :: a4 :: a5 :: a6 :: a7 :: z :: t) 8 (.int x), st, h)) else none) = some (Sum.inl (n, a0 :: a1 :: a2 :: a3 :: a4 :: a5 :: a6 :: a7 :: some (.int x) :: t, st, h)) by rw [if_pos (by simp), e1]) kk
theorem wp_astore8 {x : Nat} {a0 a1 a2 a3 a4 a5 a6 a7 : Option Value} {z : Option Value} {t : Lc_} (hc : pm_lk tab pc = some (.astore 8, n, a, b, c, e, v, w)) (hz : nl_ a7 = true := by rfl) (kk : wq d tab sc n (a0 :: a1 :: a2 :: a3 :: a4 :: a5 :: a6 :: a7 :: some (.ref x) :: t) (st) h Q) : wq d tab sc pc (a0 :: a1 :: a2 :: a3 :: a4 :: a5 :: a6 :: a7 :: z :: t) (.ref x :: st) h Q := by
  have e1 : pm_st (a0 :: a1 :: a2 :: a3 :: a4 :: a5 :: a6 :: a7 :: z :: t) 8 (.ref x) = a0 :: a1 :: a2 :: a3 :: a4 :: a5 :: a6 :: a7 :: some (.ref x) :: t := (pm_st_nl a7 rfl hz)
  exact wq_step hc (show (if 8 < (a0 :: a1 :: a2 :: a3 :: a4 :: a5 :: a6 :: a7 :: z :: t).length then some (Sum.inl (n, pm_st (a0 :: a1 :: a2 :: a3 :: a4 :: a5 :: a6 :: a7 :: z :: t) 8 (.ref x), st, h)) else none) = some (Sum.inl (n, a0 :: a1 :: a2 :: a3 :: a4 :: a5 :: a6 :: a7 :: some (.ref x) :: t, st, h)) by rw [if_pos (by simp), e1]) kk
theorem wp_lstore8 {x : Int64} {a0 a1 a2 a3 a4 a5 a6 a7 : Option Value} {z z2 : Option Value} {t : Lc_} (hc : pm_lk tab pc = some (.lstore 8, n, a, b, c, e, v, w)) (hz : nl_ a7 = true := by rfl) (kk : wq d tab sc n (a0 :: a1 :: a2 :: a3 :: a4 :: a5 :: a6 :: a7 :: some (.long x) :: none :: t) (st) h Q) : wq d tab sc pc (a0 :: a1 :: a2 :: a3 :: a4 :: a5 :: a6 :: a7 :: z :: z2 :: t) (.long x :: st) h Q := by
  have e1 : pm_st (a0 :: a1 :: a2 :: a3 :: a4 :: a5 :: a6 :: a7 :: z :: z2 :: t) 8 (.long x) = a0 :: a1 :: a2 :: a3 :: a4 :: a5 :: a6 :: a7 :: some (.long x) :: z2 :: t := (pm_st_nl a7 rfl hz)
  have e2 : pm_stJ (a0 :: a1 :: a2 :: a3 :: a4 :: a5 :: a6 :: a7 :: z :: z2 :: t) 8 (.long x) = a0 :: a1 :: a2 :: a3 :: a4 :: a5 :: a6 :: a7 :: some (.long x) :: none :: t := by
    show (pm_st (a0 :: a1 :: a2 :: a3 :: a4 :: a5 :: a6 :: a7 :: z :: z2 :: t) 8 (.long x)).set (8 + 1) none = _
    rw [e1]
    rfl
  exact wq_step hc (show (if 8 + 1 < (a0 :: a1 :: a2 :: a3 :: a4 :: a5 :: a6 :: a7 :: z :: z2 :: t).length then some (Sum.inl (n, pm_stJ (a0 :: a1 :: a2 :: a3 :: a4 :: a5 :: a6 :: a7 :: z :: z2 :: t) 8 (.long x), st, h)) else none) = some (Sum.inl (n, a0 :: a1 :: a2 :: a3 :: a4 :: a5 :: a6 :: a7 :: some (.long x) :: none :: t, st, h)) by rw [if_pos (by simp), e2]) kk
theorem wp_iinc8 {x : Int32} {w1 : Int} {a0 a1 a2 a3 a4 a5 a6 a7 : Option Value} {t : Lc_} (hc : pm_lk tab pc = some (.iinc 8 w1, n, a, b, c, e, v, w)) (hz : nl_ a7 = true := by rfl) (kk : wq d tab sc n (a0 :: a1 :: a2 :: a3 :: a4 :: a5 :: a6 :: a7 :: some (.int (x + v)) :: t) (st) h Q) : wq d tab sc pc (a0 :: a1 :: a2 :: a3 :: a4 :: a5 :: a6 :: a7 :: some (.int x) :: t) (st) h Q := by
  have e1 : pm_st (a0 :: a1 :: a2 :: a3 :: a4 :: a5 :: a6 :: a7 :: some (.int x) :: t) 8 (.int (x + v)) = a0 :: a1 :: a2 :: a3 :: a4 :: a5 :: a6 :: a7 :: some (.int (x + v)) :: t := (pm_st_nl a7 rfl hz)
  exact wq_step hc (show some (Sum.inl (n, pm_st (a0 :: a1 :: a2 :: a3 :: a4 :: a5 :: a6 :: a7 :: some (.int x) :: t) 8 (.int (x + v)), st, h)) = _ by rw [e1]) kk
theorem wp_iload9 {x : Int32} {a0 a1 a2 a3 a4 a5 a6 a7 a8 : Option Value} {t : Lc_} (hc : pm_lk tab pc = some (.iload 9, n, a, b, c, e, v, w)) (kk : wq d tab sc n (a0 :: a1 :: a2 :: a3 :: a4 :: a5 :: a6 :: a7 :: a8 :: some (.int x) :: t) (.int x :: st) h Q) : wq d tab sc pc (a0 :: a1 :: a2 :: a3 :: a4 :: a5 :: a6 :: a7 :: a8 :: some (.int x) :: t) (st) h Q := wq_step hc rfl kk
theorem wp_lload9 {x : Int64} {a0 a1 a2 a3 a4 a5 a6 a7 a8 : Option Value} {t : Lc_} (hc : pm_lk tab pc = some (.lload 9, n, a, b, c, e, v, w)) (kk : wq d tab sc n (a0 :: a1 :: a2 :: a3 :: a4 :: a5 :: a6 :: a7 :: a8 :: some (.long x) :: t) (.long x :: st) h Q) : wq d tab sc pc (a0 :: a1 :: a2 :: a3 :: a4 :: a5 :: a6 :: a7 :: a8 :: some (.long x) :: t) (st) h Q := wq_step hc rfl kk
theorem wp_aload9 {x : Nat} {a0 a1 a2 a3 a4 a5 a6 a7 a8 : Option Value} {t : Lc_} (hc : pm_lk tab pc = some (.aload 9, n, a, b, c, e, v, w)) (kk : wq d tab sc n (a0 :: a1 :: a2 :: a3 :: a4 :: a5 :: a6 :: a7 :: a8 :: some (.ref x) :: t) (.ref x :: st) h Q) : wq d tab sc pc (a0 :: a1 :: a2 :: a3 :: a4 :: a5 :: a6 :: a7 :: a8 :: some (.ref x) :: t) (st) h Q := wq_step hc rfl kk
theorem wp_istore9 {x : Int32} {a0 a1 a2 a3 a4 a5 a6 a7 a8 : Option Value} {z : Option Value} {t : Lc_} (hc : pm_lk tab pc = some (.istore 9, n, a, b, c, e, v, w)) (hz : nl_ a8 = true := by rfl) (kk : wq d tab sc n (a0 :: a1 :: a2 :: a3 :: a4 :: a5 :: a6 :: a7 :: a8 :: some (.int x) :: t) (st) h Q) : wq d tab sc pc (a0 :: a1 :: a2 :: a3 :: a4 :: a5 :: a6 :: a7 :: a8 :: z :: t) (.int x :: st) h Q := by
  have e1 : pm_st (a0 :: a1 :: a2 :: a3 :: a4 :: a5 :: a6 :: a7 :: a8 :: z :: t) 9 (.int x) = a0 :: a1 :: a2 :: a3 :: a4 :: a5 :: a6 :: a7 :: a8 :: some (.int x) :: t := (pm_st_nl a8 rfl hz)
  exact wq_step hc (show (if 9 < (a0 :: a1 :: a2 :: a3 :: a4 :: a5 :: a6 :: a7 :: a8 :: z :: t).length then some (Sum.inl (n, pm_st (a0 :: a1 :: a2 :: a3 :: a4 :: a5 :: a6 :: a7 :: a8 :: z :: t) 9 (.int x), st, h)) else none) = some (Sum.inl (n, a0 :: a1 :: a2 :: a3 :: a4 :: a5 :: a6 :: a7 :: a8 :: some (.int x) :: t, st, h)) by rw [if_pos (by simp), e1]) kk
theorem wp_astore9 {x : Nat} {a0 a1 a2 a3 a4 a5 a6 a7 a8 : Option Value} {z : Option Value} {t : Lc_} (hc : pm_lk tab pc = some (.astore 9, n, a, b, c, e, v, w)) (hz : nl_ a8 = true := by rfl) (kk : wq d tab sc n (a0 :: a1 :: a2 :: a3 :: a4 :: a5 :: a6 :: a7 :: a8 :: some (.ref x) :: t) (st) h Q) : wq d tab sc pc (a0 :: a1 :: a2 :: a3 :: a4 :: a5 :: a6 :: a7 :: a8 :: z :: t) (.ref x :: st) h Q := by
  have e1 : pm_st (a0 :: a1 :: a2 :: a3 :: a4 :: a5 :: a6 :: a7 :: a8 :: z :: t) 9 (.ref x) = a0 :: a1 :: a2 :: a3 :: a4 :: a5 :: a6 :: a7 :: a8 :: some (.ref x) :: t := (pm_st_nl a8 rfl hz)
  exact wq_step hc (show (if 9 < (a0 :: a1 :: a2 :: a3 :: a4 :: a5 :: a6 :: a7 :: a8 :: z :: t).length then some (Sum.inl (n, pm_st (a0 :: a1 :: a2 :: a3 :: a4 :: a5 :: a6 :: a7 :: a8 :: z :: t) 9 (.ref x), st, h)) else none) = some (Sum.inl (n, a0 :: a1 :: a2 :: a3 :: a4 :: a5 :: a6 :: a7 :: a8 :: some (.ref x) :: t, st, h)) by rw [if_pos (by simp), e1]) kk
theorem wp_lstore9 {x : Int64} {a0 a1 a2 a3 a4 a5 a6 a7 a8 : Option Value} {z z2 : Option Value} {t : Lc_} (hc : pm_lk tab pc = some (.lstore 9, n, a, b, c, e, v, w)) (hz : nl_ a8 = true := by rfl) (kk : wq d tab sc n (a0 :: a1 :: a2 :: a3 :: a4 :: a5 :: a6 :: a7 :: a8 :: some (.long x) :: none :: t) (st) h Q) : wq d tab sc pc (a0 :: a1 :: a2 :: a3 :: a4 :: a5 :: a6 :: a7 :: a8 :: z :: z2 :: t) (.long x :: st) h Q := by
  have e1 : pm_st (a0 :: a1 :: a2 :: a3 :: a4 :: a5 :: a6 :: a7 :: a8 :: z :: z2 :: t) 9 (.long x) = a0 :: a1 :: a2 :: a3 :: a4 :: a5 :: a6 :: a7 :: a8 :: some (.long x) :: z2 :: t := (pm_st_nl a8 rfl hz)
  have e2 : pm_stJ (a0 :: a1 :: a2 :: a3 :: a4 :: a5 :: a6 :: a7 :: a8 :: z :: z2 :: t) 9 (.long x) = a0 :: a1 :: a2 :: a3 :: a4 :: a5 :: a6 :: a7 :: a8 :: some (.long x) :: none :: t := by
    show (pm_st (a0 :: a1 :: a2 :: a3 :: a4 :: a5 :: a6 :: a7 :: a8 :: z :: z2 :: t) 9 (.long x)).set (9 + 1) none = _
    rw [e1]
    rfl
  exact wq_step hc (show (if 9 + 1 < (a0 :: a1 :: a2 :: a3 :: a4 :: a5 :: a6 :: a7 :: a8 :: z :: z2 :: t).length then some (Sum.inl (n, pm_stJ (a0 :: a1 :: a2 :: a3 :: a4 :: a5 :: a6 :: a7 :: a8 :: z :: z2 :: t) 9 (.long x), st, h)) else none) = some (Sum.inl (n, a0 :: a1 :: a2 :: a3 :: a4 :: a5 :: a6 :: a7 :: a8 :: some (.long x) :: none :: t, st, h)) by rw [if_pos (by simp), e2]) kk
theorem wp_iinc9 {x : Int32} {w1 : Int} {a0 a1 a2 a3 a4 a5 a6 a7 a8 : Option Value} {t : Lc_} (hc : pm_lk tab pc = some (.iinc 9 w1, n, a, b, c, e, v, w)) (hz : nl_ a8 = true := by rfl) (kk : wq d tab sc n (a0 :: a1 :: a2 :: a3 :: a4 :: a5 :: a6 :: a7 :: a8 :: some (.int (x + v)) :: t) (st) h Q) : wq d tab sc pc (a0 :: a1 :: a2 :: a3 :: a4 :: a5 :: a6 :: a7 :: a8 :: some (.int x) :: t) (st) h Q := by
  have e1 : pm_st (a0 :: a1 :: a2 :: a3 :: a4 :: a5 :: a6 :: a7 :: a8 :: some (.int x) :: t) 9 (.int (x + v)) = a0 :: a1 :: a2 :: a3 :: a4 :: a5 :: a6 :: a7 :: a8 :: some (.int (x + v)) :: t := (pm_st_nl a8 rfl hz)
  exact wq_step hc (show some (Sum.inl (n, pm_st (a0 :: a1 :: a2 :: a3 :: a4 :: a5 :: a6 :: a7 :: a8 :: some (.int x) :: t) 9 (.int (x + v)), st, h)) = _ by rw [e1]) kk
theorem wp_iload10 {x : Int32} {a0 a1 a2 a3 a4 a5 a6 a7 a8 a9 : Option Value} {t : Lc_} (hc : pm_lk tab pc = some (.iload 10, n, a, b, c, e, v, w)) (kk : wq d tab sc n (a0 :: a1 :: a2 :: a3 :: a4 :: a5 :: a6 :: a7 :: a8 :: a9 :: some (.int x) :: t) (.int x :: st) h Q) : wq d tab sc pc (a0 :: a1 :: a2 :: a3 :: a4 :: a5 :: a6 :: a7 :: a8 :: a9 :: some (.int x) :: t) (st) h Q := wq_step hc rfl kk
theorem wp_lload10 {x : Int64} {a0 a1 a2 a3 a4 a5 a6 a7 a8 a9 : Option Value} {t : Lc_} (hc : pm_lk tab pc = some (.lload 10, n, a, b, c, e, v, w)) (kk : wq d tab sc n (a0 :: a1 :: a2 :: a3 :: a4 :: a5 :: a6 :: a7 :: a8 :: a9 :: some (.long x) :: t) (.long x :: st) h Q) : wq d tab sc pc (a0 :: a1 :: a2 :: a3 :: a4 :: a5 :: a6 :: a7 :: a8 :: a9 :: some (.long x) :: t) (st) h Q := wq_step hc rfl kk
theorem wp_aload10 {x : Nat} {a0 a1 a2 a3 a4 a5 a6 a7 a8 a9 : Option Value} {t : Lc_} (hc : pm_lk tab pc = some (.aload 10, n, a, b, c, e, v, w)) (kk : wq d tab sc n (a0 :: a1 :: a2 :: a3 :: a4 :: a5 :: a6 :: a7 :: a8 :: a9 :: some (.ref x) :: t) (.ref x :: st) h Q) : wq d tab sc pc (a0 :: a1 :: a2 :: a3 :: a4 :: a5 :: a6 :: a7 :: a8 :: a9 :: some (.ref x) :: t) (st) h Q := wq_step hc rfl kk
theorem wp_istore10 {x : Int32} {a0 a1 a2 a3 a4 a5 a6 a7 a8 a9 : Option Value} {z : Option Value} {t : Lc_} (hc : pm_lk tab pc = some (.istore 10, n, a, b, c, e, v, w)) (hz : nl_ a9 = true := by rfl) (kk : wq d tab sc n (a0 :: a1 :: a2 :: a3 :: a4 :: a5 :: a6 :: a7 :: a8 :: a9 :: some (.int x) :: t) (st) h Q) : wq d tab sc pc (a0 :: a1 :: a2 :: a3 :: a4 :: a5 :: a6 :: a7 :: a8 :: a9 :: z :: t) (.int x :: st) h Q := by
  have e1 : pm_st (a0 :: a1 :: a2 :: a3 :: a4 :: a5 :: a6 :: a7 :: a8 :: a9 :: z :: t) 10 (.int x) = a0 :: a1 :: a2 :: a3 :: a4 :: a5 :: a6 :: a7 :: a8 :: a9 :: some (.int x) :: t := (pm_st_nl a9 rfl hz)
  exact wq_step hc (show (if 10 < (a0 :: a1 :: a2 :: a3 :: a4 :: a5 :: a6 :: a7 :: a8 :: a9 :: z :: t).length then some (Sum.inl (n, pm_st (a0 :: a1 :: a2 :: a3 :: a4 :: a5 :: a6 :: a7 :: a8 :: a9 :: z :: t) 10 (.int x), st, h)) else none) = some (Sum.inl (n, a0 :: a1 :: a2 :: a3 :: a4 :: a5 :: a6 :: a7 :: a8 :: a9 :: some (.int x) :: t, st, h)) by rw [if_pos (by simp), e1]) kk
theorem wp_astore10 {x : Nat} {a0 a1 a2 a3 a4 a5 a6 a7 a8 a9 : Option Value} {z : Option Value} {t : Lc_} (hc : pm_lk tab pc = some (.astore 10, n, a, b, c, e, v, w)) (hz : nl_ a9 = true := by rfl) (kk : wq d tab sc n (a0 :: a1 :: a2 :: a3 :: a4 :: a5 :: a6 :: a7 :: a8 :: a9 :: some (.ref x) :: t) (st) h Q) : wq d tab sc pc (a0 :: a1 :: a2 :: a3 :: a4 :: a5 :: a6 :: a7 :: a8 :: a9 :: z :: t) (.ref x :: st) h Q := by
  have e1 : pm_st (a0 :: a1 :: a2 :: a3 :: a4 :: a5 :: a6 :: a7 :: a8 :: a9 :: z :: t) 10 (.ref x) = a0 :: a1 :: a2 :: a3 :: a4 :: a5 :: a6 :: a7 :: a8 :: a9 :: some (.ref x) :: t := (pm_st_nl a9 rfl hz)
  exact wq_step hc (show (if 10 < (a0 :: a1 :: a2 :: a3 :: a4 :: a5 :: a6 :: a7 :: a8 :: a9 :: z :: t).length then some (Sum.inl (n, pm_st (a0 :: a1 :: a2 :: a3 :: a4 :: a5 :: a6 :: a7 :: a8 :: a9 :: z :: t) 10 (.ref x), st, h)) else none) = some (Sum.inl (n, a0 :: a1 :: a2 :: a3 :: a4 :: a5 :: a6 :: a7 :: a8 :: a9 :: some (.ref x) :: t, st, h)) by rw [if_pos (by simp), e1]) kk
theorem wp_lstore10 {x : Int64} {a0 a1 a2 a3 a4 a5 a6 a7 a8 a9 : Option Value} {z z2 : Option Value} {t : Lc_} (hc : pm_lk tab pc = some (.lstore 10, n, a, b, c, e, v, w)) (hz : nl_ a9 = true := by rfl) (kk : wq d tab sc n (a0 :: a1 :: a2 :: a3 :: a4 :: a5 :: a6 :: a7 :: a8 :: a9 :: some (.long x) :: none :: t) (st) h Q) : wq d tab sc pc (a0 :: a1 :: a2 :: a3 :: a4 :: a5 :: a6 :: a7 :: a8 :: a9 :: z :: z2 :: t) (.long x :: st) h Q := by
  have e1 : pm_st (a0 :: a1 :: a2 :: a3 :: a4 :: a5 :: a6 :: a7 :: a8 :: a9 :: z :: z2 :: t) 10 (.long x) = a0 :: a1 :: a2 :: a3 :: a4 :: a5 :: a6 :: a7 :: a8 :: a9 :: some (.long x) :: z2 :: t := (pm_st_nl a9 rfl hz)
  have e2 : pm_stJ (a0 :: a1 :: a2 :: a3 :: a4 :: a5 :: a6 :: a7 :: a8 :: a9 :: z :: z2 :: t) 10 (.long x) = a0 :: a1 :: a2 :: a3 :: a4 :: a5 :: a6 :: a7 :: a8 :: a9 :: some (.long x) :: none :: t := by
    show (pm_st (a0 :: a1 :: a2 :: a3 :: a4 :: a5 :: a6 :: a7 :: a8 :: a9 :: z :: z2 :: t) 10 (.long x)).set (10 + 1) none = _
    rw [e1]
    rfl
  exact wq_step hc (show (if 10 + 1 < (a0 :: a1 :: a2 :: a3 :: a4 :: a5 :: a6 :: a7 :: a8 :: a9 :: z :: z2 :: t).length then some (Sum.inl (n, pm_stJ (a0 :: a1 :: a2 :: a3 :: a4 :: a5 :: a6 :: a7 :: a8 :: a9 :: z :: z2 :: t) 10 (.long x), st, h)) else none) = some (Sum.inl (n, a0 :: a1 :: a2 :: a3 :: a4 :: a5 :: a6 :: a7 :: a8 :: a9 :: some (.long x) :: none :: t, st, h)) by rw [if_pos (by simp), e2]) kk
theorem wp_iinc10 {x : Int32} {w1 : Int} {a0 a1 a2 a3 a4 a5 a6 a7 a8 a9 : Option Value} {t : Lc_} (hc : pm_lk tab pc = some (.iinc 10 w1, n, a, b, c, e, v, w)) (hz : nl_ a9 = true := by rfl) (kk : wq d tab sc n (a0 :: a1 :: a2 :: a3 :: a4 :: a5 :: a6 :: a7 :: a8 :: a9 :: some (.int (x + v)) :: t) (st) h Q) : wq d tab sc pc (a0 :: a1 :: a2 :: a3 :: a4 :: a5 :: a6 :: a7 :: a8 :: a9 :: some (.int x) :: t) (st) h Q := by
  have e1 : pm_st (a0 :: a1 :: a2 :: a3 :: a4 :: a5 :: a6 :: a7 :: a8 :: a9 :: some (.int x) :: t) 10 (.int (x + v)) = a0 :: a1 :: a2 :: a3 :: a4 :: a5 :: a6 :: a7 :: a8 :: a9 :: some (.int (x + v)) :: t := (pm_st_nl a9 rfl hz)
  exact wq_step hc (show some (Sum.inl (n, pm_st (a0 :: a1 :: a2 :: a3 :: a4 :: a5 :: a6 :: a7 :: a8 :: a9 :: some (.int x) :: t) 10 (.int (x + v)), st, h)) = _ by rw [e1]) kk
theorem wp_iload11 {x : Int32} {a0 a1 a2 a3 a4 a5 a6 a7 a8 a9 a10 : Option Value} {t : Lc_} (hc : pm_lk tab pc = some (.iload 11, n, a, b, c, e, v, w)) (kk : wq d tab sc n (a0 :: a1 :: a2 :: a3 :: a4 :: a5 :: a6 :: a7 :: a8 :: a9 :: a10 :: some (.int x) :: t) (.int x :: st) h Q) : wq d tab sc pc (a0 :: a1 :: a2 :: a3 :: a4 :: a5 :: a6 :: a7 :: a8 :: a9 :: a10 :: some (.int x) :: t) (st) h Q := wq_step hc rfl kk
theorem wp_lload11 {x : Int64} {a0 a1 a2 a3 a4 a5 a6 a7 a8 a9 a10 : Option Value} {t : Lc_} (hc : pm_lk tab pc = some (.lload 11, n, a, b, c, e, v, w)) (kk : wq d tab sc n (a0 :: a1 :: a2 :: a3 :: a4 :: a5 :: a6 :: a7 :: a8 :: a9 :: a10 :: some (.long x) :: t) (.long x :: st) h Q) : wq d tab sc pc (a0 :: a1 :: a2 :: a3 :: a4 :: a5 :: a6 :: a7 :: a8 :: a9 :: a10 :: some (.long x) :: t) (st) h Q := wq_step hc rfl kk
theorem wp_aload11 {x : Nat} {a0 a1 a2 a3 a4 a5 a6 a7 a8 a9 a10 : Option Value} {t : Lc_} (hc : pm_lk tab pc = some (.aload 11, n, a, b, c, e, v, w)) (kk : wq d tab sc n (a0 :: a1 :: a2 :: a3 :: a4 :: a5 :: a6 :: a7 :: a8 :: a9 :: a10 :: some (.ref x) :: t) (.ref x :: st) h Q) : wq d tab sc pc (a0 :: a1 :: a2 :: a3 :: a4 :: a5 :: a6 :: a7 :: a8 :: a9 :: a10 :: some (.ref x) :: t) (st) h Q := wq_step hc rfl kk
theorem wp_istore11 {x : Int32} {a0 a1 a2 a3 a4 a5 a6 a7 a8 a9 a10 : Option Value} {z : Option Value} {t : Lc_} (hc : pm_lk tab pc = some (.istore 11, n, a, b, c, e, v, w)) (hz : nl_ a10 = true := by rfl) (kk : wq d tab sc n (a0 :: a1 :: a2 :: a3 :: a4 :: a5 :: a6 :: a7 :: a8 :: a9 :: a10 :: some (.int x) :: t) (st) h Q) : wq d tab sc pc (a0 :: a1 :: a2 :: a3 :: a4 :: a5 :: a6 :: a7 :: a8 :: a9 :: a10 :: z :: t) (.int x :: st) h Q := by
  have e1 : pm_st (a0 :: a1 :: a2 :: a3 :: a4 :: a5 :: a6 :: a7 :: a8 :: a9 :: a10 :: z :: t) 11 (.int x) = a0 :: a1 :: a2 :: a3 :: a4 :: a5 :: a6 :: a7 :: a8 :: a9 :: a10 :: some (.int x) :: t := (pm_st_nl a10 rfl hz)
  exact wq_step hc (show (if 11 < (a0 :: a1 :: a2 :: a3 :: a4 :: a5 :: a6 :: a7 :: a8 :: a9 :: a10 :: z :: t).length then some (Sum.inl (n, pm_st (a0 :: a1 :: a2 :: a3 :: a4 :: a5 :: a6 :: a7 :: a8 :: a9 :: a10 :: z :: t) 11 (.int x), st, h)) else none) = some (Sum.inl (n, a0 :: a1 :: a2 :: a3 :: a4 :: a5 :: a6 :: a7 :: a8 :: a9 :: a10 :: some (.int x) :: t, st, h)) by rw [if_pos (by simp), e1]) kk
theorem wp_astore11 {x : Nat} {a0 a1 a2 a3 a4 a5 a6 a7 a8 a9 a10 : Option Value} {z : Option Value} {t : Lc_} (hc : pm_lk tab pc = some (.astore 11, n, a, b, c, e, v, w)) (hz : nl_ a10 = true := by rfl) (kk : wq d tab sc n (a0 :: a1 :: a2 :: a3 :: a4 :: a5 :: a6 :: a7 :: a8 :: a9 :: a10 :: some (.ref x) :: t) (st) h Q) : wq d tab sc pc (a0 :: a1 :: a2 :: a3 :: a4 :: a5 :: a6 :: a7 :: a8 :: a9 :: a10 :: z :: t) (.ref x :: st) h Q := by
  have e1 : pm_st (a0 :: a1 :: a2 :: a3 :: a4 :: a5 :: a6 :: a7 :: a8 :: a9 :: a10 :: z :: t) 11 (.ref x) = a0 :: a1 :: a2 :: a3 :: a4 :: a5 :: a6 :: a7 :: a8 :: a9 :: a10 :: some (.ref x) :: t := (pm_st_nl a10 rfl hz)
  exact wq_step hc (show (if 11 < (a0 :: a1 :: a2 :: a3 :: a4 :: a5 :: a6 :: a7 :: a8 :: a9 :: a10 :: z :: t).length then some (Sum.inl (n, pm_st (a0 :: a1 :: a2 :: a3 :: a4 :: a5 :: a6 :: a7 :: a8 :: a9 :: a10 :: z :: t) 11 (.ref x), st, h)) else none) = some (Sum.inl (n, a0 :: a1 :: a2 :: a3 :: a4 :: a5 :: a6 :: a7 :: a8 :: a9 :: a10 :: some (.ref x) :: t, st, h)) by rw [if_pos (by simp), e1]) kk
theorem wp_lstore11 {x : Int64} {a0 a1 a2 a3 a4 a5 a6 a7 a8 a9 a10 : Option Value} {z z2 : Option Value} {t : Lc_} (hc : pm_lk tab pc = some (.lstore 11, n, a, b, c, e, v, w)) (hz : nl_ a10 = true := by rfl) (kk : wq d tab sc n (a0 :: a1 :: a2 :: a3 :: a4 :: a5 :: a6 :: a7 :: a8 :: a9 :: a10 :: some (.long x) :: none :: t) (st) h Q) : wq d tab sc pc (a0 :: a1 :: a2 :: a3 :: a4 :: a5 :: a6 :: a7 :: a8 :: a9 :: a10 :: z :: z2 :: t) (.long x :: st) h Q := by
  have e1 : pm_st (a0 :: a1 :: a2 :: a3 :: a4 :: a5 :: a6 :: a7 :: a8 :: a9 :: a10 :: z :: z2 :: t) 11 (.long x) = a0 :: a1 :: a2 :: a3 :: a4 :: a5 :: a6 :: a7 :: a8 :: a9 :: a10 :: some (.long x) :: z2 :: t := (pm_st_nl a10 rfl hz)
  have e2 : pm_stJ (a0 :: a1 :: a2 :: a3 :: a4 :: a5 :: a6 :: a7 :: a8 :: a9 :: a10 :: z :: z2 :: t) 11 (.long x) = a0 :: a1 :: a2 :: a3 :: a4 :: a5 :: a6 :: a7 :: a8 :: a9 :: a10 :: some (.long x) :: none :: t := by
    show (pm_st (a0 :: a1 :: a2 :: a3 :: a4 :: a5 :: a6 :: a7 :: a8 :: a9 :: a10 :: z :: z2 :: t) 11 (.long x)).set (11 + 1) none = _
    rw [e1]
    rfl
  exact wq_step hc (show (if 11 + 1 < (a0 :: a1 :: a2 :: a3 :: a4 :: a5 :: a6 :: a7 :: a8 :: a9 :: a10 :: z :: z2 :: t).length then some (Sum.inl (n, pm_stJ (a0 :: a1 :: a2 :: a3 :: a4 :: a5 :: a6 :: a7 :: a8 :: a9 :: a10 :: z :: z2 :: t) 11 (.long x), st, h)) else none) = some (Sum.inl (n, a0 :: a1 :: a2 :: a3 :: a4 :: a5 :: a6 :: a7 :: a8 :: a9 :: a10 :: some (.long x) :: none :: t, st, h)) by rw [if_pos (by simp), e2]) kk
theorem wp_iinc11 {x : Int32} {w1 : Int} {a0 a1 a2 a3 a4 a5 a6 a7 a8 a9 a10 : Option Value} {t : Lc_} (hc : pm_lk tab pc = some (.iinc 11 w1, n, a, b, c, e, v, w)) (hz : nl_ a10 = true := by rfl) (kk : wq d tab sc n (a0 :: a1 :: a2 :: a3 :: a4 :: a5 :: a6 :: a7 :: a8 :: a9 :: a10 :: some (.int (x + v)) :: t) (st) h Q) : wq d tab sc pc (a0 :: a1 :: a2 :: a3 :: a4 :: a5 :: a6 :: a7 :: a8 :: a9 :: a10 :: some (.int x) :: t) (st) h Q := by
  have e1 : pm_st (a0 :: a1 :: a2 :: a3 :: a4 :: a5 :: a6 :: a7 :: a8 :: a9 :: a10 :: some (.int x) :: t) 11 (.int (x + v)) = a0 :: a1 :: a2 :: a3 :: a4 :: a5 :: a6 :: a7 :: a8 :: a9 :: a10 :: some (.int (x + v)) :: t := (pm_st_nl a10 rfl hz)
  exact wq_step hc (show some (Sum.inl (n, pm_st (a0 :: a1 :: a2 :: a3 :: a4 :: a5 :: a6 :: a7 :: a8 :: a9 :: a10 :: some (.int x) :: t) 11 (.int (x + v)), st, h)) = _ by rw [e1]) kk
theorem wp_iload12 {x : Int32} {a0 a1 a2 a3 a4 a5 a6 a7 a8 a9 a10 a11 : Option Value} {t : Lc_} (hc : pm_lk tab pc = some (.iload 12, n, a, b, c, e, v, w)) (kk : wq d tab sc n (a0 :: a1 :: a2 :: a3 :: a4 :: a5 :: a6 :: a7 :: a8 :: a9 :: a10 :: a11 :: some (.int x) :: t) (.int x :: st) h Q) : wq d tab sc pc (a0 :: a1 :: a2 :: a3 :: a4 :: a5 :: a6 :: a7 :: a8 :: a9 :: a10 :: a11 :: some (.int x) :: t) (st) h Q := wq_step hc rfl kk
theorem wp_lload12 {x : Int64} {a0 a1 a2 a3 a4 a5 a6 a7 a8 a9 a10 a11 : Option Value} {t : Lc_} (hc : pm_lk tab pc = some (.lload 12, n, a, b, c, e, v, w)) (kk : wq d tab sc n (a0 :: a1 :: a2 :: a3 :: a4 :: a5 :: a6 :: a7 :: a8 :: a9 :: a10 :: a11 :: some (.long x) :: t) (.long x :: st) h Q) : wq d tab sc pc (a0 :: a1 :: a2 :: a3 :: a4 :: a5 :: a6 :: a7 :: a8 :: a9 :: a10 :: a11 :: some (.long x) :: t) (st) h Q := wq_step hc rfl kk
theorem wp_aload12 {x : Nat} {a0 a1 a2 a3 a4 a5 a6 a7 a8 a9 a10 a11 : Option Value} {t : Lc_} (hc : pm_lk tab pc = some (.aload 12, n, a, b, c, e, v, w)) (kk : wq d tab sc n (a0 :: a1 :: a2 :: a3 :: a4 :: a5 :: a6 :: a7 :: a8 :: a9 :: a10 :: a11 :: some (.ref x) :: t) (.ref x :: st) h Q) : wq d tab sc pc (a0 :: a1 :: a2 :: a3 :: a4 :: a5 :: a6 :: a7 :: a8 :: a9 :: a10 :: a11 :: some (.ref x) :: t) (st) h Q := wq_step hc rfl kk
theorem wp_istore12 {x : Int32} {a0 a1 a2 a3 a4 a5 a6 a7 a8 a9 a10 a11 : Option Value} {z : Option Value} {t : Lc_} (hc : pm_lk tab pc = some (.istore 12, n, a, b, c, e, v, w)) (hz : nl_ a11 = true := by rfl) (kk : wq d tab sc n (a0 :: a1 :: a2 :: a3 :: a4 :: a5 :: a6 :: a7 :: a8 :: a9 :: a10 :: a11 :: some (.int x) :: t) (st) h Q) : wq d tab sc pc (a0 :: a1 :: a2 :: a3 :: a4 :: a5 :: a6 :: a7 :: a8 :: a9 :: a10 :: a11 :: z :: t) (.int x :: st) h Q := by
  have e1 : pm_st (a0 :: a1 :: a2 :: a3 :: a4 :: a5 :: a6 :: a7 :: a8 :: a9 :: a10 :: a11 :: z :: t) 12 (.int x) = a0 :: a1 :: a2 :: a3 :: a4 :: a5 :: a6 :: a7 :: a8 :: a9 :: a10 :: a11 :: some (.int x) :: t := (pm_st_nl a11 rfl hz)
  exact wq_step hc (show (if 12 < (a0 :: a1 :: a2 :: a3 :: a4 :: a5 :: a6 :: a7 :: a8 :: a9 :: a10 :: a11 :: z :: t).length then some (Sum.inl (n, pm_st (a0 :: a1 :: a2 :: a3 :: a4 :: a5 :: a6 :: a7 :: a8 :: a9 :: a10 :: a11 :: z :: t) 12 (.int x), st, h)) else none) = some (Sum.inl (n, a0 :: a1 :: a2 :: a3 :: a4 :: a5 :: a6 :: a7 :: a8 :: a9 :: a10 :: a11 :: some (.int x) :: t, st, h)) by rw [if_pos (by simp), e1]) kk
theorem wp_astore12 {x : Nat} {a0 a1 a2 a3 a4 a5 a6 a7 a8 a9 a10 a11 : Option Value} {z : Option Value} {t : Lc_} (hc : pm_lk tab pc = some (.astore 12, n, a, b, c, e, v, w)) (hz : nl_ a11 = true := by rfl) (kk : wq d tab sc n (a0 :: a1 :: a2 :: a3 :: a4 :: a5 :: a6 :: a7 :: a8 :: a9 :: a10 :: a11 :: some (.ref x) :: t) (st) h Q) : wq d tab sc pc (a0 :: a1 :: a2 :: a3 :: a4 :: a5 :: a6 :: a7 :: a8 :: a9 :: a10 :: a11 :: z :: t) (.ref x :: st) h Q := by
  have e1 : pm_st (a0 :: a1 :: a2 :: a3 :: a4 :: a5 :: a6 :: a7 :: a8 :: a9 :: a10 :: a11 :: z :: t) 12 (.ref x) = a0 :: a1 :: a2 :: a3 :: a4 :: a5 :: a6 :: a7 :: a8 :: a9 :: a10 :: a11 :: some (.ref x) :: t := (pm_st_nl a11 rfl hz)
  exact wq_step hc (show (if 12 < (a0 :: a1 :: a2 :: a3 :: a4 :: a5 :: a6 :: a7 :: a8 :: a9 :: a10 :: a11 :: z :: t).length then some (Sum.inl (n, pm_st (a0 :: a1 :: a2 :: a3 :: a4 :: a5 :: a6 :: a7 :: a8 :: a9 :: a10 :: a11 :: z :: t) 12 (.ref x), st, h)) else none) = some (Sum.inl (n, a0 :: a1 :: a2 :: a3 :: a4 :: a5 :: a6 :: a7 :: a8 :: a9 :: a10 :: a11 :: some (.ref x) :: t, st, h)) by rw [if_pos (by simp), e1]) kk
theorem wp_lstore12 {x : Int64} {a0 a1 a2 a3 a4 a5 a6 a7 a8 a9 a10 a11 : Option Value} {z z2 : Option Value} {t : Lc_} (hc : pm_lk tab pc = some (.lstore 12, n, a, b, c, e, v, w)) (hz : nl_ a11 = true := by rfl) (kk : wq d tab sc n (a0 :: a1 :: a2 :: a3 :: a4 :: a5 :: a6 :: a7 :: a8 :: a9 :: a10 :: a11 :: some (.long x) :: none :: t) (st) h Q) : wq d tab sc pc (a0 :: a1 :: a2 :: a3 :: a4 :: a5 :: a6 :: a7 :: a8 :: a9 :: a10 :: a11 :: z :: z2 :: t) (.long x :: st) h Q := by
  have e1 : pm_st (a0 :: a1 :: a2 :: a3 :: a4 :: a5 :: a6 :: a7 :: a8 :: a9 :: a10 :: a11 :: z :: z2 :: t) 12 (.long x) = a0 :: a1 :: a2 :: a3 :: a4 :: a5 :: a6 :: a7 :: a8 :: a9 :: a10 :: a11 :: some (.long x) :: z2 :: t := (pm_st_nl a11 rfl hz)
  have e2 : pm_stJ (a0 :: a1 :: a2 :: a3 :: a4 :: a5 :: a6 :: a7 :: a8 :: a9 :: a10 :: a11 :: z :: z2 :: t) 12 (.long x) = a0 :: a1 :: a2 :: a3 :: a4 :: a5 :: a6 :: a7 :: a8 :: a9 :: a10 :: a11 :: some (.long x) :: none :: t := by
    show (pm_st (a0 :: a1 :: a2 :: a3 :: a4 :: a5 :: a6 :: a7 :: a8 :: a9 :: a10 :: a11 :: z :: z2 :: t) 12 (.long x)).set (12 + 1) none = _
    rw [e1]
    rfl
  exact wq_step hc (show (if 12 + 1 < (a0 :: a1 :: a2 :: a3 :: a4 :: a5 :: a6 :: a7 :: a8 :: a9 :: a10 :: a11 :: z :: z2 :: t).length then some (Sum.inl (n, pm_stJ (a0 :: a1 :: a2 :: a3 :: a4 :: a5 :: a6 :: a7 :: a8 :: a9 :: a10 :: a11 :: z :: z2 :: t) 12 (.long x), st, h)) else none) = some (Sum.inl (n, a0 :: a1 :: a2 :: a3 :: a4 :: a5 :: a6 :: a7 :: a8 :: a9 :: a10 :: a11 :: some (.long x) :: none :: t, st, h)) by rw [if_pos (by simp), e2]) kk
theorem wp_iinc12 {x : Int32} {w1 : Int} {a0 a1 a2 a3 a4 a5 a6 a7 a8 a9 a10 a11 : Option Value} {t : Lc_} (hc : pm_lk tab pc = some (.iinc 12 w1, n, a, b, c, e, v, w)) (hz : nl_ a11 = true := by rfl) (kk : wq d tab sc n (a0 :: a1 :: a2 :: a3 :: a4 :: a5 :: a6 :: a7 :: a8 :: a9 :: a10 :: a11 :: some (.int (x + v)) :: t) (st) h Q) : wq d tab sc pc (a0 :: a1 :: a2 :: a3 :: a4 :: a5 :: a6 :: a7 :: a8 :: a9 :: a10 :: a11 :: some (.int x) :: t) (st) h Q := by
  have e1 : pm_st (a0 :: a1 :: a2 :: a3 :: a4 :: a5 :: a6 :: a7 :: a8 :: a9 :: a10 :: a11 :: some (.int x) :: t) 12 (.int (x + v)) = a0 :: a1 :: a2 :: a3 :: a4 :: a5 :: a6 :: a7 :: a8 :: a9 :: a10 :: a11 :: some (.int (x + v)) :: t := (pm_st_nl a11 rfl hz)
  exact wq_step hc (show some (Sum.inl (n, pm_st (a0 :: a1 :: a2 :: a3 :: a4 :: a5 :: a6 :: a7 :: a8 :: a9 :: a10 :: a11 :: some (.int x) :: t) 12 (.int (x + v)), st, h)) = _ by rw [e1]) kk
theorem wp_iconst {k1 : Int} (hc : pm_lk tab pc = some (.iconst k1, n, a, b, c, e, v, w)) (kk : wq d tab sc n (L) (.int v :: st) h Q) : wq d tab sc pc (L) (st) h Q := wq_step hc rfl kk
theorem wp_bipush {k1 : Int} (hc : pm_lk tab pc = some (.bipush k1, n, a, b, c, e, v, w)) (kk : wq d tab sc n (L) (.int v :: st) h Q) : wq d tab sc pc (L) (st) h Q := wq_step hc rfl kk
theorem wp_sipush {k1 : Int} (hc : pm_lk tab pc = some (.sipush k1, n, a, b, c, e, v, w)) (kk : wq d tab sc n (L) (.int v :: st) h Q) : wq d tab sc pc (L) (st) h Q := wq_step hc rfl kk
theorem wp_ldc {k1 : Nat} (hc : pm_lk tab pc = some (.ldc k1, n, a, b, c, e, v, w)) (kk : wq d tab sc n (L) (.int v :: st) h Q) : wq d tab sc pc (L) (st) h Q := wq_step hc rfl kk
theorem wp_ldc_w {k1 : Nat} (hc : pm_lk tab pc = some (.ldc_w k1, n, a, b, c, e, v, w)) (kk : wq d tab sc n (L) (.int v :: st) h Q) : wq d tab sc pc (L) (st) h Q := wq_step hc rfl kk
theorem wp_ldc2_w {k1 : Nat} (hc : pm_lk tab pc = some (.ldc2_w k1, n, a, b, c, e, v, w)) (kk : wq d tab sc n (L) (.long w :: st) h Q) : wq d tab sc pc (L) (st) h Q := wq_step hc rfl kk
theorem wp_lconst {k1 : Fin 2} (hc : pm_lk tab pc = some (.lconst k1, n, a, b, c, e, v, w)) (kk : wq d tab sc n (L) (.long w :: st) h Q) : wq d tab sc pc (L) (st) h Q := wq_step hc rfl kk
theorem wp_iadd {x y : Int32} (hc : pm_lk tab pc = some (.iadd, n, a, b, c, e, v, w)) (kk : wq d tab sc n (L) (.int (x + y) :: st) h Q) : wq d tab sc pc (L) (.int y :: .int x :: st) h Q := wq_step hc rfl kk
theorem wp_iaddE {x y : Int32} (z : Int32) (hz : x + y = z) (hc : pm_lk tab pc = some (.iadd, n, a, b, c, e, v, w)) (kk : wq d tab sc n (L) (.int z :: st) h Q) : wq d tab sc pc (L) (.int y :: .int x :: st) h Q := wq_step hc (by rw [← hz]; rfl) kk
theorem wp_isub {x y : Int32} (hc : pm_lk tab pc = some (.isub, n, a, b, c, e, v, w)) (kk : wq d tab sc n (L) (.int (x - y) :: st) h Q) : wq d tab sc pc (L) (.int y :: .int x :: st) h Q := wq_step hc rfl kk
theorem wp_isubE {x y : Int32} (z : Int32) (hz : x - y = z) (hc : pm_lk tab pc = some (.isub, n, a, b, c, e, v, w)) (kk : wq d tab sc n (L) (.int z :: st) h Q) : wq d tab sc pc (L) (.int y :: .int x :: st) h Q := wq_step hc (by rw [← hz]; rfl) kk
theorem wp_imul {x y : Int32} (hc : pm_lk tab pc = some (.imul, n, a, b, c, e, v, w)) (kk : wq d tab sc n (L) (.int (x * y) :: st) h Q) : wq d tab sc pc (L) (.int y :: .int x :: st) h Q := wq_step hc rfl kk
theorem wp_imulE {x y : Int32} (z : Int32) (hz : x * y = z) (hc : pm_lk tab pc = some (.imul, n, a, b, c, e, v, w)) (kk : wq d tab sc n (L) (.int z :: st) h Q) : wq d tab sc pc (L) (.int y :: .int x :: st) h Q := wq_step hc (by rw [← hz]; rfl) kk
theorem wp_iand {x y : Int32} (hc : pm_lk tab pc = some (.iand, n, a, b, c, e, v, w)) (kk : wq d tab sc n (L) (.int (x &&& y) :: st) h Q) : wq d tab sc pc (L) (.int y :: .int x :: st) h Q := wq_step hc rfl kk
theorem wp_iandE {x y : Int32} (z : Int32) (hz : x &&& y = z) (hc : pm_lk tab pc = some (.iand, n, a, b, c, e, v, w)) (kk : wq d tab sc n (L) (.int z :: st) h Q) : wq d tab sc pc (L) (.int y :: .int x :: st) h Q := wq_step hc (by rw [← hz]; rfl) kk
theorem wp_ior {x y : Int32} (hc : pm_lk tab pc = some (.ior, n, a, b, c, e, v, w)) (kk : wq d tab sc n (L) (.int (x ||| y) :: st) h Q) : wq d tab sc pc (L) (.int y :: .int x :: st) h Q := wq_step hc rfl kk
theorem wp_iorE {x y : Int32} (z : Int32) (hz : x ||| y = z) (hc : pm_lk tab pc = some (.ior, n, a, b, c, e, v, w)) (kk : wq d tab sc n (L) (.int z :: st) h Q) : wq d tab sc pc (L) (.int y :: .int x :: st) h Q := wq_step hc (by rw [← hz]; rfl) kk
theorem wp_ixor {x y : Int32} (hc : pm_lk tab pc = some (.ixor, n, a, b, c, e, v, w)) (kk : wq d tab sc n (L) (.int (x ^^^ y) :: st) h Q) : wq d tab sc pc (L) (.int y :: .int x :: st) h Q := wq_step hc rfl kk
theorem wp_ixorE {x y : Int32} (z : Int32) (hz : x ^^^ y = z) (hc : pm_lk tab pc = some (.ixor, n, a, b, c, e, v, w)) (kk : wq d tab sc n (L) (.int z :: st) h Q) : wq d tab sc pc (L) (.int y :: .int x :: st) h Q := wq_step hc (by rw [← hz]; rfl) kk
theorem wp_ishl {x y : Int32} (hc : pm_lk tab pc = some (.ishl, n, a, b, c, e, v, w)) (kk : wq d tab sc n (L) (.int (x <<< (y &&& 31)) :: st) h Q) : wq d tab sc pc (L) (.int y :: .int x :: st) h Q := wq_step hc rfl kk
theorem wp_ishlE {x y : Int32} (z : Int32) (hz : x <<< (y &&& 31) = z) (hc : pm_lk tab pc = some (.ishl, n, a, b, c, e, v, w)) (kk : wq d tab sc n (L) (.int z :: st) h Q) : wq d tab sc pc (L) (.int y :: .int x :: st) h Q := wq_step hc (by rw [← hz]; rfl) kk
theorem wp_ishr {x y : Int32} (hc : pm_lk tab pc = some (.ishr, n, a, b, c, e, v, w)) (kk : wq d tab sc n (L) (.int (x >>> (y &&& 31)) :: st) h Q) : wq d tab sc pc (L) (.int y :: .int x :: st) h Q := wq_step hc rfl kk
theorem wp_ishrE {x y : Int32} (z : Int32) (hz : x >>> (y &&& 31) = z) (hc : pm_lk tab pc = some (.ishr, n, a, b, c, e, v, w)) (kk : wq d tab sc n (L) (.int z :: st) h Q) : wq d tab sc pc (L) (.int y :: .int x :: st) h Q := wq_step hc (by rw [← hz]; rfl) kk
theorem wp_iushr {x y : Int32} (hc : pm_lk tab pc = some (.iushr, n, a, b, c, e, v, w)) (kk : wq d tab sc n (L) (.int ((x.toUInt32 >>> (y.toUInt32 &&& Int32.toUInt32 31)).toInt32) :: st) h Q) : wq d tab sc pc (L) (.int y :: .int x :: st) h Q := wq_step hc rfl kk
theorem wp_iushrE {x y : Int32} (z : Int32) (hz : (x.toUInt32 >>> (y.toUInt32 &&& Int32.toUInt32 31)).toInt32 = z) (hc : pm_lk tab pc = some (.iushr, n, a, b, c, e, v, w)) (kk : wq d tab sc n (L) (.int z :: st) h Q) : wq d tab sc pc (L) (.int y :: .int x :: st) h Q := wq_step hc (by rw [← hz]; rfl) kk
theorem wp_idivE {x y : Int32} (z : Int32) (hy : y ≠ 0) (hz : x / y = z) (hc : pm_lk tab pc = some (.idiv, n, a, b, c, e, v, w)) (kk : wq d tab sc n (L) (.int z :: st) h Q) : wq d tab sc pc (L) (.int y :: .int x :: st) h Q := wq_step hc (show (if y = 0 then none else some (Sum.inl (n, L, Value.int (x / y) :: st, h))) = some (Sum.inl (n, L, Value.int z :: st, h)) by rw [if_neg hy, hz]) kk
theorem wp_iremE {x y : Int32} (z : Int32) (hy : y ≠ 0) (hz : x - x / y * y = z) (hc : pm_lk tab pc = some (.irem, n, a, b, c, e, v, w)) (kk : wq d tab sc n (L) (.int z :: st) h Q) : wq d tab sc pc (L) (.int y :: .int x :: st) h Q := wq_step hc (show (if y = 0 then none else some (Sum.inl (n, L, Value.int (x - x / y * y) :: st, h))) = some (Sum.inl (n, L, Value.int z :: st, h)) by rw [if_neg hy, hz]) kk
theorem wp_ladd {x y : Int64} (hc : pm_lk tab pc = some (.ladd, n, a, b, c, e, v, w)) (kk : wq d tab sc n (L) (.long (x + y) :: st) h Q) : wq d tab sc pc (L) (.long y :: .long x :: st) h Q := wq_step hc rfl kk
theorem wp_laddE {x y : Int64} (z : Int64) (hz : x + y = z) (hc : pm_lk tab pc = some (.ladd, n, a, b, c, e, v, w)) (kk : wq d tab sc n (L) (.long z :: st) h Q) : wq d tab sc pc (L) (.long y :: .long x :: st) h Q := wq_step hc (by rw [← hz]; rfl) kk
theorem wp_lmul {x y : Int64} (hc : pm_lk tab pc = some (.lmul, n, a, b, c, e, v, w)) (kk : wq d tab sc n (L) (.long (x * y) :: st) h Q) : wq d tab sc pc (L) (.long y :: .long x :: st) h Q := wq_step hc rfl kk
theorem wp_lmulE {x y : Int64} (z : Int64) (hz : x * y = z) (hc : pm_lk tab pc = some (.lmul, n, a, b, c, e, v, w)) (kk : wq d tab sc n (L) (.long z :: st) h Q) : wq d tab sc pc (L) (.long y :: .long x :: st) h Q := wq_step hc (by rw [← hz]; rfl) kk
theorem wp_lremE {x y : Int64} (z : Int64) (hy : y ≠ 0) (hz : x - x / y * y = z) (hc : pm_lk tab pc = some (.lrem, n, a, b, c, e, v, w)) (kk : wq d tab sc n (L) (.long z :: st) h Q) : wq d tab sc pc (L) (.long y :: .long x :: st) h Q := wq_step hc (show (if y = 0 then none else some (Sum.inl (n, L, Value.long (x - x / y * y) :: st, h))) = some (Sum.inl (n, L, Value.long z :: st, h)) by rw [if_neg hy, hz]) kk
theorem wp_lcmp {x y : Int64} (hc : pm_lk tab pc = some (.lcmp, n, a, b, c, e, v, w)) (kk : wq d tab sc n (L) (.int (lg_cmp x y) :: st) h Q) : wq d tab sc pc (L) (.long y :: .long x :: st) h Q := wq_step hc rfl kk
theorem wp_i2l {x : Int32} (hc : pm_lk tab pc = some (.i2l, n, a, b, c, e, v, w)) (kk : wq d tab sc n (L) (.long x.toInt64 :: st) h Q) : wq d tab sc pc (L) (.int x :: st) h Q := wq_step hc rfl kk
theorem wp_l2i {x : Int64} (hc : pm_lk tab pc = some (.l2i, n, a, b, c, e, v, w)) (kk : wq d tab sc n (L) (.int x.toInt32 :: st) h Q) : wq d tab sc pc (L) (.long x :: st) h Q := wq_step hc rfl kk
theorem wp_dup {x : Nat} (hc : pm_lk tab pc = some (.dup, n, a, b, c, e, v, w)) (kk : wq d tab sc n (L) (.ref x :: .ref x :: st) h Q) : wq d tab sc pc (L) (.ref x :: st) h Q := wq_step hc rfl kk
theorem wp_popI {x : Int32} (hc : pm_lk tab pc = some (.pop, n, a, b, c, e, v, w)) (kk : wq d tab sc n (L) (st) h Q) : wq d tab sc pc (L) (.int x :: st) h Q := wq_step hc rfl kk
theorem wp_popA {x : Nat} (hc : pm_lk tab pc = some (.pop, n, a, b, c, e, v, w)) (kk : wq d tab sc n (L) (st) h Q) : wq d tab sc pc (L) (.ref x :: st) h Q := wq_step hc rfl kk
theorem wp_goto {k1 : Int} (hc : pm_lk tab pc = some (.goto k1, n, a, b, c, e, v, w)) (kk : wq d tab sc a (L) (st) h Q) : wq d tab sc pc (L) (st) h Q := wq_step hc rfl kk
theorem wp_if_eq {x : Int32} {k1 : Int} (hc : pm_lk tab pc = some (.ifCond .eq k1, n, a, b, c, e, v, w)) (kt : x = 0 → wq d tab sc a (L) (st) h Q) (kf : ¬ (x = 0) → wq d tab sc n (L) (st) h Q) : wq d tab sc pc (L) (.int x :: st) h Q := by
  by_cases q : x = 0
  · exact wq_step hc (show some (Sum.inl (if decide (x = 0) = true then a else n, L, st, h)) = _ by rw [if_pos (decide_eq_true q)]) (kt q)
  · exact wq_step hc (show some (Sum.inl (if decide (x = 0) = true then a else n, L, st, h)) = _ by rw [if_neg (fun z => q (of_decide_eq_true z))]) (kf q)
theorem wp_icmp_eq {x y : Int32} {k1 : Int} (hc : pm_lk tab pc = some (.if_icmp .eq k1, n, a, b, c, e, v, w)) (kt : x = y → wq d tab sc a (L) (st) h Q) (kf : ¬ (x = y) → wq d tab sc n (L) (st) h Q) : wq d tab sc pc (L) (.int y :: .int x :: st) h Q := by
  by_cases q : x = y
  · exact wq_step hc (show some (Sum.inl (if decide (x = y) = true then a else n, L, st, h)) = _ by rw [if_pos (decide_eq_true q)]) (kt q)
  · exact wq_step hc (show some (Sum.inl (if decide (x = y) = true then a else n, L, st, h)) = _ by rw [if_neg (fun z => q (of_decide_eq_true z))]) (kf q)
theorem wp_icmp_eqN (i j : Nat) (hi : i < 2 ^ 31) (hj : j < 2 ^ 31) {k1 : Int} (hc : pm_lk tab pc = some (.if_icmp .eq k1, n, a, b, c, e, v, w)) (kt : i = j → wq d tab sc a (L) (st) h Q) (kf : i ≠ j → wq d tab sc n (L) (st) h Q) : wq d tab sc pc (L) (.int (nI j) :: .int (nI i) :: st) h Q := wp_icmp_eq hc (fun q => kt ((nI_eq hi hj).mp q)) (fun q => kf (by have q := fun z => q ((nI_eq hi hj).mpr z); exact q))
theorem wp_if_ne {x : Int32} {k1 : Int} (hc : pm_lk tab pc = some (.ifCond .ne k1, n, a, b, c, e, v, w)) (kt : x ≠ 0 → wq d tab sc a (L) (st) h Q) (kf : ¬ (x ≠ 0) → wq d tab sc n (L) (st) h Q) : wq d tab sc pc (L) (.int x :: st) h Q := by
  by_cases q : x ≠ 0
  · exact wq_step hc (show some (Sum.inl (if decide (x ≠ 0) = true then a else n, L, st, h)) = _ by rw [if_pos (decide_eq_true q)]) (kt q)
  · exact wq_step hc (show some (Sum.inl (if decide (x ≠ 0) = true then a else n, L, st, h)) = _ by rw [if_neg (fun z => q (of_decide_eq_true z))]) (kf q)
theorem wp_icmp_ne {x y : Int32} {k1 : Int} (hc : pm_lk tab pc = some (.if_icmp .ne k1, n, a, b, c, e, v, w)) (kt : x ≠ y → wq d tab sc a (L) (st) h Q) (kf : ¬ (x ≠ y) → wq d tab sc n (L) (st) h Q) : wq d tab sc pc (L) (.int y :: .int x :: st) h Q := by
  by_cases q : x ≠ y
  · exact wq_step hc (show some (Sum.inl (if decide (x ≠ y) = true then a else n, L, st, h)) = _ by rw [if_pos (decide_eq_true q)]) (kt q)
  · exact wq_step hc (show some (Sum.inl (if decide (x ≠ y) = true then a else n, L, st, h)) = _ by rw [if_neg (fun z => q (of_decide_eq_true z))]) (kf q)
theorem wp_icmp_neN (i j : Nat) (hi : i < 2 ^ 31) (hj : j < 2 ^ 31) {k1 : Int} (hc : pm_lk tab pc = some (.if_icmp .ne k1, n, a, b, c, e, v, w)) (kt : i ≠ j → wq d tab sc a (L) (st) h Q) (kf : i = j → wq d tab sc n (L) (st) h Q) : wq d tab sc pc (L) (.int (nI j) :: .int (nI i) :: st) h Q := wp_icmp_ne hc (fun q => kt ((not_congr (nI_eq hi hj)).mp q)) (fun q => kf (by have q := fun z => q ((not_congr (nI_eq hi hj)).mpr z); exact Classical.not_not.mp q))
theorem wp_if_lt {x : Int32} {k1 : Int} (hc : pm_lk tab pc = some (.ifCond .lt k1, n, a, b, c, e, v, w)) (kt : x < 0 → wq d tab sc a (L) (st) h Q) (kf : ¬ (x < 0) → wq d tab sc n (L) (st) h Q) : wq d tab sc pc (L) (.int x :: st) h Q := by
  by_cases q : x < 0
  · exact wq_step hc (show some (Sum.inl (if decide (x < 0) = true then a else n, L, st, h)) = _ by rw [if_pos (decide_eq_true q)]) (kt q)
  · exact wq_step hc (show some (Sum.inl (if decide (x < 0) = true then a else n, L, st, h)) = _ by rw [if_neg (fun z => q (of_decide_eq_true z))]) (kf q)
theorem wp_icmp_lt {x y : Int32} {k1 : Int} (hc : pm_lk tab pc = some (.if_icmp .lt k1, n, a, b, c, e, v, w)) (kt : x < y → wq d tab sc a (L) (st) h Q) (kf : ¬ (x < y) → wq d tab sc n (L) (st) h Q) : wq d tab sc pc (L) (.int y :: .int x :: st) h Q := by
  by_cases q : x < y
  · exact wq_step hc (show some (Sum.inl (if decide (x < y) = true then a else n, L, st, h)) = _ by rw [if_pos (decide_eq_true q)]) (kt q)
  · exact wq_step hc (show some (Sum.inl (if decide (x < y) = true then a else n, L, st, h)) = _ by rw [if_neg (fun z => q (of_decide_eq_true z))]) (kf q)
theorem wp_icmp_ltN (i j : Nat) (hi : i < 2 ^ 31) (hj : j < 2 ^ 31) {k1 : Int} (hc : pm_lk tab pc = some (.if_icmp .lt k1, n, a, b, c, e, v, w)) (kt : i < j → wq d tab sc a (L) (st) h Q) (kf : j ≤ i → wq d tab sc n (L) (st) h Q) : wq d tab sc pc (L) (.int (nI j) :: .int (nI i) :: st) h Q := wp_icmp_lt hc (fun q => kt ((nI_ltI hi hj).mp q)) (fun q => kf (by have q := fun z => q ((nI_ltI hi hj).mpr z); exact Nat.not_lt.mp q))
theorem wp_if_ge {x : Int32} {k1 : Int} (hc : pm_lk tab pc = some (.ifCond .ge k1, n, a, b, c, e, v, w)) (kt : 0 ≤ x → wq d tab sc a (L) (st) h Q) (kf : ¬ (0 ≤ x) → wq d tab sc n (L) (st) h Q) : wq d tab sc pc (L) (.int x :: st) h Q := by
  by_cases q : 0 ≤ x
  · exact wq_step hc (show some (Sum.inl (if decide (0 ≤ x) = true then a else n, L, st, h)) = _ by rw [if_pos (decide_eq_true q)]) (kt q)
  · exact wq_step hc (show some (Sum.inl (if decide (0 ≤ x) = true then a else n, L, st, h)) = _ by rw [if_neg (fun z => q (of_decide_eq_true z))]) (kf q)
theorem wp_icmp_ge {x y : Int32} {k1 : Int} (hc : pm_lk tab pc = some (.if_icmp .ge k1, n, a, b, c, e, v, w)) (kt : y ≤ x → wq d tab sc a (L) (st) h Q) (kf : ¬ (y ≤ x) → wq d tab sc n (L) (st) h Q) : wq d tab sc pc (L) (.int y :: .int x :: st) h Q := by
  by_cases q : y ≤ x
  · exact wq_step hc (show some (Sum.inl (if decide (y ≤ x) = true then a else n, L, st, h)) = _ by rw [if_pos (decide_eq_true q)]) (kt q)
  · exact wq_step hc (show some (Sum.inl (if decide (y ≤ x) = true then a else n, L, st, h)) = _ by rw [if_neg (fun z => q (of_decide_eq_true z))]) (kf q)
theorem wp_icmp_geN (i j : Nat) (hi : i < 2 ^ 31) (hj : j < 2 ^ 31) {k1 : Int} (hc : pm_lk tab pc = some (.if_icmp .ge k1, n, a, b, c, e, v, w)) (kt : j ≤ i → wq d tab sc a (L) (st) h Q) (kf : i < j → wq d tab sc n (L) (st) h Q) : wq d tab sc pc (L) (.int (nI j) :: .int (nI i) :: st) h Q := wp_icmp_ge hc (fun q => kt ((nI_leI hj hi).mp q)) (fun q => kf (by have q := fun z => q ((nI_leI hj hi).mpr z); exact Nat.not_le.mp q))
theorem wp_if_gt {x : Int32} {k1 : Int} (hc : pm_lk tab pc = some (.ifCond .gt k1, n, a, b, c, e, v, w)) (kt : 0 < x → wq d tab sc a (L) (st) h Q) (kf : ¬ (0 < x) → wq d tab sc n (L) (st) h Q) : wq d tab sc pc (L) (.int x :: st) h Q := by
  by_cases q : 0 < x
  · exact wq_step hc (show some (Sum.inl (if decide (0 < x) = true then a else n, L, st, h)) = _ by rw [if_pos (decide_eq_true q)]) (kt q)
  · exact wq_step hc (show some (Sum.inl (if decide (0 < x) = true then a else n, L, st, h)) = _ by rw [if_neg (fun z => q (of_decide_eq_true z))]) (kf q)
theorem wp_icmp_gt {x y : Int32} {k1 : Int} (hc : pm_lk tab pc = some (.if_icmp .gt k1, n, a, b, c, e, v, w)) (kt : y < x → wq d tab sc a (L) (st) h Q) (kf : ¬ (y < x) → wq d tab sc n (L) (st) h Q) : wq d tab sc pc (L) (.int y :: .int x :: st) h Q := by
  by_cases q : y < x
  · exact wq_step hc (show some (Sum.inl (if decide (y < x) = true then a else n, L, st, h)) = _ by rw [if_pos (decide_eq_true q)]) (kt q)
  · exact wq_step hc (show some (Sum.inl (if decide (y < x) = true then a else n, L, st, h)) = _ by rw [if_neg (fun z => q (of_decide_eq_true z))]) (kf q)
theorem wp_icmp_gtN (i j : Nat) (hi : i < 2 ^ 31) (hj : j < 2 ^ 31) {k1 : Int} (hc : pm_lk tab pc = some (.if_icmp .gt k1, n, a, b, c, e, v, w)) (kt : j < i → wq d tab sc a (L) (st) h Q) (kf : i ≤ j → wq d tab sc n (L) (st) h Q) : wq d tab sc pc (L) (.int (nI j) :: .int (nI i) :: st) h Q := wp_icmp_gt hc (fun q => kt ((nI_ltI hj hi).mp q)) (fun q => kf (by have q := fun z => q ((nI_ltI hj hi).mpr z); exact Nat.not_lt.mp q))
theorem wp_if_le {x : Int32} {k1 : Int} (hc : pm_lk tab pc = some (.ifCond .le k1, n, a, b, c, e, v, w)) (kt : x ≤ 0 → wq d tab sc a (L) (st) h Q) (kf : ¬ (x ≤ 0) → wq d tab sc n (L) (st) h Q) : wq d tab sc pc (L) (.int x :: st) h Q := by
  by_cases q : x ≤ 0
  · exact wq_step hc (show some (Sum.inl (if decide (x ≤ 0) = true then a else n, L, st, h)) = _ by rw [if_pos (decide_eq_true q)]) (kt q)
  · exact wq_step hc (show some (Sum.inl (if decide (x ≤ 0) = true then a else n, L, st, h)) = _ by rw [if_neg (fun z => q (of_decide_eq_true z))]) (kf q)
theorem wp_icmp_le {x y : Int32} {k1 : Int} (hc : pm_lk tab pc = some (.if_icmp .le k1, n, a, b, c, e, v, w)) (kt : x ≤ y → wq d tab sc a (L) (st) h Q) (kf : ¬ (x ≤ y) → wq d tab sc n (L) (st) h Q) : wq d tab sc pc (L) (.int y :: .int x :: st) h Q := by
  by_cases q : x ≤ y
  · exact wq_step hc (show some (Sum.inl (if decide (x ≤ y) = true then a else n, L, st, h)) = _ by rw [if_pos (decide_eq_true q)]) (kt q)
  · exact wq_step hc (show some (Sum.inl (if decide (x ≤ y) = true then a else n, L, st, h)) = _ by rw [if_neg (fun z => q (of_decide_eq_true z))]) (kf q)
theorem wp_icmp_leN (i j : Nat) (hi : i < 2 ^ 31) (hj : j < 2 ^ 31) {k1 : Int} (hc : pm_lk tab pc = some (.if_icmp .le k1, n, a, b, c, e, v, w)) (kt : i ≤ j → wq d tab sc a (L) (st) h Q) (kf : j < i → wq d tab sc n (L) (st) h Q) : wq d tab sc pc (L) (.int (nI j) :: .int (nI i) :: st) h Q := wp_icmp_le hc (fun q => kt ((nI_leI hi hj).mp q)) (fun q => kf (by have q := fun z => q ((nI_leI hi hj).mpr z); exact Nat.not_le.mp q))
theorem wp_sw_in {x : Int32} {df lo hi off : Int} {offs : Array Int} (t : Nat) (h1 : ¬ (x.toInt < lo ∨ hi < x.toInt)) (ho : offs[(x.toInt - lo).toNat]? = some off) (ht : (pc : Int) + off = (t : Int)) (hc : pm_lk tab pc = some (.tableswitch df lo hi offs, n, a, b, c, e, v, w)) (kk : wq d tab sc t (L) (st) h Q) : wq d tab sc pc (L) (.int x :: st) h Q := by
  refine wq_step hc (show (if x.toInt < lo ∨ hi < x.toInt then _ else (match offs[(x.toInt - lo).toNat]? with | some off => if 0 ≤ (pc : Int) + off then some (Sum.inl (((pc : Int) + off).toNat, L, st, h)) else none | none => none)) = some (Sum.inl (t, L, st, h)) from ?_) kk
  rw [if_neg h1, ho]
  dsimp only
  rw [ht, if_pos (by omega)]
  rfl
theorem wp_sw_out {x : Int32} {df lo hi : Int} {offs : Array Int} (h1 : x.toInt < lo ∨ hi < x.toInt) (hc : pm_lk tab pc = some (.tableswitch df lo hi offs, n, a, b, c, e, v, w)) (kk : wq d tab sc a (L) (st) h Q) : wq d tab sc pc (L) (.int x :: st) h Q := wq_step hc (show (if x.toInt < lo ∨ hi < x.toInt then some (Sum.inl (a, L, st, h)) else _) = _ by rw [if_pos h1]) kk
theorem wp_getI {k1 x : Nat} (hc : pm_lk tab pc = some (.getfield k1, n, a, b, 0, e, v, w)) (hk : hp_kd h x = a + 10) (kk : wq d tab sc n (L) (.int (hp_I h x b) :: st) h Q) : wq d tab sc pc (L) (.ref x :: st) h Q := wq_step hc (show (if hp_kd h x = a + 10 then _ else none) = _ by rw [if_pos hk]) kk
theorem wp_getZ {k1 x : Nat} (hc : pm_lk tab pc = some (.getfield k1, n, a, b, 1, e, v, w)) (hk : hp_kd h x = a + 10) (kk : wq d tab sc n (L) (.int (hp_I h x b) :: st) h Q) : wq d tab sc pc (L) (.ref x :: st) h Q := wq_step hc (show (if hp_kd h x = a + 10 then _ else none) = _ by rw [if_pos hk]) kk
theorem wp_getJ {k1 x : Nat} (hc : pm_lk tab pc = some (.getfield k1, n, a, b, 2, e, v, w)) (hk : hp_kd h x = a + 10) (kk : wq d tab sc n (L) (.long (hp_J h x b) :: st) h Q) : wq d tab sc pc (L) (.ref x :: st) h Q := wq_step hc (show (if hp_kd h x = a + 10 then _ else none) = _ by rw [if_pos hk]) kk
theorem wp_getR {k1 x q : Nat} (hc : pm_lk tab pc = some (.getfield k1, n, a, b, 3, e, v, w)) (hk : hp_kd h x = a + 10) (hq : hp_R h x b = q) (h0 : q ≠ 0) (kk : wq d tab sc n (L) (.ref q :: st) h Q) : wq d tab sc pc (L) (.ref x :: st) h Q := wq_step hc (show (if hp_kd h x = a + 10 then (if hp_R h x b = 0 then none else some (Sum.inl (n, L, Value.ref (hp_R h x b) :: st, h))) else none) = _ by rw [if_pos hk, hq, if_neg h0]) kk
theorem wp_putI {k1 x : Nat} {z : Int32} (hc : pm_lk tab pc = some (.putfield k1, n, a, b, 0, e, v, w)) (hk : hp_kd h x = a + 10) (kk : wq d tab sc n (L) (st) (hp_rI h x (va_up (hp_I h x) b z)) Q) : wq d tab sc pc (L) (.int z :: .ref x :: st) h Q := wq_step hc (show (if hp_kd h x = a + 10 then _ else none) = _ by rw [if_pos hk]) kk
theorem wp_putZ {k1 x : Nat} {z : Int32} (hc : pm_lk tab pc = some (.putfield k1, n, a, b, 1, e, v, w)) (hk : hp_kd h x = a + 10) (hz : z = 0 ∨ z = 1) (kk : wq d tab sc n (L) (st) (hp_rI h x (va_up (hp_I h x) b z)) Q) : wq d tab sc pc (L) (.int z :: .ref x :: st) h Q := wq_step hc (show (if hp_kd h x = a + 10 then (if z = 0 ∨ z = 1 then _ else none) else none) = _ by rw [if_pos hk, if_pos hz]) kk
theorem wp_putJ {k1 x : Nat} {z : Int64} (hc : pm_lk tab pc = some (.putfield k1, n, a, b, 2, e, v, w)) (hk : hp_kd h x = a + 10) (kk : wq d tab sc n (L) (st) (hp_rJ h x (va_up (hp_J h x) b z)) Q) : wq d tab sc pc (L) (.long z :: .ref x :: st) h Q := wq_step hc (show (if hp_kd h x = a + 10 ∧ 2 = 2 then _ else none) = _ by rw [if_pos ⟨hk, rfl⟩]) kk
theorem wp_putR {k1 x z : Nat} (hc : pm_lk tab pc = some (.putfield k1, n, a, b, 3, e, v, w)) (hk : hp_kd h x = a + 10) (hz : z ≠ 0) (kk : wq d tab sc n (L) (st) (hp_rR h x (va_up (hp_R h x) b z)) Q) : wq d tab sc pc (L) (.ref z :: .ref x :: st) h Q := wq_step hc (show (if hp_kd h x = a + 10 ∧ 3 = 3 ∧ z ≠ 0 then _ else none) = _ by rw [if_pos ⟨hk, rfl, hz⟩]) kk
theorem wp_new {k1 : Nat} (hc : pm_lk tab pc = some (.new k1, n, a, b, c, e, v, w)) (kk : wq d tab sc n (L) (.ref (hp_nx h + 1) :: st) (hp_al h (a + 10) 0 b) Q) : wq d tab sc pc (L) (st) h Q := wq_step hc rfl kk
theorem wp_newa {t : ArrayType} (j : Nat) (hj : j ≤ 1000000) (hc : pm_lk tab pc = some (.newarray t, n, a, b, c, e, v, w)) (kk : wq d tab sc n (L) (.ref (hp_nx h + 1) :: st) (hp_al h a j j) Q) : wq d tab sc pc (L) (.int (nI j) :: st) h Q := by
  have e1 : (nI j).toNatClampNeg = j := nI_clamp (by omega)
  have e2 : ¬ nI j < 0 := nI_pos (by omega)
  refine wq_step hc (show (if ¬ nI j < 0 ∧ (nI j).toNatClampNeg ≤ 1000000 then some (Sum.inl (n, L, Value.ref (hp_nx h + 1) :: st, hp_al h a (nI j).toNatClampNeg (nI j).toNatClampNeg)) else none) = some (Sum.inl (n, L, Value.ref (hp_nx h + 1) :: st, hp_al h a j j)) from ?_) kk
  rw [if_pos ⟨e2, by omega⟩, e1]
theorem wp_alen {x : Nat} (hc : pm_lk tab pc = some (.arraylength, n, a, b, c, e, v, w)) (h0 : x ≠ 0) (hk : hp_kd h x = 1 ∨ hp_kd h x = 2 ∨ hp_kd h x = 3) (kk : wq d tab sc n (L) (.int (nI (hp_ln h x)) :: st) h Q) : wq d tab sc pc (L) (.ref x :: st) h Q := wq_step hc (show (if x = 0 then _ else if hp_kd h x = 1 ∨ hp_kd h x = 2 ∨ hp_kd h x = 3 then _ else none) = _ by rw [if_neg h0, if_pos hk]) kk
theorem wp_alenS {z : Nat} {f : Nat → Int32} (hsc : sc = some (z, f)) (hc : pm_lk tab pc = some (.arraylength, n, a, b, c, e, v, w)) (kk : wq d tab sc n (L) (.int (nI z) :: st) h Q) : wq d tab sc pc (L) (.ref 0 :: st) h Q := by subst hsc; exact wq_step hc rfl kk
theorem wp_ialdS {z : Nat} {f : Nat → Int32} (hsc : sc = some (z, f)) (j : Nat) {i : Int32} (hi : i = nI j) (hj : j < z) (hz : z < 2 ^ 31) (hc : pm_lk tab pc = some (.iaload, n, a, b, c, e, v, w)) (kk : wq d tab sc n (L) (.int (f j) :: st) h Q) : wq d tab sc pc (L) (.int i :: .ref 0 :: st) h Q := by
  subst hsc
  subst hi
  have e1 : (nI j).toNatClampNeg = j := nI_clamp (by omega)
  have e2 : ¬ nI j < 0 := nI_pos (by omega)
  refine wq_step hc (show (if nI j < 0 ∨ z ≤ (nI j).toNatClampNeg then none else some (Sum.inl (n, L, Value.int (f (nI j).toNatClampNeg) :: st, h))) = some (Sum.inl (n, L, Value.int (f j) :: st, h)) from ?_) kk
  rw [e1, if_neg (by rintro (q | q); exact e2 q; omega)]
theorem wp_iald {x : Nat} (j : Nat) {i : Int32} (hi : i = nI j) (hk : hp_kd h x = 1) (h0 : x ≠ 0) (hj : j < hp_ln h x) (hz : j < 2 ^ 31) (hc : pm_lk tab pc = some (.iaload, n, a, b, c, e, v, w)) (kk : wq d tab sc n (L) (.int (hp_I h x j) :: st) h Q) : wq d tab sc pc (L) (.int i :: .ref x :: st) h Q := by
  subst hi
  have e1 : (nI j).toNatClampNeg = j := nI_clamp hz
  have e2 : ¬ nI j < 0 := nI_pos hz
  refine wq_step hc (show (if x = 0 then (match sc with | some (z, f) => if nI j < 0 ∨ z ≤ (nI j).toNatClampNeg then none else some (Sum.inl (n, L, Value.int (f (nI j).toNatClampNeg) :: st, h)) | none => none) else (if hp_kd h x = 1 then (if nI j < 0 ∨ hp_ln h x ≤ (nI j).toNatClampNeg then none else some (Sum.inl (n, L, Value.int (hp_I h x (nI j).toNatClampNeg) :: st, h))) else none)) = some (Sum.inl (n, L, Value.int (hp_I h x j) :: st, h)) from ?_) kk
  rw [if_neg h0, if_pos hk, e1, if_neg (by rintro (q | q); exact e2 q; omega)]
theorem wp_zald {x : Nat} (j : Nat) {i : Int32} (hi : i = nI j) (hk : hp_kd h x = 3) (hj : j < hp_ln h x) (hz : j < 2 ^ 31) (hc : pm_lk tab pc = some (.baload, n, a, b, c, e, v, w)) (kk : wq d tab sc n (L) (.int (hp_I h x j) :: st) h Q) : wq d tab sc pc (L) (.int i :: .ref x :: st) h Q := by
  subst hi
  have e1 : (nI j).toNatClampNeg = j := nI_clamp hz
  have e2 : ¬ nI j < 0 := nI_pos hz
  refine wq_step hc (show (if hp_kd h x = 3 then (if nI j < 0 ∨ hp_ln h x ≤ (nI j).toNatClampNeg then none else some (Sum.inl (n, L, Value.int (hp_I h x (nI j).toNatClampNeg) :: st, h))) else none) = some (Sum.inl (n, L, Value.int (hp_I h x j) :: st, h)) from ?_) kk
  rw [if_pos hk, e1, if_neg (by rintro (q | q); exact e2 q; omega)]
theorem wp_lald {x : Nat} (j : Nat) {i : Int32} (hi : i = nI j) (hk : hp_kd h x = 2) (hj : j < hp_ln h x) (hz : j < 2 ^ 31) (hc : pm_lk tab pc = some (.laload, n, a, b, c, e, v, w)) (kk : wq d tab sc n (L) (.long (hp_J h x j) :: st) h Q) : wq d tab sc pc (L) (.int i :: .ref x :: st) h Q := by
  subst hi
  have e1 : (nI j).toNatClampNeg = j := nI_clamp hz
  have e2 : ¬ nI j < 0 := nI_pos hz
  refine wq_step hc (show (if hp_kd h x = 2 then (if nI j < 0 ∨ hp_ln h x ≤ (nI j).toNatClampNeg then none else some (Sum.inl (n, L, Value.long (hp_J h x (nI j).toNatClampNeg) :: st, h))) else none) = some (Sum.inl (n, L, Value.long (hp_J h x j) :: st, h)) from ?_) kk
  rw [if_pos hk, e1, if_neg (by rintro (q | q); exact e2 q; omega)]
theorem wp_iast {x : Nat} {z : Int32} (j : Nat) {i : Int32} (hi : i = nI j) (hk : hp_kd h x = 1) (hj : j < hp_ln h x) (hz : j < 2 ^ 31) (hc : pm_lk tab pc = some (.iastore, n, a, b, c, e, v, w)) (kk : wq d tab sc n (L) (st) (hp_rI h x (va_up (hp_I h x) j z)) Q) : wq d tab sc pc (L) (.int z :: .int i :: .ref x :: st) h Q := by
  subst hi
  have e1 : (nI j).toNatClampNeg = j := nI_clamp hz
  have e2 : ¬ nI j < 0 := nI_pos hz
  refine wq_step hc (show (if hp_kd h x = 1 then (if nI j < 0 ∨ hp_ln h x ≤ (nI j).toNatClampNeg then none else some (Sum.inl (n, L, st, hp_rI h x (va_up (hp_I h x) (nI j).toNatClampNeg z)))) else none) = some (Sum.inl (n, L, st, hp_rI h x (va_up (hp_I h x) j z))) from ?_) kk
  rw [if_pos hk, e1, if_neg (by rintro (q | q); exact e2 q; omega)]
theorem wp_zast {x : Nat} {z : Int32} (j : Nat) {i : Int32} (hi : i = nI j) (hk : hp_kd h x = 3) (hb : z = 0 ∨ z = 1) (hj : j < hp_ln h x) (hz : j < 2 ^ 31) (hc : pm_lk tab pc = some (.bastore, n, a, b, c, e, v, w)) (kk : wq d tab sc n (L) (st) (hp_rI h x (va_up (hp_I h x) j z)) Q) : wq d tab sc pc (L) (.int z :: .int i :: .ref x :: st) h Q := by
  subst hi
  have e1 : (nI j).toNatClampNeg = j := nI_clamp hz
  have e2 : ¬ nI j < 0 := nI_pos hz
  refine wq_step hc (show (if (hp_kd h x = 3 ∧ (z = 0 ∨ z = 1)) then (if nI j < 0 ∨ hp_ln h x ≤ (nI j).toNatClampNeg then none else some (Sum.inl (n, L, st, hp_rI h x (va_up (hp_I h x) (nI j).toNatClampNeg z)))) else none) = some (Sum.inl (n, L, st, hp_rI h x (va_up (hp_I h x) j z))) from ?_) kk
  rw [if_pos ⟨hk, hb⟩, e1, if_neg (by rintro (q | q); exact e2 q; omega)]
theorem wp_last {x : Nat} {z : Int64} (j : Nat) {i : Int32} (hi : i = nI j) (hk : hp_kd h x = 2) (hj : j < hp_ln h x) (hz : j < 2 ^ 31) (hc : pm_lk tab pc = some (.lastore, n, a, b, c, e, v, w)) (kk : wq d tab sc n (L) (st) (hp_rJ h x (va_up (hp_J h x) j z)) Q) : wq d tab sc pc (L) (.long z :: .int i :: .ref x :: st) h Q := by
  subst hi
  have e1 : (nI j).toNatClampNeg = j := nI_clamp hz
  have e2 : ¬ nI j < 0 := nI_pos hz
  refine wq_step hc (show (if hp_kd h x = 2 then (if nI j < 0 ∨ hp_ln h x ≤ (nI j).toNatClampNeg then none else some (Sum.inl (n, L, st, hp_rJ h x (va_up (hp_J h x) (nI j).toNatClampNeg z)))) else none) = some (Sum.inl (n, L, st, hp_rJ h x (va_up (hp_J h x) j z))) from ?_) kk
  rw [if_pos hk, e1, if_neg (by rintro (q | q); exact e2 q; omega)]
theorem wp_iret {x : Int32} (hc : pm_lk tab pc = some (.ireturn, n, 0, b, c, e, v, w)) (kk : Q (some (.int x)) h) : wq d tab sc pc (L) ([.int x]) h Q := wq_ret hc rfl kk
theorem wp_zret {x : Int32} (hc : pm_lk tab pc = some (.ireturn, n, 1, b, c, e, v, w)) (hx : x = 0 ∨ x = 1) (kk : Q (some (.int x)) h) : wq d tab sc pc (L) ([.int x]) h Q := wq_ret hc (show (if x = 0 ∨ x = 1 then some (Sum.inr (Sum.inl (some (Value.int x), h))) else none) = some (Sum.inr (Sum.inl (some (Value.int x), h))) by rw [if_pos hx]) kk
theorem wp_lret {x : Int64} (hc : pm_lk tab pc = some (.lreturn, n, a, b, c, e, v, w)) (kk : Q (some (.long x)) h) : wq d tab sc pc (L) ([.long x]) h Q := wq_ret hc rfl kk
theorem wp_aret {x : Nat} (hc : pm_lk tab pc = some (.areturn, n, a, b, c, e, v, w)) (kk : Q (some (.ref x)) h) : wq d tab sc pc (L) ([.ref x]) h Q := wq_ret hc rfl kk
theorem wp_vret (hc : pm_lk tab pc = some (.return_, n, a, b, c, e, v, w)) (kk : Q none h) : wq d tab sc pc (L) ([]) h Q := wq_ret hc rfl kk
theorem wp_callS0I {P : Int32 → Hp_ → Prop} (hc : pm_lk tab pc = some (.invokestatic k, n, y, 0, c, e, v, w)) (hl : st.length ≤ 4) {f : Nat} (hq : cI f y [] h P) (hd : f ≤ d) (kk : ∀ (x : Int32) (h' : Hp_), P x h' → wq d tab sc n (L) (.int x :: st) h' Q) : wq d tab sc pc (L) (st) h Q := by
  refine wq_call (as := []) (n := n) (st' := st) hc ?_ hd hq (fun r h' => by rintro ⟨x, rfl, p⟩; exact kk x h' p)
  show (if 0 ≤ (st).length ∧ ((st).drop 0).length ≤ 4 then _ else none) = _
  rw [if_pos ⟨by simp, hl⟩]
  rfl
theorem wp_callV0I {u : Nat} {P : Int32 → Hp_ → Prop} (hc : pm_lk tab pc = some (.invokevirtual k, n, y, 0, c, e, v, w)) (hl : st.length ≤ 3) (hk : hp_kd h u = c + 10) {f : Nat} (hq : cI f y [.ref u] h P) (hd : f ≤ d) (kk : ∀ (x : Int32) (h' : Hp_), P x h' → wq d tab sc n (L) (.int x :: st) h' Q) : wq d tab sc pc (L) (.ref u :: st) h Q := by
  refine wq_call (as := [.ref u]) (n := n) (st' := st) hc ?_ hd hq (fun r h' => by rintro ⟨x, rfl, p⟩; exact kk x h' p)
  show (if 0 < (Value.ref u :: st).length then (if hp_kd h u = c + 10 ∧ ((Value.ref u :: st).drop (0 + 1)).length ≤ 3 then _ else none) else none) = _
  rw [if_pos (by simp), if_pos ⟨hk, hl⟩]
  rfl
theorem wp_callS0J {P : Int64 → Hp_ → Prop} (hc : pm_lk tab pc = some (.invokestatic k, n, y, 0, c, e, v, w)) (hl : st.length ≤ 4) {f : Nat} (hq : cJ f y [] h P) (hd : f ≤ d) (kk : ∀ (x : Int64) (h' : Hp_), P x h' → wq d tab sc n (L) (.long x :: st) h' Q) : wq d tab sc pc (L) (st) h Q := by
  refine wq_call (as := []) (n := n) (st' := st) hc ?_ hd hq (fun r h' => by rintro ⟨x, rfl, p⟩; exact kk x h' p)
  show (if 0 ≤ (st).length ∧ ((st).drop 0).length ≤ 4 then _ else none) = _
  rw [if_pos ⟨by simp, hl⟩]
  rfl
theorem wp_callV0J {u : Nat} {P : Int64 → Hp_ → Prop} (hc : pm_lk tab pc = some (.invokevirtual k, n, y, 0, c, e, v, w)) (hl : st.length ≤ 3) (hk : hp_kd h u = c + 10) {f : Nat} (hq : cJ f y [.ref u] h P) (hd : f ≤ d) (kk : ∀ (x : Int64) (h' : Hp_), P x h' → wq d tab sc n (L) (.long x :: st) h' Q) : wq d tab sc pc (L) (.ref u :: st) h Q := by
  refine wq_call (as := [.ref u]) (n := n) (st' := st) hc ?_ hd hq (fun r h' => by rintro ⟨x, rfl, p⟩; exact kk x h' p)
  show (if 0 < (Value.ref u :: st).length then (if hp_kd h u = c + 10 ∧ ((Value.ref u :: st).drop (0 + 1)).length ≤ 3 then _ else none) else none) = _
  rw [if_pos (by simp), if_pos ⟨hk, hl⟩]
  rfl
theorem wp_callS0A {P : Nat → Hp_ → Prop} (hc : pm_lk tab pc = some (.invokestatic k, n, y, 0, c, e, v, w)) (hl : st.length ≤ 4) {f : Nat} (hq : cA f y [] h P) (hd : f ≤ d) (kk : ∀ (x : Nat) (h' : Hp_), P x h' → wq d tab sc n (L) (.ref x :: st) h' Q) : wq d tab sc pc (L) (st) h Q := by
  refine wq_call (as := []) (n := n) (st' := st) hc ?_ hd hq (fun r h' => by rintro ⟨x, rfl, p⟩; exact kk x h' p)
  show (if 0 ≤ (st).length ∧ ((st).drop 0).length ≤ 4 then _ else none) = _
  rw [if_pos ⟨by simp, hl⟩]
  rfl
theorem wp_callV0A {u : Nat} {P : Nat → Hp_ → Prop} (hc : pm_lk tab pc = some (.invokevirtual k, n, y, 0, c, e, v, w)) (hl : st.length ≤ 3) (hk : hp_kd h u = c + 10) {f : Nat} (hq : cA f y [.ref u] h P) (hd : f ≤ d) (kk : ∀ (x : Nat) (h' : Hp_), P x h' → wq d tab sc n (L) (.ref x :: st) h' Q) : wq d tab sc pc (L) (.ref u :: st) h Q := by
  refine wq_call (as := [.ref u]) (n := n) (st' := st) hc ?_ hd hq (fun r h' => by rintro ⟨x, rfl, p⟩; exact kk x h' p)
  show (if 0 < (Value.ref u :: st).length then (if hp_kd h u = c + 10 ∧ ((Value.ref u :: st).drop (0 + 1)).length ≤ 3 then _ else none) else none) = _
  rw [if_pos (by simp), if_pos ⟨hk, hl⟩]
  rfl
theorem wp_callS0V {P : Hp_ → Prop} (hc : pm_lk tab pc = some (.invokestatic k, n, y, 0, c, e, v, w)) (hl : st.length ≤ 4) {f : Nat} (hq : cV f y [] h P) (hd : f ≤ d) (kk : ∀ (h' : Hp_), P h' → wq d tab sc n (L) (st) h' Q) : wq d tab sc pc (L) (st) h Q := by
  refine wq_call (as := []) (n := n) (st' := st) hc ?_ hd hq (fun r h' => by rintro ⟨rfl, p⟩; exact kk h' p)
  show (if 0 ≤ (st).length ∧ ((st).drop 0).length ≤ 4 then _ else none) = _
  rw [if_pos ⟨by simp, hl⟩]
  rfl
theorem wp_callV0V {u : Nat} {P : Hp_ → Prop} (hc : pm_lk tab pc = some (.invokevirtual k, n, y, 0, c, e, v, w)) (hl : st.length ≤ 3) (hk : hp_kd h u = c + 10) {f : Nat} (hq : cV f y [.ref u] h P) (hd : f ≤ d) (kk : ∀ (h' : Hp_), P h' → wq d tab sc n (L) (st) h' Q) : wq d tab sc pc (L) (.ref u :: st) h Q := by
  refine wq_call (as := [.ref u]) (n := n) (st' := st) hc ?_ hd hq (fun r h' => by rintro ⟨rfl, p⟩; exact kk h' p)
  show (if 0 < (Value.ref u :: st).length then (if hp_kd h u = c + 10 ∧ ((Value.ref u :: st).drop (0 + 1)).length ≤ 3 then _ else none) else none) = _
  rw [if_pos (by simp), if_pos ⟨hk, hl⟩]
  rfl
theorem wp_callI0V {u : Nat} {P : Hp_ → Prop} (hc : pm_lk tab pc = some (.invokespecial k, n, y, 0, c, e, v, w)) (he : e ≠ 2) (hl : st.length ≤ 3) (hk : hp_kd h u = c + 10) {f : Nat} (hq : cV f y [.ref u] h P) (hd : f ≤ d) (kk : ∀ (h' : Hp_), P h' → wq d tab sc n (L) (st) h' Q) : wq d tab sc pc (L) (.ref u :: st) h Q := by
  refine wq_call (as := [.ref u]) (n := n) (st' := st) hc ?_ hd hq (fun r h' => by rintro ⟨rfl, p⟩; exact kk h' p)
  show (if e = 2 then _ else pm_callV y 0 c n L (.ref u :: st) h) = _
  rw [if_neg he]
  show (if 0 < (Value.ref u :: st).length then (if hp_kd h u = c + 10 ∧ ((Value.ref u :: st).drop (0 + 1)).length ≤ 3 then _ else none) else none) = _
  rw [if_pos (by simp), if_pos ⟨hk, hl⟩]
  rfl
theorem wp_callS1I {u0 : Value} {P : Int32 → Hp_ → Prop} (hc : pm_lk tab pc = some (.invokestatic k, n, y, 1, c, e, v, w)) (hl : st.length ≤ 4) {f : Nat} (hq : cI f y [u0] h P) (hd : f ≤ d) (kk : ∀ (x : Int32) (h' : Hp_), P x h' → wq d tab sc n (L) (.int x :: st) h' Q) : wq d tab sc pc (L) (u0 :: st) h Q := by
  refine wq_call (as := [u0]) (n := n) (st' := st) hc ?_ hd hq (fun r h' => by rintro ⟨x, rfl, p⟩; exact kk x h' p)
  show (if 1 ≤ (u0 :: st).length ∧ ((u0 :: st).drop 1).length ≤ 4 then _ else none) = _
  rw [if_pos ⟨by simp, hl⟩]
  rfl
theorem wp_callV1I {u : Nat} {u0 : Value} {P : Int32 → Hp_ → Prop} (hc : pm_lk tab pc = some (.invokevirtual k, n, y, 1, c, e, v, w)) (hl : st.length ≤ 3) (hk : hp_kd h u = c + 10) {f : Nat} (hq : cI f y [.ref u, u0] h P) (hd : f ≤ d) (kk : ∀ (x : Int32) (h' : Hp_), P x h' → wq d tab sc n (L) (.int x :: st) h' Q) : wq d tab sc pc (L) (u0 :: .ref u :: st) h Q := by
  refine wq_call (as := [.ref u, u0]) (n := n) (st' := st) hc ?_ hd hq (fun r h' => by rintro ⟨x, rfl, p⟩; exact kk x h' p)
  show (if 1 < (u0 :: Value.ref u :: st).length then (if hp_kd h u = c + 10 ∧ ((u0 :: Value.ref u :: st).drop (1 + 1)).length ≤ 3 then _ else none) else none) = _
  rw [if_pos (by simp), if_pos ⟨hk, hl⟩]
  rfl
theorem wp_callS1J {u0 : Value} {P : Int64 → Hp_ → Prop} (hc : pm_lk tab pc = some (.invokestatic k, n, y, 1, c, e, v, w)) (hl : st.length ≤ 4) {f : Nat} (hq : cJ f y [u0] h P) (hd : f ≤ d) (kk : ∀ (x : Int64) (h' : Hp_), P x h' → wq d tab sc n (L) (.long x :: st) h' Q) : wq d tab sc pc (L) (u0 :: st) h Q := by
  refine wq_call (as := [u0]) (n := n) (st' := st) hc ?_ hd hq (fun r h' => by rintro ⟨x, rfl, p⟩; exact kk x h' p)
  show (if 1 ≤ (u0 :: st).length ∧ ((u0 :: st).drop 1).length ≤ 4 then _ else none) = _
  rw [if_pos ⟨by simp, hl⟩]
  rfl
theorem wp_callV1J {u : Nat} {u0 : Value} {P : Int64 → Hp_ → Prop} (hc : pm_lk tab pc = some (.invokevirtual k, n, y, 1, c, e, v, w)) (hl : st.length ≤ 3) (hk : hp_kd h u = c + 10) {f : Nat} (hq : cJ f y [.ref u, u0] h P) (hd : f ≤ d) (kk : ∀ (x : Int64) (h' : Hp_), P x h' → wq d tab sc n (L) (.long x :: st) h' Q) : wq d tab sc pc (L) (u0 :: .ref u :: st) h Q := by
  refine wq_call (as := [.ref u, u0]) (n := n) (st' := st) hc ?_ hd hq (fun r h' => by rintro ⟨x, rfl, p⟩; exact kk x h' p)
  show (if 1 < (u0 :: Value.ref u :: st).length then (if hp_kd h u = c + 10 ∧ ((u0 :: Value.ref u :: st).drop (1 + 1)).length ≤ 3 then _ else none) else none) = _
  rw [if_pos (by simp), if_pos ⟨hk, hl⟩]
  rfl
theorem wp_callS1A {u0 : Value} {P : Nat → Hp_ → Prop} (hc : pm_lk tab pc = some (.invokestatic k, n, y, 1, c, e, v, w)) (hl : st.length ≤ 4) {f : Nat} (hq : cA f y [u0] h P) (hd : f ≤ d) (kk : ∀ (x : Nat) (h' : Hp_), P x h' → wq d tab sc n (L) (.ref x :: st) h' Q) : wq d tab sc pc (L) (u0 :: st) h Q := by
  refine wq_call (as := [u0]) (n := n) (st' := st) hc ?_ hd hq (fun r h' => by rintro ⟨x, rfl, p⟩; exact kk x h' p)
  show (if 1 ≤ (u0 :: st).length ∧ ((u0 :: st).drop 1).length ≤ 4 then _ else none) = _
  rw [if_pos ⟨by simp, hl⟩]
  rfl
theorem wp_callV1A {u : Nat} {u0 : Value} {P : Nat → Hp_ → Prop} (hc : pm_lk tab pc = some (.invokevirtual k, n, y, 1, c, e, v, w)) (hl : st.length ≤ 3) (hk : hp_kd h u = c + 10) {f : Nat} (hq : cA f y [.ref u, u0] h P) (hd : f ≤ d) (kk : ∀ (x : Nat) (h' : Hp_), P x h' → wq d tab sc n (L) (.ref x :: st) h' Q) : wq d tab sc pc (L) (u0 :: .ref u :: st) h Q := by
  refine wq_call (as := [.ref u, u0]) (n := n) (st' := st) hc ?_ hd hq (fun r h' => by rintro ⟨x, rfl, p⟩; exact kk x h' p)
  show (if 1 < (u0 :: Value.ref u :: st).length then (if hp_kd h u = c + 10 ∧ ((u0 :: Value.ref u :: st).drop (1 + 1)).length ≤ 3 then _ else none) else none) = _
  rw [if_pos (by simp), if_pos ⟨hk, hl⟩]
  rfl
theorem wp_callS1V {u0 : Value} {P : Hp_ → Prop} (hc : pm_lk tab pc = some (.invokestatic k, n, y, 1, c, e, v, w)) (hl : st.length ≤ 4) {f : Nat} (hq : cV f y [u0] h P) (hd : f ≤ d) (kk : ∀ (h' : Hp_), P h' → wq d tab sc n (L) (st) h' Q) : wq d tab sc pc (L) (u0 :: st) h Q := by
  refine wq_call (as := [u0]) (n := n) (st' := st) hc ?_ hd hq (fun r h' => by rintro ⟨rfl, p⟩; exact kk h' p)
  show (if 1 ≤ (u0 :: st).length ∧ ((u0 :: st).drop 1).length ≤ 4 then _ else none) = _
  rw [if_pos ⟨by simp, hl⟩]
  rfl
theorem wp_callV1V {u : Nat} {u0 : Value} {P : Hp_ → Prop} (hc : pm_lk tab pc = some (.invokevirtual k, n, y, 1, c, e, v, w)) (hl : st.length ≤ 3) (hk : hp_kd h u = c + 10) {f : Nat} (hq : cV f y [.ref u, u0] h P) (hd : f ≤ d) (kk : ∀ (h' : Hp_), P h' → wq d tab sc n (L) (st) h' Q) : wq d tab sc pc (L) (u0 :: .ref u :: st) h Q := by
  refine wq_call (as := [.ref u, u0]) (n := n) (st' := st) hc ?_ hd hq (fun r h' => by rintro ⟨rfl, p⟩; exact kk h' p)
  show (if 1 < (u0 :: Value.ref u :: st).length then (if hp_kd h u = c + 10 ∧ ((u0 :: Value.ref u :: st).drop (1 + 1)).length ≤ 3 then _ else none) else none) = _
  rw [if_pos (by simp), if_pos ⟨hk, hl⟩]
  rfl
theorem wp_callI1V {u : Nat} {u0 : Value} {P : Hp_ → Prop} (hc : pm_lk tab pc = some (.invokespecial k, n, y, 1, c, e, v, w)) (he : e ≠ 2) (hl : st.length ≤ 3) (hk : hp_kd h u = c + 10) {f : Nat} (hq : cV f y [.ref u, u0] h P) (hd : f ≤ d) (kk : ∀ (h' : Hp_), P h' → wq d tab sc n (L) (st) h' Q) : wq d tab sc pc (L) (u0 :: .ref u :: st) h Q := by
  refine wq_call (as := [.ref u, u0]) (n := n) (st' := st) hc ?_ hd hq (fun r h' => by rintro ⟨rfl, p⟩; exact kk h' p)
  show (if e = 2 then _ else pm_callV y 1 c n L (u0 :: .ref u :: st) h) = _
  rw [if_neg he]
  show (if 1 < (u0 :: Value.ref u :: st).length then (if hp_kd h u = c + 10 ∧ ((u0 :: Value.ref u :: st).drop (1 + 1)).length ≤ 3 then _ else none) else none) = _
  rw [if_pos (by simp), if_pos ⟨hk, hl⟩]
  rfl
theorem wp_callS2I {u0 u1 : Value} {P : Int32 → Hp_ → Prop} (hc : pm_lk tab pc = some (.invokestatic k, n, y, 2, c, e, v, w)) (hl : st.length ≤ 4) {f : Nat} (hq : cI f y [u0, u1] h P) (hd : f ≤ d) (kk : ∀ (x : Int32) (h' : Hp_), P x h' → wq d tab sc n (L) (.int x :: st) h' Q) : wq d tab sc pc (L) (u1 :: u0 :: st) h Q := by
  refine wq_call (as := [u0, u1]) (n := n) (st' := st) hc ?_ hd hq (fun r h' => by rintro ⟨x, rfl, p⟩; exact kk x h' p)
  show (if 2 ≤ (u1 :: u0 :: st).length ∧ ((u1 :: u0 :: st).drop 2).length ≤ 4 then _ else none) = _
  rw [if_pos ⟨by simp, hl⟩]
  rfl
theorem wp_callV2I {u : Nat} {u0 u1 : Value} {P : Int32 → Hp_ → Prop} (hc : pm_lk tab pc = some (.invokevirtual k, n, y, 2, c, e, v, w)) (hl : st.length ≤ 3) (hk : hp_kd h u = c + 10) {f : Nat} (hq : cI f y [.ref u, u0, u1] h P) (hd : f ≤ d) (kk : ∀ (x : Int32) (h' : Hp_), P x h' → wq d tab sc n (L) (.int x :: st) h' Q) : wq d tab sc pc (L) (u1 :: u0 :: .ref u :: st) h Q := by
  refine wq_call (as := [.ref u, u0, u1]) (n := n) (st' := st) hc ?_ hd hq (fun r h' => by rintro ⟨x, rfl, p⟩; exact kk x h' p)
  show (if 2 < (u1 :: u0 :: Value.ref u :: st).length then (if hp_kd h u = c + 10 ∧ ((u1 :: u0 :: Value.ref u :: st).drop (2 + 1)).length ≤ 3 then _ else none) else none) = _
  rw [if_pos (by simp), if_pos ⟨hk, hl⟩]
  rfl
theorem wp_callS2J {u0 u1 : Value} {P : Int64 → Hp_ → Prop} (hc : pm_lk tab pc = some (.invokestatic k, n, y, 2, c, e, v, w)) (hl : st.length ≤ 4) {f : Nat} (hq : cJ f y [u0, u1] h P) (hd : f ≤ d) (kk : ∀ (x : Int64) (h' : Hp_), P x h' → wq d tab sc n (L) (.long x :: st) h' Q) : wq d tab sc pc (L) (u1 :: u0 :: st) h Q := by
  refine wq_call (as := [u0, u1]) (n := n) (st' := st) hc ?_ hd hq (fun r h' => by rintro ⟨x, rfl, p⟩; exact kk x h' p)
  show (if 2 ≤ (u1 :: u0 :: st).length ∧ ((u1 :: u0 :: st).drop 2).length ≤ 4 then _ else none) = _
  rw [if_pos ⟨by simp, hl⟩]
  rfl
theorem wp_callV2J {u : Nat} {u0 u1 : Value} {P : Int64 → Hp_ → Prop} (hc : pm_lk tab pc = some (.invokevirtual k, n, y, 2, c, e, v, w)) (hl : st.length ≤ 3) (hk : hp_kd h u = c + 10) {f : Nat} (hq : cJ f y [.ref u, u0, u1] h P) (hd : f ≤ d) (kk : ∀ (x : Int64) (h' : Hp_), P x h' → wq d tab sc n (L) (.long x :: st) h' Q) : wq d tab sc pc (L) (u1 :: u0 :: .ref u :: st) h Q := by
  refine wq_call (as := [.ref u, u0, u1]) (n := n) (st' := st) hc ?_ hd hq (fun r h' => by rintro ⟨x, rfl, p⟩; exact kk x h' p)
  show (if 2 < (u1 :: u0 :: Value.ref u :: st).length then (if hp_kd h u = c + 10 ∧ ((u1 :: u0 :: Value.ref u :: st).drop (2 + 1)).length ≤ 3 then _ else none) else none) = _
  rw [if_pos (by simp), if_pos ⟨hk, hl⟩]
  rfl
theorem wp_callS2A {u0 u1 : Value} {P : Nat → Hp_ → Prop} (hc : pm_lk tab pc = some (.invokestatic k, n, y, 2, c, e, v, w)) (hl : st.length ≤ 4) {f : Nat} (hq : cA f y [u0, u1] h P) (hd : f ≤ d) (kk : ∀ (x : Nat) (h' : Hp_), P x h' → wq d tab sc n (L) (.ref x :: st) h' Q) : wq d tab sc pc (L) (u1 :: u0 :: st) h Q := by
  refine wq_call (as := [u0, u1]) (n := n) (st' := st) hc ?_ hd hq (fun r h' => by rintro ⟨x, rfl, p⟩; exact kk x h' p)
  show (if 2 ≤ (u1 :: u0 :: st).length ∧ ((u1 :: u0 :: st).drop 2).length ≤ 4 then _ else none) = _
  rw [if_pos ⟨by simp, hl⟩]
  rfl
theorem wp_callV2A {u : Nat} {u0 u1 : Value} {P : Nat → Hp_ → Prop} (hc : pm_lk tab pc = some (.invokevirtual k, n, y, 2, c, e, v, w)) (hl : st.length ≤ 3) (hk : hp_kd h u = c + 10) {f : Nat} (hq : cA f y [.ref u, u0, u1] h P) (hd : f ≤ d) (kk : ∀ (x : Nat) (h' : Hp_), P x h' → wq d tab sc n (L) (.ref x :: st) h' Q) : wq d tab sc pc (L) (u1 :: u0 :: .ref u :: st) h Q := by
  refine wq_call (as := [.ref u, u0, u1]) (n := n) (st' := st) hc ?_ hd hq (fun r h' => by rintro ⟨x, rfl, p⟩; exact kk x h' p)
  show (if 2 < (u1 :: u0 :: Value.ref u :: st).length then (if hp_kd h u = c + 10 ∧ ((u1 :: u0 :: Value.ref u :: st).drop (2 + 1)).length ≤ 3 then _ else none) else none) = _
  rw [if_pos (by simp), if_pos ⟨hk, hl⟩]
  rfl
theorem wp_callS2V {u0 u1 : Value} {P : Hp_ → Prop} (hc : pm_lk tab pc = some (.invokestatic k, n, y, 2, c, e, v, w)) (hl : st.length ≤ 4) {f : Nat} (hq : cV f y [u0, u1] h P) (hd : f ≤ d) (kk : ∀ (h' : Hp_), P h' → wq d tab sc n (L) (st) h' Q) : wq d tab sc pc (L) (u1 :: u0 :: st) h Q := by
  refine wq_call (as := [u0, u1]) (n := n) (st' := st) hc ?_ hd hq (fun r h' => by rintro ⟨rfl, p⟩; exact kk h' p)
  show (if 2 ≤ (u1 :: u0 :: st).length ∧ ((u1 :: u0 :: st).drop 2).length ≤ 4 then _ else none) = _
  rw [if_pos ⟨by simp, hl⟩]
  rfl
theorem wp_callV2V {u : Nat} {u0 u1 : Value} {P : Hp_ → Prop} (hc : pm_lk tab pc = some (.invokevirtual k, n, y, 2, c, e, v, w)) (hl : st.length ≤ 3) (hk : hp_kd h u = c + 10) {f : Nat} (hq : cV f y [.ref u, u0, u1] h P) (hd : f ≤ d) (kk : ∀ (h' : Hp_), P h' → wq d tab sc n (L) (st) h' Q) : wq d tab sc pc (L) (u1 :: u0 :: .ref u :: st) h Q := by
  refine wq_call (as := [.ref u, u0, u1]) (n := n) (st' := st) hc ?_ hd hq (fun r h' => by rintro ⟨rfl, p⟩; exact kk h' p)
  show (if 2 < (u1 :: u0 :: Value.ref u :: st).length then (if hp_kd h u = c + 10 ∧ ((u1 :: u0 :: Value.ref u :: st).drop (2 + 1)).length ≤ 3 then _ else none) else none) = _
  rw [if_pos (by simp), if_pos ⟨hk, hl⟩]
  rfl
theorem wp_callI2V {u : Nat} {u0 u1 : Value} {P : Hp_ → Prop} (hc : pm_lk tab pc = some (.invokespecial k, n, y, 2, c, e, v, w)) (he : e ≠ 2) (hl : st.length ≤ 3) (hk : hp_kd h u = c + 10) {f : Nat} (hq : cV f y [.ref u, u0, u1] h P) (hd : f ≤ d) (kk : ∀ (h' : Hp_), P h' → wq d tab sc n (L) (st) h' Q) : wq d tab sc pc (L) (u1 :: u0 :: .ref u :: st) h Q := by
  refine wq_call (as := [.ref u, u0, u1]) (n := n) (st' := st) hc ?_ hd hq (fun r h' => by rintro ⟨rfl, p⟩; exact kk h' p)
  show (if e = 2 then _ else pm_callV y 2 c n L (u1 :: u0 :: .ref u :: st) h) = _
  rw [if_neg he]
  show (if 2 < (u1 :: u0 :: Value.ref u :: st).length then (if hp_kd h u = c + 10 ∧ ((u1 :: u0 :: Value.ref u :: st).drop (2 + 1)).length ≤ 3 then _ else none) else none) = _
  rw [if_pos (by simp), if_pos ⟨hk, hl⟩]
  rfl
theorem wp_callS3I {u0 u1 u2 : Value} {P : Int32 → Hp_ → Prop} (hc : pm_lk tab pc = some (.invokestatic k, n, y, 3, c, e, v, w)) (hl : st.length ≤ 4) {f : Nat} (hq : cI f y [u0, u1, u2] h P) (hd : f ≤ d) (kk : ∀ (x : Int32) (h' : Hp_), P x h' → wq d tab sc n (L) (.int x :: st) h' Q) : wq d tab sc pc (L) (u2 :: u1 :: u0 :: st) h Q := by
  refine wq_call (as := [u0, u1, u2]) (n := n) (st' := st) hc ?_ hd hq (fun r h' => by rintro ⟨x, rfl, p⟩; exact kk x h' p)
  show (if 3 ≤ (u2 :: u1 :: u0 :: st).length ∧ ((u2 :: u1 :: u0 :: st).drop 3).length ≤ 4 then _ else none) = _
  rw [if_pos ⟨by simp, hl⟩]
  rfl
theorem wp_callV3I {u : Nat} {u0 u1 u2 : Value} {P : Int32 → Hp_ → Prop} (hc : pm_lk tab pc = some (.invokevirtual k, n, y, 3, c, e, v, w)) (hl : st.length ≤ 3) (hk : hp_kd h u = c + 10) {f : Nat} (hq : cI f y [.ref u, u0, u1, u2] h P) (hd : f ≤ d) (kk : ∀ (x : Int32) (h' : Hp_), P x h' → wq d tab sc n (L) (.int x :: st) h' Q) : wq d tab sc pc (L) (u2 :: u1 :: u0 :: .ref u :: st) h Q := by
  refine wq_call (as := [.ref u, u0, u1, u2]) (n := n) (st' := st) hc ?_ hd hq (fun r h' => by rintro ⟨x, rfl, p⟩; exact kk x h' p)
  show (if 3 < (u2 :: u1 :: u0 :: Value.ref u :: st).length then (if hp_kd h u = c + 10 ∧ ((u2 :: u1 :: u0 :: Value.ref u :: st).drop (3 + 1)).length ≤ 3 then _ else none) else none) = _
  rw [if_pos (by simp), if_pos ⟨hk, hl⟩]
  rfl
theorem wp_callS3J {u0 u1 u2 : Value} {P : Int64 → Hp_ → Prop} (hc : pm_lk tab pc = some (.invokestatic k, n, y, 3, c, e, v, w)) (hl : st.length ≤ 4) {f : Nat} (hq : cJ f y [u0, u1, u2] h P) (hd : f ≤ d) (kk : ∀ (x : Int64) (h' : Hp_), P x h' → wq d tab sc n (L) (.long x :: st) h' Q) : wq d tab sc pc (L) (u2 :: u1 :: u0 :: st) h Q := by
  refine wq_call (as := [u0, u1, u2]) (n := n) (st' := st) hc ?_ hd hq (fun r h' => by rintro ⟨x, rfl, p⟩; exact kk x h' p)
  show (if 3 ≤ (u2 :: u1 :: u0 :: st).length ∧ ((u2 :: u1 :: u0 :: st).drop 3).length ≤ 4 then _ else none) = _
  rw [if_pos ⟨by simp, hl⟩]
  rfl
theorem wp_callV3J {u : Nat} {u0 u1 u2 : Value} {P : Int64 → Hp_ → Prop} (hc : pm_lk tab pc = some (.invokevirtual k, n, y, 3, c, e, v, w)) (hl : st.length ≤ 3) (hk : hp_kd h u = c + 10) {f : Nat} (hq : cJ f y [.ref u, u0, u1, u2] h P) (hd : f ≤ d) (kk : ∀ (x : Int64) (h' : Hp_), P x h' → wq d tab sc n (L) (.long x :: st) h' Q) : wq d tab sc pc (L) (u2 :: u1 :: u0 :: .ref u :: st) h Q := by
  refine wq_call (as := [.ref u, u0, u1, u2]) (n := n) (st' := st) hc ?_ hd hq (fun r h' => by rintro ⟨x, rfl, p⟩; exact kk x h' p)
  show (if 3 < (u2 :: u1 :: u0 :: Value.ref u :: st).length then (if hp_kd h u = c + 10 ∧ ((u2 :: u1 :: u0 :: Value.ref u :: st).drop (3 + 1)).length ≤ 3 then _ else none) else none) = _
  rw [if_pos (by simp), if_pos ⟨hk, hl⟩]
  rfl
theorem wp_callS3A {u0 u1 u2 : Value} {P : Nat → Hp_ → Prop} (hc : pm_lk tab pc = some (.invokestatic k, n, y, 3, c, e, v, w)) (hl : st.length ≤ 4) {f : Nat} (hq : cA f y [u0, u1, u2] h P) (hd : f ≤ d) (kk : ∀ (x : Nat) (h' : Hp_), P x h' → wq d tab sc n (L) (.ref x :: st) h' Q) : wq d tab sc pc (L) (u2 :: u1 :: u0 :: st) h Q := by
  refine wq_call (as := [u0, u1, u2]) (n := n) (st' := st) hc ?_ hd hq (fun r h' => by rintro ⟨x, rfl, p⟩; exact kk x h' p)
  show (if 3 ≤ (u2 :: u1 :: u0 :: st).length ∧ ((u2 :: u1 :: u0 :: st).drop 3).length ≤ 4 then _ else none) = _
  rw [if_pos ⟨by simp, hl⟩]
  rfl
theorem wp_callV3A {u : Nat} {u0 u1 u2 : Value} {P : Nat → Hp_ → Prop} (hc : pm_lk tab pc = some (.invokevirtual k, n, y, 3, c, e, v, w)) (hl : st.length ≤ 3) (hk : hp_kd h u = c + 10) {f : Nat} (hq : cA f y [.ref u, u0, u1, u2] h P) (hd : f ≤ d) (kk : ∀ (x : Nat) (h' : Hp_), P x h' → wq d tab sc n (L) (.ref x :: st) h' Q) : wq d tab sc pc (L) (u2 :: u1 :: u0 :: .ref u :: st) h Q := by
  refine wq_call (as := [.ref u, u0, u1, u2]) (n := n) (st' := st) hc ?_ hd hq (fun r h' => by rintro ⟨x, rfl, p⟩; exact kk x h' p)
  show (if 3 < (u2 :: u1 :: u0 :: Value.ref u :: st).length then (if hp_kd h u = c + 10 ∧ ((u2 :: u1 :: u0 :: Value.ref u :: st).drop (3 + 1)).length ≤ 3 then _ else none) else none) = _
  rw [if_pos (by simp), if_pos ⟨hk, hl⟩]
  rfl
theorem wp_callS3V {u0 u1 u2 : Value} {P : Hp_ → Prop} (hc : pm_lk tab pc = some (.invokestatic k, n, y, 3, c, e, v, w)) (hl : st.length ≤ 4) {f : Nat} (hq : cV f y [u0, u1, u2] h P) (hd : f ≤ d) (kk : ∀ (h' : Hp_), P h' → wq d tab sc n (L) (st) h' Q) : wq d tab sc pc (L) (u2 :: u1 :: u0 :: st) h Q := by
  refine wq_call (as := [u0, u1, u2]) (n := n) (st' := st) hc ?_ hd hq (fun r h' => by rintro ⟨rfl, p⟩; exact kk h' p)
  show (if 3 ≤ (u2 :: u1 :: u0 :: st).length ∧ ((u2 :: u1 :: u0 :: st).drop 3).length ≤ 4 then _ else none) = _
  rw [if_pos ⟨by simp, hl⟩]
  rfl
theorem wp_callV3V {u : Nat} {u0 u1 u2 : Value} {P : Hp_ → Prop} (hc : pm_lk tab pc = some (.invokevirtual k, n, y, 3, c, e, v, w)) (hl : st.length ≤ 3) (hk : hp_kd h u = c + 10) {f : Nat} (hq : cV f y [.ref u, u0, u1, u2] h P) (hd : f ≤ d) (kk : ∀ (h' : Hp_), P h' → wq d tab sc n (L) (st) h' Q) : wq d tab sc pc (L) (u2 :: u1 :: u0 :: .ref u :: st) h Q := by
  refine wq_call (as := [.ref u, u0, u1, u2]) (n := n) (st' := st) hc ?_ hd hq (fun r h' => by rintro ⟨rfl, p⟩; exact kk h' p)
  show (if 3 < (u2 :: u1 :: u0 :: Value.ref u :: st).length then (if hp_kd h u = c + 10 ∧ ((u2 :: u1 :: u0 :: Value.ref u :: st).drop (3 + 1)).length ≤ 3 then _ else none) else none) = _
  rw [if_pos (by simp), if_pos ⟨hk, hl⟩]
  rfl
theorem wp_callI3V {u : Nat} {u0 u1 u2 : Value} {P : Hp_ → Prop} (hc : pm_lk tab pc = some (.invokespecial k, n, y, 3, c, e, v, w)) (he : e ≠ 2) (hl : st.length ≤ 3) (hk : hp_kd h u = c + 10) {f : Nat} (hq : cV f y [.ref u, u0, u1, u2] h P) (hd : f ≤ d) (kk : ∀ (h' : Hp_), P h' → wq d tab sc n (L) (st) h' Q) : wq d tab sc pc (L) (u2 :: u1 :: u0 :: .ref u :: st) h Q := by
  refine wq_call (as := [.ref u, u0, u1, u2]) (n := n) (st' := st) hc ?_ hd hq (fun r h' => by rintro ⟨rfl, p⟩; exact kk h' p)
  show (if e = 2 then _ else pm_callV y 3 c n L (u2 :: u1 :: u0 :: .ref u :: st) h) = _
  rw [if_neg he]
  show (if 3 < (u2 :: u1 :: u0 :: Value.ref u :: st).length then (if hp_kd h u = c + 10 ∧ ((u2 :: u1 :: u0 :: Value.ref u :: st).drop (3 + 1)).length ≤ 3 then _ else none) else none) = _
  rw [if_pos (by simp), if_pos ⟨hk, hl⟩]
  rfl
theorem wp_callS4I {u0 u1 u2 u3 : Value} {P : Int32 → Hp_ → Prop} (hc : pm_lk tab pc = some (.invokestatic k, n, y, 4, c, e, v, w)) (hl : st.length ≤ 4) {f : Nat} (hq : cI f y [u0, u1, u2, u3] h P) (hd : f ≤ d) (kk : ∀ (x : Int32) (h' : Hp_), P x h' → wq d tab sc n (L) (.int x :: st) h' Q) : wq d tab sc pc (L) (u3 :: u2 :: u1 :: u0 :: st) h Q := by
  refine wq_call (as := [u0, u1, u2, u3]) (n := n) (st' := st) hc ?_ hd hq (fun r h' => by rintro ⟨x, rfl, p⟩; exact kk x h' p)
  show (if 4 ≤ (u3 :: u2 :: u1 :: u0 :: st).length ∧ ((u3 :: u2 :: u1 :: u0 :: st).drop 4).length ≤ 4 then _ else none) = _
  rw [if_pos ⟨by simp, hl⟩]
  rfl
theorem wp_callV4I {u : Nat} {u0 u1 u2 u3 : Value} {P : Int32 → Hp_ → Prop} (hc : pm_lk tab pc = some (.invokevirtual k, n, y, 4, c, e, v, w)) (hl : st.length ≤ 3) (hk : hp_kd h u = c + 10) {f : Nat} (hq : cI f y [.ref u, u0, u1, u2, u3] h P) (hd : f ≤ d) (kk : ∀ (x : Int32) (h' : Hp_), P x h' → wq d tab sc n (L) (.int x :: st) h' Q) : wq d tab sc pc (L) (u3 :: u2 :: u1 :: u0 :: .ref u :: st) h Q := by
  refine wq_call (as := [.ref u, u0, u1, u2, u3]) (n := n) (st' := st) hc ?_ hd hq (fun r h' => by rintro ⟨x, rfl, p⟩; exact kk x h' p)
  show (if 4 < (u3 :: u2 :: u1 :: u0 :: Value.ref u :: st).length then (if hp_kd h u = c + 10 ∧ ((u3 :: u2 :: u1 :: u0 :: Value.ref u :: st).drop (4 + 1)).length ≤ 3 then _ else none) else none) = _
  rw [if_pos (by simp), if_pos ⟨hk, hl⟩]
  rfl
theorem wp_callS4J {u0 u1 u2 u3 : Value} {P : Int64 → Hp_ → Prop} (hc : pm_lk tab pc = some (.invokestatic k, n, y, 4, c, e, v, w)) (hl : st.length ≤ 4) {f : Nat} (hq : cJ f y [u0, u1, u2, u3] h P) (hd : f ≤ d) (kk : ∀ (x : Int64) (h' : Hp_), P x h' → wq d tab sc n (L) (.long x :: st) h' Q) : wq d tab sc pc (L) (u3 :: u2 :: u1 :: u0 :: st) h Q := by
  refine wq_call (as := [u0, u1, u2, u3]) (n := n) (st' := st) hc ?_ hd hq (fun r h' => by rintro ⟨x, rfl, p⟩; exact kk x h' p)
  show (if 4 ≤ (u3 :: u2 :: u1 :: u0 :: st).length ∧ ((u3 :: u2 :: u1 :: u0 :: st).drop 4).length ≤ 4 then _ else none) = _
  rw [if_pos ⟨by simp, hl⟩]
  rfl
theorem wp_callV4J {u : Nat} {u0 u1 u2 u3 : Value} {P : Int64 → Hp_ → Prop} (hc : pm_lk tab pc = some (.invokevirtual k, n, y, 4, c, e, v, w)) (hl : st.length ≤ 3) (hk : hp_kd h u = c + 10) {f : Nat} (hq : cJ f y [.ref u, u0, u1, u2, u3] h P) (hd : f ≤ d) (kk : ∀ (x : Int64) (h' : Hp_), P x h' → wq d tab sc n (L) (.long x :: st) h' Q) : wq d tab sc pc (L) (u3 :: u2 :: u1 :: u0 :: .ref u :: st) h Q := by
  refine wq_call (as := [.ref u, u0, u1, u2, u3]) (n := n) (st' := st) hc ?_ hd hq (fun r h' => by rintro ⟨x, rfl, p⟩; exact kk x h' p)
  show (if 4 < (u3 :: u2 :: u1 :: u0 :: Value.ref u :: st).length then (if hp_kd h u = c + 10 ∧ ((u3 :: u2 :: u1 :: u0 :: Value.ref u :: st).drop (4 + 1)).length ≤ 3 then _ else none) else none) = _
  rw [if_pos (by simp), if_pos ⟨hk, hl⟩]
  rfl
theorem wp_callS4A {u0 u1 u2 u3 : Value} {P : Nat → Hp_ → Prop} (hc : pm_lk tab pc = some (.invokestatic k, n, y, 4, c, e, v, w)) (hl : st.length ≤ 4) {f : Nat} (hq : cA f y [u0, u1, u2, u3] h P) (hd : f ≤ d) (kk : ∀ (x : Nat) (h' : Hp_), P x h' → wq d tab sc n (L) (.ref x :: st) h' Q) : wq d tab sc pc (L) (u3 :: u2 :: u1 :: u0 :: st) h Q := by
  refine wq_call (as := [u0, u1, u2, u3]) (n := n) (st' := st) hc ?_ hd hq (fun r h' => by rintro ⟨x, rfl, p⟩; exact kk x h' p)
  show (if 4 ≤ (u3 :: u2 :: u1 :: u0 :: st).length ∧ ((u3 :: u2 :: u1 :: u0 :: st).drop 4).length ≤ 4 then _ else none) = _
  rw [if_pos ⟨by simp, hl⟩]
  rfl
theorem wp_callV4A {u : Nat} {u0 u1 u2 u3 : Value} {P : Nat → Hp_ → Prop} (hc : pm_lk tab pc = some (.invokevirtual k, n, y, 4, c, e, v, w)) (hl : st.length ≤ 3) (hk : hp_kd h u = c + 10) {f : Nat} (hq : cA f y [.ref u, u0, u1, u2, u3] h P) (hd : f ≤ d) (kk : ∀ (x : Nat) (h' : Hp_), P x h' → wq d tab sc n (L) (.ref x :: st) h' Q) : wq d tab sc pc (L) (u3 :: u2 :: u1 :: u0 :: .ref u :: st) h Q := by
  refine wq_call (as := [.ref u, u0, u1, u2, u3]) (n := n) (st' := st) hc ?_ hd hq (fun r h' => by rintro ⟨x, rfl, p⟩; exact kk x h' p)
  show (if 4 < (u3 :: u2 :: u1 :: u0 :: Value.ref u :: st).length then (if hp_kd h u = c + 10 ∧ ((u3 :: u2 :: u1 :: u0 :: Value.ref u :: st).drop (4 + 1)).length ≤ 3 then _ else none) else none) = _
  rw [if_pos (by simp), if_pos ⟨hk, hl⟩]
  rfl
theorem wp_callS4V {u0 u1 u2 u3 : Value} {P : Hp_ → Prop} (hc : pm_lk tab pc = some (.invokestatic k, n, y, 4, c, e, v, w)) (hl : st.length ≤ 4) {f : Nat} (hq : cV f y [u0, u1, u2, u3] h P) (hd : f ≤ d) (kk : ∀ (h' : Hp_), P h' → wq d tab sc n (L) (st) h' Q) : wq d tab sc pc (L) (u3 :: u2 :: u1 :: u0 :: st) h Q := by
  refine wq_call (as := [u0, u1, u2, u3]) (n := n) (st' := st) hc ?_ hd hq (fun r h' => by rintro ⟨rfl, p⟩; exact kk h' p)
  show (if 4 ≤ (u3 :: u2 :: u1 :: u0 :: st).length ∧ ((u3 :: u2 :: u1 :: u0 :: st).drop 4).length ≤ 4 then _ else none) = _
  rw [if_pos ⟨by simp, hl⟩]
  rfl
theorem wp_callV4V {u : Nat} {u0 u1 u2 u3 : Value} {P : Hp_ → Prop} (hc : pm_lk tab pc = some (.invokevirtual k, n, y, 4, c, e, v, w)) (hl : st.length ≤ 3) (hk : hp_kd h u = c + 10) {f : Nat} (hq : cV f y [.ref u, u0, u1, u2, u3] h P) (hd : f ≤ d) (kk : ∀ (h' : Hp_), P h' → wq d tab sc n (L) (st) h' Q) : wq d tab sc pc (L) (u3 :: u2 :: u1 :: u0 :: .ref u :: st) h Q := by
  refine wq_call (as := [.ref u, u0, u1, u2, u3]) (n := n) (st' := st) hc ?_ hd hq (fun r h' => by rintro ⟨rfl, p⟩; exact kk h' p)
  show (if 4 < (u3 :: u2 :: u1 :: u0 :: Value.ref u :: st).length then (if hp_kd h u = c + 10 ∧ ((u3 :: u2 :: u1 :: u0 :: Value.ref u :: st).drop (4 + 1)).length ≤ 3 then _ else none) else none) = _
  rw [if_pos (by simp), if_pos ⟨hk, hl⟩]
  rfl
theorem wp_callI4V {u : Nat} {u0 u1 u2 u3 : Value} {P : Hp_ → Prop} (hc : pm_lk tab pc = some (.invokespecial k, n, y, 4, c, e, v, w)) (he : e ≠ 2) (hl : st.length ≤ 3) (hk : hp_kd h u = c + 10) {f : Nat} (hq : cV f y [.ref u, u0, u1, u2, u3] h P) (hd : f ≤ d) (kk : ∀ (h' : Hp_), P h' → wq d tab sc n (L) (st) h' Q) : wq d tab sc pc (L) (u3 :: u2 :: u1 :: u0 :: .ref u :: st) h Q := by
  refine wq_call (as := [.ref u, u0, u1, u2, u3]) (n := n) (st' := st) hc ?_ hd hq (fun r h' => by rintro ⟨rfl, p⟩; exact kk h' p)
  show (if e = 2 then _ else pm_callV y 4 c n L (u3 :: u2 :: u1 :: u0 :: .ref u :: st) h) = _
  rw [if_neg he]
  show (if 4 < (u3 :: u2 :: u1 :: u0 :: Value.ref u :: st).length then (if hp_kd h u = c + 10 ∧ ((u3 :: u2 :: u1 :: u0 :: Value.ref u :: st).drop (4 + 1)).length ≤ 3 then _ else none) else none) = _
  rw [if_pos (by simp), if_pos ⟨hk, hl⟩]
  rfl
theorem wp_callS5I {u0 u1 u2 u3 u4 : Value} {P : Int32 → Hp_ → Prop} (hc : pm_lk tab pc = some (.invokestatic k, n, y, 5, c, e, v, w)) (hl : st.length ≤ 4) {f : Nat} (hq : cI f y [u0, u1, u2, u3, u4] h P) (hd : f ≤ d) (kk : ∀ (x : Int32) (h' : Hp_), P x h' → wq d tab sc n (L) (.int x :: st) h' Q) : wq d tab sc pc (L) (u4 :: u3 :: u2 :: u1 :: u0 :: st) h Q := by
  refine wq_call (as := [u0, u1, u2, u3, u4]) (n := n) (st' := st) hc ?_ hd hq (fun r h' => by rintro ⟨x, rfl, p⟩; exact kk x h' p)
  show (if 5 ≤ (u4 :: u3 :: u2 :: u1 :: u0 :: st).length ∧ ((u4 :: u3 :: u2 :: u1 :: u0 :: st).drop 5).length ≤ 4 then _ else none) = _
  rw [if_pos ⟨by simp, hl⟩]
  rfl
theorem wp_callV5I {u : Nat} {u0 u1 u2 u3 u4 : Value} {P : Int32 → Hp_ → Prop} (hc : pm_lk tab pc = some (.invokevirtual k, n, y, 5, c, e, v, w)) (hl : st.length ≤ 3) (hk : hp_kd h u = c + 10) {f : Nat} (hq : cI f y [.ref u, u0, u1, u2, u3, u4] h P) (hd : f ≤ d) (kk : ∀ (x : Int32) (h' : Hp_), P x h' → wq d tab sc n (L) (.int x :: st) h' Q) : wq d tab sc pc (L) (u4 :: u3 :: u2 :: u1 :: u0 :: .ref u :: st) h Q := by
  refine wq_call (as := [.ref u, u0, u1, u2, u3, u4]) (n := n) (st' := st) hc ?_ hd hq (fun r h' => by rintro ⟨x, rfl, p⟩; exact kk x h' p)
  show (if 5 < (u4 :: u3 :: u2 :: u1 :: u0 :: Value.ref u :: st).length then (if hp_kd h u = c + 10 ∧ ((u4 :: u3 :: u2 :: u1 :: u0 :: Value.ref u :: st).drop (5 + 1)).length ≤ 3 then _ else none) else none) = _
  rw [if_pos (by simp), if_pos ⟨hk, hl⟩]
  rfl
theorem wp_callS5J {u0 u1 u2 u3 u4 : Value} {P : Int64 → Hp_ → Prop} (hc : pm_lk tab pc = some (.invokestatic k, n, y, 5, c, e, v, w)) (hl : st.length ≤ 4) {f : Nat} (hq : cJ f y [u0, u1, u2, u3, u4] h P) (hd : f ≤ d) (kk : ∀ (x : Int64) (h' : Hp_), P x h' → wq d tab sc n (L) (.long x :: st) h' Q) : wq d tab sc pc (L) (u4 :: u3 :: u2 :: u1 :: u0 :: st) h Q := by
  refine wq_call (as := [u0, u1, u2, u3, u4]) (n := n) (st' := st) hc ?_ hd hq (fun r h' => by rintro ⟨x, rfl, p⟩; exact kk x h' p)
  show (if 5 ≤ (u4 :: u3 :: u2 :: u1 :: u0 :: st).length ∧ ((u4 :: u3 :: u2 :: u1 :: u0 :: st).drop 5).length ≤ 4 then _ else none) = _
  rw [if_pos ⟨by simp, hl⟩]
  rfl
theorem wp_callV5J {u : Nat} {u0 u1 u2 u3 u4 : Value} {P : Int64 → Hp_ → Prop} (hc : pm_lk tab pc = some (.invokevirtual k, n, y, 5, c, e, v, w)) (hl : st.length ≤ 3) (hk : hp_kd h u = c + 10) {f : Nat} (hq : cJ f y [.ref u, u0, u1, u2, u3, u4] h P) (hd : f ≤ d) (kk : ∀ (x : Int64) (h' : Hp_), P x h' → wq d tab sc n (L) (.long x :: st) h' Q) : wq d tab sc pc (L) (u4 :: u3 :: u2 :: u1 :: u0 :: .ref u :: st) h Q := by
  refine wq_call (as := [.ref u, u0, u1, u2, u3, u4]) (n := n) (st' := st) hc ?_ hd hq (fun r h' => by rintro ⟨x, rfl, p⟩; exact kk x h' p)
  show (if 5 < (u4 :: u3 :: u2 :: u1 :: u0 :: Value.ref u :: st).length then (if hp_kd h u = c + 10 ∧ ((u4 :: u3 :: u2 :: u1 :: u0 :: Value.ref u :: st).drop (5 + 1)).length ≤ 3 then _ else none) else none) = _
  rw [if_pos (by simp), if_pos ⟨hk, hl⟩]
  rfl
theorem wp_callS5A {u0 u1 u2 u3 u4 : Value} {P : Nat → Hp_ → Prop} (hc : pm_lk tab pc = some (.invokestatic k, n, y, 5, c, e, v, w)) (hl : st.length ≤ 4) {f : Nat} (hq : cA f y [u0, u1, u2, u3, u4] h P) (hd : f ≤ d) (kk : ∀ (x : Nat) (h' : Hp_), P x h' → wq d tab sc n (L) (.ref x :: st) h' Q) : wq d tab sc pc (L) (u4 :: u3 :: u2 :: u1 :: u0 :: st) h Q := by
  refine wq_call (as := [u0, u1, u2, u3, u4]) (n := n) (st' := st) hc ?_ hd hq (fun r h' => by rintro ⟨x, rfl, p⟩; exact kk x h' p)
  show (if 5 ≤ (u4 :: u3 :: u2 :: u1 :: u0 :: st).length ∧ ((u4 :: u3 :: u2 :: u1 :: u0 :: st).drop 5).length ≤ 4 then _ else none) = _
  rw [if_pos ⟨by simp, hl⟩]
  rfl
theorem wp_callV5A {u : Nat} {u0 u1 u2 u3 u4 : Value} {P : Nat → Hp_ → Prop} (hc : pm_lk tab pc = some (.invokevirtual k, n, y, 5, c, e, v, w)) (hl : st.length ≤ 3) (hk : hp_kd h u = c + 10) {f : Nat} (hq : cA f y [.ref u, u0, u1, u2, u3, u4] h P) (hd : f ≤ d) (kk : ∀ (x : Nat) (h' : Hp_), P x h' → wq d tab sc n (L) (.ref x :: st) h' Q) : wq d tab sc pc (L) (u4 :: u3 :: u2 :: u1 :: u0 :: .ref u :: st) h Q := by
  refine wq_call (as := [.ref u, u0, u1, u2, u3, u4]) (n := n) (st' := st) hc ?_ hd hq (fun r h' => by rintro ⟨x, rfl, p⟩; exact kk x h' p)
  show (if 5 < (u4 :: u3 :: u2 :: u1 :: u0 :: Value.ref u :: st).length then (if hp_kd h u = c + 10 ∧ ((u4 :: u3 :: u2 :: u1 :: u0 :: Value.ref u :: st).drop (5 + 1)).length ≤ 3 then _ else none) else none) = _
  rw [if_pos (by simp), if_pos ⟨hk, hl⟩]
  rfl
theorem wp_callS5V {u0 u1 u2 u3 u4 : Value} {P : Hp_ → Prop} (hc : pm_lk tab pc = some (.invokestatic k, n, y, 5, c, e, v, w)) (hl : st.length ≤ 4) {f : Nat} (hq : cV f y [u0, u1, u2, u3, u4] h P) (hd : f ≤ d) (kk : ∀ (h' : Hp_), P h' → wq d tab sc n (L) (st) h' Q) : wq d tab sc pc (L) (u4 :: u3 :: u2 :: u1 :: u0 :: st) h Q := by
  refine wq_call (as := [u0, u1, u2, u3, u4]) (n := n) (st' := st) hc ?_ hd hq (fun r h' => by rintro ⟨rfl, p⟩; exact kk h' p)
  show (if 5 ≤ (u4 :: u3 :: u2 :: u1 :: u0 :: st).length ∧ ((u4 :: u3 :: u2 :: u1 :: u0 :: st).drop 5).length ≤ 4 then _ else none) = _
  rw [if_pos ⟨by simp, hl⟩]
  rfl
theorem wp_callV5V {u : Nat} {u0 u1 u2 u3 u4 : Value} {P : Hp_ → Prop} (hc : pm_lk tab pc = some (.invokevirtual k, n, y, 5, c, e, v, w)) (hl : st.length ≤ 3) (hk : hp_kd h u = c + 10) {f : Nat} (hq : cV f y [.ref u, u0, u1, u2, u3, u4] h P) (hd : f ≤ d) (kk : ∀ (h' : Hp_), P h' → wq d tab sc n (L) (st) h' Q) : wq d tab sc pc (L) (u4 :: u3 :: u2 :: u1 :: u0 :: .ref u :: st) h Q := by
  refine wq_call (as := [.ref u, u0, u1, u2, u3, u4]) (n := n) (st' := st) hc ?_ hd hq (fun r h' => by rintro ⟨rfl, p⟩; exact kk h' p)
  show (if 5 < (u4 :: u3 :: u2 :: u1 :: u0 :: Value.ref u :: st).length then (if hp_kd h u = c + 10 ∧ ((u4 :: u3 :: u2 :: u1 :: u0 :: Value.ref u :: st).drop (5 + 1)).length ≤ 3 then _ else none) else none) = _
  rw [if_pos (by simp), if_pos ⟨hk, hl⟩]
  rfl
theorem wp_callI5V {u : Nat} {u0 u1 u2 u3 u4 : Value} {P : Hp_ → Prop} (hc : pm_lk tab pc = some (.invokespecial k, n, y, 5, c, e, v, w)) (he : e ≠ 2) (hl : st.length ≤ 3) (hk : hp_kd h u = c + 10) {f : Nat} (hq : cV f y [.ref u, u0, u1, u2, u3, u4] h P) (hd : f ≤ d) (kk : ∀ (h' : Hp_), P h' → wq d tab sc n (L) (st) h' Q) : wq d tab sc pc (L) (u4 :: u3 :: u2 :: u1 :: u0 :: .ref u :: st) h Q := by
  refine wq_call (as := [.ref u, u0, u1, u2, u3, u4]) (n := n) (st' := st) hc ?_ hd hq (fun r h' => by rintro ⟨rfl, p⟩; exact kk h' p)
  show (if e = 2 then _ else pm_callV y 5 c n L (u4 :: u3 :: u2 :: u1 :: u0 :: .ref u :: st) h) = _
  rw [if_neg he]
  show (if 5 < (u4 :: u3 :: u2 :: u1 :: u0 :: Value.ref u :: st).length then (if hp_kd h u = c + 10 ∧ ((u4 :: u3 :: u2 :: u1 :: u0 :: Value.ref u :: st).drop (5 + 1)).length ≤ 3 then _ else none) else none) = _
  rw [if_pos (by simp), if_pos ⟨hk, hl⟩]
  rfl
theorem wp_objI {u : Nat} (hc : pm_lk tab pc = some (.invokespecial k, n, a, b, c, 2, v, w)) (hl : st.length ≤ 3) (hk : hp_kd h u ≠ 0) (kk : wq d tab sc n (L) (st) h Q) : wq d tab sc pc (L) (.ref u :: st) h Q := wq_step hc (show (if hp_kd h u ≠ 0 ∧ st.length ≤ 3 then some (Sum.inl (n, L, st, h)) else none) = some (Sum.inl (n, L, st, h)) by rw [if_pos ⟨hk, hl⟩]) kk
end WQ
