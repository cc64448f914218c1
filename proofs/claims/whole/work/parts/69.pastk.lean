-- ===== Past: the key; what it decides =====
def kP_ (s : Sg_) (m j : Nat) : Int32 := if j < 6 then ms_ s j else if j = 6 then nI (sg_n s) else if j = 7 then nI m else if j - 8 < (ls_ s m).length then (match (ls_ s m)[j - 8]? with | some x => nI (mk_ x.1 x.2.1 x.2.2) | none => -1) else -1
theorem mk_inj {a g p a2 g2 p2 : Nat} (h1 : g < 8) (h2 : p < 8) (h3 : g2 < 8) (h4 : p2 < 8) (h : mk_ a g p = mk_ a2 g2 p2) : a = a2 ∧ g = g2 ∧ p = p2 := by
  unfold mk_ at h
  omega
theorem kP_note {s : Sg_} {m i : Nat} (h : i < 6) : kP_ s m (8 + i) = match (ls_ s m)[i]? with | some x => nI (mk_ x.1 x.2.1 x.2.2) | none => -1 := by
  unfold kP_
  rw [if_neg (by omega), if_neg (by omega), if_neg (by omega), Nat.add_sub_cancel_left]
  by_cases z : i < (ls_ s m).length
  · rw [if_pos z]
  · rw [if_neg z, List.getElem?_eq_none (by omega)]
theorem kP_same {s s2 : Sg_} {m m2 : Nat} (w : sg_wf s) (w2 : sg_wf s2) (hm : m ≤ 12) (hm2 : m2 ≤ 12) (h : ∀ j, j < 14 → kP_ s m j = kP_ s2 m2 j) : (∀ f, f < 6 → ms_ s f = ms_ s2 f) ∧ sg_n s = sg_n s2 ∧ m = m2 ∧ ls_ s m = ls_ s2 m2 := by
  have n1 := w.1.2
  have n2 := w2.1.2
  have a := h 6 (by omega)
  have b := h 7 (by omega)
  have en : sg_n s = sg_n s2 := nI_inj (by omega) (by omega) a
  have em : m = m2 := nI_inj (by omega) (by omega) b
  refine ⟨fun f hf => ?_, en, em, ?_⟩
  · have := h f (by omega)
    unfold kP_ at this
    rw [if_pos hf, if_pos hf] at this
    exact this
  · have l1 := ls_len w m
    have l2 := ls_len w2 m2
    refine List.ext_getElem? (fun i => ?_)
    rcases Nat.lt_or_ge i 6 with z | z
    · have e := h (8 + i) (by omega)
      rw [kP_note z, kP_note z] at e
      cases e1 : (ls_ s m)[i]? with
      | none =>
        cases e2 : (ls_ s2 m2)[i]? with
        | none => rfl
        | some x2 =>
          rw [e1, e2] at e
          have b2 := ls_in w2 (List.mem_of_getElem? e2)
          have : (-1 : Int32) = nI (mk_ x2.1 x2.2.1 x2.2.2) := e
          exact absurd this.symm (nI_ne_m1 (by unfold mk_; omega))
      | some x1 =>
        have b1 := ls_in w (List.mem_of_getElem? e1)
        cases e2 : (ls_ s2 m2)[i]? with
        | none =>
          rw [e1, e2] at e
          have : nI (mk_ x1.1 x1.2.1 x1.2.2) = (-1 : Int32) := e
          exact absurd this (nI_ne_m1 (by unfold mk_; omega))
        | some x2 =>
          have b2 := ls_in w2 (List.mem_of_getElem? e2)
          rw [e1, e2] at e
          have e3 : nI (mk_ x1.1 x1.2.1 x1.2.2) = nI (mk_ x2.1 x2.2.1 x2.2.2) := e
          have e4 := mk_inj (by omega) (by omega) (by omega) (by omega) (nI_inj (by unfold mk_; omega) (by unfold mk_; omega) e3)
          obtain ⟨p1, p2, p3⟩ := x1
          obtain ⟨q1, q2, q3⟩ := x2
          obtain ⟨rfl, rfl, rfl⟩ : p1 = q1 ∧ p2 = q2 ∧ p3 = q3 := e4
          rfl
    · rw [List.getElem?_eq_none (by omega), List.getElem?_eq_none (by omega)]
theorem ft_ls {s : Sg_} {m b : Nat} (hb : b ≤ m) (u : Nat → Nat) : ft_ s b u = (ls_ s m).all (fun q => decide (q.1 ≠ b) || decide (u q.2.1 = q.2.2)) := by
  unfold ft_ ls_
  rw [List.all_filter]
  refine congrArg (fun g => (sg_si s).all g) (funext fun q => ?_)
  by_cases z : q.1 ≤ m
  · rw [decide_eq_true z]; rfl
  · rw [decide_eq_false z, decide_eq_true (show q.1 ≠ b by omega)]; rfl
/-- two states that are alike for rows of m figures -/
def al_ (s s2 : Sg_) (m : Nat) : Prop := (∀ f, f < 6 → may_ s f = may_ s2 f ∧ (may_ s f = true → mv_ s f = mv_ s2 f)) ∧ ∀ b, b ≤ m → ∀ u, ft_ s b u = ft_ s2 b u
theorem kP_al {s s2 : Sg_} {m m2 : Nat} (w : sg_wf s) (w2 : sg_wf s2) (hm : m ≤ 12) (hm2 : m2 ≤ 12) (h : ∀ j, j < 14 → kP_ s m j = kP_ s2 m2 j) : m = m2 ∧ al_ s s2 m := by
  obtain ⟨h1, h2, h3, h4⟩ := kP_same w w2 hm hm2 h
  subst h3
  exact ⟨rfl, fun f hf => ms_same w w2 h1 hf, fun b hb u => by rw [ft_ls hb, ft_ls hb, h4]⟩
theorem al_sym {s s2 : Sg_} {m : Nat} (A : al_ s s2 m) : al_ s2 s m := ⟨fun f hf => ⟨(A.1 f hf).1.symm, fun k => ((A.1 f hf).2 (by rw [(A.1 f hf).1]; exact k)).symm⟩, fun b hb u => (A.2 b hb u).symm⟩
theorem al_nw {s s2 : Sg_} {m : Nat} (A : al_ s s2 m) : ∀ k, k ≤ m → ∀ u, nw_ s m k u = nw_ s2 m k u
  | 0, _, u => by
    unfold nw_
    rw [A.2 m (Nat.le_refl m) u]
  | k + 1, hk, u => by
    unfold nw_
    rw [A.2 _ (Nat.sub_le _ _) u]
    have hs : sm_ (fun f => if may_ s f then nw_ s m k (fun g => mv_ s f (u g)) else 0) 6 = sm_ (fun f => if may_ s2 f then nw_ s2 m k (fun g => mv_ s2 f (u g)) else 0) 6 := sm_cong 6 (fun f hf => by
      (try dsimp only)
      obtain ⟨a1, a2⟩ := A.1 f hf
      rw [← a1]
      cases z : may_ s f with
      | false => rfl
      | true => rw [if_pos rfl, if_pos rfl, al_nw A k (by omega), a2 z])
    rw [hs]
theorem al_fs {s s2 : Sg_} {m : Nat} (A : al_ s s2 m) {k : Nat} (hk : k ≤ m) (u : Nat → Nat) : fs_ s m k u = fs_ s2 m k u := by
  unfold fs_
  rw [ff_cong 6 0 (P := fun f => may_ s f && decide (0 < nw_ s m k (fun g => mv_ s f (u g)))) (Q := fun f => may_ s2 f && decide (0 < nw_ s2 m k (fun g => mv_ s2 f (u g)))) (fun f _ hf => by
    (try dsimp only)
    obtain ⟨a1, a2⟩ := A.1 f (by omega)
    rw [← a1]
    cases z : may_ s f with
    | false => rfl
    | true => rw [Bool.true_and, Bool.true_and, al_nw A k hk, a2 z])]
theorem al_pt {s s2 : Sg_} {m : Nat} (A : al_ s s2 m) (hp : 0 < nw_ s m m (fun g => g)) : ∀ i, i ≤ m → pt_ s m i = pt_ s2 m i
  | 0, _ => rfl
  | i + 1, hi => by
    have ih := al_pt A hp i (by omega)
    have h1 := pt_pos hp i (by omega)
    rw [show m - i = (m - (i + 1)) + 1 by omega] at h1
    have h2 := fs_ok h1
    show (fun g => mv_ s (fs_ s m (m - (i + 1)) (pt_ s m i)) (pt_ s m i g)) = fun g => mv_ s2 (fs_ s2 m (m - (i + 1)) (pt_ s2 m i)) (pt_ s2 m i g)
    rw [← ih, ← al_fs A (Nat.sub_le _ _), (A.1 _ h2.1).2 h2.2.1]
theorem al_rc {s s2 : Sg_} {m : Nat} (A : al_ s s2 m) : ∀ i u, rc_ s m i u → rc_ s2 m i u
  | 0, u, h => h
  | i + 1, v, h => by
    obtain ⟨u, f, h1, h2, h3, h4, h5⟩ := h
    obtain ⟨a1, a2⟩ := A.1 f h2
    exact ⟨u, f, al_rc A i u h1, h2, by rw [← a1]; exact h3, by rw [h4, a2 h3], by rw [← al_nw A _ (Nat.sub_le _ _)]; exact h5⟩
theorem al_cb {s s2 : Sg_} {m i x : Nat} (A : al_ s s2 m) (C : cb_ s m i x) : cb_ s2 m i x := by
  refine ⟨C.1, fun f => (C.2 f).trans ⟨?_, ?_⟩⟩
  · rintro ⟨h1, h2, u, h3, h4⟩
    obtain ⟨a1, a2⟩ := A.1 f h1
    exact ⟨h1, by rw [← a1]; exact h2, u, al_rc A i u h3, by rw [← al_nw A _ (Nat.sub_le _ _), ← a2 h2]; exact h4⟩
  · rintro ⟨h1, h2, u, h3, h4⟩
    have A2 := al_sym A
    obtain ⟨a1, a2⟩ := A2.1 f h1
    exact ⟨h1, by rw [← a1]; exact h2, u, al_rc A2 i u h3, by rw [← al_nw A2 _ (Nat.sub_le _ _), ← a2 h2]; exact h4⟩
/-- what a look has found -/
def PO_ (h : Hp_) (s : Sg_) (m : Nat) : Prop := hp_J h 43 5 = lN (nw_ s m m (fun g => g)) ∧ (0 < nw_ s m m (fun g => g) → ∀ i, i < m → hp_I h 53 i = nI (fs_ s m (m - (i + 1)) (pt_ s m i)) ∧ ∃ A : Nat, hp_I h 54 i = nI A ∧ cb_ s m i A)
theorem PO_al {h : Hp_} {s s2 : Sg_} {m : Nat} (A : al_ s s2 m) (P : PO_ h s m) : PO_ h s2 m := by
  have e := al_nw A m (Nat.le_refl m) (fun g => g)
  unfold PO_ at P ⊢
  rw [← e]
  refine ⟨P.1, fun k i hi => ?_⟩
  obtain ⟨p1, B, p2, p3⟩ := P.2 k i hi
  exact ⟨by rw [← al_pt A k i (by omega), ← al_fs A (Nat.sub_le _ _)]; exact p1, B, p2, al_cb A p3⟩
theorem PO_cg {h h2 : Hp_} {s : Sg_} {m : Nat} (P : PO_ h s m) (h1 : hp_J h2 43 5 = hp_J h 43 5) (h3 : hp_I h2 53 = hp_I h 53) (h4 : hp_I h2 54 = hp_I h 54) : PO_ h2 s m := by
  unfold PO_ at P ⊢
  rw [h1, h3, h4]
  exact P
