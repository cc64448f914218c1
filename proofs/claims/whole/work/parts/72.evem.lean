-- ===== Evening: rows in their order; the best of some rows =====
theorem hr_snoc {s : Sg_} : ∀ (u : List Nat) (p : Nat → Nat) (b f : Nat), hr_ s p b (u ++ [f]) = hr_ s p b u ||| hb_ s (fun g => ac_ (mv_ s) (u ++ [f]) (p g))
  | [], _, _, _ => rfl
  | e :: u, p, b, f => hr_snoc u (fun g => mv_ s e (p g)) (b ||| hb_ s (fun g => mv_ s e (p g))) f
/-- bits so far, ahead of all figures too -/
def hz_ (s : Sg_) (u : List Nat) : Nat := hr_ s (sg_pos s) (hb_ s (sg_pos s)) u
theorem hz_64 {s : Sg_} (w : sg_wf s) (u : List Nat) : hz_ s u < 64 := hr_64 w u _ _ (hb_64 w _)
theorem hz_snoc {s : Sg_} (u : List Nat) (f : Nat) : hz_ s (u ++ [f]) = hz_ s u ||| hb_ s (fun g => ac_ (mv_ s) (u ++ [f]) (sg_pos s g)) := hr_snoc u _ _ f
theorem wo_hz (s : Sg_) (u : List Nat) : wo_ s u = wk_ s (hz_ s u) (sg_wi s).length := rfl
theorem va_lex {g f : Nat} (hgf : g < f) : ∀ (u a b : List Nat), a.length = b.length → (∀ x ∈ a, x < 6) → va_w (u ++ g :: a) < va_w (u ++ f :: b)
  | [], a, b, hl, ha => by
    have hn := va_near a b hl ha
    show (g + 1) * 6 ^ a.length + va_w a < (f + 1) * 6 ^ b.length + va_w b
    rw [← hl]
    have h1 : (g + 1 + 1) * 6 ^ a.length ≤ (f + 1) * 6 ^ a.length := Nat.mul_le_mul_right _ (by omega)
    rw [Nat.add_mul _ 1, Nat.one_mul] at h1
    omega
  | e :: u, a, b, hl, ha => by
    have ih := va_lex hgf u a b hl ha
    have hl2 : (u ++ g :: a).length = (u ++ f :: b).length := by rw [List.length_append, List.length_append, List.length_cons, List.length_cons, hl]
    show (e + 1) * 6 ^ (u ++ g :: a).length + va_w (u ++ g :: a) < (e + 1) * 6 ^ (u ++ f :: b).length + va_w (u ++ f :: b)
    rw [hl2]
    omega
/-- of two rows the one that goes by the lower figure behind the same beginning is the first -/
theorem va_pre {s : Sg_} {m g f : Nat} {u r r2 : List Nat} (hgf : g < f) (h1 : RW_ s m r) (h2 : RW_ s m r2) (p1 : (u ++ [g]) <+: r) (p2 : (u ++ [f]) <+: r2) : va_w r < va_w r2 := by
  obtain ⟨a, rfl⟩ := p1
  obtain ⟨b, rfl⟩ := p2
  have l1 := h1.1
  have l2 := h2.1
  rw [List.append_assoc] at h1 h2 l1 l2 ⊢
  rw [List.append_assoc]
  have e1 : (u ++ ([g] ++ a)).length = u.length + (1 + a.length) := by rw [List.length_append, List.length_append]; rfl
  have e2 : (u ++ ([f] ++ b)).length = u.length + (1 + b.length) := by rw [List.length_append, List.length_append]; rfl
  exact va_lex hgf u a b (by omega) (fun x hx => (h1.2 x (List.mem_append_right _ (List.mem_append_right _ hx))).1)
/-- the best of the rows in V -/
def TB_ (h : Hp_) (s : Sg_) (m : Nat) (V : List Nat → Prop) : Prop := (hp_I h 59 5 = -1 ∧ ∀ r, RW_ s m r → ¬ V r) ∨ ∃ r, RW_ s m r ∧ V r ∧ hp_I h 59 5 = nI (wo_ s r) ∧ hp_I h 59 6 = nI (pq_ (fun i => r.getD i 0) 8) ∧ ∀ r2, RW_ s m r2 → V r2 → wo_ s r2 ≤ wo_ s r ∧ (wo_ s r2 = wo_ s r → va_w r ≤ va_w r2)
theorem TB_cg {h h2 : Hp_} {s : Sg_} {m : Nat} {V V2 : List Nat → Prop} (T : TB_ h s m V) (e5 : hp_I h2 59 5 = hp_I h 59 5) (e6 : hp_I h2 59 6 = hp_I h 59 6) (hV : ∀ r, RW_ s m r → (V r ↔ V2 r)) : TB_ h2 s m V2 := by
  unfold TB_ at T ⊢
  rw [e5, e6]
  rcases T with ⟨a, b⟩ | ⟨r, a1, a2, a3, a4, a5⟩
  · exact Or.inl ⟨a, fun r hr k => b r hr ((hV r hr).mpr k)⟩
  · exact Or.inr ⟨r, a1, (hV r a1).mp a2, a3, a4, fun r2 h1 h3 => a5 r2 h1 ((hV r2 h1).mpr h3)⟩
/-- rows that are met by others need not be looked at -/
theorem TB_dup {h : Hp_} {s : Sg_} {m : Nat} {V W : List Nat → Prop} (T : TB_ h s m V) (hW : ∀ r, RW_ s m r → W r → ∃ r2, RW_ s m r2 ∧ V r2 ∧ wo_ s r2 = wo_ s r ∧ va_w r2 ≤ va_w r) : TB_ h s m (fun r => V r ∨ W r) := by
  rcases T with ⟨a, b⟩ | ⟨r, a1, a2, a3, a4, a5⟩
  · refine Or.inl ⟨a, fun r hr k => ?_⟩
    rcases k with k | k
    · exact b r hr k
    · obtain ⟨r2, k1, k2, _⟩ := hW r hr k
      exact b r2 k1 k2
  · refine Or.inr ⟨r, a1, Or.inl a2, a3, a4, fun r2 h1 h3 => ?_⟩
    rcases h3 with k | k
    · exact a5 r2 h1 k
    · obtain ⟨r3, k1, k2, k3, k4⟩ := hW r2 h1 k
      obtain ⟨c1, c2⟩ := a5 r3 k1 k2
      rw [k3] at c1 c2
      exact ⟨c1, fun z => Nat.le_trans (c2 z) k4⟩
theorem wk_all {s : Sg_} {b : Nat} : ∀ k, k ≤ 6 → wk_ s b k ≤ wk_ s 4294967295 k
  | 0, _ => Nat.le_refl _
  | k + 1, hk => by
    have ih := wk_all (s := s) (b := b) k (by omega)
    have ht : (4294967295 : Nat).testBit k = true := by
      have : ∀ i : Fin 6, (4294967295 : Nat).testBit i.1 = true := by decide
      exact this ⟨k, by omega⟩
    rw [wk_nx, wk_nx, ht, if_pos rfl]
    cases b.testBit k with
    | true => rw [if_pos rfl]; omega
    | false => rw [if_neg (by decide)]; omega
def aw_ (s : Sg_) : Nat := wk_ s 4294967295 (sg_wi s).length
theorem wo_aw {s : Sg_} (w : sg_wf s) (r : List Nat) : wo_ s r ≤ aw_ s := wk_all _ (wi_len w)
/-- when all wishes are served, later rows need not be looked at -/
theorem TB_full {h : Hp_} {s : Sg_} {m : Nat} {V : List Nat → Prop} {u : List Nat} (w : sg_wf s) (T : TB_ h s m V) (he : hp_I h 59 5 = nI (aw_ s)) (hord : ∀ r r2, RW_ s m r → RW_ s m r2 → V r → u <+: r2 → va_w r < va_w r2) : TB_ h s m (fun r => V r ∨ u <+: r) := by
  have la := wk_le w 4294967295 _ (Nat.le_refl (sg_wi s).length)
  have hl := wi_len w
  rcases T with ⟨a, b⟩ | ⟨r, a1, a2, a3, a4, a5⟩
  · rw [he] at a
    exact absurd a (nI_ne_m1 (by unfold aw_; omega))
  · have hwo := wo_le w r
    rw [a3] at he
    have e := nI_inj (by omega) (by unfold aw_; omega) he
    refine Or.inr ⟨r, a1, Or.inl a2, a3, a4, fun r2 h1 h3 => ?_⟩
    rcases h3 with k | k
    · exact a5 r2 h1 k
    · exact ⟨by rw [e]; exact wo_aw w r2, fun _ => Nat.le_of_lt (hord r r2 a1 h1 a2 k)⟩
theorem hr_cong {s : Sg_} {p q : Nat → Nat} {e f : Nat} (he : mv_ s e = mv_ s f) : ∀ (u a : List Nat) (b : Nat), hr_ s p b (u ++ e :: a) = hr_ s p b (u ++ f :: a)
  | [], a, b => by
    show hr_ s (fun g => mv_ s e (p g)) (b ||| hb_ s (fun g => mv_ s e (p g))) a = hr_ s (fun g => mv_ s f (p g)) (b ||| hb_ s (fun g => mv_ s f (p g))) a
    rw [he]
  | c :: u, a, b => hr_cong (p := fun g => mv_ s c (p g)) (q := q) he u a _
theorem wo_cong {s : Sg_} {e f : Nat} (he : mv_ s e = mv_ s f) (u a : List Nat) : wo_ s (u ++ e :: a) = wo_ s (u ++ f :: a) := by
  unfold wo_
  rw [hr_cong (q := fun g => g) he u a]
theorem em_no {s : Sg_} (w : sg_wf s) {f : Nat} (hf : f < 6) (h : em_ s f = -1) : may_ s f = false ∨ ∃ e, e < f ∧ may_ s e = true ∧ may_ s f = true ∧ mv_ s e = mv_ s f := by
  cases hm : may_ s f with
  | false => exact Or.inl rfl
  | true =>
    right
    unfold em_ at h
    by_cases z : ∃ e, e < f ∧ ms_ s e = ms_ s f
    · obtain ⟨e, h1, h2⟩ := z
      have hne : ms_ s f ≠ -1 := fun k => by rw [(ms_may w f).mp k] at hm; cases hm
      have hme : may_ s e = true := by
        cases k : may_ s e with
        | true => rfl
        | false => rw [(ms_may w e).mpr k] at h2; exact absurd h2.symm hne
      refine ⟨e, h1, hme, rfl, ?_⟩
      unfold ms_ at h2
      rw [hme, hm, if_pos rfl, if_pos rfl] at h2
      have l1 := pq_lt24 (mv8 w e)
      have l2 := pq_lt24 (mv8 w f)
      have e2 := pq_inj (mv8 w e) (mv8 w f) (nI_inj (by omega) (by omega) h2)
      funext p
      rcases Nat.lt_or_ge p 8 with q | q
      · exact e2 p q
      · rw [(mv_P8 w e).2.2 p q, (mv_P8 w f).2.2 p q]
    · rw [if_neg z] at h
      rw [(ms_may w f).mp h] at hm
      cases hm
theorem em_yes {s : Sg_} (w : sg_wf s) {f : Nat} (h : em_ s f ≠ -1) : may_ s f = true ∧ em_ s f = nI (pq_ (mv_ s f) 8) := by
  unfold em_ at h ⊢
  by_cases z : ∃ e, e < f ∧ ms_ s e = ms_ s f
  · rw [if_pos z] at h; exact absurd rfl h
  · rw [if_neg z] at h ⊢
    cases hm : may_ s f with
    | false => exact absurd ((ms_may w f).mpr hm) h
    | true =>
      refine ⟨rfl, ?_⟩
      unfold ms_
      rw [hm, if_pos rfl]
/-- a figure that may not be, or does what an earlier one does, is left out -/
theorem TB_skip {h : Hp_} {s : Sg_} {m f : Nat} {u : List Nat} {V : List Nat → Prop} (w : sg_wf s) (hf : f < 6) (he : em_ s f = -1) (T : TB_ h s m (fun r => V r ∨ ∃ g, g < f ∧ (u ++ [g]) <+: r)) : TB_ h s m (fun r => V r ∨ ∃ g, g < f + 1 ∧ (u ++ [g]) <+: r) := by
  have key : TB_ h s m (fun r => (V r ∨ ∃ g, g < f ∧ (u ++ [g]) <+: r) ∨ (u ++ [f]) <+: r) := TB_dup T (fun r hr hp => by
    obtain ⟨a, rfl⟩ := hp
    have hfm := (hr.2 f (List.mem_append_left _ (List.mem_append_right _ List.mem_cons_self))).2
    rcases em_no w hf he with k | ⟨e, h1, h2, h3, h4⟩
    · rw [k] at hfm; cases hfm
    · have hr' := hr
      rw [List.append_assoc] at hr' ⊢
      have R2 : RW_ s m (u ++ e :: a) := by
        refine ⟨?_, fun x hx => ?_⟩
        · have := hr'.1
          rw [List.length_append, List.length_append] at this
          rw [List.length_append, List.length_cons]
          have h1 : ([f] : List Nat).length = 1 := rfl
          omega
        · rcases List.mem_append.mp hx with y | y
          · exact hr'.2 x (List.mem_append_left _ y)
          · rcases List.mem_cons.mp y with y | y
            · rw [y]; exact ⟨by omega, h2⟩
            · exact hr'.2 x (List.mem_append_right _ (List.mem_append_right _ y))
      refine ⟨u ++ e :: a, R2, Or.inr ⟨e, h1, ⟨a, by rw [List.append_assoc]; rfl⟩⟩, wo_cong h4 u a, Nat.le_of_lt (va_lex h1 u a a rfl (fun x hx => (hr'.2 x (List.mem_append_right _ (List.mem_append_right _ hx))).1))⟩)
  refine TB_cg key rfl rfl (fun r _ => ⟨?_, ?_⟩)
  · rintro ((k | ⟨g, k1, k2⟩) | k)
    · exact Or.inl k
    · exact Or.inr ⟨g, by omega, k2⟩
    · exact Or.inr ⟨f, Nat.lt_succ_self f, k⟩
  · rintro (k | ⟨g, k1, k2⟩)
    · exact Or.inl (Or.inl k)
    · rcases Nat.lt_or_ge g f with z | z
      · exact Or.inl (Or.inr ⟨g, z, k2⟩)
      · obtain rfl : g = f := by omega
        exact Or.inr k2
/-- a beginning that is too short goes on by one of six figures -/
theorem pre_six {s : Sg_} {m : Nat} {u r : List Nat} (hr : RW_ s m r) (hu : u.length < m) : u <+: r ↔ ∃ g, g < 6 ∧ (u ++ [g]) <+: r := by
  constructor
  · rintro ⟨a, rfl⟩
    cases a with
    | nil =>
      have := hr.1
      rw [List.append_nil] at this
      omega
    | cons g a => exact ⟨g, (hr.2 g (List.mem_append_right _ List.mem_cons_self)).1, a, by rw [List.append_assoc]; rfl⟩
  · rintro ⟨g, _, k⟩
    exact (List.prefix_append _ _).trans k
theorem pre_end {s : Sg_} {m : Nat} {u r : List Nat} (hr : RW_ s m r) (hu : u.length = m) : u <+: r ↔ r = u := by
  constructor
  · rintro ⟨a, rfl⟩
    have := hr.1
    rw [List.length_append] at this
    have ha : a = [] := List.length_eq_zero_iff.mp (by omega)
    rw [ha, List.append_nil]
  · rintro rfl
    exact List.prefix_rfl
theorem ug_snoc {u : List Nat} {f : Nat} (hu : u.length < 8) : va_up (fun i => u.getD i 0) u.length f = fun i => (u ++ [f]).getD i 0 := funext fun i => by
  rw [vu_at, List.getD_eq_getElem?_getD, List.getD_eq_getElem?_getD]
  by_cases z : i = u.length
  · rw [if_pos z, z, List.getElem?_concat_length]
    rfl
  · rw [if_neg z]
    rcases Nat.lt_or_ge i u.length with y | y
    · rw [List.getElem?_append_left y]
    · rw [List.getElem?_eq_none y, List.getElem?_eq_none (by rw [List.length_append]; have h1 : ([f] : List Nat).length = 1 := rfl; omega)]
theorem ug_8 {s : Sg_} {u : List Nat} (hu : wok_ (may_ s) u) (i : Nat) : u.getD i 0 < 8 := by
  rw [List.getD_eq_getElem?_getD]
  cases e : u[i]? with
  | none => decide
  | some f =>
    have := (hu f (List.mem_of_getElem? e)).1
    show f < 8
    omega
