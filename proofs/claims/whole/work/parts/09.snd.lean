-- ===== WHAT THE PURE MACHINE SAYS IS SO: the relation between its states and the real ones =====
def sd_re (ad : Nat → Nat) (v : Value) : Value := match v with
  | .ref i => .ref (ad i)
  | v => v
def sd_fv (h : Hp_) (ad : Nat → Nat) (o k t : Nat) : Value := if t = 0 then .int (hp_I h o k) else if t = 1 then .long (hp_J h o k) else if hp_R h o k = 0 then .null else .ref (ad (hp_R h o k))
def sd_fs (h : Hp_) (ad : Nat → Nat) (o a : Nat) : List Value := (List.range (tt_c a).2.2).map (fun k => sd_fv h ad o k (tt_k a k))
def sd_ce (cy : Nat → ClassId) (h : Hp_) (ad : Nat → Nat) (o : Nat) : va_E :=
  if hp_kd h o = 1 ∨ hp_kd h o = 3 then .inl (cy (hp_kd h o), hp_ln h o, .inl (hp_I h o))
  else if hp_kd h o = 2 then .inl (cy 2, hp_ln h o, .inr (.inl (hp_J h o)))
  else .inr (hp_kd h o - 10, sd_fs h ad o (hp_kd h o - 10))
def sd_w (cy : Nat → ClassId) (h : Hp_) (ad : Nat → Nat) : va_W := (List.range (hp_nx h)).map (fun k => (ad (k + 1), sd_ce cy h ad (k + 1)))
def sd_wf (h : Hp_) : Prop := (∀ c k, hp_R h c k ≤ hp_nx h) ∧ (∀ c, hp_kd h c ≠ 0 → 1 ≤ c ∧ c ≤ hp_nx h)
def sd_vf (n : Nat) (v : Value) : Prop := match v with
  | .ref i => i ≤ n
  | _ => True
def sd_as (ad : Nat → Nat) (L : Lc_) : List (Nat × Value) := (List.range L.length).filterMap (fun k => match L[k]? with
  | some (some v) => some (k, sd_re ad v)
  | _ => none)
def sd_tys (cy : Nat → ClassId) : List (ClassId × FieldType) := [(cy 1, .int), (cy 2, .long), (cy 3, .boolean)]
/-- the words of nest mates -/
def sd_NW (U : State) : Prop := (∀ r ∈ tt_rF, r.2.2.2.2.1 ≠ 0 → va_Nw (sd_wF r) U) ∧ ∀ r ∈ tt_rM, r.2.2.2.1 = 1 → va_Nw (sd_wM r) U
theorem sd_NW.warm {s U : State} (hW : s.WarmedH U.vm) (h : sd_NW s) : sd_NW U := by
  refine ⟨fun r hr hd => ?_, fun r hr hd => ?_⟩
  · have h1 := h.1 r hr hd
    obtain ⟨o, idx, a, b, d, k⟩ := r
    simp only [sd_wF] at hd h1 ⊢
    rw [if_neg hd] at h1 ⊢
    exact va_Nw.warmF hW h1
  · have h1 := h.2 r hr hd
    obtain ⟨o, idx, a, d, k⟩ := r
    simp only [sd_wM] at hd h1 ⊢
    subst hd
    exact va_Nw.warmM hW h1
theorem sd_NW.same {u U : State} (hv : u.vm = U.vm) (h : sd_NW u) : sd_NW U := by
  refine ⟨fun r hr hd => ?_, fun r hr hd => ?_⟩
  · have h1 := h.1 r hr hd
    obtain ⟨o, idx, a, b, d, k⟩ := r
    simp only [sd_wF] at hd h1 ⊢
    rw [if_neg hd] at h1 ⊢
    exact va_Nw.same rfl hv h1
  · have h1 := h.2 r hr hd
    obtain ⟨o, idx, a, d, k⟩ := r
    simp only [sd_wM] at hd h1 ⊢
    subst hd
    exact va_Nw.same rfl hv h1
def sd_Fix (p : Program) (s : State) (m : MethodId) (args : Array Value) (meth : Method) (c : Code) (cc : ByteArray) (nL o : Nat) (ini : Bool) (D : va_G) (cy : Nat → ClassId) : Prop :=
  p.tables.exec = Jvm.exec ∧ c.code = cc ∧ c.maxLocals = nL ∧ s.vm.findClass (tt_name o) = some m.cls ∧ (∀ w ∈ sd_WS, w.before args s = true) ∧ sd_NW s ∧ va_K D tt_cls (sd_tys cy) s ∧ (ini = true → meth.name = "<init>")
def sd_Sc (sc : Sc_) (A : Nat → Prop) (H0 : Heap) (s : State) (b : Nat) : Prop := match sc with
  | none => True
  | some (z, f) => va_X b z f s H0 ∧ b < H0.size ∧ ¬ A b
def sd_Rel (D : va_G) (cy : Nat → ClassId) (ad0 : Nat → Nat) (n0 s0 : Nat) (A : Nat → Prop) (H0 : Heap) (nL : Nat) (L : Lc_) (st : List Value) (h : Hp_) (ad : Nat → Nat) (H : Heap) (locs : List Loc) (ls : Array Slot) : Prop :=
  sd_wf h ∧ (∀ v, some v ∈ L → sd_vf (hp_nx h) v) ∧ (∀ v ∈ st, sd_vf (hp_nx h) v) ∧ n0 ≤ hp_nx h ∧ s0 ≤ hp_sl h ∧ (∀ i, i ≤ n0 → ad i = ad0 i) ∧ va_P D tt_cls (sd_w cy h ad) H ∧ va_D A (sd_w cy h ad) ∧ va_S A H0 H locs ∧ L.length = nL ∧ lv_has ls nL (sd_as ad L)
section SDG
variable {p : Program} {l : Launch} {e : Env} {R : Room} {s : State} {m : MethodId} {args : Array Value} {below : List Frame} {meth : Method} {c : Code} {Q : State → Prop}
/-- from every real state that stands for this one, the goal is come to -/
def sd_G (p : Program) (l : Launch) (e : Env) (R : Room) (s : State) (m : MethodId) (args : Array Value) (below : List Frame) (meth : Method) (c : Code) (Q : State → Prop) (D : va_G) (cy : Nat → ClassId) (ad0 : Nat → Nat) (n0 s0 : Nat) (A : Nat → Prop) (H0 : Heap) (nL : Nat) (pc : Nat) (L : Lc_) (st : List Value) (h : Hp_) : Prop :=
  ∀ (ad : Nat → Nat) (H : Heap) (locs : List Loc) (ls : Array Slot), sd_Rel D cy ad0 n0 s0 A H0 nL L st h ad H locs ls → W p l e R s m args below meth c H locs (hp_nx h - n0) (hp_sl h - s0) Q (F0 m pc ls (st.map (sd_re ad)))
end SDG
-- ---- pure facts
theorem sd_as_mem {ad : Nat → Nat} {L : Lc_} {k : Nat} {v : Value} (h : L[k]? = some (some v)) : (k, sd_re ad v) ∈ sd_as ad L := by
  refine List.mem_filterMap.mpr ⟨k, List.mem_range.mpr ?_, ?_⟩
  · exact (List.getElem?_eq_some_iff.mp h).1
  · rw [h]
theorem sd_as_of {ad : Nat → Nat} {L : Lc_} {q : Nat × Value} (h : q ∈ sd_as ad L) : ∃ v, L[q.1]? = some (some v) ∧ q.2 = sd_re ad v := by
  obtain ⟨k, -, hk⟩ := List.mem_filterMap.mp h
  revert hk
  split
  · rename_i v hv
    intro hk
    cases hk
    exact ⟨v, hv, rfl⟩
  · intro hk
    cases hk
theorem sd_at {ad : Nat → Nat} {ls : Array Slot} {nL : Nat} {L : Lc_} {k : Nat} {v : Value} (hl : lv_has ls nL (sd_as ad L)) (h : L[k]? = some (some v)) : ls[k]? = some (.val (sd_re ad v)) := hl.2.2 _ (sd_as_mem h)
theorem sd_has {ls : Array Slot} {nL : Nat} {l l' : List (Nat × Value)} (h : lv_has ls nL l) (hs : ∀ q ∈ l', q ∈ l) : lv_has ls nL l' := ⟨h.1, h.2.1, fun q hq => h.2.2 q (hs q hq)⟩
theorem sd_re_cat (ad : Nat → Nat) (v : Value) : (sd_re ad v).category = v.category := by cases v <;> rfl
theorem sd_kill_get {L : Lc_} {i k : Nat} {v : Value} (h : (pm_kill L i)[k]? = some (some v)) : L[k]? = some (some v) ∧ ¬ (k + 1 = i ∧ v.category = 2) := by
  unfold pm_kill at h
  cases i with
  | zero => exact ⟨h, fun z => by omega⟩
  | succ j =>
    dsimp only at h
    split at h
    · rename_i x hx
      split at h
      · by_cases hk : j = k
        · subst hk
          rw [List.getElem?_set_self (List.getElem?_eq_some_iff.mp hx).1] at h
          cases h
        · rw [List.getElem?_set_ne hk] at h
          exact ⟨h, fun z => hk (by omega)⟩
      · rename_i hn
        refine ⟨h, fun z => ?_⟩
        have hkj : k = j := by omega
        subst hkj
        rw [hx] at h
        cases h
        exact hn z.2
    · rename_i hn
      refine ⟨h, fun z => ?_⟩
      have hkj : k = j := by omega
      subst hkj
      exact hn v h
theorem sd_kill_len (L : Lc_) (i : Nat) : (pm_kill L i).length = L.length := by
  unfold pm_kill
  split
  · rfl
  · split
    · split
      · exact List.length_set
      · rfl
    · rfl
theorem sd_st_len (L : Lc_) (i : Nat) (v : Value) : (pm_st L i v).length = L.length := by rw [pm_st, List.length_set, sd_kill_len]
theorem sd_stJ_len (L : Lc_) (i : Nat) (v : Value) : (pm_stJ L i v).length = L.length := by rw [pm_stJ, List.length_set, List.length_set, sd_kill_len]
theorem sd_kill_mem {L : Lc_} {i : Nat} {v : Value} (h : some v ∈ pm_kill L i) : some v ∈ L := by
  obtain ⟨k, hk⟩ := List.getElem?_of_mem h
  exact List.mem_of_getElem? (sd_kill_get hk).1
theorem sd_set_mem {L : Lc_} {i : Nat} {v w : Value} (h : some v ∈ L.set i (some w)) : v = w ∨ some v ∈ L := by
  rcases List.mem_or_eq_of_mem_set h with h | h
  · exact Or.inr h
  · exact Or.inl (Option.some.inj h)
theorem sd_setn_mem {L : Lc_} {i : Nat} {v : Value} (h : some v ∈ L.set i none) : some v ∈ L := by
  rcases List.mem_or_eq_of_mem_set h with h | h
  · exact h
  · cases h
/-- a word put into the locals -/
theorem sd_put {ad : Nat → Nat} {ls : Array Slot} {nL i : Nat} {L : Lc_} {v : Value} (hl : lv_has ls nL ((i, sd_re ad v) :: (sd_as ad L).filter (fun q => !(q.1 == i) && !(q.1 + 1 == i && q.2.category == 2)))) : lv_has ls nL (sd_as ad (pm_st L i v)) := by
  refine sd_has hl (fun q hq => ?_)
  obtain ⟨w, h1, h2⟩ := sd_as_of hq
  rw [pm_st, List.getElem?_set] at h1
  split at h1
  · rename_i hi
    split at h1
    · cases h1
      refine List.mem_cons.mpr (Or.inl ?_)
      rw [← h2, hi]
    · cases h1
  · rename_i hi
    obtain ⟨h3, h4⟩ := sd_kill_get h1
    refine List.mem_cons.mpr (Or.inr (List.mem_filter.mpr ⟨?_, ?_⟩))
    · have := sd_as_mem (ad := ad) h3
      rw [← h2] at this
      exact this
    · have h5 : ¬ (q.1 == i) = true := by simp; exact fun z => hi z.symm
      have h6 : ¬ (q.1 + 1 == i && q.2.category == 2) = true := by
        rw [h2, sd_re_cat]
        simp
        exact fun z1 z2 => h4 ⟨z1, z2⟩
      simp only [Bool.not_eq_true] at h5 h6
      rw [h5, h6]
      rfl
theorem sd_putJ {ad : Nat → Nat} {ls : Array Slot} {nL i : Nat} {L : Lc_} {v : Value} (hl : lv_has ls nL ((i, sd_re ad v) :: (sd_as ad L).filter (fun q => !(q.1 == i) && (!(q.1 == i + 1) && !(q.1 + 1 == i && q.2.category == 2))))) : lv_has ls nL (sd_as ad (pm_stJ L i v)) := by
  refine sd_has hl (fun q hq => ?_)
  obtain ⟨w, h1, h2⟩ := sd_as_of hq
  rw [pm_stJ, List.getElem?_set] at h1
  split at h1
  · split at h1 <;> cases h1
  · rename_i hi1
    rw [List.getElem?_set] at h1
    split at h1
    · rename_i hi
      split at h1
      · cases h1
        refine List.mem_cons.mpr (Or.inl ?_)
        rw [← h2, hi]
      · cases h1
    · rename_i hi
      obtain ⟨h3, h4⟩ := sd_kill_get h1
      refine List.mem_cons.mpr (Or.inr (List.mem_filter.mpr ⟨?_, ?_⟩))
      · have := sd_as_mem (ad := ad) h3
        rw [← h2] at this
        exact this
      · have h5 : ¬ (q.1 == i) = true := by simp; exact fun z => hi z.symm
        have h7 : ¬ (q.1 == i + 1) = true := by simp; exact fun z => hi1 z.symm
        have h6 : ¬ (q.1 + 1 == i && q.2.category == 2) = true := by
          rw [h2, sd_re_cat]
          simp
          exact fun z1 z2 => h4 ⟨z1, z2⟩
        simp only [Bool.not_eq_true] at h5 h6 h7
        rw [h5, h6, h7]
        rfl
-- ---- the world
theorem sd_w_at {cy : Nat → ClassId} {h : Hp_} {ad : Nat → Nat} {o : Nat} (h1 : 1 ≤ o) (h2 : o ≤ hp_nx h) : (sd_w cy h ad)[o - 1]? = some (ad o, sd_ce cy h ad o) := by
  unfold sd_w
  rw [List.getElem?_map, List.getElem?_range (by omega)]
  simp only [Option.map_some]
  rw [Nat.sub_add_cancel h1]
theorem sd_w_of {cy : Nat → ClassId} {h : Hp_} {ad : Nat → Nat} {k : Nat} {q : Nat × va_E} (hk : (sd_w cy h ad)[k]? = some q) : k < hp_nx h ∧ q = (ad (k + 1), sd_ce cy h ad (k + 1)) := by
  unfold sd_w at hk
  rw [List.getElem?_map] at hk
  cases hr : (List.range (hp_nx h))[k]? with
  | none => rw [hr] at hk; cases hk
  | some j =>
    rw [hr] at hk
    obtain ⟨h1, h2⟩ := List.getElem?_eq_some_iff.mp hr
    rw [List.length_range] at h1
    rw [List.getElem_range] at h2
    cases h2
    cases hk
    exact ⟨h1, rfl⟩
theorem sd_w_len (cy : Nat → ClassId) (h : Hp_) (ad : Nat → Nat) : (sd_w cy h ad).length = hp_nx h := by simp [sd_w]
theorem sd_ceO {cy : Nat → ClassId} {h : Hp_} {ad : Nat → Nat} {o a : Nat} (hk : hp_kd h o = a + 10) : sd_ce cy h ad o = .inr (a, sd_fs h ad o a) := by
  unfold sd_ce
  rw [hk, if_neg (by omega), if_neg (by omega), Nat.add_sub_cancel]
theorem sd_ceI {cy : Nat → ClassId} {h : Hp_} {ad : Nat → Nat} {o : Nat} (hk : hp_kd h o = 1) : sd_ce cy h ad o = .inl (cy 1, hp_ln h o, .inl (hp_I h o)) := by
  unfold sd_ce
  rw [hk, if_pos (Or.inl rfl)]
theorem sd_ceZ {cy : Nat → ClassId} {h : Hp_} {ad : Nat → Nat} {o : Nat} (hk : hp_kd h o = 3) : sd_ce cy h ad o = .inl (cy 3, hp_ln h o, .inl (hp_I h o)) := by
  unfold sd_ce
  rw [hk, if_pos (Or.inr rfl)]
theorem sd_ceJ {cy : Nat → ClassId} {h : Hp_} {ad : Nat → Nat} {o : Nat} (hk : hp_kd h o = 2) : sd_ce cy h ad o = .inl (cy 2, hp_ln h o, .inr (.inl (hp_J h o))) := by
  unfold sd_ce
  rw [hk, if_neg (by omega), if_pos rfl]
/-- one cell's contents changed -/
theorem sd_w_set {cy : Nat → ClassId} {h h' : Hp_} {ad : Nat → Nat} {o : Nat} (h1 : 1 ≤ o) (hn : hp_nx h' = hp_nx h) (hother : ∀ q, q ≠ o → sd_ce cy h' ad q = sd_ce cy h ad q) : (sd_w cy h ad).set (o - 1) (ad o, sd_ce cy h' ad o) = sd_w cy h' ad := by
  refine List.ext_getElem? (fun k => ?_)
  rw [List.getElem?_set]
  by_cases hk : o - 1 = k
  · rw [if_pos hk, sd_w_len]
    by_cases hl : o - 1 < hp_nx h
    · rw [if_pos hl, ← hk]
      exact (sd_w_at h1 (by omega)).symm
    · rw [if_neg hl]
      refine (List.getElem?_eq_none ?_).symm
      rw [sd_w_len]
      omega
  · rw [if_neg hk]
    by_cases hl : k < hp_nx h
    · have e1 := sd_w_at (cy := cy) (h := h) (ad := ad) (o := k + 1) (by omega) (by omega)
      have e2 := sd_w_at (cy := cy) (h := h') (ad := ad) (o := k + 1) (by omega) (by omega)
      rw [Nat.add_sub_cancel] at e1 e2
      rw [e1, e2, hother (k + 1) (by omega)]
    · rw [List.getElem?_eq_none (by rw [sd_w_len]; omega), List.getElem?_eq_none (by rw [sd_w_len]; omega)]
