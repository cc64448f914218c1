-- ===== Past: what the goods that were seen tell =====
/-- the goods that were seen behind at most m figures stand as wanted -/
def sn_ (s : Sg_) (m : Nat) : Sg_ := sw_wa s (fun g => if (sg_si s).any (fun q => decide (q.1 ≤ m) && decide (q.2.1 = g)) then 0 else 8)
theorem sn_see {s : Sg_} {m g : Nat} : sg_wa (sn_ s m) g ≠ 8 ↔ ∃ q ∈ sg_si s, q.1 ≤ m ∧ q.2.1 = g := by
  show (if (sg_si s).any (fun q => decide (q.1 ≤ m) && decide (q.2.1 = g)) then 0 else 8) ≠ 8 ↔ _
  cases z : (sg_si s).any (fun q => decide (q.1 ≤ m) && decide (q.2.1 = g)) with
  | true =>
    rw [if_pos rfl]
    obtain ⟨q, h1, h2⟩ := List.any_eq_true.mp z
    rw [Bool.and_eq_true, decide_eq_true_iff, decide_eq_true_iff] at h2
    exact ⟨fun _ => ⟨q, h1, h2⟩, fun _ => by decide⟩
  | false =>
    rw [if_neg (by decide)]
    refine ⟨fun y => absurd rfl y, fun ⟨q, h1, h2, h3⟩ => ?_⟩
    have : (sg_si s).any (fun q => decide (q.1 ≤ m) && decide (q.2.1 = g)) = true := List.any_eq_true.mpr ⟨q, h1, by rw [Bool.and_eq_true, decide_eq_true_iff, decide_eq_true_iff]; exact ⟨h2, h3⟩⟩
    rw [z] at this
    cases this
/-- where the goods that were seen are -/
def ry_ (s : Sg_) (m : Nat) (u : Nat → Nat) : Nat → Nat := lw2_ (sn_ s m) u (sg_n s)
def kn_ (s : Sg_) (m : Nat) : Nat := (wl_ (sn_ s m) (sg_n s)).length
theorem kn_le (s : Sg_) (m : Nat) : kn_ s m ≤ sg_n s := wl_len _ _
theorem kn_6 {s : Sg_} (w : sg_wf s) (m : Nat) : kn_ s m ≤ 6 := by
  have h1 : (wl_ (sn_ s m) (sg_n s)).Nodup := List.Pairwise.filter _ List.nodup_range
  have h2 := nodup_le (l2 := (sg_si s).map (fun q => q.2.1)) h1 (fun g hg => by
    obtain ⟨q, a1, a2, a3⟩ := sn_see.mp (wl_mem.mp hg).2
    exact List.mem_map.mpr ⟨q, a1, a3⟩)
  rw [List.length_map] at h2
  have h3 := w.2.2.2.2.2.2.2.2.2.1
  unfold kn_
  omega
theorem ry_Lz {s : Sg_} {m : Nat} {u : Nat → Nat} (hu : IsP (sg_n s) u) : Lz_ (sg_n s) (kn_ s m) (ry_ s m u) := lw2_Lz (fun g hg _ => hu.1 g hg) (fun g g2 h1 h2 _ _ e => hu.2.1 g g2 h1 h2 e)
theorem ry_at {s : Sg_} {m g : Nat} {u v : Nat → Nat} (h : ry_ s m u = ry_ s m v) (hg : g < sg_n s) (h8 : sg_wa (sn_ s m) g ≠ 8) : u g = v g := by
  obtain ⟨i, hi⟩ := List.getElem?_of_mem (wl_mem.mpr ⟨hg, h8⟩)
  have hil := (List.getElem?_eq_some_iff.mp hi).1
  have e := wl_get hil
  rw [hi] at e
  have e2 := congrFun h i
  unfold ry_ lw2_ at e2
  rw [if_pos hil, if_pos hil, ← Option.some.inj e] at e2
  exact e2
theorem ry_ext {s : Sg_} {m : Nat} {u v : Nat → Nat} (h : ∀ g, g < sg_n s → sg_wa (sn_ s m) g ≠ 8 → u g = v g) : ry_ s m u = ry_ s m v := funext fun i => by
  unfold ry_ lw2_
  by_cases z : i < (wl_ (sn_ s m) (sg_n s)).length
  · rw [if_pos z, if_pos z]
    have := wl_mem.mp (List.mem_of_getElem? (wl_get z))
    exact h _ this.1 this.2
  · rw [if_neg z, if_neg z]
theorem ry_ft {s : Sg_} (w : sg_wf s) {m b : Nat} {u v : Nat → Nat} (hb : b ≤ m) (h : ry_ s m u = ry_ s m v) : ft_ s b u = ft_ s b v := by
  have key : ∀ {u v : Nat → Nat}, ry_ s m u = ry_ s m v → ft_ s b u = true → ft_ s b v = true := by
    intro u v h e
    unfold ft_ at e ⊢
    rw [List.all_eq_true] at e ⊢
    intro q hq
    have e1 := e q hq
    rw [Bool.or_eq_true, decide_eq_true_iff, decide_eq_true_iff] at e1 ⊢
    rcases e1 with y | y
    · exact Or.inl y
    · by_cases z : q.1 = b
      · right
        rw [← ry_at h (w.2.2.2.2.2.2.2.2.2.2.1 q hq).2.1 (sn_see.mpr ⟨q, hq, by omega, rfl⟩)]
        exact y
      · exact Or.inl z
  cases z : ft_ s b u with
  | true => exact (key h z).symm
  | false =>
    cases y : ft_ s b v with
    | false => rfl
    | true => rw [key h.symm y] at z; cases z
theorem ry_step {s : Sg_} {m f : Nat} {u : Nat → Nat} : nx2_ (kn_ s m) (mv_ s) (ry_ s m u) f = ry_ s m (fun g => mv_ s f (u g)) := funext fun i => by
  unfold nx2_ ry_ lw2_ kn_
  by_cases z : i < (wl_ (sn_ s m) (sg_n s)).length
  · rw [if_pos z, if_pos z, if_pos z]
  · rw [if_neg z, if_neg z]
theorem ry_nw {s : Sg_} (w : sg_wf s) {m : Nat} : ∀ k, k ≤ m → ∀ {u v : Nat → Nat}, ry_ s m u = ry_ s m v → nw_ s m k u = nw_ s m k v
  | 0, _, u, v, h => by
    unfold nw_
    rw [ry_ft w (Nat.le_refl m) h]
  | k + 1, hk, u, v, h => by
    unfold nw_
    rw [ry_ft w (by omega : m - (k + 1) ≤ m) h]
    have hs : sm_ (fun f => if may_ s f then nw_ s m k (fun g => mv_ s f (u g)) else 0) 6 = sm_ (fun f => if may_ s f then nw_ s m k (fun g => mv_ s f (v g)) else 0) 6 := sm_cong 6 (fun f _ => by
      (try dsimp only)
      rw [ry_nw w k (by omega) (u := fun g => mv_ s f (u g)) (v := fun g => mv_ s f (v g)) (by rw [← ry_step, ← ry_step, h])])
    rw [hs]
theorem ry_rn {s : Sg_} (w : sg_wf s) {m : Nat} (u : List Nat) : rn_ (nx2_ (kn_ s m) (mv_ s)) (ry_ s m (fun g => g)) u = ry_ s m (fun g => ac_ (mv_ s) u g) := by
  rw [rn_nx2 (ry_Lz (IsP.id _)) u]
  funext i
  unfold ry_ lw2_ kn_
  by_cases z : i < (wl_ (sn_ s m) (sg_n s)).length
  · rw [if_pos z, if_pos z, if_pos z]
  · rw [if_neg z, if_neg z]
/-- the lyings of the goods that were seen -/
noncomputable def qp_ (s : Sg_) (m t : Nat) : Bq_ (Nat → Nat) := bf_ (nx2_ (kn_ s m) (mv_ s)) (may_ s) (ry_ s m (fun g => g)) t
/-- all goods behind the word of an entry -/
def up_ (s : Sg_) (e : (Nat → Nat) × Nat × List Nat) : Nat → Nat := fun g => ac_ (mv_ s) e.2.2 g
theorem up_P {s : Sg_} (w : sg_wf s) (e : (Nat → Nat) × Nat × List Nat) : IsP (sg_n s) (up_ s e) := ac_P (mv_P w) e.2.2
theorem qp_e {s : Sg_} (w : sg_wf s) {m t : Nat} {e : (Nat → Nat) × Nat × List Nat} (he : e ∈ qp_ s m t) : e.1 = ry_ s m (up_ s e) ∧ wok_ (may_ s) e.2.2 := by
  obtain ⟨h1, h2⟩ := (bf_inv (st := nx2_ (kn_ s m) (mv_ s)) (ok := may_ s) (s0 := ry_ s m (fun g => g)) t).word e he
  exact ⟨h1.trans (ry_rn w e.2.2), h2⟩
theorem qp_0 {s : Sg_} {m t : Nat} : (qp_ s m t)[0]? = some (ry_ s m (fun g => g), 0, []) := (bf_inv t).zero
theorem qp_len {s : Sg_} (w : sg_wf s) (m t : Nat) : (qp_ s m t).length ≤ ce_ (sg_n s) (kn_ s m) := bfS_len (ok := may_ s) (mv_P w) (ry_Lz (IsP.id _)) t
theorem qp_inj {s : Sg_} {m t i j : Nat} {e e2 : (Nat → Nat) × Nat × List Nat} (h1 : (qp_ s m t)[i]? = some e) (h2 : (qp_ s m t)[j]? = some e2) (h : e.1 = e2.1) : i = j := by
  have hnd := (bf_inv (st := nx2_ (kn_ s m) (mv_ s)) (ok := may_ s) (s0 := ry_ s m (fun g => g)) t).nod
  exact (List.getElem?_inj (by rw [List.length_map]; exact (List.getElem?_eq_some_iff.mp h1).1) hnd).mp (by
    show ((qp_ s m t).map (·.1))[i]? = ((qp_ s m t).map (·.1))[j]?
    rw [List.getElem?_map, List.getElem?_map, h1, h2]
    show some e.1 = some e2.1
    rw [h])
/-- behind k figures where they can have been: words -/
theorem rc_word {s : Sg_} {m : Nat} : ∀ i u, rc_ s m i u → ∃ v, wok_ (may_ s) v ∧ u = fun g => ac_ (mv_ s) v g
  | 0, u, h => ⟨[], fun f hf => absurd hf List.not_mem_nil, h⟩
  | i + 1, v, h => by
    obtain ⟨u, f, h1, hf, ho, h2, _⟩ := h
    obtain ⟨x, hx, rfl⟩ := rc_word i u h1
    refine ⟨x ++ [f], fun q hq => ?_, ?_⟩
    · rcases List.mem_append.mp hq with y | y
      · exact hx q y
      · rw [List.mem_singleton] at y; rw [y]; exact ⟨hf, ho⟩
    · rw [h2]
      funext g
      rw [ac_snoc]
theorem qp_all {s : Sg_} (w : sg_wf s) {m t : Nat} (ht : 6 * (qp_ s m t).length ≤ t) {v : List Nat} (hv : wok_ (may_ s) v) : ∃ (j : Nat) (e : (Nat → Nat) × Nat × List Nat), (qp_ s m t)[j]? = some e ∧ e.1 = ry_ s m (fun g => ac_ (mv_ s) v g) := by
  obtain ⟨e, h1, h2, _⟩ := bf_all (st := nx2_ (kn_ s m) (mv_ s)) (ok := may_ s) (s0 := ry_ s m (fun g => g)) ht v hv
  obtain ⟨j, hj⟩ := List.getElem?_of_mem h1
  exact ⟨j, e, hj, h2.trans (ry_rn w v)⟩
