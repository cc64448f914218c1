-- ===== a memo's run; the key of Shortest =====
/-- c parts of the key K have been told over the old parts P; fl: does it stand still -/
def MQ_ (P : Nat → Int32) (st : Bool) (K : Nat → Int32) (c : Nat) (P2 : Nat → Int32) (fl : Bool) : Prop := (∀ j, j < c → P2 j = K j) ∧ (∀ j, c ≤ j → P2 j = P j) ∧ (fl = true → st = true ∧ ∀ j, j < c → P j = K j)
theorem MQ_0 (P : Nat → Int32) (st : Bool) (K : Nat → Int32) : MQ_ P st K 0 P st := ⟨fun j hj => absurd hj (Nat.not_lt_zero j), fun _ _ => rfl, fun h => ⟨h, fun j hj => absurd hj (Nat.not_lt_zero j)⟩⟩
theorem MQ_part {P K P2 : Nat → Int32} {st fl : Bool} {c : Nat} {x : Int32} (hx : K c = x) (Q : MQ_ P st K c P2 fl) : MQ_ P st K (c + 1) (va_up P2 c x) (fl && decide (P2 c = x)) := by
  obtain ⟨q1, q2, q3⟩ := Q
  refine ⟨fun j hj => ?_, fun j hj => ?_, fun h => ?_⟩
  · rw [vu_at]
    by_cases z : j = c
    · rw [if_pos z, z, hx]
    · rw [if_neg z]; exact q1 j (by omega)
  · rw [vu_at, if_neg (by omega)]; exact q2 j (by omega)
  · rw [Bool.and_eq_true] at h
    obtain ⟨h1, h2⟩ := q3 h.1
    refine ⟨h1, fun j hj => ?_⟩
    by_cases z : j = c
    · rw [z, ← q2 c (Nat.le_refl c), of_decide_eq_true h.2, hx]
    · exact h2 j (by omega)
theorem mS_all {P : Nat → Int32} {c : Nat} {v : Nat → Int32} : ∀ m, mS_ P c v m = true → ∀ i, i < m → P (c + i) = v i
  | 0, _, i, hi => absurd hi (Nat.not_lt_zero i)
  | m + 1, h, i, hi => by
    rw [mS_, Bool.and_eq_true] at h
    rcases Nat.lt_or_ge i m with z | z
    · exact mS_all m h.1 i z
    · obtain rfl : i = m := by omega
      exact of_decide_eq_true h.2
theorem MQ_row {P K P2 : Nat → Int32} {st fl : Bool} {c m : Nat} {v : Nat → Int32} (hv : ∀ i, i < m → K (c + i) = v i) (Q : MQ_ P st K c P2 fl) : MQ_ P st K (c + m) (mP_ P2 c v m) (fl && mS_ P2 c v m) := by
  obtain ⟨q1, q2, q3⟩ := Q
  refine ⟨fun j hj => ?_, fun j hj => ?_, fun h => ?_⟩
  · unfold mP_
    by_cases z : c ≤ j ∧ j < c + m
    · rw [if_pos z, ← hv (j - c) (by omega)]
      exact congrArg K (by omega)
    · rw [if_neg z]; exact q1 j (by omega)
  · unfold mP_
    rw [if_neg (by omega)]
    exact q2 j (by omega)
  · rw [Bool.and_eq_true] at h
    obtain ⟨h1, h2⟩ := q3 h.1
    refine ⟨h1, fun j hj => ?_⟩
    rcases Nat.lt_or_ge j c with z | z
    · exact h2 j z
    · have e := mS_all m h.2 (j - c) (by omega)
      rw [show c + (j - c) = j by omega] at e
      rw [← q2 j z, e, ← hv (j - c) (by omega)]
      exact congrArg K (by omega)
/-- a memo as it is: its parts, and whether it stands -/
def MM_ (h : Hp_) (o : Nat) (P : Nat → Int32) (st : Bool) : Prop := ∃ c, hp_I h (o + 1) = P ∧ hp_I h o 1 = nI c ∧ hp_I h o 2 = bo_ st
theorem mm_MM (h : Hp_) (o : Nat) (P : Nat → Int32) (c : Nat) (st : Bool) : MM_ (mm_ h o P c st) o P st := ⟨c, mm_I1 h o P c st, by rw [mm_I0, sd_up_ne (by decide), sd_up_eq], by rw [mm_I0, sd_up_eq]⟩
/-- begun anew -/
theorem mm_begin {h : Hp_} {o : Nat} {P : Nat → Int32} {st : Bool} (M : MM_ h o P st) : hp_rI h o (va_up (hp_I h o) 1 (nI 0)) = mm_ h o P 0 st := by
  obtain ⟨c, h1, h2, h3⟩ := M
  unfold mm_
  rw [← h1, hp_rI_self]
  refine congrArg (hp_rI h o) (funext fun j => ?_)
  rw [vu_at, vu_at]
  by_cases z : j = 2
  · rw [if_pos z, if_neg (by omega), z, h3]
  · rw [if_neg z]
    rfl
theorem fr_mm {h h1 : Hp_} {o : Nat} {P : Nat → Int32} {c : Nat} {s : Bool} (Q : Nat → Prop) (h0 : Q o) (h2 : Q (o + 1)) (f : fr_ Q h h1) : fr_ Q h (mm_ h1 o P c s) := fr_row h0 (fr_row h2 f)
-- the key of Shortest
/-- the wanted goods -/
def wl_ (s : Sg_) (n : Nat) : List Nat := (List.range n).filter (fun g => decide (sg_wa s g ≠ 8))
/-- a row of places of the wanted goods -/
def lw2_ (s : Sg_) (p : Nat → Nat) (n : Nat) : Nat → Nat := fun i => if i < (wl_ s n).length then p ((wl_ s n).getD i 0) else 0
theorem wl_succ (s : Sg_) (n : Nat) : wl_ s (n + 1) = wl_ s n ++ (if sg_wa s n ≠ 8 then [n] else []) := by
  unfold wl_
  rw [List.range_succ, List.filter_append]
  by_cases z : sg_wa s n ≠ 8
  · rw [if_pos z, List.filter_cons_of_pos (p := fun g => decide (sg_wa s g ≠ 8)) (show (fun g => decide (sg_wa s g ≠ 8)) n = true from decide_eq_true z), List.filter_nil]
  · rw [if_neg z, List.filter_cons_of_neg (p := fun g => decide (sg_wa s g ≠ 8)) (show ¬ (fun g => decide (sg_wa s g ≠ 8)) n = true from fun q => z (of_decide_eq_true q)), List.filter_nil]
theorem wl_len (s : Sg_) (n : Nat) : (wl_ s n).length ≤ n := by
  have := List.length_filter_le (fun g => decide (sg_wa s g ≠ 8)) (List.range n)
  rw [List.length_range] at this
  exact this
theorem wl_mem {s : Sg_} {n g : Nat} : g ∈ wl_ s n ↔ g < n ∧ sg_wa s g ≠ 8 := by
  unfold wl_
  rw [List.mem_filter, List.mem_range, decide_eq_true_iff]
theorem wl_get {s : Sg_} {n i : Nat} (hi : i < (wl_ s n).length) : (wl_ s n)[i]? = some ((wl_ s n).getD i 0) := by
  rw [List.getD_eq_getElem?_getD, List.getElem?_eq_getElem hi]
  rfl
theorem wl_inj {s : Sg_} {n i j : Nat} (hi : i < (wl_ s n).length) (hj : j < (wl_ s n).length) (e : (wl_ s n).getD i 0 = (wl_ s n).getD j 0) : i = j := by
  have hp : (wl_ s n).Pairwise (fun a b => a < b) := List.Pairwise.filter _ List.pairwise_lt_range
  have e1 := wl_get hi
  have e2 := wl_get hj
  rw [List.getElem?_eq_getElem hi] at e1
  rw [List.getElem?_eq_getElem hj] at e2
  have e3 : (wl_ s n)[i]'hi = (wl_ s n)[j]'hj := (Option.some.inj e1).trans (e.trans (Option.some.inj e2).symm)
  rcases Nat.lt_trichotomy i j with q | q | q
  · have := List.pairwise_iff_getElem.mp hp i j hi hj q; omega
  · exact q
  · have := List.pairwise_iff_getElem.mp hp j i hj hi q; omega
theorem lw2_Lz {s : Sg_} {p : Nat → Nat} {n : Nat} (h1 : ∀ g, g < n → sg_wa s g ≠ 8 → p g < n) (h2 : ∀ g g2, g < n → g2 < n → sg_wa s g ≠ 8 → sg_wa s g2 ≠ 8 → p g = p g2 → g = g2) : Lz_ n (wl_ s n).length (lw2_ s p n) := by
  refine ⟨⟨fun i hi => ?_, fun i j hi hj e => ?_⟩, fun i hi => if_neg (by omega)⟩
  · have hm := wl_mem.mp (List.mem_of_getElem? (wl_get hi))
    unfold lw2_
    rw [if_pos hi]
    exact h1 _ hm.1 hm.2
  · have hm := wl_mem.mp (List.mem_of_getElem? (wl_get hi))
    have hm2 := wl_mem.mp (List.mem_of_getElem? (wl_get hj))
    unfold lw2_ at e
    rw [if_pos hi, if_pos hj] at e
    exact wl_inj hi hj (h2 _ _ hm.1 hm2.1 hm.2 hm2.2 e)
theorem lw2_next {s : Sg_} {p : Nat → Nat} {n : Nat} (hw : sg_wa s n ≠ 8) : va_up (lw2_ s p n) (wl_ s n).length (p n) = lw2_ s p (n + 1) := funext fun i => by
  have e : wl_ s (n + 1) = wl_ s n ++ [n] := by rw [wl_succ, if_pos hw]
  unfold lw2_
  rw [vu_at, e, List.length_append]
  by_cases z : i = (wl_ s n).length
  · rw [if_pos z, if_pos (by rw [z]; exact Nat.lt_succ_self _), z, List.getD_eq_getElem?_getD, List.getElem?_concat_length]
    rfl
  · rw [if_neg z]
    by_cases y : i < (wl_ s n).length
    · rw [if_pos y, if_pos (show i < (wl_ s n).length + [n].length from Nat.lt_succ_of_lt y), List.getD_eq_getElem?_getD, List.getD_eq_getElem?_getD, List.getElem?_append_left y]
    · rw [if_neg y, if_neg (fun w => by have w2 : i < (wl_ s n).length + 1 := w; omega)]
theorem wl_same {s : Sg_} {n : Nat} (hw : ¬ sg_wa s n ≠ 8) : wl_ s (n + 1) = wl_ s n := by rw [wl_succ, if_neg hw, List.append_nil]
/-- where the wanted goods are; where they are wanted -/
def sl_ (s : Sg_) : Nat → Nat := lw2_ s (sg_pos s) (sg_n s)
def gl_ (s : Sg_) : Nat → Nat := lw2_ s (sg_wa s) (sg_n s)
def kw_ (s : Sg_) : Nat := (wl_ s (sg_n s)).length
theorem sl_Lz {s : Sg_} (w : sg_wf s) : Lz_ (sg_n s) (kw_ s) (sl_ s) := lw2_Lz (fun g hg _ => w.2.1.1 g hg) (fun g g2 h1 h2 _ _ e => w.2.1.2.1 g g2 h1 h2 e)
theorem gl_Lz {s : Sg_} (w : sg_wf s) : Lz_ (sg_n s) (kw_ s) (gl_ s) := lw2_Lz (fun g hg h8 => by rcases w.2.2.2.2.2.2.2.1.1 g with z | z; exact z; exact absurd z h8) (fun g g2 _ _ h8 _ e => w.2.2.2.2.2.2.2.1.2.1 g g2 e h8)
def kS_ (s : Sg_) (j : Nat) : Int32 := if j < 6 then ms_ s j else if j = 6 then nI (sg_n s) else if j = 7 then nI (kw_ s) else if j = 8 then nI (pq_ (sl_ s) 8) else nI (pq_ (gl_ s) 8)
/-- the moves are told by their row -/
theorem ms_same {s s2 : Sg_} (w : sg_wf s) (w2 : sg_wf s2) (h : ∀ f, f < 6 → ms_ s f = ms_ s2 f) {f : Nat} (hf : f < 6) : may_ s f = may_ s2 f ∧ (may_ s f = true → mv_ s f = mv_ s2 f) := by
  have e := h f hf
  have h1 := ms_may w f
  have h2 := ms_may w2 f
  have hm : may_ s f = may_ s2 f := by
    cases a : may_ s f with
    | false => rw [h1.mpr a] at e; exact (h2.mp e.symm).symm
    | true =>
      cases b : may_ s2 f with
      | true => rfl
      | false => rw [h2.mpr b] at e; rw [h1.mp e] at a; cases a
  refine ⟨hm, fun a => ?_⟩
  unfold ms_ at e
  rw [← hm, a, if_pos rfl, if_pos rfl] at e
  have l1 := pq_lt24 (mv8 w f)
  have l2 := pq_lt24 (mv8 w2 f)
  have e2 := pq_inj (mv8 w f) (mv8 w2 f) (nI_inj (by omega) (by omega) e)
  funext p
  rcases Nat.lt_or_ge p 8 with q | q
  · exact e2 p q
  · rw [(mv_P8 w f).2.2 p q, (mv_P8 w2 f).2.2 p q]
theorem kS_same {s s2 : Sg_} (w : sg_wf s) (w2 : sg_wf s2) (h : ∀ j, j < 10 → kS_ s j = kS_ s2 j) : (∀ f, f < 6 → ms_ s f = ms_ s2 f) ∧ sg_n s = sg_n s2 ∧ kw_ s = kw_ s2 ∧ sl_ s = sl_ s2 ∧ gl_ s = gl_ s2 := by
  have n1 := w.1.2
  have n2 := w2.1.2
  have k1 := wl_len s (sg_n s)
  have k2 := wl_len s2 (sg_n s2)
  have a := h 6 (by omega)
  have b := h 7 (by omega)
  have c := h 8 (by omega)
  have d := h 9 (by omega)
  have en : sg_n s = sg_n s2 := nI_inj (by omega) (by omega) a
  have ek : kw_ s = kw_ s2 := nI_inj (by unfold kw_; omega) (by unfold kw_; omega) b
  have S1 := sl_Lz w
  have S2 := sl_Lz w2
  have G1 := gl_Lz w
  have G2 := gl_Lz w2
  have ext : ∀ (u v : Nat → Nat), Lz_ (sg_n s) (kw_ s) u → Lz_ (sg_n s2) (kw_ s2) v → nI (pq_ u 8) = nI (pq_ v 8) → u = v := by
    intro u v U V e
    have u8 := Lz_8 n1 (by have := w.1.1; omega) U
    have v8 := Lz_8 n2 (by have := w2.1.1; omega) V
    have l1 := pq_lt24 u8
    have l2 := pq_lt24 v8
    have e2 := pq_inj u8 v8 (nI_inj (by omega) (by omega) e)
    funext i
    rcases Nat.lt_or_ge i 8 with q | q
    · exact e2 i q
    · rw [U.2 i (by unfold kw_; omega), V.2 i (by unfold kw_; omega)]
  exact ⟨fun f hf => by
    have := h f (by omega)
    unfold kS_ at this
    rw [if_pos hf, if_pos hf] at this
    exact this, en, ek, ext _ _ S1 S2 c, ext _ _ G1 G2 d⟩
/-- all wanted are there, by the key's words -/
theorem WT_kS {s : Sg_} (u : List Nat) : WT_ s u ↔ ∀ i, i < kw_ s → ac_ (mv_ s) u (sl_ s i) = gl_ s i := by
  constructor
  · intro h i hi
    have hm := wl_mem.mp (List.mem_of_getElem? (wl_get hi))
    unfold sl_ gl_ lw2_
    rw [if_pos (show i < (wl_ s (sg_n s)).length from hi), if_pos (show i < (wl_ s (sg_n s)).length from hi)]
    exact h _ hm.1 hm.2
  · intro h g hg h8
    obtain ⟨i, hi⟩ := List.getElem?_of_mem (wl_mem.mpr ⟨hg, h8⟩)
    have hil := (List.getElem?_eq_some_iff.mp hi).1
    have e := wl_get hil
    rw [hi] at e
    have := h i hil
    unfold sl_ gl_ lw2_ at this
    rw [if_pos hil, if_pos hil, ← Option.some.inj e] at this
    exact this
theorem ac_cong {mv mv2 : Nat → Nat → Nat} : ∀ (u : List Nat) (p : Nat), (∀ f ∈ u, mv f = mv2 f) → ac_ mv u p = ac_ mv2 u p
  | [], _, _ => rfl
  | f :: u, p, h => by
    show ac_ mv u (mv f p) = ac_ mv2 u (mv2 f p)
    rw [h f List.mem_cons_self]
    exact ac_cong u _ (fun g hg => h g (List.mem_cons_of_mem _ hg))
theorem wok_cong {ok ok2 : Nat → Bool} (h : ∀ f, f < 6 → ok f = ok2 f) (u : List Nat) : wok_ ok u ↔ wok_ ok2 u := ⟨fun z f hf => ⟨(z f hf).1, by rw [← h f (z f hf).1]; exact (z f hf).2⟩, fun z f hf => ⟨(z f hf).1, by rw [h f (z f hf).1]; exact (z f hf).2⟩⟩
theorem FW_same {s s2 : Sg_} (w : sg_wf s) (w2 : sg_wf s2) (h : ∀ j, j < 10 → kS_ s j = kS_ s2 j) {o : Option (List Nat)} (F : FW_ s o) : FW_ s2 o := by
  obtain ⟨hm, hn, hk, hs, hg⟩ := kS_same w w2 h
  have hok : ∀ u, wok_ (may_ s) u ↔ wok_ (may_ s2) u := wok_cong (fun f hf => (ms_same w w2 hm hf).1)
  have hW : ∀ u, wok_ (may_ s) u → (WT_ s u ↔ WT_ s2 u) := by
    intro u hu
    rw [WT_kS, WT_kS, hk, hs, hg]
    refine forall_congr' fun i => forall_congr' fun _ => ?_
    rw [ac_cong u _ (fun f hf => (ms_same w w2 hm (hu f hf).1).2 (hu f hf).2)]
  cases o with
  | none => exact fun u hu hw => F u ((hok u).mpr hu) ((hW u ((hok u).mpr hu)).mpr hw)
  | some u => exact ⟨(hok u).mp F.1, (hW u F.1).mp F.2.1, fun v hv hw => F.2.2 v ((hok v).mpr hv) ((hW v ((hok v).mpr hv)).mpr hw)⟩
/-- the words that lead to a lying in the orbit -/
theorem rn_nx2 {n k : Nat} {mv : Nat → Nat → Nat} {w0 : Nat → Nat} (W : Lz_ n k w0) : ∀ u, rn_ (nx2_ k mv) w0 u = fun i => if i < k then ac_ mv u (w0 i) else 0 := by
  refine snoc_ind ?_ ?_
  · funext i
    show w0 i = _
    by_cases z : i < k
    · rw [if_pos z]; rfl
    · rw [if_neg z, W.2 i (by omega)]
  · intro u f ih
    rw [rn_snoc, ih]
    funext i
    unfold nx2_
    by_cases z : i < k
    · rw [if_pos z, if_pos z]
      show mv f (if i < k then ac_ mv u (w0 i) else 0) = _
      rw [if_pos z, ac_snoc]
    · rw [if_neg z, if_neg z]
