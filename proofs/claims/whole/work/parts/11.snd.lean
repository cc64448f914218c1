-- ===== A STEP over the heap =====
def sd_okty (ty : FieldType) : Bool := match ty with | .int => true | .boolean => true | .long => true | .object _ => true | .array _ => true | _ => false
theorem sd_okty_all : (List.range 11).all (fun a => (List.range (tt_c a).2.2).all (fun b => sd_okty (tt_t a b))) = true := by decide +kernel
theorem sd_cls_at : ∀ a, a < 11 → tt_cls[a]? = some (tt_c a) := by
  intro a ha
  have hl : a < tt_cls.length := ha
  unfold tt_c
  rw [List.getD_eq_getElem?_getD, List.getElem?_eq_getElem hl]
  rfl
theorem sd_C {a : Nat} (ha : a < 11) : sd_ckC a = true := List.all_eq_true.mp sd_okcl a (List.mem_range.mpr ha)
theorem sd_Cf {a b : Nat} (ha : a < 11) (hb : b < (tt_c a).2.2) : u_lay (tt_c a).1 (tt_c a).2.1 b ∈ sd_WS ∧ parseFieldDescriptor ((tt_c a).2.1 b).2.2.1 = some (tt_t a b) ∧ sd_tag (tt_t a b) = tt_k a b ∧ ((tt_c a).2.1 b).1 = (tt_c a).1 ∧ (∀ b2, b2 < b → ((tt_c a).2.1 b).2.1 ≠ ((tt_c a).2.1 b2).2.1) ∧ sd_okty (tt_t a b) = true := by
  have h := sd_C ha
  unfold sd_ckC at h
  rw [Bool.and_eq_true, Bool.and_eq_true] at h
  have h1 := List.all_eq_true.mp h.1.1 b (List.mem_range.mpr hb)
  simp only [Bool.and_eq_true, decide_eq_true_eq] at h1
  obtain ⟨⟨⟨⟨⟨h2, h2'⟩, h3⟩, h4⟩, h5⟩, h6⟩ := h1
  refine ⟨sd_in (by rw [Bool.and_eq_true, decide_eq_true_eq]; exact ⟨h2, h2'⟩), h3, h4, h5, fun b2 hb2 => ?_, ?_⟩
  · have := List.all_eq_true.mp h6 b2 (List.mem_range.mpr hb2)
    exact of_decide_eq_true this
  · exact List.all_eq_true.mp (List.all_eq_true.mp sd_okty_all a (List.mem_range.mpr ha)) b (List.mem_range.mpr hb)
theorem sd_Cw {a : Nat} (ha : a < 11) : ∀ w ∈ u_ws (tt_c a).1 (tt_c a).2.1 (tt_c a).2.2, w ∈ sd_WS := by
  intro w hw
  obtain ⟨k, hk, rfl⟩ := List.mem_map.mp hw
  exact (sd_Cf ha (List.mem_range.mp hk)).1
theorem sd_Ci {a : Nat} (ha : a < 11) : Cond.instantiable (tt_c a).1 (tt_c a).2.2 ∈ sd_WS ∧ Cond.initialized (tt_c a).1 ∈ sd_WS := by
  have h := sd_C ha
  unfold sd_ckC at h
  rw [Bool.and_eq_true, Bool.and_eq_true] at h
  exact ⟨sd_in h.1.2, sd_in h.2⟩
theorem sd_Cn {a : Nat} (ha : a < 11) : ∀ x, x < (tt_c a).2.2 → ∀ y, y < (tt_c a).2.2 → x ≠ y → ((tt_c a).2.1 x).2.1 ≠ ((tt_c a).2.1 y).2.1 := by
  intro x hx y hy hn
  rcases Nat.lt_or_gt_of_ne hn with q | q
  · exact Ne.symm ((sd_Cf ha hy).2.2.2.2.1 x q)
  · exact (sd_Cf ha hx).2.2.2.2.1 y q
theorem sd_Fr {x : Nat} {r : Nat × Nat × Nat × Nat × Nat × Nat} (hx : tt_rF[x]? = some r) : r ∈ tt_rF ∧ r.2.2.2.1 < (tt_c r.2.2.1).2.2 ∧ r.2.2.1 < 11 ∧ (r.2.2.2.2.1 = 0 → sd_wF r ∈ sd_WS) := by
  have hm := List.mem_of_getElem? hx
  have h := List.all_eq_true.mp sd_okF r hm
  simp only [Bool.and_eq_true, Bool.or_eq_true, decide_eq_true_eq] at h
  refine ⟨hm, h.1.2, h.2, fun hd => ?_⟩
  rcases h.1.1.2 with q | q
  · exact absurd hd q
  · exact sd_in (by rw [Bool.and_eq_true, decide_eq_true_eq]; exact ⟨h.1.1.1, q⟩)
/-- an element of the fields -/
theorem sd_fs_at {h : Hp_} {ad : Nat → Nat} {o a b : Nat} (hb : b < (tt_c a).2.2) : (sd_fs h ad o a)[b]? = some (sd_fv h ad o b (tt_k a b)) := by
  unfold sd_fs
  rw [List.getElem?_map, List.getElem?_range hb]
  rfl
theorem sd_fs_len (h : Hp_) (ad : Nat → Nat) (o a : Nat) : (sd_fs h ad o a).length = (tt_c a).2.2 := by simp [sd_fs]
theorem sd_fs_set {h h' : Hp_} {ad : Nat → Nat} {o a b : Nat} (hb : b < (tt_c a).2.2) (ho : ∀ k, k ≠ b → sd_fv h' ad o k (tt_k a k) = sd_fv h ad o k (tt_k a k)) : (sd_fs h ad o a).set b (sd_fv h' ad o b (tt_k a b)) = sd_fs h' ad o a := by
  refine List.ext_getElem? (fun k => ?_)
  rw [List.getElem?_set]
  by_cases hk : b = k
  · subst hk
    rw [if_pos rfl, if_pos (by rw [sd_fs_len]; exact hb), sd_fs_at hb]
  · rw [if_neg hk]
    by_cases hl : k < (tt_c a).2.2
    · rw [sd_fs_at hl, sd_fs_at hl, ho k (fun z => hk z.symm)]
    · rw [List.getElem?_eq_none (by rw [sd_fs_len]; omega), List.getElem?_eq_none (by rw [sd_fs_len]; omega)]
theorem sd_tag_c {a b c : Nat} (ha : a < 11) (hb : b < (tt_c a).2.2) (hc : (match tt_t a b with | .int => 0 | .boolean => 1 | .long => 2 | _ => 3) = c) : (c = 0 ∧ tt_t a b = .int ∧ tt_k a b = 0) ∨ (c = 1 ∧ tt_t a b = .boolean ∧ tt_k a b = 0) ∨ (c = 2 ∧ tt_t a b = .long ∧ tt_k a b = 1) ∨ (c = 3 ∧ ((∃ n, tt_t a b = .object n) ∨ ∃ n, tt_t a b = .array n) ∧ tt_k a b = 2) := by
  obtain ⟨-, -, h3, -, -, h6⟩ := sd_Cf ha hb
  rw [← h3]
  cases ht : tt_t a b <;> rw [ht] at hc h6 <;> simp_all [sd_tag, sd_okty]
theorem sd_ce_eq {cy : Nat → ClassId} {h h' : Hp_} {ad ad' : Nat → Nat} {q : Nat} (e1 : hp_kd h' q = hp_kd h q) (e2 : hp_ln h' q = hp_ln h q) (e3 : hp_I h' q = hp_I h q) (e4 : hp_J h' q = hp_J h q) (e5 : hp_R h' q = hp_R h q) (e6 : ∀ k, ad' (hp_R h q k) = ad (hp_R h q k) ∨ hp_R h q k = 0) : sd_ce cy h' ad' q = sd_ce cy h ad q := by
  have e : ∀ a, sd_fs h' ad' q a = sd_fs h ad q a := by
    intro a
    unfold sd_fs
    refine List.map_congr_left (fun k _ => ?_)
    unfold sd_fv
    rw [e3, e4, e5]
    rcases e6 k with z | z
    · rw [z]
    · rw [if_pos z, if_pos z]
  unfold sd_ce
  rw [e1, e2, e3, e4, e]
theorem sd_rI_ne {h : Hp_} {c q : Nat} {f : Nat → Int32} (hq : q ≠ c) : hp_I (hp_rI h c f) q = hp_I h q := by
  show va_up _ c f q = _
  unfold va_up
  rw [if_neg hq]
  rfl
theorem sd_rI_eq {h : Hp_} {c : Nat} {f : Nat → Int32} : hp_I (hp_rI h c f) c = f := by
  show va_up _ c f c = _
  unfold va_up
  rw [if_pos rfl]
theorem sd_rJ_ne {h : Hp_} {c q : Nat} {f : Nat → Int64} (hq : q ≠ c) : hp_J (hp_rJ h c f) q = hp_J h q := by
  show va_up _ c f q = _
  unfold va_up
  rw [if_neg hq]
  rfl
theorem sd_rJ_eq {h : Hp_} {c : Nat} {f : Nat → Int64} : hp_J (hp_rJ h c f) c = f := by
  show va_up _ c f c = _
  unfold va_up
  rw [if_pos rfl]
theorem sd_rR_ne {h : Hp_} {c q : Nat} {f : Nat → Nat} (hq : q ≠ c) : hp_R (hp_rR h c f) q = hp_R h q := by
  show va_up _ c f q = _
  unfold va_up
  rw [if_neg hq]
  rfl
theorem sd_rR_eq {h : Hp_} {c : Nat} {f : Nat → Nat} : hp_R (hp_rR h c f) c = f := by
  show va_up _ c f c = _
  unfold va_up
  rw [if_pos rfl]
theorem sd_up_ne {α : Type} {f : Nat → α} {k j : Nat} {v : α} (h : j ≠ k) : va_up f k v j = f j := by unfold va_up; rw [if_neg h]
theorem sd_up_eq {α : Type} {f : Nat → α} {k : Nat} {v : α} : va_up f k v k = v := by unfold va_up; rw [if_pos rfl]

section SDH
variable {p : Program} {l : Launch} {e : Env} {R : Room} {s : State} {m : MethodId} {args : Array Value} {below : List Frame} {meth : Method} {c : Code} {Q : State → Prop} {D : va_G} {cy : Nat → ClassId} {ad0 : Nat → Nat} {n0 s0 : Nat} {A : Nat → Prop} {H0 : Heap} {nL o : Nat} {cc : ByteArray} {ini : Bool} {pc pc' n : Nat} {L L' : Lc_} {st st' : List Value} {h h' : Hp_}
theorem sdi_getf {idx a b t3 : Nat} {r : Nat × Nat × Nat × Nat × Nat × Nat} (hrm : r ∈ tt_rF) (hrb : b < (tt_c a).2.2) (hra : a < 11) (hr0 : r.2.2.2.2.1 = 0 → sd_wF r ∈ sd_WS) (hr : r.1 = o ∧ r.2.1 = idx ∧ r.2.2.1 = a ∧ r.2.2.2.1 = b) (F : sd_Fix p s m args meth c cc nL o ini D cy) (hd : decode cc pc = .ok (.getfield idx, 3)) (hn : n = pc + 3) (hc : (match tt_t a b with | .int => 0 | .boolean => 1 | .long => 2 | _ => 3) = t3) (hs : pm_getf a b t3 n L st h = some (.inl (pc', L', st', h'))) (kk : sd_G p l e R s m args below meth c Q D cy ad0 n0 s0 A H0 nL pc' L' st' h') : sd_G p l e R s m args below meth c Q D cy ad0 n0 s0 A H0 nL pc L st h := by
  have hwd : (r.2.2.2.2.1 = 0 ∧ (Cond.fieldLink (tt_name o) idx (tt_c a).1 ((tt_c a).2.1 b).2.1 ((tt_c a).2.1 b).2.2.1).before args s = true) ∨ (Cond.fieldLinkNest (tt_name o) idx (tt_c a).1 ((tt_c a).2.1 b).2.1 ((tt_c a).2.1 b).2.2.1 "RoundDance").before args s = true := by
    obtain ⟨o', idx', a', b', d', w'⟩ := r
    obtain ⟨e1, e2, e3, e4⟩ := hr
    dsimp only at e1 e2 e3 e4
    subst e1; subst e2; subst e3; subst e4
    by_cases hd0 : d' = 0
    · have := F.2.2.2.2.1 _ (hr0 hd0)
      simp only [sd_wF] at this
      rw [if_pos hd0] at this
      exact Or.inl ⟨hd0, this⟩
    · have := F.2.2.2.2.2.1.1 _ hrm hd0
      simp only [sd_wF] at this
      rw [if_neg hd0] at this
      exact Or.inr (va_Nw.use rfl this)
  have hsame : ∀ x, s.fieldFound? ((tt_c a).2.1 b).1 ((tt_c a).2.1 b).2.1 ((tt_c a).2.1 b).2.2.1 = some x → s.fieldFound? (tt_c a).1 ((tt_c a).2.1 b).2.1 ((tt_c a).2.1 b).2.2.1 = some x := by
    rw [(sd_Cf hra hrb).2.2.2.1]
    exact fun _ z => z
  unfold pm_getf at hs
  split at hs
  · rename_i x rr
    split at hs
    · rename_i hkd
      have key : ∀ (v : Value), (∀ ad : Nat → Nat, sd_re ad v = sd_fv h ad x b (tt_k a b)) → (sd_wf h → sd_vf (hp_nx h) v) → sd_G p l e R s m args below meth c Q D cy ad0 n0 s0 A H0 nL n L (v :: rr) h → sd_G p l e R s m args below meth c Q D cy ad0 n0 s0 A H0 nL pc L (.ref x :: rr) h := by
        intro v hv hvf kk ad H locs ls ⟨r1, r2, r3, r4, r5, r6, r7, r8, r9, r10, r11⟩
        subst hn
        have hx0 := r1.2 x (by rw [hkd]; omega)
        have he := sd_w_at (cy := cy) (ad := ad) hx0.1 hx0.2
        rw [sd_ceO hkd] at he
        have hvv : (sd_fs h ad x a)[b]? = some (sd_re ad v) := by rw [sd_fs_at hrb, hv ad]
        have kkk := kk ad H locs ls ⟨r1, r2, fun w hw => by
          rcases List.mem_cons.mp hw with rfl | hw
          · exact hvf r1
          · exact r3 w (List.mem_cons_of_mem _ hw), r4, r5, r6, r7, r8, r9, r10, r11⟩
        rcases hwd with ⟨-, hwd⟩ | hwd
        · exact va_get F.1 F.2.1 F.2.2.2.2.1 (sd_Cw hra) F.2.2.2.1 F.2.2.2.2.2.2.1 r7 (x - 1) he (sd_cls_at a hra) b hrb hwd hsame hvv hd kkk
        · exact va_getN F.1 F.2.1 F.2.2.2.2.1 (sd_Cw hra) F.2.2.2.1 F.2.2.2.2.2.2.1 r7 (x - 1) he (sd_cls_at a hra) b hrb hwd hsame hvv hd kkk
      rcases sd_tag_c hra hrb hc with ⟨rfl, -, ek⟩ | ⟨rfl, -, ek⟩ | ⟨rfl, -, ek⟩ | ⟨rfl, -, ek⟩
      · cases hs
        exact key (.int (hp_I h x b)) (fun ad => by rw [ek]; rfl) (fun _ => trivial) kk
      · cases hs
        exact key (.int (hp_I h x b)) (fun ad => by rw [ek]; rfl) (fun _ => trivial) kk
      · cases hs
        exact key (.long (hp_J h x b)) (fun ad => by rw [ek]; rfl) (fun _ => trivial) kk
      · change (if hp_R h x b = 0 then none else some (Sum.inl (n, L, Value.ref (hp_R h x b) :: rr, h))) = some (Sum.inl (pc', L', st', h')) at hs
        split at hs
        · cases hs
        · rename_i hz
          cases hs
          exact key (.ref (hp_R h x b)) (fun ad => by rw [ek]; simp only [sd_fv, sd_re]; rw [if_neg (by decide), if_neg (by decide), if_neg hz]) (fun w => w.1 x b) kk
    · cases hs
  · cases hs
theorem sdi_putf {idx a b t3 : Nat} {r : Nat × Nat × Nat × Nat × Nat × Nat} (hrm : r ∈ tt_rF) (hrb : b < (tt_c a).2.2) (hra : a < 11) (hr0 : r.2.2.2.2.1 = 0 → sd_wF r ∈ sd_WS) (hr : r.1 = o ∧ r.2.1 = idx ∧ r.2.2.1 = a ∧ r.2.2.2.1 = b) (F : sd_Fix p s m args meth c cc nL o ini D cy) (hd : decode cc pc = .ok (.putfield idx, 3)) (hn : n = pc + 3) (hc : (match tt_t a b with | .int => 0 | .boolean => 1 | .long => 2 | _ => 3) = t3) (hfin : ((tt_c a).2.1 b).2.2.2 = false ∨ (ini = true ∧ r.2.2.2.2.1 = 0 ∧ tt_name o = (tt_c a).1)) (hs : pm_putf a b t3 n L st h = some (.inl (pc', L', st', h'))) (kk : sd_G p l e R s m args below meth c Q D cy ad0 n0 s0 A H0 nL pc' L' st' h') : sd_G p l e R s m args below meth c Q D cy ad0 n0 s0 A H0 nL pc L st h := by
  have hwd : (r.2.2.2.2.1 = 0 ∧ (Cond.fieldLink (tt_name o) idx (tt_c a).1 ((tt_c a).2.1 b).2.1 ((tt_c a).2.1 b).2.2.1).before args s = true) ∨ (r.2.2.2.2.1 ≠ 0 ∧ (Cond.fieldLinkNest (tt_name o) idx (tt_c a).1 ((tt_c a).2.1 b).2.1 ((tt_c a).2.1 b).2.2.1 "RoundDance").before args s = true) := by
    obtain ⟨o', idx', a', b', d', w'⟩ := r
    obtain ⟨e1, e2, e3, e4⟩ := hr
    dsimp only at e1 e2 e3 e4
    subst e1; subst e2; subst e3; subst e4
    by_cases hd0 : d' = 0
    · have := F.2.2.2.2.1 _ (hr0 hd0)
      simp only [sd_wF] at this
      rw [if_pos hd0] at this
      exact Or.inl ⟨hd0, this⟩
    · have := F.2.2.2.2.2.1.1 _ hrm hd0
      simp only [sd_wF] at this
      rw [if_neg hd0] at this
      exact Or.inr ⟨hd0, va_Nw.use rfl this⟩
  have hsame : ∀ x, s.fieldFound? ((tt_c a).2.1 b).1 ((tt_c a).2.1 b).2.1 ((tt_c a).2.1 b).2.2.1 = some x → s.fieldFound? (tt_c a).1 ((tt_c a).2.1 b).2.1 ((tt_c a).2.1 b).2.2.1 = some x := by
    rw [(sd_Cf hra hrb).2.2.2.1]
    exact fun _ z => z
  have key : ∀ (v : Value) (x : Nat) (rr : List Value), hp_kd h x = a + 10 → st = v :: .ref x :: rr → hp_kd h' = hp_kd h → hp_nx h' = hp_nx h → hp_sl h' = hp_sl h → (∀ ad : Nat → Nat, sd_re ad v = sd_fv h' ad x b (tt_k a b)) → (∀ (ad : Nat → Nat) (k : Nat), k ≠ b → sd_fv h' ad x k (tt_k a k) = sd_fv h ad x k (tt_k a k)) → (∀ (ad : Nat → Nat) (q : Nat), q ≠ x → sd_ce cy h' ad q = sd_ce cy h ad q) → (sd_wf h → (∀ v ∈ st, sd_vf (hp_nx h) v) → sd_wf h') → (∀ ad : Nat → Nat, narrow (tt_t a b) (sd_re ad v) = sd_re ad v ∧ fits (tt_t a b) (sd_re ad v) = true) → sd_G p l e R s m args below meth c Q D cy ad0 n0 s0 A H0 nL n L rr h' → sd_G p l e R s m args below meth c Q D cy ad0 n0 s0 A H0 nL pc L st h := by
    intro v x rr hkd hst ekd enx esl hv hoth hcell hwf hfit kk ad H locs ls ⟨r1, r2, r3, r4, r5, r6, r7, r8, r9, r10, r11⟩
    subst hn
    subst hst
    have hx0 := r1.2 x (by rw [hkd]; omega)
    have he := sd_w_at (cy := cy) (ad := ad) hx0.1 hx0.2
    rw [sd_ceO hkd] at he
    have hw1 : ∀ (hnew : (sd_w cy h ad).set (x - 1) (ad x, .inr (a, (sd_fs h ad x a).set b (sd_re ad v))) = sd_w cy h' ad) (H1 : Heap) (locs1 : List Loc), va_P D tt_cls ((sd_w cy h ad).set (x - 1) (ad x, .inr (a, (sd_fs h ad x a).set b (sd_re ad v)))) H1 → va_D A ((sd_w cy h ad).set (x - 1) (ad x, .inr (a, (sd_fs h ad x a).set b (sd_re ad v)))) → va_S A H0 H1 locs1 → W p l e R s m args below meth c H1 locs1 (hp_nx h - n0) (hp_sl h - s0) Q (F0 m (pc + 3) ls (rr.map (sd_re ad))) := by
      intro hnew H1 locs1 hP1 hD1 hS1
      rw [hnew] at hP1 hD1
      rw [← enx, ← esl]
      exact kk ad H1 locs1 ls ⟨hwf r1 r3, by rw [enx]; exact r2, fun w hw => by rw [enx]; exact r3 w (List.mem_cons_of_mem _ (List.mem_cons_of_mem _ hw)), by rw [enx]; exact r4, by rw [esl]; exact r5, r6, hP1, hD1, hS1, r10, r11⟩
    have hnew : (sd_w cy h ad).set (x - 1) (ad x, .inr (a, (sd_fs h ad x a).set b (sd_re ad v))) = sd_w cy h' ad := by
      rw [hv ad, sd_fs_set hrb (hoth ad), ← sd_ceO (cy := cy) (show hp_kd h' x = a + 10 by rw [ekd]; exact hkd)]
      exact sd_w_set hx0.1 enx (hcell ad)
    have hlen : b < (sd_fs h ad x a).length := by rw [sd_fs_len]; exact hrb
    by_cases hfl : ((tt_c a).2.1 b).2.2.2 = false
    · rcases hwd with ⟨-, hwd⟩ | ⟨-, hwd⟩
      · exact va_put F.1 F.2.1 F.2.2.2.2.1 (sd_Cw hra) (tt_t a) (fun k hk => (sd_Cf hra hk).2.1) (sd_Cn hra) F.2.2.2.1 F.2.2.2.2.2.2.1 r7 r8 r9 (x - 1) he (sd_cls_at a hra) b hrb hwd hsame hfl (sd_Cf hra hrb).2.1 (hfit ad).1 (hfit ad).2 hlen hd (hw1 hnew)
      · exact va_putN F.1 F.2.1 F.2.2.2.2.1 (sd_Cw hra) (tt_t a) (fun k hk => (sd_Cf hra hk).2.1) (sd_Cn hra) F.2.2.2.1 F.2.2.2.2.2.2.1 r7 r8 r9 (x - 1) he (sd_cls_at a hra) b hrb hwd hsame hfl (sd_Cf hra hrb).2.1 (hfit ad).1 (hfit ad).2 hlen hd (hw1 hnew)
    · rcases hfin with q | ⟨q1, q2, q3⟩
      · exact absurd q hfl
      · rcases hwd with ⟨-, hwd⟩ | ⟨hdn, hwd⟩
        · exact va_putF F.1 F.2.1 F.2.2.2.2.1 (sd_Cw hra) (tt_t a) (fun k hk => (sd_Cf hra hk).2.1) (sd_Cn hra) F.2.2.2.1 F.2.2.2.2.2.2.1 r7 r8 r9 (x - 1) he (sd_cls_at a hra) b hrb hwd hsame (by simpa using hfl) (F.2.2.2.2.2.2.2 q1) (by rw [(sd_Cf hra hrb).2.2.2.1, q3]) (sd_Cf hra hrb).2.1 (hfit ad).1 (hfit ad).2 hlen hd (hw1 hnew)
        · exact absurd q2 hdn
  unfold pm_putf at hs
  split at hs
  · rename_i v x rr
    split at hs
    · rename_i hkd
      rcases sd_tag_c hra hrb hc with ⟨rfl, et, ek⟩ | ⟨rfl, et, ek⟩ | ⟨rfl, et, ek⟩ | ⟨rfl, et, ek⟩
      · cases hs
        exact key _ x _ hkd rfl rfl rfl rfl (fun ad => by rw [ek]; simp only [sd_fv, sd_re, sd_rI_eq, sd_up_eq]; rfl) (fun ad k hk => by simp only [sd_fv, sd_rI_eq]; rw [sd_up_ne hk]; rfl) (fun ad q hq => sd_ce_eq rfl rfl (sd_rI_ne hq) rfl rfl (fun _ => Or.inl rfl)) (fun w _ => w) (fun ad => by rw [et]; exact ⟨rfl, rfl⟩) kk
      · change (if v = 0 ∨ v = 1 then some (Sum.inl (n, L, rr, hp_rI h x (va_up (hp_I h x) b v))) else none) = some (Sum.inl (pc', L', st', h')) at hs
        split at hs
        · rename_i hz
          cases hs
          exact key _ x _ hkd rfl rfl rfl rfl (fun ad => by rw [ek]; simp only [sd_fv, sd_re, sd_rI_eq, sd_up_eq]; rfl) (fun ad k hk => by simp only [sd_fv, sd_rI_eq]; rw [sd_up_ne hk]; rfl) (fun ad q hq => sd_ce_eq rfl rfl (sd_rI_ne hq) rfl rfl (fun _ => Or.inl rfl)) (fun w _ => w) (fun ad => by
            rw [et]
            rcases hz with rfl | rfl
            · exact ⟨rfl, rfl⟩
            · exact ⟨rfl, rfl⟩) kk
        · cases hs
      · cases hs
      · cases hs
    · cases hs
  · rename_i v x rr
    split at hs
    · rename_i hkd
      obtain ⟨hkd, hc2⟩ := hkd
      rcases sd_tag_c hra hrb hc with ⟨e, et, ek⟩ | ⟨e, et, ek⟩ | ⟨e, et, ek⟩ | ⟨e, et, ek⟩
      · omega
      · omega
      · cases hs
        exact key _ x _ hkd rfl rfl rfl rfl (fun ad => by rw [ek]; simp only [sd_fv, sd_re, sd_rJ_eq, sd_up_eq]; rfl) (fun ad k hk => by simp only [sd_fv, sd_rJ_eq]; rw [sd_up_ne hk]; rfl) (fun ad q hq => sd_ce_eq rfl rfl rfl (sd_rJ_ne hq) rfl (fun _ => Or.inl rfl)) (fun w _ => w) (fun ad => by rw [et]; exact ⟨rfl, rfl⟩) kk
      · omega
    · cases hs
  · rename_i v x rr
    split at hs
    · rename_i hkd
      obtain ⟨hkd, hc2, hv0⟩ := hkd
      rcases sd_tag_c hra hrb hc with ⟨e, et, ek⟩ | ⟨e, et, ek⟩ | ⟨e, et, ek⟩ | ⟨e, et, ek⟩
      · omega
      · omega
      · omega
      · cases hs
        exact key _ x _ hkd rfl rfl rfl rfl (fun ad => by rw [ek]; simp only [sd_fv, sd_re, sd_rR_eq, sd_up_eq]; rw [if_neg (by decide), if_neg (by decide), if_neg hv0]) (fun ad k hk => by simp only [sd_fv, sd_rR_eq]; rw [sd_up_ne hk]; rfl) (fun ad q hq => sd_ce_eq rfl rfl rfl rfl (sd_rR_ne hq) (fun _ => Or.inl rfl)) (fun w hvs => ⟨fun q k => by
            by_cases hq : q = x
            · subst hq
              rw [sd_rR_eq]
              by_cases hk : k = b
              · subst hk
                rw [sd_up_eq]
                exact hvs (.ref v) List.mem_cons_self
              · rw [sd_up_ne hk]
                exact w.1 q k
            · rw [sd_rR_ne hq]
              exact w.1 q k, w.2⟩) (fun ad => by
            rcases et with ⟨nm, et⟩ | ⟨nm, et⟩
            · rw [et]; exact ⟨rfl, rfl⟩
            · rw [et]; exact ⟨rfl, rfl⟩) kk
    · cases hs
  · cases hs
end SDH
