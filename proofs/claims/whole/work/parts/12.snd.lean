-- ===== A STEP that makes a cell, or reads or writes an array =====
theorem sd_al_ne {h : Hp_} {t n z q : Nat} (hq : q ≠ hp_nx h + 1) : hp_kd (hp_al h t n z) q = hp_kd h q ∧ hp_ln (hp_al h t n z) q = hp_ln h q ∧ hp_I (hp_al h t n z) q = hp_I h q ∧ hp_J (hp_al h t n z) q = hp_J h q ∧ hp_R (hp_al h t n z) q = hp_R h q := by
  refine ⟨?_, ?_, ?_, ?_, ?_⟩ <;> exact sd_up_ne hq
theorem sd_al_eq {h : Hp_} {t n z : Nat} : hp_kd (hp_al h t n z) (hp_nx h + 1) = t ∧ hp_ln (hp_al h t n z) (hp_nx h + 1) = n ∧ hp_I (hp_al h t n z) (hp_nx h + 1) = (fun _ => 0) ∧ hp_J (hp_al h t n z) (hp_nx h + 1) = (fun _ => 0) ∧ hp_R (hp_al h t n z) (hp_nx h + 1) = (fun _ => 0) := by
  refine ⟨?_, ?_, ?_, ?_, ?_⟩ <;> exact sd_up_eq
theorem sd_al_wf {h : Hp_} {t n z : Nat} (w : sd_wf h) : sd_wf (hp_al h t n z) := by
  refine ⟨fun c k => ?_, fun c hc => ?_⟩
  · by_cases hq : c = hp_nx h + 1
    · subst hq
      rw [sd_al_eq.2.2.2.2]
      exact Nat.zero_le _
    · rw [(sd_al_ne hq).2.2.2.2]
      exact Nat.le_succ_of_le (w.1 c k)
  · by_cases hq : c = hp_nx h + 1
    · exact ⟨by omega, Nat.le_of_eq hq⟩
    · rw [(sd_al_ne hq).1] at hc
      exact ⟨(w.2 c hc).1, Nat.le_succ_of_le (w.2 c hc).2⟩
theorem sd_vf_mono {n m : Nat} {v : Value} (h : n ≤ m) (hv : sd_vf n v) : sd_vf m v := by
  cases v <;> first | trivial | exact Nat.le_trans hv h
theorem sd_re_eq {ad ad' : Nat → Nat} {n : Nat} {v : Value} (hv : sd_vf n v) (ha : ∀ i, i ≤ n → ad' i = ad i) : sd_re ad' v = sd_re ad v := by
  cases v <;> first | rfl | exact congrArg Value.ref (ha _ hv)
theorem sd_st_eq {ad ad' : Nat → Nat} {n : Nat} {st : List Value} (hv : ∀ v ∈ st, sd_vf n v) (ha : ∀ i, i ≤ n → ad' i = ad i) : st.map (sd_re ad') = st.map (sd_re ad) := List.map_congr_left (fun v h => sd_re_eq (hv v h) ha)
theorem sd_as_eq {ad ad' : Nat → Nat} {n : Nat} {L : Lc_} (hv : ∀ v, some v ∈ L → sd_vf n v) (ha : ∀ i, i ≤ n → ad' i = ad i) : sd_as ad' L = sd_as ad L := by
  unfold sd_as
  refine congrArg (fun f => List.filterMap f (List.range L.length)) (funext fun k => ?_)
  split
  · rename_i v hk
    rw [sd_re_eq (hv v (List.mem_of_getElem? hk)) ha]
  · rfl
/-- the world with one cell more -/
theorem sd_w_al {cy : Nat → ClassId} {h : Hp_} {ad : Nat → Nat} {t n z q : Nat} (w : sd_wf h) : sd_w cy (hp_al h t n z) (va_up ad (hp_nx h + 1) q) = sd_w cy h ad ++ [(q, sd_ce cy (hp_al h t n z) (va_up ad (hp_nx h + 1) q) (hp_nx h + 1))] := by
  have hn : hp_nx (hp_al h t n z) = hp_nx h + 1 := rfl
  unfold sd_w
  rw [hn, List.range_succ, List.map_append, List.map_singleton, sd_up_eq]
  congr 1
  refine List.map_congr_left (fun k hk => ?_)
  have hk2 := List.mem_range.mp hk
  have hne : k + 1 ≠ hp_nx h + 1 := by omega
  obtain ⟨e1, e2, e3, e4, e5⟩ := sd_al_ne (t := t) (n := n) (z := z) hne
  rw [sd_up_ne hne, sd_ce_eq e1 e2 e3 e4 e5 (fun j => Or.inl (sd_up_ne (by have := w.1 (k + 1) j; omega)))]

theorem sd_arr : Cond.arrayClass .int ∈ sd_WS ∧ Cond.arrayClass .long ∈ sd_WS ∧ Cond.arrayClass .boolean ∈ sd_WS ∧ Cond.code objectInit ⟨#[0xb1]⟩ 1 none ∈ sd_WS ∧ Cond.instanceMethod objectInit ∈ sd_WS := by
  have h := sd_okobj
  simp only [Bool.and_eq_true, decide_eq_true_eq] at h
  obtain ⟨⟨⟨⟨⟨a1, a2⟩, a3, a4⟩, a5, a6⟩, a7, a8⟩, a9, a10⟩ := h
  exact ⟨sd_in (by rw [Bool.and_eq_true, decide_eq_true_eq]; exact ⟨a5, a6⟩), sd_in (by rw [Bool.and_eq_true, decide_eq_true_eq]; exact ⟨a7, a8⟩), sd_in (by rw [Bool.and_eq_true, decide_eq_true_eq]; exact ⟨a9, a10⟩), sd_in (by rw [Bool.and_eq_true, decide_eq_true_eq]; exact ⟨a1, a2⟩), sd_in (by rw [Bool.and_eq_true, decide_eq_true_eq]; exact ⟨a3, a4⟩)⟩
section SDA
variable {p : Program} {l : Launch} {e : Env} {R : Room} {s : State} {m : MethodId} {args : Array Value} {below : List Frame} {meth : Method} {c : Code} {Q : State → Prop} {D : va_G} {cy : Nat → ClassId} {ad0 : Nat → Nat} {n0 s0 : Nat} {A : Nat → Prop} {H0 : Heap} {nL o : Nat} {cc : ByteArray} {ini : Bool} {pc pc' n : Nat} {L L' : Lc_} {st st' : List Value} {h h' : Hp_}
theorem sdi_new {idx a b x : Nat} (ha11 : a < 11) (hb : b = (tt_c a).2.2) (hcw : Cond.classLink (tt_name o) idx (tt_c a).1 ∈ sd_WS) (hA : ∀ q, H0.size ≤ q → A q) (F : sd_Fix p s m args meth c cc nL o ini D cy) (hd : decode cc pc = .ok (.new idx, 3)) (hn : n = pc + 3) (hs : pm_new a b n L st h = some (.inl (pc', L', st', h'))) (hcr : hp_nx h' - n0 ≤ R.cells) (hsr : hp_sl h' - s0 ≤ R.slots) (kk : sd_G p l e R s m args below meth c Q D cy ad0 n0 s0 A H0 nL pc' L' st' h') : sd_G p l e R s m args below meth c Q D cy ad0 n0 s0 A H0 nL pc L st h := by
  unfold pm_new at hs
  cases hs
  intro ad H locs ls ⟨r1, r2, r3, r4, r5, r6, r7, r8, r9, r10, r11⟩
  subst hn
  have hnx : hp_nx (hp_al h (a + 10) 0 b) = hp_nx h + 1 := rfl
  have hsl : hp_sl (hp_al h (a + 10) 0 b) = hp_sl h + b := rfl
  rw [hnx] at hcr
  rw [hsl] at hsr
  obtain ⟨ek, el, eI, eJ, eR⟩ := sd_al_eq (h := h) (t := a + 10) (n := 0) (z := b)
  refine va_new (ci := a) (fs := (List.range (tt_c a).2.2).map (fun j => defaultValue (tt_t a j))) (ty := tt_t a) F.1 F.2.1 F.2.2.2.2.1 (sd_Cw ha11) (fun k hk => (sd_Cf ha11 hk).2.1) F.2.2.2.1 (F.2.2.2.2.1 _ hcw) (F.2.2.2.2.1 _ (sd_Ci ha11).1) (F.2.2.2.2.1 _ (sd_Ci ha11).2) F.2.2.2.2.2.2.1 r7 r8 r9 hA (sd_cls_at a ha11) (fun j hj => ?_) (by omega) (by rw [← hb]; omega) hd (fun q H1 hP hD hS => ?_)
  · unfold vp_V
    rw [List.getD_eq_getElem?_getD, List.getElem?_map, List.getElem?_range hj]
    rfl
  · have hce : sd_ce cy (hp_al h (a + 10) 0 b) (va_up ad (hp_nx h + 1) q) (hp_nx h + 1) = .inr (a, (List.range (tt_c a).2.2).map (fun j => defaultValue (tt_t a j))) := by
      rw [sd_ceO ek]
      unfold sd_fs
      refine congrArg (fun z => Sum.inr (a, z)) (List.map_congr_left (fun j hj => ?_))
      have hj := List.mem_range.mp hj
      obtain ⟨-, -, h3, -, -, h6⟩ := sd_Cf ha11 hj
      rw [← h3]
      unfold sd_fv
      rw [eI, eJ, eR]
      cases ht : tt_t a j <;> rw [ht] at h6 <;> first | rfl | (simp [sd_okty] at h6)
    have hww := sd_w_al (cy := cy) (ad := ad) (t := a + 10) (n := 0) (z := b) (q := q) r1
    rw [hce] at hww
    rw [← hww] at hP hD
    have ha : ∀ i, i ≤ hp_nx h → va_up ad (hp_nx h + 1) q i = ad i := fun i hi => sd_up_ne (by omega)
    have hstm : ∀ r : List Value, (∀ v ∈ r, sd_vf (hp_nx h) v) → r.map (sd_re (va_up ad (hp_nx h + 1) q)) = r.map (sd_re ad) := fun r hr => sd_st_eq hr ha
    have e1 : hp_nx h - n0 + 1 = hp_nx (hp_al h (a + 10) 0 b) - n0 := by rw [hnx]; omega
    have e2 : hp_sl h - s0 + (tt_c a).2.2 = hp_sl (hp_al h (a + 10) 0 b) - s0 := by rw [hsl, hb]; omega
    rw [e1, e2]
    have kkk := kk (va_up ad (hp_nx h + 1) q) H1 locs ls ⟨sd_al_wf r1, fun v hv => sd_vf_mono (Nat.le_succ _) (r2 v hv), fun v hv => by
      rcases List.mem_cons.mp hv with rfl | hv
      · exact Nat.le_refl _
      · exact sd_vf_mono (Nat.le_succ _) (r3 v hv), by rw [hnx]; omega, by rw [hsl]; omega, fun i hi => by rw [ha i (by omega)]; exact r6 i hi, hP, hD, hS, r10, by rw [sd_as_eq r2 ha]; exact r11⟩
    rw [List.map_cons, hstm _ r3] at kkk
    have e3 : sd_re (va_up ad (hp_nx h + 1) q) (.ref (hp_nx h + 1)) = .ref q := by
      show Value.ref _ = _
      rw [sd_up_eq]
    rw [e3] at kkk
    exact kkk
theorem sdi_newa1 (hA : ∀ q, H0.size ≤ q → A q) (F : sd_Fix p s m args meth c cc nL o ini D cy) (hd : decode cc pc = .ok (.newarray .int, 2)) (hn : n = pc + 2) (hs : pm_newa 1 n L st h = some (.inl (pc', L', st', h'))) (hcr : hp_nx h' - n0 ≤ R.cells) (hsr : hp_sl h' - s0 ≤ R.slots) (kk : sd_G p l e R s m args below meth c Q D cy ad0 n0 s0 A H0 nL pc' L' st' h') : sd_G p l e R s m args below meth c Q D cy ad0 n0 s0 A H0 nL pc L st h := by
  unfold pm_newa at hs
  split at hs
  · rename_i x r
    split at hs
    · rename_i hx
      cases hs
      intro ad H locs ls ⟨r1, r2, r3, r4, r5, r6, r7, r8, r9, r10, r11⟩
      subst hn
      have hnx : hp_nx (hp_al h 1 x.toNatClampNeg x.toNatClampNeg) = hp_nx h + 1 := rfl
      have hsl : hp_sl (hp_al h 1 x.toNatClampNeg x.toNatClampNeg) = hp_sl h + x.toNatClampNeg := rfl
      rw [hnx] at hcr
      rw [hsl] at hsr
      have harr : Cond.arrayClass .int ∈ sd_WS := sd_arr.1
      obtain ⟨ek, el, eI, eJ, eR⟩ := sd_al_eq (h := h) (t := 1) (n := x.toNatClampNeg) (z := x.toNatClampNeg)
      refine va_newa (atype := .int) (ty := .int) (N' := x.toNatClampNeg) (a0 := (x.toNatClampNeg, .inl (fun _ => 0))) F.1 F.2.1 (F.2.2.2.2.1 _ harr) rfl F.2.2.2.2.2.2.1 r7 r8 r9 hA (fun cA => rfl) hx.1 rfl (Nat.le_trans (Nat.mul_le_mul hx.2 (show componentBytes .int ≤ 8 by decide)) (by decide)) (by omega) (by omega) hd (fun q cA H1 hK hP hD hS => ?_)
      have hcA : cA = cy 1 := by
        have e1 := (hK.2 3 _ rfl).2
        have e2 := (hK.2 0 _ rfl).2
        exact Option.some.inj (e1.symm.trans e2)
      subst hcA
      have hce : sd_ce cy (hp_al h 1 x.toNatClampNeg x.toNatClampNeg) (va_up ad (hp_nx h + 1) q) (hp_nx h + 1) = .inl (cy 1, x.toNatClampNeg, .inl (fun _ => 0)) := by
        rw [sd_ceI ek, el, eI]
      have hww := sd_w_al (cy := cy) (ad := ad) (t := 1) (n := x.toNatClampNeg) (z := x.toNatClampNeg) (q := q) r1
      rw [hce] at hww
      rw [← hww] at hP hD
      have ha : ∀ i, i ≤ hp_nx h → va_up ad (hp_nx h + 1) q i = ad i := fun i hi => sd_up_ne (by omega)
      have r3' : ∀ v ∈ r, sd_vf (hp_nx h) v := fun v hv => r3 v (List.mem_cons_of_mem _ hv)
      have e1 : hp_nx h - n0 + 1 = hp_nx (hp_al h 1 x.toNatClampNeg x.toNatClampNeg) - n0 := by rw [hnx]; omega
      have e2 : hp_sl h - s0 + x.toNatClampNeg = hp_sl (hp_al h 1 x.toNatClampNeg x.toNatClampNeg) - s0 := by rw [hsl]; omega
      rw [e1, e2]
      have kkk := kk (va_up ad (hp_nx h + 1) q) H1 locs ls ⟨sd_al_wf r1, fun v hv => sd_vf_mono (Nat.le_succ _) (r2 v hv), fun v hv => by
        rcases List.mem_cons.mp hv with rfl | hv
        · exact Nat.le_refl _
        · exact sd_vf_mono (Nat.le_succ _) (r3' v hv), by rw [hnx]; omega, by rw [hsl]; omega, fun i hi => by rw [ha i (by omega)]; exact r6 i hi, hP, hD, hS, r10, by rw [sd_as_eq r2 ha]; exact r11⟩
      rw [List.map_cons, sd_st_eq r3' ha] at kkk
      have e3 : sd_re (va_up ad (hp_nx h + 1) q) (.ref (hp_nx h + 1)) = .ref q := by
        show Value.ref _ = _
        rw [sd_up_eq]
      rw [e3] at kkk
      exact kkk
    · cases hs
  · cases hs
theorem sdi_newa2 (hA : ∀ q, H0.size ≤ q → A q) (F : sd_Fix p s m args meth c cc nL o ini D cy) (hd : decode cc pc = .ok (.newarray .long, 2)) (hn : n = pc + 2) (hs : pm_newa 2 n L st h = some (.inl (pc', L', st', h'))) (hcr : hp_nx h' - n0 ≤ R.cells) (hsr : hp_sl h' - s0 ≤ R.slots) (kk : sd_G p l e R s m args below meth c Q D cy ad0 n0 s0 A H0 nL pc' L' st' h') : sd_G p l e R s m args below meth c Q D cy ad0 n0 s0 A H0 nL pc L st h := by
  unfold pm_newa at hs
  split at hs
  · rename_i x r
    split at hs
    · rename_i hx
      cases hs
      intro ad H locs ls ⟨r1, r2, r3, r4, r5, r6, r7, r8, r9, r10, r11⟩
      subst hn
      have hnx : hp_nx (hp_al h 2 x.toNatClampNeg x.toNatClampNeg) = hp_nx h + 1 := rfl
      have hsl : hp_sl (hp_al h 2 x.toNatClampNeg x.toNatClampNeg) = hp_sl h + x.toNatClampNeg := rfl
      rw [hnx] at hcr
      rw [hsl] at hsr
      have harr : Cond.arrayClass .long ∈ sd_WS := sd_arr.2.1
      obtain ⟨ek, el, eI, eJ, eR⟩ := sd_al_eq (h := h) (t := 2) (n := x.toNatClampNeg) (z := x.toNatClampNeg)
      refine va_newa (atype := .long) (ty := .long) (N' := x.toNatClampNeg) (a0 := (x.toNatClampNeg, .inr (.inl (fun _ => 0)))) F.1 F.2.1 (F.2.2.2.2.1 _ harr) rfl F.2.2.2.2.2.2.1 r7 r8 r9 hA (fun cA => rfl) hx.1 rfl (Nat.le_trans (Nat.mul_le_mul hx.2 (show componentBytes .long ≤ 8 by decide)) (by decide)) (by omega) (by omega) hd (fun q cA H1 hK hP hD hS => ?_)
      have hcA : cA = cy 2 := by
        have e1 := (hK.2 3 _ rfl).2
        have e2 := (hK.2 1 _ rfl).2
        exact Option.some.inj (e1.symm.trans e2)
      subst hcA
      have hce : sd_ce cy (hp_al h 2 x.toNatClampNeg x.toNatClampNeg) (va_up ad (hp_nx h + 1) q) (hp_nx h + 1) = .inl (cy 2, x.toNatClampNeg, .inr (.inl (fun _ => 0))) := by
        rw [sd_ceJ ek, el, eJ]
      have hww := sd_w_al (cy := cy) (ad := ad) (t := 2) (n := x.toNatClampNeg) (z := x.toNatClampNeg) (q := q) r1
      rw [hce] at hww
      rw [← hww] at hP hD
      have ha : ∀ i, i ≤ hp_nx h → va_up ad (hp_nx h + 1) q i = ad i := fun i hi => sd_up_ne (by omega)
      have r3' : ∀ v ∈ r, sd_vf (hp_nx h) v := fun v hv => r3 v (List.mem_cons_of_mem _ hv)
      have e1 : hp_nx h - n0 + 1 = hp_nx (hp_al h 2 x.toNatClampNeg x.toNatClampNeg) - n0 := by rw [hnx]; omega
      have e2 : hp_sl h - s0 + x.toNatClampNeg = hp_sl (hp_al h 2 x.toNatClampNeg x.toNatClampNeg) - s0 := by rw [hsl]; omega
      rw [e1, e2]
      have kkk := kk (va_up ad (hp_nx h + 1) q) H1 locs ls ⟨sd_al_wf r1, fun v hv => sd_vf_mono (Nat.le_succ _) (r2 v hv), fun v hv => by
        rcases List.mem_cons.mp hv with rfl | hv
        · exact Nat.le_refl _
        · exact sd_vf_mono (Nat.le_succ _) (r3' v hv), by rw [hnx]; omega, by rw [hsl]; omega, fun i hi => by rw [ha i (by omega)]; exact r6 i hi, hP, hD, hS, r10, by rw [sd_as_eq r2 ha]; exact r11⟩
      rw [List.map_cons, sd_st_eq r3' ha] at kkk
      have e3 : sd_re (va_up ad (hp_nx h + 1) q) (.ref (hp_nx h + 1)) = .ref q := by
        show Value.ref _ = _
        rw [sd_up_eq]
      rw [e3] at kkk
      exact kkk
    · cases hs
  · cases hs
theorem sdi_newa3 (hA : ∀ q, H0.size ≤ q → A q) (F : sd_Fix p s m args meth c cc nL o ini D cy) (hd : decode cc pc = .ok (.newarray .boolean, 2)) (hn : n = pc + 2) (hs : pm_newa 3 n L st h = some (.inl (pc', L', st', h'))) (hcr : hp_nx h' - n0 ≤ R.cells) (hsr : hp_sl h' - s0 ≤ R.slots) (kk : sd_G p l e R s m args below meth c Q D cy ad0 n0 s0 A H0 nL pc' L' st' h') : sd_G p l e R s m args below meth c Q D cy ad0 n0 s0 A H0 nL pc L st h := by
  unfold pm_newa at hs
  split at hs
  · rename_i x r
    split at hs
    · rename_i hx
      cases hs
      intro ad H locs ls ⟨r1, r2, r3, r4, r5, r6, r7, r8, r9, r10, r11⟩
      subst hn
      have hnx : hp_nx (hp_al h 3 x.toNatClampNeg x.toNatClampNeg) = hp_nx h + 1 := rfl
      have hsl : hp_sl (hp_al h 3 x.toNatClampNeg x.toNatClampNeg) = hp_sl h + x.toNatClampNeg := rfl
      rw [hnx] at hcr
      rw [hsl] at hsr
      have harr : Cond.arrayClass .boolean ∈ sd_WS := sd_arr.2.2.1
      obtain ⟨ek, el, eI, eJ, eR⟩ := sd_al_eq (h := h) (t := 3) (n := x.toNatClampNeg) (z := x.toNatClampNeg)
      refine va_newa (atype := .boolean) (ty := .boolean) (N' := x.toNatClampNeg) (a0 := (x.toNatClampNeg, .inl (fun _ => 0))) F.1 F.2.1 (F.2.2.2.2.1 _ harr) rfl F.2.2.2.2.2.2.1 r7 r8 r9 hA (fun cA => rfl) hx.1 rfl (Nat.le_trans (Nat.mul_le_mul hx.2 (show componentBytes .boolean ≤ 8 by decide)) (by decide)) (by omega) (by omega) hd (fun q cA H1 hK hP hD hS => ?_)
      have hcA : cA = cy 3 := by
        have e1 := (hK.2 3 _ rfl).2
        have e2 := (hK.2 2 _ rfl).2
        exact Option.some.inj (e1.symm.trans e2)
      subst hcA
      have hce : sd_ce cy (hp_al h 3 x.toNatClampNeg x.toNatClampNeg) (va_up ad (hp_nx h + 1) q) (hp_nx h + 1) = .inl (cy 3, x.toNatClampNeg, .inl (fun _ => 0)) := by
        rw [sd_ceZ ek, el, eI]
      have hww := sd_w_al (cy := cy) (ad := ad) (t := 3) (n := x.toNatClampNeg) (z := x.toNatClampNeg) (q := q) r1
      rw [hce] at hww
      rw [← hww] at hP hD
      have ha : ∀ i, i ≤ hp_nx h → va_up ad (hp_nx h + 1) q i = ad i := fun i hi => sd_up_ne (by omega)
      have r3' : ∀ v ∈ r, sd_vf (hp_nx h) v := fun v hv => r3 v (List.mem_cons_of_mem _ hv)
      have e1 : hp_nx h - n0 + 1 = hp_nx (hp_al h 3 x.toNatClampNeg x.toNatClampNeg) - n0 := by rw [hnx]; omega
      have e2 : hp_sl h - s0 + x.toNatClampNeg = hp_sl (hp_al h 3 x.toNatClampNeg x.toNatClampNeg) - s0 := by rw [hsl]; omega
      rw [e1, e2]
      have kkk := kk (va_up ad (hp_nx h + 1) q) H1 locs ls ⟨sd_al_wf r1, fun v hv => sd_vf_mono (Nat.le_succ _) (r2 v hv), fun v hv => by
        rcases List.mem_cons.mp hv with rfl | hv
        · exact Nat.le_refl _
        · exact sd_vf_mono (Nat.le_succ _) (r3' v hv), by rw [hnx]; omega, by rw [hsl]; omega, fun i hi => by rw [ha i (by omega)]; exact r6 i hi, hP, hD, hS, r10, by rw [sd_as_eq r2 ha]; exact r11⟩
      rw [List.map_cons, sd_st_eq r3' ha] at kkk
      have e3 : sd_re (va_up ad (hp_nx h + 1) q) (.ref (hp_nx h + 1)) = .ref q := by
        show Value.ref _ = _
        rw [sd_up_eq]
      rw [e3] at kkk
      exact kkk
    · cases hs
  · cases hs
theorem sdi_iald {sc : Sc_} (hsc : sd_Sc sc A H0 s (ad0 0)) (F0x : True) (F : sd_Fix p s m args meth c cc nL o ini D cy) (hd : decode cc pc = .ok (.iaload, 1)) (hn : n = pc + 1) (hs : pm_iald sc n L st h = some (.inl (pc', L', st', h'))) (kk : sd_G p l e R s m args below meth c Q D cy ad0 n0 s0 A H0 nL pc' L' st' h') : sd_G p l e R s m args below meth c Q D cy ad0 n0 s0 A H0 nL pc L st h := by
  unfold pm_iald at hs
  split at hs
  · rename_i i x r
    split at hs
    · rename_i hx
      subst hx
      split at hs
      · rename_i z f
        split at hs
        · cases hs
        · rename_i hin
          cases hs
          intro ad H locs ls ⟨r1, r2, r3, r4, r5, r6, r7, r8, r9, r10, r11⟩
          subst hn
          have kkk := kk ad H locs ls ⟨r1, r2, fun v hv => by
            rcases List.mem_cons.mp hv with rfl | hv
            · trivial
            · exact r3 v (List.mem_cons_of_mem _ (List.mem_cons_of_mem _ hv)), r4, r5, r6, r7, r8, r9, r10, r11⟩
          have e0 : ad 0 = ad0 0 := r6 0 (Nat.zero_le _)
          show W p l e R s m args below meth c H locs _ _ Q (F0 m pc ls (.int i :: .ref (ad 0) :: r.map (sd_re ad)))
          rw [e0]
          exact va_sld F.1 F.2.1 hsc.1 hsc.2.1 hsc.2.2 r9 hin hd kkk
      · cases hs
    · skip
      split at hs
      · rename_i hkd
        split at hs
        · cases hs
        · rename_i hin
          cases hs
          intro ad H locs ls ⟨r1, r2, r3, r4, r5, r6, r7, r8, r9, r10, r11⟩
          subst hn
          have hx0 := r1.2 x (by rw [hkd]; omega)
          have he := sd_w_at (cy := cy) (ad := ad) hx0.1 hx0.2
          rw [sd_ceI hkd] at he
          exact va_iald F.1 F.2.1 F.2.2.2.2.2.2.1 r7 (x - 1) 0 he rfl hin hd (kk ad H locs ls ⟨r1, r2, fun v hv => by
            rcases List.mem_cons.mp hv with rfl | hv
            · trivial
            · exact r3 v (List.mem_cons_of_mem _ (List.mem_cons_of_mem _ hv)), r4, r5, r6, r7, r8, r9, r10, r11⟩)
      · cases hs
  · cases hs
theorem sdi_zald (F0x : True) (F : sd_Fix p s m args meth c cc nL o ini D cy) (hd : decode cc pc = .ok (.baload, 1)) (hn : n = pc + 1) (hs : pm_zald n L st h = some (.inl (pc', L', st', h'))) (kk : sd_G p l e R s m args below meth c Q D cy ad0 n0 s0 A H0 nL pc' L' st' h') : sd_G p l e R s m args below meth c Q D cy ad0 n0 s0 A H0 nL pc L st h := by
  unfold pm_zald at hs
  split at hs
  · rename_i i x r
    split at hs
    · rename_i hkd
      split at hs
      · cases hs
      · rename_i hin
        cases hs
        intro ad H locs ls ⟨r1, r2, r3, r4, r5, r6, r7, r8, r9, r10, r11⟩
        subst hn
        have hx0 := r1.2 x (by rw [hkd]; omega)
        have he := sd_w_at (cy := cy) (ad := ad) hx0.1 hx0.2
        rw [sd_ceZ hkd] at he
        exact va_zald F.1 F.2.1 F.2.2.2.2.2.2.1 r7 (x - 1) 2 he rfl hin hd (kk ad H locs ls ⟨r1, r2, fun v hv => by
          rcases List.mem_cons.mp hv with rfl | hv
          · trivial
          · exact r3 v (List.mem_cons_of_mem _ (List.mem_cons_of_mem _ hv)), r4, r5, r6, r7, r8, r9, r10, r11⟩)
    · cases hs
  · cases hs
theorem sdi_lald (F0x : True) (F : sd_Fix p s m args meth c cc nL o ini D cy) (hd : decode cc pc = .ok (.laload, 1)) (hn : n = pc + 1) (hs : pm_lald n L st h = some (.inl (pc', L', st', h'))) (kk : sd_G p l e R s m args below meth c Q D cy ad0 n0 s0 A H0 nL pc' L' st' h') : sd_G p l e R s m args below meth c Q D cy ad0 n0 s0 A H0 nL pc L st h := by
  unfold pm_lald at hs
  split at hs
  · rename_i i x r
    split at hs
    · rename_i hkd
      split at hs
      · cases hs
      · rename_i hin
        cases hs
        intro ad H locs ls ⟨r1, r2, r3, r4, r5, r6, r7, r8, r9, r10, r11⟩
        subst hn
        have hx0 := r1.2 x (by rw [hkd]; omega)
        have he := sd_w_at (cy := cy) (ad := ad) hx0.1 hx0.2
        rw [sd_ceJ hkd] at he
        exact va_lald F.1 F.2.1 F.2.2.2.2.2.2.1 r7 (x - 1) 1 he rfl hin hd (kk ad H locs ls ⟨r1, r2, fun v hv => by
          rcases List.mem_cons.mp hv with rfl | hv
          · trivial
          · exact r3 v (List.mem_cons_of_mem _ (List.mem_cons_of_mem _ hv)), r4, r5, r6, r7, r8, r9, r10, r11⟩)
    · cases hs
  · cases hs
theorem sdi_alen {sc : Sc_} (hsc : sd_Sc sc A H0 s (ad0 0)) (F : sd_Fix p s m args meth c cc nL o ini D cy) (hd : decode cc pc = .ok (.arraylength, 1)) (hn : n = pc + 1) (hs : pm_alen sc n L st h = some (.inl (pc', L', st', h'))) (kk : sd_G p l e R s m args below meth c Q D cy ad0 n0 s0 A H0 nL pc' L' st' h') : sd_G p l e R s m args below meth c Q D cy ad0 n0 s0 A H0 nL pc L st h := by
  unfold pm_alen at hs
  split at hs
  · rename_i x r
    split at hs
    · rename_i hx
      subst hx
      split at hs
      · rename_i z f
        cases hs
        intro ad H locs ls ⟨r1, r2, r3, r4, r5, r6, r7, r8, r9, r10, r11⟩
        subst hn
        have kkk := kk ad H locs ls ⟨r1, r2, fun v hv => by
          rcases List.mem_cons.mp hv with rfl | hv
          · trivial
          · exact r3 v (List.mem_cons_of_mem _ hv), r4, r5, r6, r7, r8, r9, r10, r11⟩
        have e0 : ad 0 = ad0 0 := r6 0 (Nat.zero_le _)
        show W p l e R s m args below meth c H locs _ _ Q (F0 m pc ls (.ref (ad 0) :: r.map (sd_re ad)))
        rw [e0]
        exact va_slen F.1 F.2.1 hsc.1 hsc.2.1 hsc.2.2 r9 hd kkk
      · cases hs
    · split at hs
      · rename_i hkd
        cases hs
        intro ad H locs ls ⟨r1, r2, r3, r4, r5, r6, r7, r8, r9, r10, r11⟩
        subst hn
        have hx0 := r1.2 x (by omega)
        have he := sd_w_at (cy := cy) (ad := ad) hx0.1 hx0.2
        have kkk := kk ad H locs ls ⟨r1, r2, fun v hv => by
          rcases List.mem_cons.mp hv with rfl | hv
          · trivial
          · exact r3 v (List.mem_cons_of_mem _ hv), r4, r5, r6, r7, r8, r9, r10, r11⟩
        rcases hkd with hkd | hkd | hkd
        · rw [sd_ceI hkd] at he
          exact va_alen (v := nI (hp_ln h x)) F.1 F.2.1 F.2.2.2.2.2.2.1 r7 (x - 1) 0 he (ty := .int) rfl rfl hd kkk
        · rw [sd_ceJ hkd] at he
          exact va_alen (v := nI (hp_ln h x)) F.1 F.2.1 F.2.2.2.2.2.2.1 r7 (x - 1) 1 he (ty := .long) rfl rfl hd kkk
        · rw [sd_ceZ hkd] at he
          exact va_alen (v := nI (hp_ln h x)) F.1 F.2.1 F.2.2.2.2.2.2.1 r7 (x - 1) 2 he (ty := .boolean) rfl rfl hd kkk
      · cases hs
  · cases hs
theorem sdi_iast (F : sd_Fix p s m args meth c cc nL o ini D cy) (hd : decode cc pc = .ok (.iastore, 1)) (hn : n = pc + 1) (hs : pm_iast n L st h = some (.inl (pc', L', st', h'))) (kk : sd_G p l e R s m args below meth c Q D cy ad0 n0 s0 A H0 nL pc' L' st' h') : sd_G p l e R s m args below meth c Q D cy ad0 n0 s0 A H0 nL pc L st h := by
  unfold pm_iast at hs
  split at hs
  · rename_i v i x r
    split at hs
    · rename_i hkd
      split at hs
      · cases hs
      · rename_i hin
        cases hs
        intro ad H locs ls ⟨r1, r2, r3, r4, r5, r6, r7, r8, r9, r10, r11⟩
        subst hn
        have hx0 := r1.2 x (by rw [hkd]; omega)
        have he := sd_w_at (cy := cy) (ad := ad) hx0.1 hx0.2
        rw [sd_ceI hkd] at he
        refine va_iast F.1 F.2.1 F.2.2.2.2.2.2.1 r7 r8 r9 (x - 1) 0 he rfl hin hd (fun H1 locs1 hP1 hD1 hS1 => ?_)
        have hnew : (sd_w cy h ad).set (x - 1) (ad x, .inl (cy 1, hp_ln h x, .inl (upd (hp_I h x) i.toNatClampNeg v))) = sd_w cy (hp_rI h x (va_up (hp_I h x) i.toNatClampNeg v)) ad := by
          have e1 : sd_ce cy (hp_rI h x (va_up (hp_I h x) i.toNatClampNeg v)) ad x = .inl (cy 1, hp_ln h x, .inl (upd (hp_I h x) i.toNatClampNeg v)) := by
            rw [sd_ceI (show hp_kd (hp_rI h x (va_up (hp_I h x) i.toNatClampNeg v)) x = 1 from hkd)]
            simp only [sd_rI_eq]
            rfl
          rw [← e1]
          exact sd_w_set hx0.1 rfl (fun q hq => sd_ce_eq rfl rfl (sd_rI_ne hq) rfl rfl (fun _ => Or.inl rfl))
        rw [hnew] at hP1 hD1
        exact kk ad H1 locs1 ls ⟨r1, r2, fun w hw => r3 w (List.mem_cons_of_mem _ (List.mem_cons_of_mem _ (List.mem_cons_of_mem _ hw))), r4, r5, r6, hP1, hD1, hS1, r10, r11⟩
    · cases hs
  · cases hs
theorem sdi_zast (F : sd_Fix p s m args meth c cc nL o ini D cy) (hd : decode cc pc = .ok (.bastore, 1)) (hn : n = pc + 1) (hs : pm_zast n L st h = some (.inl (pc', L', st', h'))) (kk : sd_G p l e R s m args below meth c Q D cy ad0 n0 s0 A H0 nL pc' L' st' h') : sd_G p l e R s m args below meth c Q D cy ad0 n0 s0 A H0 nL pc L st h := by
  unfold pm_zast at hs
  split at hs
  · rename_i v i x r
    split at hs
    · rename_i hkd
      obtain ⟨hkd, hv⟩ := hkd
      split at hs
      · cases hs
      · rename_i hin
        cases hs
        intro ad H locs ls ⟨r1, r2, r3, r4, r5, r6, r7, r8, r9, r10, r11⟩
        subst hn
        have hx0 := r1.2 x (by rw [hkd]; omega)
        have he := sd_w_at (cy := cy) (ad := ad) hx0.1 hx0.2
        rw [sd_ceZ hkd] at he
        refine va_zast F.1 F.2.1 F.2.2.2.2.2.2.1 r7 r8 r9 (x - 1) 2 he rfl hin hd (fun H1 locs1 hP1 hD1 hS1 => ?_)
        have hnew : (sd_w cy h ad).set (x - 1) (ad x, .inl (cy 3, hp_ln h x, .inl (upd (hp_I h x) i.toNatClampNeg (vp_nar .boolean v)))) = sd_w cy (hp_rI h x (va_up (hp_I h x) i.toNatClampNeg v)) ad := by
          have e1 : sd_ce cy (hp_rI h x (va_up (hp_I h x) i.toNatClampNeg v)) ad x = .inl (cy 3, hp_ln h x, .inl (upd (hp_I h x) i.toNatClampNeg (vp_nar .boolean v))) := by
            rw [sd_ceZ (show hp_kd (hp_rI h x (va_up (hp_I h x) i.toNatClampNeg v)) x = 3 from hkd)]
            simp only [sd_rI_eq]
            rcases hv with rfl | rfl <;> rfl
          rw [← e1]
          exact sd_w_set hx0.1 rfl (fun q hq => sd_ce_eq rfl rfl (sd_rI_ne hq) rfl rfl (fun _ => Or.inl rfl))
        rw [hnew] at hP1 hD1
        exact kk ad H1 locs1 ls ⟨r1, r2, fun w hw => r3 w (List.mem_cons_of_mem _ (List.mem_cons_of_mem _ (List.mem_cons_of_mem _ hw))), r4, r5, r6, hP1, hD1, hS1, r10, r11⟩
    · cases hs
  · cases hs
theorem sdi_last (F : sd_Fix p s m args meth c cc nL o ini D cy) (hd : decode cc pc = .ok (.lastore, 1)) (hn : n = pc + 1) (hs : pm_last n L st h = some (.inl (pc', L', st', h'))) (kk : sd_G p l e R s m args below meth c Q D cy ad0 n0 s0 A H0 nL pc' L' st' h') : sd_G p l e R s m args below meth c Q D cy ad0 n0 s0 A H0 nL pc L st h := by
  unfold pm_last at hs
  split at hs
  · rename_i v i x r
    split at hs
    · rename_i hkd
      split at hs
      · cases hs
      · rename_i hin
        cases hs
        intro ad H locs ls ⟨r1, r2, r3, r4, r5, r6, r7, r8, r9, r10, r11⟩
        subst hn
        have hx0 := r1.2 x (by rw [hkd]; omega)
        have he := sd_w_at (cy := cy) (ad := ad) hx0.1 hx0.2
        rw [sd_ceJ hkd] at he
        refine va_last F.1 F.2.1 F.2.2.2.2.2.2.1 r7 r8 r9 (x - 1) 1 he rfl hin hd (fun H1 locs1 hP1 hD1 hS1 => ?_)
        have hnew : (sd_w cy h ad).set (x - 1) (ad x, .inl (cy 2, hp_ln h x, .inr (.inl (vp_updL (hp_J h x) i.toNatClampNeg v)))) = sd_w cy (hp_rJ h x (va_up (hp_J h x) i.toNatClampNeg v)) ad := by
          have e1 : sd_ce cy (hp_rJ h x (va_up (hp_J h x) i.toNatClampNeg v)) ad x = .inl (cy 2, hp_ln h x, .inr (.inl (vp_updL (hp_J h x) i.toNatClampNeg v))) := by
            rw [sd_ceJ (show hp_kd (hp_rJ h x (va_up (hp_J h x) i.toNatClampNeg v)) x = 2 from hkd)]
            simp only [sd_rJ_eq]
            rfl
          rw [← e1]
          exact sd_w_set hx0.1 rfl (fun q hq => sd_ce_eq rfl rfl rfl (sd_rJ_ne hq) rfl (fun _ => Or.inl rfl))
        rw [hnew] at hP1 hD1
        exact kk ad H1 locs1 ls ⟨r1, r2, fun w hw => r3 w (List.mem_cons_of_mem _ (List.mem_cons_of_mem _ (List.mem_cons_of_mem _ hw))), r4, r5, r6, hP1, hD1, hS1, r10, r11⟩
    · cases hs
  · cases hs
end SDA
