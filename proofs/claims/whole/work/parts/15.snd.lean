-- ===== the call instructions =====
theorem sd_sum_le (l : List Value) : (l.map (fun v => v.category)).sum ≤ 2 * l.length := by
  induction l with
  | nil => exact Nat.le_refl _
  | cons v t ih =>
    have hv : v.category ≤ 2 := by cases v <;> simp [Value.category]
    simp only [List.map_cons, List.sum_cons, List.length_cons]
    omega
theorem sd_sum_re (ad : Nat → Nat) (l : List Value) : ((l.map (sd_re ad)).map (fun v => v.category)).sum ≤ 2 * l.length := by
  have := sd_sum_le (l.map (sd_re ad))
  rw [List.length_map] at this
  exact this
theorem sd_split {st : List Value} {b : Nat} {v : Value} (h : st[b]? = some v) : st = st.take b ++ v :: st.drop (b + 1) := by
  obtain ⟨h1, h2⟩ := List.getElem?_eq_some_iff.mp h
  rw [← h2, List.getElem_cons_drop, List.take_append_drop]
section SDK
variable {p : Program} {l : Launch} {e : Env} {R : Room} {s : State} {m : MethodId} {args : Array Value} {below : List Frame} {meth : Method} {c : Code} {Q : State → Prop} {D : va_G} {cy : Nat → ClassId} {ad0 : Nat → Nat} {n0 s0 : Nat} {A : Nat → Prop} {H0 : Heap} {nL o : Nat} {cc : ByteArray} {ini : Bool} {pc pc' n : Nat} {L L' : Lc_} {st st' : List Value} {h h' : Hp_}
theorem sd_link {x idx a d : Nat} {r : Nat × Nat × Nat × Nat × Nat} {q : Mi_} (F : sd_Fix p s m args meth c cc nL o ini D cy) (hx : tt_rM[x]? = some r) (hr : r.1 = o ∧ r.2.1 = idx ∧ r.2.2.1 = a ∧ r.2.2.2.1 = d) (hq : tt_ml[a]? = some q) : (d = 0 → (Cond.methodLink (tt_name o) idx q.1).before args s = true) ∧ (d = 1 → (Cond.methodLinkNest (tt_name o) idx q.1 "RoundDance").before args s = true) := by
  obtain ⟨hm, hw⟩ := sd_rM_of hx
  obtain ⟨o', idx', a', d', k⟩ := r
  obtain ⟨e1, e2, e3, e4⟩ := hr
  dsimp only at e1 e2 e3 e4
  subst e1; subst e2; subst e3; subst e4
  have hy := sd_y_of hq
  refine ⟨fun hd => ?_, fun hd => ?_⟩
  · subst hd
    have := F.2.2.2.2.1 _ (hw (fun z => by cases z))
    simpa [sd_wM, hy] using this
  · have := F.2.2.2.2.2.1.2 _ hm hd
    subst hd
    have this : va_Nw (.methodLinkNest (tt_name o') idx' q.1 "RoundDance") s := by simpa [sd_wM, hy] using this
    exact va_Nw.use rfl this
theorem sd_link2 {x idx : Nat} {r : Nat × Nat × Nat × Nat × Nat} (F : sd_Fix p s m args meth c cc nL o ini D cy) (hx : tt_rM[x]? = some r) (hr : r.1 = o ∧ r.2.1 = idx ∧ r.2.2.2.1 = 2) : (Cond.methodLink (tt_name o) idx objectInit).before args s = true := by
  obtain ⟨hm, hw⟩ := sd_rM_of hx
  obtain ⟨o', idx', a', d', k⟩ := r
  obtain ⟨e1, e2, e3⟩ := hr
  dsimp only at e1 e2 e3
  subst e1; subst e2; subst e3
  have := F.2.2.2.2.1 _ (hw (fun z => by cases z))
  simpa [sd_wM] using this
/-- the callee's words, in the caller's -/
theorem sd_pay {q : Mi_} (F : sd_Fix p s m args meth c cc nL o ini D cy) (hc : Cond.code q.1 q.2.1 q.2.2.1 q.2.2.2.1 ∈ sd_WS) : ∀ w ∈ sd_ws q, ∀ (a' : Array Value) (U : State), s.WarmedH U.vm → w.before a' U = true := by
  have hg : GoodIn sd_WS (sd_ws q) := by
    intro w hw
    have hw2 : w ∈ sd_WS := by
      rcases List.mem_cons.mp hw with rfl | z
      · exact hc
      · exact z
    exact ⟨hw2, good_of_word (List.mem_filter.mp hw2).2⟩
  exact pay_in F.2.2.2.2.1 hg
theorem sd_Pc_of {H : Heap} {ad : Nat → Nat} {as : List Value} (F : sd_Fix p s m args meth c cc nL o ini D cy) (hP : va_P D tt_cls (sd_w cy h ad) H) (hD : va_D A (sd_w cy h ad)) (hwf : sd_wf h) (hvf : ∀ v ∈ as, sd_vf (hp_nx h) v) : ∀ U : State, U.heap = H → s.WarmedH U.vm → sd_Pc D cy h ad as H.size (as.map (sd_re ad)).toArray U :=
  fun U hU hW => ⟨rfl, by rw [hU], by rw [hU]; exact hP, va_K.moved hW.alike F.2.2.2.2.2.2.1, hD.weaken (fun _ _ _ _ => trivial), sd_NW.warm hW F.2.2.2.2.2.1, hwf, hvf⟩
theorem sdi_callV {x idx a b cl d : Nat} {r : Nat × Nat × Nat × Nat × Nat} {q : Mi_} (F : sd_Fix p s m args meth c cc nL o ini D cy) (hd : decode cc pc = .ok (.invokevirtual idx, 3)) (hn : n = pc + 3) (hx : tt_rM[x]? = some r) (hr : r.1 = o ∧ r.2.1 = idx ∧ r.2.2.1 = a ∧ r.2.2.2.1 = d) (hd1 : d ≤ 1) (hq : tt_ml[a]? = some q) (hst : ∀ z, tt_mw[a]? = some z → z.2.2.2.1 = false) (hnp : (parseMethodDescriptor q.1.desc).map (fun q => q.parameters.length) = some b) (hC : q.1.cls = (tt_c cl).1) (hcl : cl < 11) (hnm : q.1.name ≠ "<init>") {d1 : Nat} (hA : ∀ q, H0.size ≤ q → A q) (hRf : d1 + 1 ≤ R.frames) (hRl : 50 * (d1 + 1) ≤ R.locals) (hgr : hp_nx h ≤ hp_nx h' ∧ hp_sl h ≤ hp_sl h') (hcr : hp_nx h' - n0 ≤ R.cells) (hsr : hp_sl h' - s0 ≤ R.slots) {rv : Option Value} {as : List Value} (hs : pm_callV a b cl n L st h = some (.inr (.inr (a, as, pc', L', st')))) (hM : ∀ (ad : Nat → Nat) (sz : Nat), sd_Met l d1 D cy q h ad as h' rv sz) (kk : sd_G p l e R s m args below meth c Q D cy ad0 n0 s0 A H0 nL pc' L' (rv.toList ++ st') h') : sd_G p l e R s m args below meth c Q D cy ad0 n0 s0 A H0 nL pc L st h := by
  unfold pm_callV at hs
  split at hs
  · split at hs
    · rename_i ob hob
      split at hs
      · rename_i hk
        cases hs
        intro ad H locs ls ⟨r1, r2, r3, r4, r5, r6, r7, r8, r9, r10, r11⟩
        subst hn
        obtain ⟨z, hz, hcls, -, hcn, hnl, hcode, hini, -, hins⟩ := sd_Mw hq
        have hins := hins (hst z hz)
        have hsp := sd_split hob
        have hx0 := r1.2 ob (by rw [hk.1]; omega)
        have he := sd_w_at (cy := cy) (ad := ad) hx0.1 hx0.2
        rw [sd_ceO hk.1] at he
        have hstk : st.map (sd_re ad) = (((st.take b).reverse).map (sd_re ad)).reverse ++ .ref (ad ob) :: (st.drop (b + 1)).map (sd_re ad) := by
          rw [← List.map_reverse, List.reverse_reverse]
          conv => lhs; rw [hsp]
          rw [List.map_append]
          rfl
        have hlen : (((st.take b).reverse).map (sd_re ad)).length = b := by
          rw [List.length_map, List.length_reverse, List.length_take]
          have := (List.getElem?_eq_some_iff.mp hob).1
          omega
        have hroom := sd_sum_re ad (st.drop (b + 1))
        have hpl : ∀ sig, parseMethodDescriptor q.1.desc = some sig → b = sig.parameters.length := by
          intro sig hsig
          rw [hsig] at hnp
          exact (Option.some.inj hnp).symm
        have hrel : sd_wf h ∧ (∀ v, some v ∈ L → sd_vf (hp_nx h) v) ∧ (∀ v ∈ st.drop (b + 1), sd_vf (hp_nx h) v) ∧ n0 ≤ hp_nx h ∧ s0 ≤ hp_sl h ∧ (∀ i, i ≤ n0 → ad i = ad0 i) ∧ va_P D tt_cls (sd_w cy h ad) H ∧ va_D A (sd_w cy h ad) ∧ va_S A H0 H locs ∧ L.length = nL ∧ lv_has ls nL (sd_as ad L) := ⟨r1, r2, fun v hv => r3 v (List.mem_of_mem_drop hv), r4, r5, r6, r7, r8, r9, r10, r11⟩
        have hb3 : 8 + (q.2.2.1 + 11) + (sd_rm d1 (hp_nx h' - hp_nx h) (hp_sl h' - hp_sl h)).locals ≤ R.locals := by show 8 + (q.2.2.1 + 11) + 50 * d1 ≤ _; omega
        have hcells : hp_nx h - n0 + (hp_nx h' - hp_nx h) = hp_nx h' - n0 := by omega
        have hslots : hp_sl h - s0 + (hp_sl h' - hp_sl h) = hp_sl h' - s0 := by omega
        have hf : hp_nx h - n0 + (hp_nx h' - hp_nx h) ≤ R.cells ∧ hp_sl h - s0 + (hp_sl h' - hp_sl h) ≤ R.slots := ⟨by omega, by omega⟩
        have hrm : 2 * (F0 m pc ls (st.map (sd_re ad))).monitorRoom + (((st.drop (b + 1)).map (sd_re ad)).map fun v => v.category).sum ≤ 8 := lv_room (by have := hk.2; omega)
        have hlk := sd_link F hx hr hq
        have hasv : ∀ v ∈ Value.ref ob :: (st.take b).reverse, sd_vf (hp_nx h) v := by
          intro v hv
          rcases List.mem_cons.mp hv with rfl | hv
          · exact r3 _ (List.mem_of_getElem? hob)
          · exact r3 v (List.mem_of_mem_take (List.mem_reverse.mp hv))
        rcases Nat.lt_or_ge d 1 with hd1 | hd1
        · have hlk := hlk.1 (by omega)
          exact sd_after hA hrel hgr hcells hslots (va_runV (C := (tt_c cl).1) ⟨F.1, F.2.1, F.2.2.1, F.2.2.2.1, F.2.2.2.2.1⟩ (hM ad H.size) ⟨⟨rfl, rfl, hRf, hb3, sd_pay F hcode, List.mem_cons_self, F.2.2.2.2.1 _ hcode, F.2.2.2.2.1 _ hini, hcn, hpl, hlk⟩, F.2.2.2.2.1 _ hins.1, by rw [← hC]; exact F.2.2.2.2.1 _ (hins.2 hnm)⟩ ⟨sd_Pc_blind, va_recv F.2.2.2.2.2.2.1 r7 (sd_cls_at cl hcl) he, sd_Pc_of F r7 r8 r1 hasv⟩ rfl hlen r11.1 hstk hrm hd hf) kk
        · have hlk := hlk.2 (by omega)
          exact sd_after hA hrel hgr hcells hslots (va_runVN (C := (tt_c cl).1) ⟨F.1, F.2.1, F.2.2.1, F.2.2.2.1, F.2.2.2.2.1⟩ (hM ad H.size) ⟨⟨⟨rfl, rfl, hRf, hb3, sd_pay F hcode, List.mem_cons_self⟩, F.2.2.2.2.1 _ hcode, F.2.2.2.2.1 _ hini, hcn, hpl, hlk⟩, F.2.2.2.2.1 _ hins.1, by rw [← hC]; exact F.2.2.2.2.1 _ (hins.2 hnm)⟩ ⟨sd_Pc_blind, va_recv F.2.2.2.2.2.2.1 r7 (sd_cls_at cl hcl) he, sd_Pc_of F r7 r8 r1 hasv⟩ rfl hlen r11.1 hstk hrm hd hf) kk
      · cases hs
    · cases hs
  · cases hs
theorem sdi_callI {x idx a b cl d : Nat} {r : Nat × Nat × Nat × Nat × Nat} {q : Mi_} (F : sd_Fix p s m args meth c cc nL o ini D cy) (hd : decode cc pc = .ok (.invokespecial idx, 3)) (hn : n = pc + 3) (hx : tt_rM[x]? = some r) (hr : r.1 = o ∧ r.2.1 = idx ∧ r.2.2.1 = a ∧ r.2.2.2.1 = d) (hd1 : d ≤ 1) (hq : tt_ml[a]? = some q) (hst : ∀ z, tt_mw[a]? = some z → z.2.2.2.1 = false) (hnp : (parseMethodDescriptor q.1.desc).map (fun q => q.parameters.length) = some b) (hrn : q.2.2.2.1 = none) (hnm : q.1.name = "<init>") {d1 : Nat} (hA : ∀ q, H0.size ≤ q → A q) (hRf : d1 + 1 ≤ R.frames) (hRl : 50 * (d1 + 1) ≤ R.locals) (hgr : hp_nx h ≤ hp_nx h' ∧ hp_sl h ≤ hp_sl h') (hcr : hp_nx h' - n0 ≤ R.cells) (hsr : hp_sl h' - s0 ≤ R.slots) {rv : Option Value} {as : List Value} (hs : pm_callV a b cl n L st h = some (.inr (.inr (a, as, pc', L', st')))) (hM : ∀ (ad : Nat → Nat) (sz : Nat), sd_Met l d1 D cy q h ad as h' rv sz) (kk : sd_G p l e R s m args below meth c Q D cy ad0 n0 s0 A H0 nL pc' L' (rv.toList ++ st') h') : sd_G p l e R s m args below meth c Q D cy ad0 n0 s0 A H0 nL pc L st h := by
  unfold pm_callV at hs
  split at hs
  · split at hs
    · rename_i ob hob
      split at hs
      · rename_i hk
        cases hs
        intro ad H locs ls ⟨r1, r2, r3, r4, r5, r6, r7, r8, r9, r10, r11⟩
        subst hn
        obtain ⟨z, hz, hcls, -, hcn, hnl, hcode, hini, -, hins⟩ := sd_Mw hq
        have hins := hins (hst z hz)
        have hsp := sd_split hob
        have hx0 := r1.2 ob (by rw [hk.1]; omega)
        have he := sd_w_at (cy := cy) (ad := ad) hx0.1 hx0.2
        rw [sd_ceO hk.1] at he
        have hstk : st.map (sd_re ad) = (((st.take b).reverse).map (sd_re ad)).reverse ++ .ref (ad ob) :: (st.drop (b + 1)).map (sd_re ad) := by
          rw [← List.map_reverse, List.reverse_reverse]
          conv => lhs; rw [hsp]
          rw [List.map_append]
          rfl
        have hlen : (((st.take b).reverse).map (sd_re ad)).length = b := by
          rw [List.length_map, List.length_reverse, List.length_take]
          have := (List.getElem?_eq_some_iff.mp hob).1
          omega
        have hroom := sd_sum_re ad (st.drop (b + 1))
        have hpl : ∀ sig, parseMethodDescriptor q.1.desc = some sig → b = sig.parameters.length := by
          intro sig hsig
          rw [hsig] at hnp
          exact (Option.some.inj hnp).symm
        have hrel : sd_wf h ∧ (∀ v, some v ∈ L → sd_vf (hp_nx h) v) ∧ (∀ v ∈ st.drop (b + 1), sd_vf (hp_nx h) v) ∧ n0 ≤ hp_nx h ∧ s0 ≤ hp_sl h ∧ (∀ i, i ≤ n0 → ad i = ad0 i) ∧ va_P D tt_cls (sd_w cy h ad) H ∧ va_D A (sd_w cy h ad) ∧ va_S A H0 H locs ∧ L.length = nL ∧ lv_has ls nL (sd_as ad L) := ⟨r1, r2, fun v hv => r3 v (List.mem_of_mem_drop hv), r4, r5, r6, r7, r8, r9, r10, r11⟩
        have hb3 : 8 + (q.2.2.1 + 11) + (sd_rm d1 (hp_nx h' - hp_nx h) (hp_sl h' - hp_sl h)).locals ≤ R.locals := by show 8 + (q.2.2.1 + 11) + 50 * d1 ≤ _; omega
        have hcells : hp_nx h - n0 + (hp_nx h' - hp_nx h) = hp_nx h' - n0 := by omega
        have hslots : hp_sl h - s0 + (hp_sl h' - hp_sl h) = hp_sl h' - s0 := by omega
        have hf : hp_nx h - n0 + (hp_nx h' - hp_nx h) ≤ R.cells ∧ hp_sl h - s0 + (hp_sl h' - hp_sl h) ≤ R.slots := ⟨by omega, by omega⟩
        have hrm : 2 * (F0 m pc ls (st.map (sd_re ad))).monitorRoom + (((st.drop (b + 1)).map (sd_re ad)).map fun v => v.category).sum ≤ 8 := lv_room (by have := hk.2; omega)
        have hlk := sd_link F hx hr hq
        have hasv : ∀ v ∈ Value.ref ob :: (st.take b).reverse, sd_vf (hp_nx h) v := by
          intro v hv
          rcases List.mem_cons.mp hv with rfl | hv
          · exact r3 _ (List.mem_of_getElem? hob)
          · exact r3 v (List.mem_of_mem_take (List.mem_reverse.mp hv))
        have hcode2 : Cond.code q.1 q.2.1 q.2.2.1 none ∈ sd_ws q := by
          have : Cond.code q.1 q.2.1 q.2.2.1 q.2.2.2.1 ∈ sd_ws q := List.mem_cons_self
          rw [hrn] at this
          exact this
        have hcode3 : (Cond.code q.1 q.2.1 q.2.2.1 none).before args s = true := by
          have := F.2.2.2.2.1 _ hcode
          rw [hrn] at this
          exact this
        rcases Nat.lt_or_ge d 1 with hd1 | hd1
        · have hlk := hlk.1 (by omega)
          exact sd_after hA hrel hgr hcells hslots (va_runI ⟨F.1, F.2.1, F.2.2.1, F.2.2.2.1, F.2.2.2.2.1⟩ (hM ad H.size) ⟨⟨rfl, rfl, hRf, hb3, sd_pay F hcode, hcode2, hcode3, F.2.2.2.2.1 _ hini, hcn, hpl, hlk⟩, hnm, F.2.2.2.2.1 _ hins.1⟩ ⟨sd_Pc_blind, sd_Pc_of F r7 r8 r1 hasv⟩ rfl hlen r11.1 hstk hrm hd hf) kk
        · have hlk := hlk.2 (by omega)
          exact sd_after hA hrel hgr hcells hslots (va_runIN ⟨F.1, F.2.1, F.2.2.1, F.2.2.2.1, F.2.2.2.2.1⟩ (hM ad H.size) ⟨⟨⟨rfl, rfl, hRf, hb3, sd_pay F hcode, hcode2⟩, hcode3, F.2.2.2.2.1 _ hini, hcn, hpl, hlk⟩, hnm, F.2.2.2.2.1 _ hins.1⟩ ⟨sd_Pc_blind, sd_Pc_of F r7 r8 r1 hasv⟩ rfl hlen r11.1 hstk hrm hd hf) kk
      · cases hs
    · cases hs
  · cases hs
theorem sdi_callS {x idx a b d : Nat} {r : Nat × Nat × Nat × Nat × Nat} {q : Mi_} (F : sd_Fix p s m args meth c cc nL o ini D cy) (hd : decode cc pc = .ok (.invokestatic idx, 3)) (hn : n = pc + 3) (hx : tt_rM[x]? = some r) (hr : r.1 = o ∧ r.2.1 = idx ∧ r.2.2.1 = a ∧ r.2.2.2.1 = d) (hd1 : d ≤ 1) (hq : tt_ml[a]? = some q) (hst : ∀ z, tt_mw[a]? = some z → z.2.2.2.1 = true) (hnp : (parseMethodDescriptor q.1.desc).map (fun q => q.parameters.length) = some b) {d1 : Nat} (hA : ∀ q, H0.size ≤ q → A q) (hRf : d1 + 1 ≤ R.frames) (hRl : 50 * (d1 + 1) ≤ R.locals) (hgr : hp_nx h ≤ hp_nx h' ∧ hp_sl h ≤ hp_sl h') (hcr : hp_nx h' - n0 ≤ R.cells) (hsr : hp_sl h' - s0 ≤ R.slots) {rv : Option Value} {as : List Value} (hs : pm_callS a b n L st h = some (.inr (.inr (a, as, pc', L', st')))) (hM : ∀ (ad : Nat → Nat) (sz : Nat), sd_Met l d1 D cy q h ad as h' rv sz) (kk : sd_G p l e R s m args below meth c Q D cy ad0 n0 s0 A H0 nL pc' L' (rv.toList ++ st') h') : sd_G p l e R s m args below meth c Q D cy ad0 n0 s0 A H0 nL pc L st h := by
  unfold pm_callS at hs
  split at hs
  · rename_i hk
    cases hs
    intro ad H locs ls ⟨r1, r2, r3, r4, r5, r6, r7, r8, r9, r10, r11⟩
    subst hn
    obtain ⟨z, hz, hcls, -, hcn, hnl, hcode, hini, hstt, -⟩ := sd_Mw hq
    have hstt := hstt (hst z hz)
    have hstk : st.map (sd_re ad) = (((st.take b).reverse).map (sd_re ad)).reverse ++ (st.drop b).map (sd_re ad) := by
      rw [← List.map_reverse, List.reverse_reverse, ← List.map_append, List.take_append_drop]
    have hlen : (((st.take b).reverse).map (sd_re ad)).length = b := by
      rw [List.length_map, List.length_reverse, List.length_take]
      have := hk.1
      omega
    have hroom := sd_sum_re ad (st.drop b)
    have hpl : ∀ sig, parseMethodDescriptor q.1.desc = some sig → b = sig.parameters.length := by
      intro sig hsig
      rw [hsig] at hnp
      exact (Option.some.inj hnp).symm
    have hrel : sd_wf h ∧ (∀ v, some v ∈ L → sd_vf (hp_nx h) v) ∧ (∀ v ∈ st.drop b, sd_vf (hp_nx h) v) ∧ n0 ≤ hp_nx h ∧ s0 ≤ hp_sl h ∧ (∀ i, i ≤ n0 → ad i = ad0 i) ∧ va_P D tt_cls (sd_w cy h ad) H ∧ va_D A (sd_w cy h ad) ∧ va_S A H0 H locs ∧ L.length = nL ∧ lv_has ls nL (sd_as ad L) := ⟨r1, r2, fun v hv => r3 v (List.mem_of_mem_drop hv), r4, r5, r6, r7, r8, r9, r10, r11⟩
    have hb3 : 8 + (q.2.2.1 + 11) + (sd_rm d1 (hp_nx h' - hp_nx h) (hp_sl h' - hp_sl h)).locals ≤ R.locals := by show 8 + (q.2.2.1 + 11) + 50 * d1 ≤ _; omega
    have hcells : hp_nx h - n0 + (hp_nx h' - hp_nx h) = hp_nx h' - n0 := by omega
    have hslots : hp_sl h - s0 + (hp_sl h' - hp_sl h) = hp_sl h' - s0 := by omega
    have hf : hp_nx h - n0 + (hp_nx h' - hp_nx h) ≤ R.cells ∧ hp_sl h - s0 + (hp_sl h' - hp_sl h) ≤ R.slots := ⟨by omega, by omega⟩
    have hrm : 2 * (F0 m pc ls (st.map (sd_re ad))).monitorRoom + (((st.drop b).map (sd_re ad)).map fun v => v.category).sum ≤ 8 := lv_room (by have := hk.2; omega)
    have hlk := sd_link F hx hr hq
    have hasv : ∀ v ∈ (st.take b).reverse, sd_vf (hp_nx h) v := fun v hv => r3 v (List.mem_of_mem_take (List.mem_reverse.mp hv))
    rcases Nat.lt_or_ge d 1 with hd1 | hd1
    · have hlk := hlk.1 (by omega)
      exact sd_after hA hrel hgr hcells hslots (va_runS ⟨F.1, F.2.1, F.2.2.1, F.2.2.2.1, F.2.2.2.2.1⟩ (hM ad H.size) ⟨⟨rfl, rfl, hRf, hb3, sd_pay F hcode, List.mem_cons_self, F.2.2.2.2.1 _ hcode, F.2.2.2.2.1 _ hini, hcn, hpl, hlk⟩, F.2.2.2.2.1 _ hstt⟩ ⟨sd_Pc_blind, sd_Pc_of F r7 r8 r1 hasv⟩ rfl hlen r11.1 hstk hrm hd hf) kk
    · have hlk := hlk.2 (by omega)
      exact sd_after hA hrel hgr hcells hslots (va_runSN ⟨F.1, F.2.1, F.2.2.1, F.2.2.2.1, F.2.2.2.2.1⟩ (hM ad H.size) ⟨⟨⟨rfl, rfl, hRf, hb3, sd_pay F hcode, List.mem_cons_self⟩, F.2.2.2.2.1 _ hcode, F.2.2.2.2.1 _ hini, hcn, hpl, hlk⟩, F.2.2.2.2.1 _ hstt, trivial⟩ ⟨sd_Pc_blind, sd_Pc_of F r7 r8 r1 hasv⟩ rfl hlen r11.1 hstk hrm hd hf) kk
  · cases hs
theorem sdi_objI {x idx a b cl d : Nat} {r : Nat × Nat × Nat × Nat × Nat} (F : sd_Fix p s m args meth c cc nL o ini D cy) (hd : decode cc pc = .ok (.invokespecial idx, 3)) (hn : n = pc + 3) (hx : tt_rM[x]? = some r) (hr : r.1 = o ∧ r.2.1 = idx ∧ r.2.2.2.1 = 2) (hRf : 1 ≤ R.frames) (hRl : 50 ≤ R.locals) (hd2 : d = 2) (hs : pm_callI a b cl d n L st h = some (.inl (pc', L', st', h'))) (kk : sd_G p l e R s m args below meth c Q D cy ad0 n0 s0 A H0 nL pc' L' st' h') : sd_G p l e R s m args below meth c Q D cy ad0 n0 s0 A H0 nL pc L st h := by
  unfold pm_callI at hs
  rw [if_pos hd2] at hs
  split at hs
  · rename_i ob rr
    split at hs
    · rename_i hk
      cases hs
      intro ad H locs ls ⟨r1, r2, r3, r4, r5, r6, r7, r8, r9, r10, r11⟩
      subst hn
      have hroom := sd_sum_re ad st'
      refine W.objInit F.1 F.2.1 F.2.2.2.1 (sd_link2 F hx hr) (F.2.2.2.2.1 _ sd_arr.2.2.2.2) (F.2.2.2.2.1 _ sd_arr.2.2.2.1) rfl (by rw [F.2.2.1]; exact r11.1) rfl hd hRf (by have := hk.2; show 2 * 0 + _ + 12 ≤ _; omega) ?_
      exact kk ad H locs ls ⟨r1, r2, fun v hv => r3 v (List.mem_cons_of_mem _ hv), r4, r5, r6, r7, r8, r9, r10, r11⟩
    · cases hs
  · cases hs
end SDK
