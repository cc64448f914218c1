-- ===== THE LAW: out of a run of the pure machine (begun with the skeleton) =====
/-! THE CLAIM OUT OF ONE WALK OF THE LAW'S BODY. Your part is whole_start (and what it stands on); all else here is the same for every law, but numbers. -/
def R_law : String := "RoundDanceLaw"
def lw_P (b : Addr) (xs : List Int32) (args : Array Value) (s : State) : Prop := args = #[.ref b] ∧ s.IntsAt b xs ∧ xs.length ≤ 320 ∧ (Jvm.Cond.and given_1 narrow_1).before args s = true
def lw_Q (_ : Array Value) (s : State) (o : Outcome) (t : State) : Prop := o = .returned (some (.int 1)) ∧ Framed s o t [] 600000 room_1.slots
def lw_Z (below : List Frame) (a : Array Value) (s : State) : State → Prop := fun t => ∃ o, t.status = .running ∧ Ended t below o ∧ lw_Q a s o t
/-- the law's own end, with 1 on the stack, nothing written that was there before, its room as the claim has it -/
theorem lw_ret {p : Program} {l : Launch} {e : Env} {s : State} {m : MethodId} {below : List Frame} {meth : Method} {c : Code} {b : Nat} (hx : p.tables.exec = Jvm.exec) (hb : c.code = code) (hr : meth.sig.returnType = ret) (hlocks : meth.locks = false) {pc : Nat} {H : Heap} {ls : Array Slot} (hdg : decode code pc = .ok (.ireturn, 1)) : W p l e room_1 s m #[Value.ref b] below meth c H [] 600000 room_1.slots (lw_Z below #[Value.ref b] s) (F0 m pc ls [.int 1]) := by
  intro T hT X
  obtain ⟨fs, hret, hrun, hended, hW, hframe⟩ := X.leave (v := some (.int 1)) (hlocks := hlocks) (fun h => by rw [hr] at h; cases h)
  have hmeth' : T.vm.method? m = some meth := X.method'
  refine ⟨T.setFrames fs, ?_, .returned (some (.int 1)), hrun, hended, rfl, ⟨_, rfl⟩, hW, hframe⟩
  jvm_step X.here [X.here.top, hx, hb, hdg, hmeth', hr, ret, narrow_b1]
  (try refine ⟨rfl, ?_⟩); (try refine ⟨rfl, ?_⟩)
  first | (intro acts; rw [hret _ acts rfl rfl rfl]) | rw [hret _ _ rfl rfl rfl]
  exact Steps.refl _
/-- what holds at the law's entry: the machine, the code, the tables' words (any of lw_tbl by 'hts w (by decide +kernel)'), the script of L ints xs at the cell b, what the Statement gives of the start (any of its parts by flat_of_before) -/
def lw_At (p : Program) (s : State) (m : MethodId) (meth : Method) (c : Code) (b L : Nat) (xs : Nat → Int32) : Prop :=
  p.tables.exec = Jvm.exec ∧ c.code = code ∧ meth.sig.returnType = ret ∧ c.maxLocals = 4 ∧ s.vm.findClass R_law = some m.cls ∧ (∀ w ∈ lw_tbl, w.before #[Value.ref b] s = true) ∧ va_X b L xs s s.heap ∧ b < s.heap.size ∧ meth.locks = false ∧ (Jvm.Cond.and given_1 narrow_1).before #[Value.ref b] s = true
def pl_h0 : Hp_ := (0, 0, fun _ => 0, fun _ => 0, fun _ _ => 0, fun _ _ => 0, fun _ _ => 0)
/-- WHAT IS LEFT: on every script of at most 320 ints the law's pure run ends with 1, in the room -/
def pl_OK : Prop := ∀ (L : Nat) (xs : Nat → Int32), L ≤ 320 → ∃ (d N : Nat) (h' : Hp_), d + 1 ≤ 1600 ∧ pm_ex (pm_call tt_ms d N) tb_Law_law (some (L, xs)) N 0 [some (.ref 0), none, none, none] [] pl_h0 = some (some (.int 1), h') ∧ hp_nx h' ≤ 600000 ∧ hp_sl h' ≤ 7302000
theorem sd_chunk {t : Tab_} {xs : List Nat} {f : (Nat × Ent_) × Nat → Bool} (i : Nat) (h : (((t.drop i).take 40).zip ((xs.drop i).take 40)).all f = true) {j : Nat} {q : Nat × Ent_} {x : Nat} (h1 : t[j]? = some q) (h2 : xs[j]? = some x) (hj : i ≤ j) (hj2 : j < i + 40) : f (q, x) = true := by
  have e1 : ((t.drop i).take 40)[j - i]? = some q := by
    rw [List.getElem?_take_of_lt (by omega), List.getElem?_drop, Nat.add_sub_cancel' hj]
    exact h1
  have e2 : ((xs.drop i).take 40)[j - i]? = some x := by
    rw [List.getElem?_take_of_lt (by omega), List.getElem?_drop, Nat.add_sub_cancel' hj]
    exact h2
  have e3 : (((t.drop i).take 40).zip ((xs.drop i).take 40))[j - i]? = some (q, x) := List.getElem?_zip_eq_some.mpr ⟨e1, e2⟩
  exact List.all_eq_true.mp h _ (List.mem_of_getElem? e3)
theorem sd_lk_at {t : Tab_} {pc : Nat} {e : Ent_} (h : pm_lk t pc = some e) : ∃ j : Nat, t[j]? = some (pc, e) := by
  induction t with
  | nil => cases h
  | cons a r ih =>
    obtain ⟨k, e0⟩ := a
    unfold pm_lk at h
    split at h
    · rename_i hk
      cases h
      subst hk
      exact ⟨0, rfl⟩
    · obtain ⟨j, hj⟩ := ih h
      exact ⟨j + 1, hj⟩
theorem sd_law_len : tb_Law_law.length = 661 ∧ tx_Law_law.length = 661 := by decide +kernel
theorem sd_Lt : ∀ pc e, pm_lk tb_Law_law pc = some e → ∃ x, sd_ckE 14 false code ret pc e x = true := by
  intro pc e he
  obtain ⟨j, hj⟩ := sd_lk_at he
  have hl : j < 661 := by rw [← sd_law_len.1]; exact (List.getElem?_eq_some_iff.mp hj).1
  obtain ⟨x, hx⟩ : ∃ x, tx_Law_law[j]? = some x := ⟨_, List.getElem?_eq_getElem (by rw [sd_law_len.2]; exact hl)⟩
  refine ⟨x, ?_⟩
  by_cases h : j < 40
  · exact sd_chunk 0 sd_okL0 hj hx (by omega) (by omega)
  by_cases h : j < 80
  · exact sd_chunk 40 sd_okL1 hj hx (by omega) (by omega)
  by_cases h : j < 120
  · exact sd_chunk 80 sd_okL2 hj hx (by omega) (by omega)
  by_cases h : j < 160
  · exact sd_chunk 120 sd_okL3 hj hx (by omega) (by omega)
  by_cases h : j < 200
  · exact sd_chunk 160 sd_okL4 hj hx (by omega) (by omega)
  by_cases h : j < 240
  · exact sd_chunk 200 sd_okL5 hj hx (by omega) (by omega)
  by_cases h : j < 280
  · exact sd_chunk 240 sd_okL6 hj hx (by omega) (by omega)
  by_cases h : j < 320
  · exact sd_chunk 280 sd_okL7 hj hx (by omega) (by omega)
  by_cases h : j < 360
  · exact sd_chunk 320 sd_okL8 hj hx (by omega) (by omega)
  by_cases h : j < 400
  · exact sd_chunk 360 sd_okL9 hj hx (by omega) (by omega)
  by_cases h : j < 440
  · exact sd_chunk 400 sd_okL10 hj hx (by omega) (by omega)
  by_cases h : j < 480
  · exact sd_chunk 440 sd_okL11 hj hx (by omega) (by omega)
  by_cases h : j < 520
  · exact sd_chunk 480 sd_okL12 hj hx (by omega) (by omega)
  by_cases h : j < 560
  · exact sd_chunk 520 sd_okL13 hj hx (by omega) (by omega)
  by_cases h : j < 600
  · exact sd_chunk 560 sd_okL14 hj hx (by omega) (by omega)
  by_cases h : j < 640
  · exact sd_chunk 600 sd_okL15 hj hx (by omega) (by omega)
  · exact sd_chunk 640 sd_okL16 hj hx (by omega) (by omega)
theorem sd_cls_len : tt_cls.length = 11 := rfl
theorem sd_K_of {args : Array Value} {s : State} (hts : ∀ w ∈ sd_WS, w.before args s = true) : ∃ (D : va_G) (cy : Nat → ClassId), va_K D tt_cls (sd_tys cy) s := by
  have h1 : ∀ a, ∃ (cC : ClassId) (iS : Nat → Nat), a < 11 → u_Kn s (tt_c a).1 (tt_c a).2.1 (tt_c a).2.2 cC iS := by
    intro a
    by_cases ha : a < 11
    · obtain ⟨cC, iS, hk⟩ := u_known (C := (tt_c a).1) (T := (tt_c a).2.1) (N := (tt_c a).2.2) hts (sd_Cw ha) (hts _ (sd_Ci ha).1)
      exact ⟨cC, iS, fun _ => hk⟩
    · exact ⟨0, fun _ => 0, fun z => absurd z ha⟩
  have arr : ∀ ty : FieldType, (∀ n, ty ≠ .object n) → Cond.arrayClass ty ∈ sd_WS → ∃ cA : ClassId, ArrOfT s cA ty ∧ s.vm.findClass ("[" ++ ty.toString) = some cA := by
    intro ty _ hw
    obtain ⟨cA, kA, comp, hfind, hk, hkind⟩ := Cond.arrayClass_spec (hts _ hw)
    exact ⟨cA, fun n z => ⟨fun k h => (by cases h), kA, hk, comp, hkind⟩, hfind⟩
  obtain ⟨c1, a1, f1⟩ := arr .int (fun n h => by cases h) sd_arr.1
  obtain ⟨c2, a2, f2⟩ := arr .long (fun n h => by cases h) sd_arr.2.1
  obtain ⟨c3, a3, f3⟩ := arr .boolean (fun n h => by cases h) sd_arr.2.2.1
  refine ⟨(fun a => Classical.choose (h1 a), fun a => Classical.choose (Classical.choose_spec (h1 a))), fun k => if k = 1 then c1 else if k = 2 then c2 else c3, ?_, ?_⟩
  · intro k q hq
    have hk : k < 11 := by rw [← sd_cls_len]; exact (List.getElem?_eq_some_iff.mp hq).1
    have := sd_cls_at k hk
    rw [this] at hq
    cases hq
    exact Classical.choose_spec (Classical.choose_spec (h1 k)) hk
  · intro k q hq
    match k, hq with
    | 0, hq => cases hq; exact ⟨a1, f1⟩
    | 1, hq => cases hq; exact ⟨a2, f2⟩
    | 2, hq => cases hq; exact ⟨a3, f3⟩
    | k + 3, hq => cases hq
theorem sd_NW_of {args : Array Value} {s : State} (hts : ∀ w ∈ lw_tbl, w.before args s = true) : sd_NW s := by
  refine ⟨fun r hr hd => ?_, fun r hr hd => ?_⟩
  · have h := List.all_eq_true.mp sd_okF r hr
    simp only [Bool.and_eq_true, Bool.or_eq_true, decide_eq_true_eq] at h
    have hw := hts _ (List.mem_of_getElem? h.1.1.1)
    obtain ⟨o, idx, a, b, d, k⟩ := r
    simp only [sd_wF] at hw hd ⊢
    rw [if_neg hd] at hw ⊢
    exact va_Nw.of rfl hw
  · have h := List.all_eq_true.mp sd_okM r hr
    simp only [Bool.and_eq_true, Bool.or_eq_true, decide_eq_true_eq] at h
    have hw := hts _ (List.mem_of_getElem? h.1)
    obtain ⟨o, idx, a, d, k⟩ := r
    simp only [sd_wM] at hw hd ⊢
    subst hd
    exact va_Nw.of rfl hw
set_option maxHeartbeats 4000000 in
theorem whole_of (hok : pl_OK) {p : Program} {e : Env} {s : State} {m : MethodId} {below : List Frame} {meth : Method} {c : Code} (l : Launch) {b L : Nat} {xs : Nat → Int32} (hL : L ≤ 320) (C0 : lw_At p s m meth c b L xs) : W p l e room_1 s m #[Value.ref b] below meth c s.heap [] 0 0 (lw_Z below #[Value.ref b] s) (entryFrame m ([Value.ref b] : List Value).toArray 4) := by
  obtain ⟨hx, hb, hr, hml, hown, hts, hX, hbl, hlocks, hgv⟩ := id C0
  obtain ⟨d, N, hf, hd, hrun, hnx, hsl⟩ := hok L xs hL
  have htw : ∀ w ∈ sd_WS, w.before #[Value.ref b] s = true := fun w hw => hts w (List.mem_filter.mp hw).1
  obtain ⟨D, cy, hK⟩ := sd_K_of htw
  have hA : ∀ q : Nat, s.heap.size ≤ q → (fun q : Nat => s.heap.size ≤ q) q := fun _ h => h
  have hbA : ¬ (fun q : Nat => s.heap.size ≤ q) b := Nat.not_le.mpr hbl
  have F : sd_Fix p s m #[Value.ref b] meth c code 4 14 false D cy := ⟨hx, hb, hml, hown, htw, sd_NW_of hts, hK, fun z => by cases z⟩
  have key : sd_G p l e room_1 s m #[Value.ref b] below meth c (lw_Z below #[Value.ref b] s) D cy (fun _ => b) 0 0 (fun q : Nat => s.heap.size ≤ q) s.heap 4 0 [some (.ref 0), none, none, none] [] pl_h0 := by
    refine sd_exec (sc := some (L, xs)) (ret0 := ret) (d1 := d) (tab := tb_Law_law) (call := pm_call tt_ms d N) (rf := some (.int 1)) (hf := hf) F ⟨hX, hbl, hbA⟩ hA (by show d + 1 ≤ 2048; omega) (by show 50 * (d + 1) ≤ 84000; omega) sd_Lt (sd_call_mono tt_ms N d) (sd_met l D cy N d) (by show hp_nx hf - 0 ≤ 600000; omega) (Nat.le_trans (show hp_sl hf - 0 ≤ 7302000 by omega) (by decide)) ?_ _ _ _ _ _ hrun
    intro pc en L1 st hh hlk hsem ad' H' locs' ls' hrel
    obtain ⟨r1, r2, r3, r4, r5, r6, r7, r8, r9, r10, r11⟩ := hrel
    have ehh := sd_ret_eq hsem
    subst ehh
    obtain ⟨x, ck⟩ := sd_Lt pc en hlk
    obtain ⟨i, n, a, b1, c3, d3, v, w⟩ := en
    unfold sd_ckE at ck
    rw [Bool.and_eq_true, Bool.and_eq_true, Bool.and_eq_true, decide_eq_true_eq, decide_eq_true_eq, decide_eq_true_eq] at ck
    obtain ⟨⟨⟨hpn, hlen⟩, hdec⟩, hk⟩ := ck
    cases i with
    | ireturn =>
      obtain ⟨hn, hd⟩ := sd_dec hlen (k := 1) rfl (by decide) hdec
      change pm_iret a st hf = some (.inr (.inl (some (.int 1), hf))) at hsem
      have hst : st = [.int 1] := by
        unfold pm_iret at hsem
        split at hsem
        · (repeat' split at hsem) <;> cases hsem <;> rfl
        · cases hsem
      subst hst
      refine va_forget (fun q hq => r9.2.2 q hq) ?_
      refine W.widen (k := 600000) (n := room_1.slots) (by omega) (Nat.le_trans (Nat.le_trans (Nat.sub_le _ _) hsl) (by decide)) ?_
      exact lw_ret hx hb hr hlocks hd
    | _ => exact absurd hsem (by
        simp only [pm_sem, pm_ldA, pm_ldI, pm_ldJ, pm_stI, pm_stA, pm_stL, pm_inc, pm_bin, pm_div, pm_binL, pm_divL, pm_cmpL, pm_i2l, pm_l2i, pm_dup, pm_pop, pm_if, pm_icmp, pm_sw, pm_getf, pm_putf, pm_new, pm_newa, pm_alen, pm_iald, pm_zald, pm_lald, pm_iast, pm_zast, pm_last, pm_callV, pm_callS, pm_callI, pm_lret, pm_aret, pm_vret]
        intro hs
        (repeat' split at hs) <;> cases hs)
  rw [lg_entry_eq]
  have hl := sd_entry (fun _ => b) [.ref 0] 4 (by decide)
  have e0 : ([Value.ref 0] : List Value).map (sd_re (fun _ => b)) = [Value.ref b] := rfl
  rw [e0] at hl
  generalize (lg_sl ([.ref b]) ++ List.replicate (4 - (lg_sl ([.ref b])).length) Slot.unset).toArray = ls at hl ⊢
  have := key (fun _ => b) s.heap [] ls ⟨⟨fun _ _ => Nat.le_refl _, fun c hc => absurd rfl hc⟩, fun v hv => by
    simp only [List.mem_cons, List.not_mem_nil, or_false, Option.some.injEq, reduceCtorEq] at hv
    subst hv
    exact Nat.le_refl _, fun v hv => (by cases hv), Nat.le_refl _, Nat.le_refl _, fun _ _ => rfl, fun k q hk => absurd (sd_w_of hk).1 (Nat.not_lt_zero _), ⟨fun i j p q h => absurd (sd_w_of h).1 (Nat.not_lt_zero _), fun k q h => absurd (sd_w_of h).1 (Nat.not_lt_zero _)⟩, va_S.rf, rfl, hl⟩
  exact this
