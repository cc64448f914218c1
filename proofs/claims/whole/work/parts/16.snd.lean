-- ===== a step, a run, a method: all together =====
theorem sd_dec {cc : ByteArray} {pc n k : Nat} {i : Instr} (hlen : sd_len i = 0 ∨ n = pc + sd_len i) (hk : sd_len i = k) (h0 : k ≠ 0) (hdec : decode cc pc = .ok (i, n - pc)) : n = pc + k ∧ decode cc pc = .ok (i, k) := by
  subst hk
  rcases hlen with z | z
  · exact absurd z h0
  · refine ⟨z, ?_⟩
    rw [hdec, z, Nat.add_sub_cancel_left]
section SDM
variable {p : Program} {l : Launch} {e : Env} {R : Room} {s : State} {m : MethodId} {args : Array Value} {below : List Frame} {meth : Method} {c : Code} {Q : State → Prop} {D : va_G} {cy : Nat → ClassId} {ad0 : Nat → Nat} {n0 s0 : Nat} {A : Nat → Prop} {H0 : Heap} {nL o : Nat} {cc : ByteArray} {ini : Bool} {pc pc' n : Nat} {L L' : Lc_} {st st' : List Value} {h h' : Hp_}
set_option maxHeartbeats 4000000 in
theorem sd_step {sc : Sc_} {ret0 : Option FieldType} {en : Ent_} {x d1 : Nat} (F : sd_Fix p s m args meth c cc nL o ini D cy) (hsc : sd_Sc sc A H0 s (ad0 0)) (hA : ∀ q, H0.size ≤ q → A q) (hRf : d1 + 1 ≤ R.frames) (hRl : 50 * (d1 + 1) ≤ R.locals) (ck : sd_ckE o ini cc ret0 pc en x = true) (hs : pm_sem sc pc en L st h = some (.inl (pc', L', st', h'))) (hcr : hp_nx h' - n0 ≤ R.cells) (hsr : hp_sl h' - s0 ≤ R.slots) (kk : sd_G p l e R s m args below meth c Q D cy ad0 n0 s0 A H0 nL pc' L' st' h') : sd_G p l e R s m args below meth c Q D cy ad0 n0 s0 A H0 nL pc L st h := by
  obtain ⟨i, n, a, b, c3, d, v, w⟩ := en
  unfold sd_ckE at ck
  rw [Bool.and_eq_true, Bool.and_eq_true, Bool.and_eq_true, decide_eq_true_eq, decide_eq_true_eq, decide_eq_true_eq] at ck
  obtain ⟨⟨⟨hpn, hlen⟩, hdec⟩, hk⟩ := ck
  cases i with
  | iload_n k =>
    obtain ⟨hn, hd⟩ := sd_dec hlen (k := 1) rfl (by decide) hdec
    exact sdi_iload_n F hd hn hs kk
  | iload k =>
    obtain ⟨hn, hd⟩ := sd_dec hlen (k := 2) rfl (by decide) hdec
    exact sdi_iload F hd hn hs kk
  | lload_n k =>
    obtain ⟨hn, hd⟩ := sd_dec hlen (k := 1) rfl (by decide) hdec
    exact sdi_lload_n F hd hn hs kk
  | lload k =>
    obtain ⟨hn, hd⟩ := sd_dec hlen (k := 2) rfl (by decide) hdec
    exact sdi_lload F hd hn hs kk
  | aload_n k =>
    obtain ⟨hn, hd⟩ := sd_dec hlen (k := 1) rfl (by decide) hdec
    exact sdi_aload_n F hd hn hs kk
  | aload k =>
    obtain ⟨hn, hd⟩ := sd_dec hlen (k := 2) rfl (by decide) hdec
    exact sdi_aload F hd hn hs kk
  | istore_n k =>
    obtain ⟨hn, hd⟩ := sd_dec hlen (k := 1) rfl (by decide) hdec
    exact sdi_istore_n F hd hn hs kk
  | istore k =>
    obtain ⟨hn, hd⟩ := sd_dec hlen (k := 2) rfl (by decide) hdec
    exact sdi_istore F hd hn hs kk
  | astore_n k =>
    obtain ⟨hn, hd⟩ := sd_dec hlen (k := 1) rfl (by decide) hdec
    exact sdi_astore_n F hd hn hs kk
  | astore k =>
    obtain ⟨hn, hd⟩ := sd_dec hlen (k := 2) rfl (by decide) hdec
    exact sdi_astore F hd hn hs kk
  | lstore_n k =>
    obtain ⟨hn, hd⟩ := sd_dec hlen (k := 1) rfl (by decide) hdec
    exact sdi_lstore_n F hd hn hs kk
  | lstore k =>
    obtain ⟨hn, hd⟩ := sd_dec hlen (k := 2) rfl (by decide) hdec
    exact sdi_lstore F hd hn hs kk
  | iadd =>
    obtain ⟨hn, hd⟩ := sd_dec hlen (k := 1) rfl (by decide) hdec
    exact sdi_iadd F hd hn hs kk
  | isub =>
    obtain ⟨hn, hd⟩ := sd_dec hlen (k := 1) rfl (by decide) hdec
    exact sdi_isub F hd hn hs kk
  | imul =>
    obtain ⟨hn, hd⟩ := sd_dec hlen (k := 1) rfl (by decide) hdec
    exact sdi_imul F hd hn hs kk
  | iand =>
    obtain ⟨hn, hd⟩ := sd_dec hlen (k := 1) rfl (by decide) hdec
    exact sdi_iand F hd hn hs kk
  | ior =>
    obtain ⟨hn, hd⟩ := sd_dec hlen (k := 1) rfl (by decide) hdec
    exact sdi_ior F hd hn hs kk
  | ixor =>
    obtain ⟨hn, hd⟩ := sd_dec hlen (k := 1) rfl (by decide) hdec
    exact sdi_ixor F hd hn hs kk
  | ishl =>
    obtain ⟨hn, hd⟩ := sd_dec hlen (k := 1) rfl (by decide) hdec
    exact sdi_ishl F hd hn hs kk
  | ishr =>
    obtain ⟨hn, hd⟩ := sd_dec hlen (k := 1) rfl (by decide) hdec
    exact sdi_ishr F hd hn hs kk
  | iushr =>
    obtain ⟨hn, hd⟩ := sd_dec hlen (k := 1) rfl (by decide) hdec
    exact sdi_iushr F hd hn hs kk
  | ladd =>
    obtain ⟨hn, hd⟩ := sd_dec hlen (k := 1) rfl (by decide) hdec
    exact sdi_ladd F hd hn hs kk
  | lmul =>
    obtain ⟨hn, hd⟩ := sd_dec hlen (k := 1) rfl (by decide) hdec
    exact sdi_lmul F hd hn hs kk
  | idiv =>
    obtain ⟨hn, hd⟩ := sd_dec hlen (k := 1) rfl (by decide) hdec
    exact sdi_idiv F hd hn hs kk
  | irem =>
    obtain ⟨hn, hd⟩ := sd_dec hlen (k := 1) rfl (by decide) hdec
    exact sdi_irem F hd hn hs kk
  | lrem =>
    obtain ⟨hn, hd⟩ := sd_dec hlen (k := 1) rfl (by decide) hdec
    exact sdi_lrem F hd hn hs kk
  | lcmp =>
    obtain ⟨hn, hd⟩ := sd_dec hlen (k := 1) rfl (by decide) hdec
    exact sdi_lcmp F hd hn hs kk
  | i2l =>
    obtain ⟨hn, hd⟩ := sd_dec hlen (k := 1) rfl (by decide) hdec
    exact sdi_i2l F hd hn hs kk
  | l2i =>
    obtain ⟨hn, hd⟩ := sd_dec hlen (k := 1) rfl (by decide) hdec
    exact sdi_l2i F hd hn hs kk
  | dup =>
    obtain ⟨hn, hd⟩ := sd_dec hlen (k := 1) rfl (by decide) hdec
    exact sdi_dup F hd hn hs kk
  | pop =>
    obtain ⟨hn, hd⟩ := sd_dec hlen (k := 1) rfl (by decide) hdec
    exact sdi_pop F hd hn hs kk
  | iconst k =>
    obtain ⟨hn, hd⟩ := sd_dec hlen (k := 1) rfl (by decide) hdec
    have hk : decide (Int32.ofInt k = v) = true := hk
    cases (show some (Sum.inl (n, L, Value.int v :: st, h)) = some (Sum.inl (pc', L', st', h')) from hs)
    exact sdi_iconst (of_decide_eq_true hk) F hd hn kk
  | bipush k =>
    obtain ⟨hn, hd⟩ := sd_dec hlen (k := 2) rfl (by decide) hdec
    have hk : decide ((Int8.ofInt k).toInt32 = v) = true := hk
    cases (show some (Sum.inl (n, L, Value.int v :: st, h)) = some (Sum.inl (pc', L', st', h')) from hs)
    exact sdi_bipush (of_decide_eq_true hk) F hd hn kk
  | sipush k =>
    obtain ⟨hn, hd⟩ := sd_dec hlen (k := 3) rfl (by decide) hdec
    have hk : decide ((Int16.ofInt k).toInt32 = v) = true := hk
    cases (show some (Sum.inl (n, L, Value.int v :: st, h)) = some (Sum.inl (pc', L', st', h')) from hs)
    exact sdi_sipush (of_decide_eq_true hk) F hd hn kk
  | lconst k =>
    obtain ⟨hn, hd⟩ := sd_dec hlen (k := 1) rfl (by decide) hdec
    have hk : decide (Int64.ofNat (k : Nat) = w) = true := hk
    cases (show some (Sum.inl (n, L, Value.long w :: st, h)) = some (Sum.inl (pc', L', st', h')) from hs)
    exact sdi_lconst (of_decide_eq_true hk) F hd hn kk
  | ldc k =>
    obtain ⟨hn, hd⟩ := sd_dec hlen (k := 2) rfl (by decide) hdec
    have hk : (match tt_rK[x]? with | some r => decide (r.1 = o ∧ r.2.1 = k ∧ r.2.2.1 = v) | none => false) = true := hk
    cases (show some (Sum.inl (n, L, Value.int v :: st, h)) = some (Sum.inl (pc', L', st', h')) from hs)
    cases hx : tt_rK[x]? with
    | none => rw [hx] at hk; cases hk
    | some r =>
      rw [hx] at hk
      obtain ⟨e1, e2, e3⟩ := of_decide_eq_true hk
      have := List.all_eq_true.mp sd_okK r (List.mem_of_getElem? hx)
      have hw := sd_in this
      rw [e1, e2, e3] at hw
      exact sdi_ldc hw F hd hn kk
  | ldc_w k =>
    obtain ⟨hn, hd⟩ := sd_dec hlen (k := 3) rfl (by decide) hdec
    have hk : (match tt_rK[x]? with | some r => decide (r.1 = o ∧ r.2.1 = k ∧ r.2.2.1 = v) | none => false) = true := hk
    cases (show some (Sum.inl (n, L, Value.int v :: st, h)) = some (Sum.inl (pc', L', st', h')) from hs)
    cases hx : tt_rK[x]? with
    | none => rw [hx] at hk; cases hk
    | some r =>
      rw [hx] at hk
      obtain ⟨e1, e2, e3⟩ := of_decide_eq_true hk
      have := List.all_eq_true.mp sd_okK r (List.mem_of_getElem? hx)
      have hw := sd_in this
      rw [e1, e2, e3] at hw
      exact sdi_ldcw hw F hd hn kk
  | ldc2_w k =>
    obtain ⟨hn, hd⟩ := sd_dec hlen (k := 3) rfl (by decide) hdec
    have hk : (match tt_rL[x]? with | some r => decide (r.1 = o ∧ r.2.1 = k ∧ r.2.2.1 = w) | none => false) = true := hk
    cases (show some (Sum.inl (n, L, Value.long w :: st, h)) = some (Sum.inl (pc', L', st', h')) from hs)
    cases hx : tt_rL[x]? with
    | none => rw [hx] at hk; cases hk
    | some r =>
      rw [hx] at hk
      obtain ⟨e1, e2, e3⟩ := of_decide_eq_true hk
      have := List.all_eq_true.mp sd_okL r (List.mem_of_getElem? hx)
      have hw := sd_in this
      rw [e1, e2, e3] at hw
      exact sdi_ldc2 hw F hd hn kk
  | iinc k w1 =>
    obtain ⟨hn, hd⟩ := sd_dec hlen (k := 3) rfl (by decide) hdec
    have hk : decide (Int32.ofInt w1 = v) = true := hk
    exact sdi_iinc (of_decide_eq_true hk) F hd hn hs kk
  | goto off =>
    obtain ⟨hn, hd⟩ := sd_dec hlen (k := 3) rfl (by decide) hdec
    have hk : decide ((pc : Int) + off = (a : Int)) = true := hk
    cases (show some (Sum.inl (a, L, st, h)) = some (Sum.inl (pc', L', st', h')) from hs)
    exact sdi_goto F hd (of_decide_eq_true hk) kk
  | ifCond k off =>
    obtain ⟨hn, hd⟩ := sd_dec hlen (k := 3) rfl (by decide) hdec
    have hk : decide ((pc : Int) + off = (a : Int)) = true := hk
    exact sdi_if (of_decide_eq_true hk) F hd hn hs kk
  | if_icmp k off =>
    obtain ⟨hn, hd⟩ := sd_dec hlen (k := 3) rfl (by decide) hdec
    have hk : decide ((pc : Int) + off = (a : Int)) = true := hk
    exact sdi_icmp (of_decide_eq_true hk) F hd hn hs kk
  | tableswitch df lo hi offs =>
    have hk : decide ((pc : Int) + df = (a : Int)) = true := hk
    exact sdi_sw (n := n) F hdec (of_decide_eq_true hk) hs kk
  | getfield k =>
    obtain ⟨hn, hd⟩ := sd_dec hlen (k := 3) rfl (by decide) hdec
    have hk : (match tt_rF[x]? with | some r => decide (r.1 = o ∧ r.2.1 = k ∧ r.2.2.1 = a ∧ r.2.2.2.1 = b ∧ r.2.2.2.2.1 = d) && decide ((match tt_t a b with | .int => 0 | .boolean => 1 | .long => 2 | _ => 3) = c3) | none => false) = true := hk
    cases hx : tt_rF[x]? with
    | none => rw [hx] at hk; cases hk
    | some r =>
      rw [hx] at hk
      simp only [Bool.and_eq_true, decide_eq_true_eq] at hk
      obtain ⟨⟨e1, e2, e3, e4, e5⟩, e6⟩ := hk
      obtain ⟨hm, hb, ha, h0⟩ := sd_Fr hx
      rw [e3, e4] at hb
      rw [e3] at ha
      exact sdi_getf hm hb ha h0 ⟨e1, e2, e3, e4⟩ F hd hn e6 hs kk
  | putfield k =>
    obtain ⟨hn, hd⟩ := sd_dec hlen (k := 3) rfl (by decide) hdec
    have hk : (match tt_rF[x]? with | some r => decide (r.1 = o ∧ r.2.1 = k ∧ r.2.2.1 = a ∧ r.2.2.2.1 = b ∧ r.2.2.2.2.1 = d) && decide ((match tt_t a b with | .int => 0 | .boolean => 1 | .long => 2 | _ => 3) = c3) && (!((tt_c a).2.1 b).2.2.2 || (ini && decide (d = 0) && decide (tt_name o = (tt_c a).1))) | none => false) = true := hk
    cases hx : tt_rF[x]? with
    | none => rw [hx] at hk; cases hk
    | some r =>
      rw [hx] at hk
      simp only [Bool.and_eq_true, Bool.or_eq_true, decide_eq_true_eq] at hk
      obtain ⟨⟨⟨e1, e2, e3, e4, e5⟩, e6⟩, e7⟩ := hk
      obtain ⟨hm, hb, ha, h0⟩ := sd_Fr hx
      rw [e3, e4] at hb
      rw [e3] at ha
      refine sdi_putf hm hb ha h0 ⟨e1, e2, e3, e4⟩ F hd hn e6 ?_ hs kk
      rcases e7 with z | ⟨⟨z1, z2⟩, z3⟩
      · exact Or.inl (by simpa using z)
      · exact Or.inr ⟨z1, by rw [e5]; exact z2, z3⟩
  | new k =>
    obtain ⟨hn, hd⟩ := sd_dec hlen (k := 3) rfl (by decide) hdec
    have hk : (match tt_rC[x]? with | some r => decide (r.1 = o ∧ r.2.1 = k ∧ r.2.2.1 = a) && decide (a < 11) && decide (b = (tt_c a).2.2) | none => false) = true := hk
    cases hx : tt_rC[x]? with
    | none => rw [hx] at hk; cases hk
    | some r =>
      rw [hx] at hk
      simp only [Bool.and_eq_true, decide_eq_true_eq] at hk
      obtain ⟨⟨⟨e1, e2, e3⟩, e4⟩, e5⟩ := hk
      have hw := sd_in (List.all_eq_true.mp sd_okC r (List.mem_of_getElem? hx))
      rw [e1, e2, e3] at hw
      exact sdi_new (x := x) e4 e5 hw hA F hd hn hs hcr hsr kk
  | newarray t =>
    obtain ⟨hn, hd⟩ := sd_dec hlen (k := 2) rfl (by decide) hdec
    cases t with
    | int =>
      have hk : (decide (a = 1) && decide (a ≠ 0)) = true := hk
      rw [Bool.and_eq_true, decide_eq_true_eq] at hk
      obtain ⟨rfl, -⟩ := hk
      exact sdi_newa1 hA F hd hn hs hcr hsr kk
    | long =>
      have hk : (decide (a = 2) && decide (a ≠ 0)) = true := hk
      rw [Bool.and_eq_true, decide_eq_true_eq] at hk
      obtain ⟨rfl, -⟩ := hk
      exact sdi_newa2 hA F hd hn hs hcr hsr kk
    | boolean =>
      have hk : (decide (a = 3) && decide (a ≠ 0)) = true := hk
      rw [Bool.and_eq_true, decide_eq_true_eq] at hk
      obtain ⟨rfl, -⟩ := hk
      exact sdi_newa3 hA F hd hn hs hcr hsr kk
    | _ =>
      have hk : (decide (a = 0) && decide (a ≠ 0)) = true := hk
      rw [Bool.and_eq_true, decide_eq_true_eq, decide_eq_true_eq] at hk
      exact absurd hk.1 hk.2
  | arraylength =>
    obtain ⟨hn, hd⟩ := sd_dec hlen (k := 1) rfl (by decide) hdec
    exact sdi_alen hsc F hd hn hs kk
  | iaload =>
    obtain ⟨hn, hd⟩ := sd_dec hlen (k := 1) rfl (by decide) hdec
    exact sdi_iald hsc trivial F hd hn hs kk
  | baload =>
    obtain ⟨hn, hd⟩ := sd_dec hlen (k := 1) rfl (by decide) hdec
    exact sdi_zald trivial F hd hn hs kk
  | laload =>
    obtain ⟨hn, hd⟩ := sd_dec hlen (k := 1) rfl (by decide) hdec
    exact sdi_lald trivial F hd hn hs kk
  | iastore =>
    obtain ⟨hn, hd⟩ := sd_dec hlen (k := 1) rfl (by decide) hdec
    exact sdi_iast F hd hn hs kk
  | bastore =>
    obtain ⟨hn, hd⟩ := sd_dec hlen (k := 1) rfl (by decide) hdec
    exact sdi_zast F hd hn hs kk
  | lastore =>
    obtain ⟨hn, hd⟩ := sd_dec hlen (k := 1) rfl (by decide) hdec
    exact sdi_last F hd hn hs kk
  | invokespecial k =>
    obtain ⟨hn, hd⟩ := sd_dec hlen (k := 3) rfl (by decide) hdec
    have hs : pm_callI a b c3 d n L st h = some (.inl (pc', L', st', h')) := hs
    have hk : (match tt_rM[x]? with
      | some r => decide (r.1 = o ∧ r.2.1 = k ∧ r.2.2.2.1 = d ∧ d ≤ 2) && (decide (d = 2) || (match tt_ml[a]?, tt_mw[a]? with | some y, some z => decide (r.2.2.1 = a) && decide ((parseMethodDescriptor y.1.desc).map (fun q => q.parameters.length) = some b) && !z.2.2.2.1 && decide (y.1.cls = (tt_c c3).1) && decide (y.1.name = "<init>") && decide (y.2.2.2.1 = none) && decide (c3 < 11) | _, _ => false))
      | _ => false) = true := hk
    by_cases hd2 : d = 2
    · cases hx : tt_rM[x]? with
      | none => rw [hx] at hk; cases hk
      | some r =>
        rw [hx] at hk
        simp only [Bool.and_eq_true, decide_eq_true_eq] at hk
        obtain ⟨⟨e1, e2, e3, e4⟩, -⟩ := hk
        exact sdi_objI F hd hn hx ⟨e1, e2, by rw [e3, hd2]⟩ (by omega) (by omega) hd2 hs kk
    · exfalso
      unfold pm_callI at hs
      rw [if_neg hd2] at hs
      unfold pm_callV at hs
      (repeat' split at hs) <;> cases hs
  | invokevirtual k =>
    obtain ⟨hn, hd⟩ := sd_dec hlen (k := 3) rfl (by decide) hdec
    exfalso
    simp only [pm_sem, pm_callV] at hs
    (repeat' split at hs) <;> cases hs
  | invokestatic k =>
    obtain ⟨hn, hd⟩ := sd_dec hlen (k := 3) rfl (by decide) hdec
    exfalso
    simp only [pm_sem, pm_callS] at hs
    (repeat' split at hs) <;> cases hs
  | ireturn =>
    obtain ⟨hn, hd⟩ := sd_dec hlen (k := 1) rfl (by decide) hdec
    exfalso
    simp only [pm_sem, pm_iret] at hs
    (repeat' split at hs) <;> cases hs
  | lreturn =>
    obtain ⟨hn, hd⟩ := sd_dec hlen (k := 1) rfl (by decide) hdec
    exfalso
    simp only [pm_sem, pm_lret] at hs
    (repeat' split at hs) <;> cases hs
  | areturn =>
    obtain ⟨hn, hd⟩ := sd_dec hlen (k := 1) rfl (by decide) hdec
    exfalso
    simp only [pm_sem, pm_aret] at hs
    (repeat' split at hs) <;> cases hs
  | return_ =>
    obtain ⟨hn, hd⟩ := sd_dec hlen (k := 1) rfl (by decide) hdec
    exfalso
    simp only [pm_sem, pm_vret] at hs
    (repeat' split at hs) <;> cases hs
  | _ => simp only [pm_sem, reduceCtorEq] at hs
set_option maxHeartbeats 4000000 in
theorem sd_cstep {sc : Sc_} {ret0 : Option FieldType} {en : Ent_} {x d1 y : Nat} {as : List Value} {rv : Option Value} {q : Mi_} (F : sd_Fix p s m args meth c cc nL o ini D cy) (hA : ∀ q, H0.size ≤ q → A q) (hRf : d1 + 1 ≤ R.frames) (hRl : 50 * (d1 + 1) ≤ R.locals) (ck : sd_ckE o ini cc ret0 pc en x = true) (hs : pm_sem sc pc en L st h = some (.inr (.inr (y, as, pc', L', st')))) (hq : tt_ml[y]? = some q) (hM : ∀ (ad : Nat → Nat) (sz : Nat), sd_Met l d1 D cy q h ad as h' rv sz) (hgr : hp_nx h ≤ hp_nx h' ∧ hp_sl h ≤ hp_sl h') (hcr : hp_nx h' - n0 ≤ R.cells) (hsr : hp_sl h' - s0 ≤ R.slots) (kk : sd_G p l e R s m args below meth c Q D cy ad0 n0 s0 A H0 nL pc' L' (rv.toList ++ st') h') : sd_G p l e R s m args below meth c Q D cy ad0 n0 s0 A H0 nL pc L st h := by
  obtain ⟨i, n, a, b, c3, d, v, w⟩ := en
  unfold sd_ckE at ck
  rw [Bool.and_eq_true, Bool.and_eq_true, Bool.and_eq_true, decide_eq_true_eq, decide_eq_true_eq, decide_eq_true_eq] at ck
  obtain ⟨⟨⟨hpn, hlen⟩, hdec⟩, hk⟩ := ck
  cases i with
  | invokevirtual k =>
    obtain ⟨hn, hd⟩ := sd_dec hlen (k := 3) rfl (by decide) hdec
    have hs : pm_callV a b c3 n L st h = some (.inr (.inr (y, as, pc', L', st'))) := hs
    have hya : y = a := by
      unfold pm_callV at hs
      (repeat' split at hs) <;> cases hs
      rfl
    subst hya
    have hk : (match tt_rM[x]?, tt_ml[y]?, tt_mw[y]? with | some r, some y, some z => decide (r.1 = o ∧ r.2.1 = k ∧ r.2.2.1 = _ ∧ r.2.2.2.1 = d ∧ d ≤ 1) && decide ((parseMethodDescriptor y.1.desc).map (fun q => q.parameters.length) = some b) && !z.2.2.2.1 && decide (y.1.cls = (tt_c c3).1) && decide (y.1.name ≠ "<init>") && decide (c3 < 11) | _, _, _ => false) = true := hk
    obtain ⟨z, hz, -⟩ := sd_Mw hq
    cases hx : tt_rM[x]? with
    | none => rw [hx] at hk; cases hk
    | some r =>
      rw [hx, hq, hz] at hk
      simp only [Bool.and_eq_true, decide_eq_true_eq, Bool.not_eq_true'] at hk
      obtain ⟨⟨⟨⟨⟨⟨e1, e2, e3, e4, e5⟩, e6⟩, e7⟩, e8⟩, e9⟩, e10⟩ := hk
      exact sdi_callV F hd hn hx ⟨e1, e2, e3, e4⟩ e5 hq (fun z' hz' => by rw [hz] at hz'; cases hz'; exact e7) e6 e8 e10 e9 hA hRf hRl hgr hcr hsr hs hM kk
  | invokestatic k =>
    obtain ⟨hn, hd⟩ := sd_dec hlen (k := 3) rfl (by decide) hdec
    have hs : pm_callS a b n L st h = some (.inr (.inr (y, as, pc', L', st'))) := hs
    have hya : y = a := by
      unfold pm_callS at hs
      (repeat' split at hs) <;> cases hs
      rfl
    subst hya
    have hk : (match tt_rM[x]?, tt_ml[y]?, tt_mw[y]? with | some r, some y, some z => decide (r.1 = o ∧ r.2.1 = k ∧ r.2.2.1 = _ ∧ r.2.2.2.1 = d ∧ d ≤ 1) && decide ((parseMethodDescriptor y.1.desc).map (fun q => q.parameters.length) = some b) && z.2.2.2.1 | _, _, _ => false) = true := hk
    obtain ⟨z, hz, -⟩ := sd_Mw hq
    cases hx : tt_rM[x]? with
    | none => rw [hx] at hk; cases hk
    | some r =>
      rw [hx, hq, hz] at hk
      simp only [Bool.and_eq_true, decide_eq_true_eq] at hk
      obtain ⟨⟨⟨e1, e2, e3, e4, e5⟩, e6⟩, e7⟩ := hk
      exact sdi_callS F hd hn hx ⟨e1, e2, e3, e4⟩ e5 hq (fun z' hz' => by rw [hz] at hz'; cases hz'; exact e7) e6 hA hRf hRl hgr hcr hsr hs hM kk
  | invokespecial k =>
    obtain ⟨hn, hd⟩ := sd_dec hlen (k := 3) rfl (by decide) hdec
    have hs : pm_callI a b c3 d n L st h = some (.inr (.inr (y, as, pc', L', st'))) := hs
    unfold pm_callI at hs
    by_cases hd2 : d = 2
    · exfalso
      rw [if_pos hd2] at hs
      (repeat' split at hs) <;> cases hs
    rw [if_neg hd2] at hs
    have hya : y = a := by
      unfold pm_callV at hs
      (repeat' split at hs) <;> cases hs
      rfl
    subst hya
    have hk : (match tt_rM[x]? with
      | some r => decide (r.1 = o ∧ r.2.1 = k ∧ r.2.2.2.1 = d ∧ d ≤ 2) && (decide (d = 2) || (match tt_ml[y]?, tt_mw[y]? with | some y1, some z => decide (r.2.2.1 = y) && decide ((parseMethodDescriptor y1.1.desc).map (fun q => q.parameters.length) = some b) && !z.2.2.2.1 && decide (y1.1.cls = (tt_c c3).1) && decide (y1.1.name = "<init>") && decide (y1.2.2.2.1 = none) && decide (c3 < 11) | _, _ => false))
      | _ => false) = true := hk
    obtain ⟨z, hz, -⟩ := sd_Mw hq
    cases hx : tt_rM[x]? with
    | none => rw [hx] at hk; cases hk
    | some r =>
      rw [hx, hq, hz] at hk
      simp only [Bool.and_eq_true, Bool.or_eq_true, decide_eq_true_eq, Bool.not_eq_true'] at hk
      obtain ⟨⟨e1, e2, e4, e5⟩, hk⟩ := hk
      rcases hk with hk | ⟨⟨⟨⟨⟨⟨e3, e6⟩, e7⟩, e8⟩, e9⟩, e10⟩, e11⟩
      · exact absurd hk hd2
      · exact sdi_callI F hd hn hx ⟨e1, e2, e3, e4⟩ (by omega) hq (fun z' hz' => by rw [hz] at hz'; cases hz'; exact e7) e6 e10 e9 hA hRf hRl hgr hcr hsr hs hM kk
  | _ => exact absurd hs (by
      simp only [pm_sem, pm_ldA, pm_ldI, pm_ldJ, pm_stI, pm_stA, pm_stL, pm_inc, pm_bin, pm_div, pm_binL, pm_divL, pm_cmpL, pm_i2l, pm_l2i, pm_dup, pm_pop, pm_if, pm_icmp, pm_sw, pm_getf, pm_putf, pm_new, pm_newa, pm_alen, pm_iald, pm_zald, pm_lald, pm_iast, pm_zast, pm_last, pm_iret, pm_lret, pm_aret, pm_vret]
      intro hs
      (repeat' split at hs) <;> cases hs)
/-- a run: hf and rf are its end -/
theorem sd_exec {sc : Sc_} {ret0 : Option FieldType} {d1 : Nat} {tab : Tab_} {call : Nat → List Value → Hp_ → Option (Option Value × Hp_)} {rf : Option Value} {hf : Hp_} (F : sd_Fix p s m args meth c cc nL o ini D cy) (hsc : sd_Sc sc A H0 s (ad0 0)) (hA : ∀ q, H0.size ≤ q → A q) (hRf : d1 + 1 ≤ R.frames) (hRl : 50 * (d1 + 1) ≤ R.locals) (ckT : ∀ pc e, pm_lk tab pc = some e → ∃ x, sd_ckE o ini cc ret0 pc e x = true) (hcm : sd_Cm call) (hcall : ∀ y as h r h', call y as h = some (r, h') → ∃ q, tt_ml[y]? = some q ∧ ∀ (ad : Nat → Nat) (sz : Nat), sd_Met l d1 D cy q h ad as h' r sz) (hcf : hp_nx hf - n0 ≤ R.cells) (hsf : hp_sl hf - s0 ≤ R.slots)
    (hret : ∀ pc en L st h, pm_lk tab pc = some en → pm_sem sc pc en L st h = some (.inr (.inl (rf, hf))) → sd_G p l e R s m args below meth c Q D cy ad0 n0 s0 A H0 nL pc L st h) : ∀ N pc L st h, pm_ex call tab sc N pc L st h = some (rf, hf) → sd_G p l e R s m args below meth c Q D cy ad0 n0 s0 A H0 nL pc L st h := by
  intro N
  induction N with
  | zero => intro pc L st h hs; cases hs
  | succ N ih =>
    intro pc L st h hs
    rw [pm_ex] at hs
    split at hs
    · cases hs
    · rename_i en he
      obtain ⟨x, ck⟩ := ckT pc en he
      split at hs
      · cases hs
      · rename_i pc1 L1 st1 h1 hs1
        have hm := sd_ex_mono hcm _ _ _ _ _ _ _ hs
        exact sd_step F hsc hA hRf hRl ck hs1 (by have := hm.1; omega) (by have := hm.2; omega) (ih _ _ _ _ hs)
      · rename_i r1 hs1
        cases hs
        exact hret pc en L st h he hs1
      · rename_i y as pc1 L1 st1 hs1
        split at hs
        · cases hs
        · rename_i r1 h1 hcl
          have hm := sd_ex_mono hcm _ _ _ _ _ _ _ hs
          obtain ⟨q, hq, hM⟩ := hcall _ _ _ _ _ hcl
          exact sd_cstep F hA hRf hRl ck hs1 hq hM (hcm _ _ _ _ _ hcl) (by have := hm.1; omega) (by have := hm.2; omega) (ih _ _ _ _ hs)
end SDM
