-- ===== CHECKS of the tables, by the kernel =====
def sd_WS : List Cond := lw_tbl.filter goodWord
theorem sd_in {k : Nat} {w : Cond} (h : (decide (lw_tbl[k]? = some w) && goodWord w) = true) : w ∈ sd_WS := by
  rw [Bool.and_eq_true, decide_eq_true_eq] at h
  exact List.mem_filter.mpr ⟨List.mem_of_getElem? h.1, h.2⟩
def tt_name (o : Nat) : String := tt_own.getD o ""
def tt_c (a : Nat) : vw_C := tt_cls.getD a ("", fun _ => ("", "", "", false), 0)
def tt_t (a : Nat) : Nat → FieldType := tt_tys.getD a (fun _ => .int)
def tt_k (a b : Nat) : Nat := (tt_tg.getD a []).getD b 0
def sd_wF (r : Nat × Nat × Nat × Nat × Nat × Nat) : Cond := match r with
  | (o, idx, a, b, d, _) => if d = 0 then .fieldLink (tt_name o) idx (tt_c a).1 ((tt_c a).2.1 b).2.1 ((tt_c a).2.1 b).2.2.1 else .fieldLinkNest (tt_name o) idx (tt_c a).1 ((tt_c a).2.1 b).2.1 ((tt_c a).2.1 b).2.2.1 "RoundDance"
def sd_y (m : Nat) : MethodName := if h : m < tt_ml.length then (tt_ml[m]).1 else ⟨"", "", ""⟩
def sd_wM (r : Nat × Nat × Nat × Nat × Nat) : Cond := match r with
  | (o, idx, m, d, _) => if d = 2 then .methodLink (tt_name o) idx objectInit else if d = 0 then .methodLink (tt_name o) idx (sd_y m) else .methodLinkNest (tt_name o) idx (sd_y m) "RoundDance"
set_option maxRecDepth 100000 in
theorem sd_okF : tt_rF.all (fun r => decide (lw_tbl[r.2.2.2.2.2]? = some (sd_wF r)) && (decide (r.2.2.2.2.1 ≠ 0) || goodWord (sd_wF r)) && decide (r.2.2.2.1 < (tt_c r.2.2.1).2.2) && decide (r.2.2.1 < 11)) = true := by decide +kernel
set_option maxRecDepth 100000 in
theorem sd_okM : tt_rM.all (fun r => decide (lw_tbl[r.2.2.2.2]? = some (sd_wM r)) && (decide (r.2.2.2.1 = 1) || goodWord (sd_wM r))) = true := by decide +kernel
set_option maxRecDepth 100000 in
theorem sd_okC : tt_rC.all (fun r => decide (lw_tbl[r.2.2.2]? = some (.classLink (tt_name r.1) r.2.1 (tt_c r.2.2.1).1)) && goodWord (.classLink (tt_name r.1) r.2.1 (tt_c r.2.2.1).1)) = true := by decide +kernel
set_option maxRecDepth 100000 in
theorem sd_okK : tt_rK.all (fun r => decide (lw_tbl[r.2.2.2]? = some (.constant (tt_name r.1) r.2.1 r.2.2.1)) && goodWord (.constant (tt_name r.1) r.2.1 r.2.2.1)) = true := by decide +kernel
set_option maxRecDepth 100000 in
theorem sd_okL : tt_rL.all (fun r => decide (lw_tbl[r.2.2.2]? = some (.constantLong (tt_name r.1) r.2.1 r.2.2.1)) && goodWord (.constantLong (tt_name r.1) r.2.1 r.2.2.1)) = true := by decide +kernel
/-- classes: the words of the fields, instantiable, initialized; types and tags of the fields; names apart -/
def sd_tag (ty : FieldType) : Nat := match ty with | .int => 0 | .boolean => 0 | .long => 1 | _ => 2
def sd_ckC (a : Nat) : Bool :=
  (List.range (tt_c a).2.2).all (fun b => decide (lw_tbl[(tt_lay.getD a []).getD b 0]? = some (u_lay (tt_c a).1 (tt_c a).2.1 b)) && goodWord (u_lay (tt_c a).1 (tt_c a).2.1 b)
    && decide (parseFieldDescriptor ((tt_c a).2.1 b).2.2.1 = some (tt_t a b)) && decide (sd_tag (tt_t a b) = tt_k a b) && decide (((tt_c a).2.1 b).1 = (tt_c a).1)
    && (List.range b).all (fun b2 => decide (((tt_c a).2.1 b).2.1 ≠ ((tt_c a).2.1 b2).2.1)))
  && (decide (lw_tbl[(tt_cw.getD a (0, 0)).1]? = some (.instantiable (tt_c a).1 (tt_c a).2.2)) && goodWord (.instantiable (tt_c a).1 (tt_c a).2.2))
  && (decide (lw_tbl[(tt_cw.getD a (0, 0)).2]? = some (.initialized (tt_c a).1)) && goodWord (.initialized (tt_c a).1))
set_option maxRecDepth 100000 in
theorem sd_okcl : (List.range 11).all sd_ckC = true := by decide +kernel
/-- methods: the code's word, initialized, static or instanceMethod, selects; the class -/
def sd_ckM (m : Nat) : Bool := match tt_ml[m]?, tt_mw[m]? with
  | some (y, b, nL, ret, _), some (o, k1, k2, st, k3, k4) =>
    decide (y.cls = tt_name o) && plainName y.cls && decide (y.cls ≠ "java/lang/invoke/MethodHandle") && decide (y.cls ≠ "java/lang/invoke/VarHandle") && decide (nL ≤ 30)
    && (decide (lw_tbl[k1]? = some (.code y b nL ret)) && goodWord (.code y b nL ret))
    && (decide (lw_tbl[k2]? = some (.initialized y.cls)) && goodWord (.initialized y.cls))
    && (if st then (decide (lw_tbl[k3]? = some (.static y)) && goodWord (.static y)) else ((decide (lw_tbl[k3]? = some (.instanceMethod y)) && goodWord (.instanceMethod y)) && (decide (y.name = "<init>") || (decide (lw_tbl[k4]? = some (.selects y.cls y y)) && goodWord (.selects y.cls y y)))))
  | _, _ => false
set_option maxRecDepth 100000 in
theorem sd_okobj : (decide (lw_tbl[tt_obj.1]? = some (.code objectInit ⟨#[0xb1]⟩ 1 none)) && goodWord (.code objectInit ⟨#[0xb1]⟩ 1 none) && (decide (lw_tbl[tt_obj.2]? = some (.instanceMethod objectInit)) && goodWord (.instanceMethod objectInit))
  && (decide (lw_tbl[tt_arr.1]? = some (.arrayClass .int)) && goodWord (.arrayClass .int)) && (decide (lw_tbl[tt_arr.2.1]? = some (.arrayClass .long)) && goodWord (.arrayClass .long)) && (decide (lw_tbl[tt_arr.2.2]? = some (.arrayClass .boolean)) && goodWord (.arrayClass .boolean))) = true := by decide +kernel
/-- the length of an instruction; 0: any -/
def sd_len (i : Instr) : Nat := match i with
  | .aload _ => 2 | .iload _ => 2 | .lload _ => 2 | .istore _ => 2 | .astore _ => 2 | .lstore _ => 2 | .bipush _ => 2 | .ldc _ => 2 | .newarray _ => 2
  | .sipush _ => 3 | .ldc_w _ => 3 | .ldc2_w _ => 3 | .iinc _ _ => 3 | .goto _ => 3 | .ifCond _ _ => 3 | .if_icmp _ _ => 3 | .getfield _ => 3 | .putfield _ => 3 | .new _ => 3 | .invokevirtual _ => 3 | .invokestatic _ => 3 | .invokespecial _ => 3
  | .tableswitch _ _ _ _ => 0
  | _ => 1
/-- an entry of a method's table: own class o, is it a constructor, what it answers -/
def sd_ckE (o : Nat) (ini : Bool) (cc : ByteArray) (ret : Option FieldType) (pc : Nat) (e : Ent_) (x : Nat) : Bool := match e with
  | (i, n, a, b, c, d, v, w) => decide (pc ≤ n) && decide (sd_len i = 0 ∨ n = pc + sd_len i) && decide (decode cc pc = .ok (i, n - pc)) && (match i with
    | .iconst k => decide (Int32.ofInt k = v)
    | .bipush k => decide ((Int8.ofInt k).toInt32 = v)
    | .sipush k => decide ((Int16.ofInt k).toInt32 = v)
    | .ldc k => (match tt_rK[x]? with | some r => decide (r.1 = o ∧ r.2.1 = k ∧ r.2.2.1 = v) | none => false)
    | .ldc_w k => (match tt_rK[x]? with | some r => decide (r.1 = o ∧ r.2.1 = k ∧ r.2.2.1 = v) | none => false)
    | .lconst k => decide (Int64.ofNat (k : Nat) = w)
    | .ldc2_w k => (match tt_rL[x]? with | some r => decide (r.1 = o ∧ r.2.1 = k ∧ r.2.2.1 = w) | none => false)
    | .iinc _ k => decide (Int32.ofInt k = v)
    | .goto off => decide ((pc : Int) + off = (a : Int))
    | .ifCond _ off => decide ((pc : Int) + off = (a : Int))
    | .if_icmp _ off => decide ((pc : Int) + off = (a : Int))
    | .tableswitch df _ _ _ => decide ((pc : Int) + df = (a : Int))
    | .getfield k => (match tt_rF[x]? with | some r => decide (r.1 = o ∧ r.2.1 = k ∧ r.2.2.1 = a ∧ r.2.2.2.1 = b ∧ r.2.2.2.2.1 = d) && decide ((match tt_t a b with | .int => 0 | .boolean => 1 | .long => 2 | _ => 3) = c) | none => false)
    | .putfield k => (match tt_rF[x]? with | some r => decide (r.1 = o ∧ r.2.1 = k ∧ r.2.2.1 = a ∧ r.2.2.2.1 = b ∧ r.2.2.2.2.1 = d) && decide ((match tt_t a b with | .int => 0 | .boolean => 1 | .long => 2 | _ => 3) = c) && (!((tt_c a).2.1 b).2.2.2 || (ini && decide (d = 0) && decide (tt_name o = (tt_c a).1))) | none => false)
    | .new k => (match tt_rC[x]? with | some r => decide (r.1 = o ∧ r.2.1 = k ∧ r.2.2.1 = a) && decide (a < 11) && decide (b = (tt_c a).2.2) | none => false)
    | .newarray t => decide (a = (match t with | .int => 1 | .long => 2 | .boolean => 3 | _ => 0)) && decide (a ≠ 0)
    | .invokevirtual k => (match tt_rM[x]?, tt_ml[a]?, tt_mw[a]? with | some r, some y, some z => decide (r.1 = o ∧ r.2.1 = k ∧ r.2.2.1 = a ∧ r.2.2.2.1 = d ∧ d ≤ 1) && decide ((parseMethodDescriptor y.1.desc).map (fun q => q.parameters.length) = some b) && !z.2.2.2.1 && decide (y.1.cls = (tt_c c).1) && decide (y.1.name ≠ "<init>") && decide (c < 11) | _, _, _ => false)
    | .invokestatic k => (match tt_rM[x]?, tt_ml[a]?, tt_mw[a]? with | some r, some y, some z => decide (r.1 = o ∧ r.2.1 = k ∧ r.2.2.1 = a ∧ r.2.2.2.1 = d ∧ d ≤ 1) && decide ((parseMethodDescriptor y.1.desc).map (fun q => q.parameters.length) = some b) && z.2.2.2.1 | _, _, _ => false)
    | .invokespecial k => (match tt_rM[x]? with
      | some r => decide (r.1 = o ∧ r.2.1 = k ∧ r.2.2.2.1 = d ∧ d ≤ 2) && (decide (d = 2) || (match tt_ml[a]?, tt_mw[a]? with | some y, some z => decide (r.2.2.1 = a) && decide ((parseMethodDescriptor y.1.desc).map (fun q => q.parameters.length) = some b) && !z.2.2.2.1 && decide (y.1.cls = (tt_c c).1) && decide (y.1.name = "<init>") && decide (y.2.2.2.1 = none) && decide (c < 11) | _, _ => false))
      | _ => false)
    | .ireturn => decide ((a = 0 ∧ ret = some .int) ∨ (a = 1 ∧ ret = some .boolean))
    | .lreturn => decide (ret = some .long)
    | .areturn => (match ret with | some (.object _) => true | some (.array _) => true | _ => false)
    | .return_ => decide (ret = none)
    | _ => true)
def sd_ckT (o : Nat) (ini : Bool) (cc : ByteArray) (ret : Option FieldType) (t : Tab_) (xs : List Nat) : Bool := decide (t.length = xs.length) && (t.zip xs).all (fun q => sd_ckE o ini cc ret q.1.1 q.1.2 q.2)
def sd_ckm (m : Nat) : Bool := match tt_ml[m]?, tt_mw[m]?, tt_xl[m]? with
  | some (y, b, _, ret, t), some (o, _), some xs => sd_ckT o (decide (y.name = "<init>")) b ret t xs
  | _, _, _ => false
