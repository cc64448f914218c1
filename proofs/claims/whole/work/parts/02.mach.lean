-- ===== THE PURE MACHINE: a heap of numbered cells, an evaluator of decoded instructions over it =====
/-- next cell, slots made, kinds, lengths, int rows, long rows, reference rows (0: null) -/
abbrev Hp_ : Type := Nat × Nat × (Nat → Nat) × (Nat → Nat) × (Nat → Nat → Int32) × (Nat → Nat → Int64) × (Nat → Nat → Nat)
def hp_nx (h : Hp_) : Nat := h.1
def hp_sl (h : Hp_) : Nat := h.2.1
def hp_kd (h : Hp_) : Nat → Nat := h.2.2.1
def hp_ln (h : Hp_) : Nat → Nat := h.2.2.2.1
def hp_I (h : Hp_) : Nat → Nat → Int32 := h.2.2.2.2.1
def hp_J (h : Hp_) : Nat → Nat → Int64 := h.2.2.2.2.2.1
def hp_R (h : Hp_) : Nat → Nat → Nat := h.2.2.2.2.2.2
/-- an int row put whole -/
def hp_rI (h : Hp_) (c : Nat) (f : Nat → Int32) : Hp_ := (h.1, h.2.1, h.2.2.1, h.2.2.2.1, va_up h.2.2.2.2.1 c f, h.2.2.2.2.2.1, h.2.2.2.2.2.2)
def hp_rJ (h : Hp_) (c : Nat) (f : Nat → Int64) : Hp_ := (h.1, h.2.1, h.2.2.1, h.2.2.2.1, h.2.2.2.2.1, va_up h.2.2.2.2.2.1 c f, h.2.2.2.2.2.2)
def hp_rR (h : Hp_) (c : Nat) (f : Nat → Nat) : Hp_ := (h.1, h.2.1, h.2.2.1, h.2.2.2.1, h.2.2.2.2.1, h.2.2.2.2.2.1, va_up h.2.2.2.2.2.2 c f)
/-- a new cell of kind t, length n, that costs z slots -/
def hp_al (h : Hp_) (t n z : Nat) : Hp_ := (h.1 + 1, h.2.1 + z, va_up h.2.2.1 (h.1 + 1) t, va_up h.2.2.2.1 (h.1 + 1) n, va_up h.2.2.2.2.1 (h.1 + 1) (fun _ => 0), va_up h.2.2.2.2.2.1 (h.1 + 1) (fun _ => 0), va_up h.2.2.2.2.2.2 (h.1 + 1) (fun _ => 0))
/-- instruction, next pc, operands resolved, constants -/
abbrev Ent_ : Type := Instr × Nat × Nat × Nat × Nat × Nat × Int32 × Int64
abbrev Tab_ : Type := List (Nat × Ent_)
abbrev Lc_ : Type := List (Option Value)
/-- a step's outcome: on, or the end, or a call -/
abbrev Out_ : Type := (Nat × Lc_ × List Value × Hp_) ⊕ ((Option Value × Hp_) ⊕ (Nat × List Value × Nat × Lc_ × List Value))
abbrev Sc_ : Type := Option (Nat × (Nat → Int32))
def pm_lk (t : Tab_) (pc : Nat) : Option Ent_ := match t with
  | [] => none
  | (k, e) :: r => if k = pc then some e else pm_lk r pc
def pm_kill (L : Lc_) (i : Nat) : Lc_ := match i with
  | 0 => L
  | j + 1 => match L[j]? with
    | some (some v) => if v.category = 2 then L.set j none else L
    | _ => L
def pm_st (L : Lc_) (i : Nat) (v : Value) : Lc_ := (pm_kill L i).set i (some v)
def pm_stJ (L : Lc_) (i : Nat) (v : Value) : Lc_ := ((pm_kill L i).set i (some v)).set (i + 1) none
def pm_ldI (k n : Nat) (L : Lc_) (st : List Value) (h : Hp_) : Option Out_ := match L[k]? with
  | some (some (.int x)) => some (.inl (n, L, .int x :: st, h))
  | _ => none
def pm_ldJ (k n : Nat) (L : Lc_) (st : List Value) (h : Hp_) : Option Out_ := match L[k]? with
  | some (some (.long x)) => some (.inl (n, L, .long x :: st, h))
  | _ => none
def pm_ldA (k n : Nat) (L : Lc_) (st : List Value) (h : Hp_) : Option Out_ := match L[k]? with
  | some (some (.ref x)) => some (.inl (n, L, .ref x :: st, h))
  | _ => none
def pm_stI (k n : Nat) (L : Lc_) (st : List Value) (h : Hp_) : Option Out_ := match st with
  | .int x :: r => if k < L.length then some (.inl (n, pm_st L k (.int x), r, h)) else none
  | _ => none
def pm_stA (k n : Nat) (L : Lc_) (st : List Value) (h : Hp_) : Option Out_ := match st with
  | .ref x :: r => if k < L.length then some (.inl (n, pm_st L k (.ref x), r, h)) else none
  | _ => none
def pm_stL (k n : Nat) (L : Lc_) (st : List Value) (h : Hp_) : Option Out_ := match st with
  | .long x :: r => if k + 1 < L.length then some (.inl (n, pm_stJ L k (.long x), r, h)) else none
  | _ => none
def pm_inc (k : Nat) (v : Int32) (n : Nat) (L : Lc_) (st : List Value) (h : Hp_) : Option Out_ := match L[k]? with
  | some (some (.int x)) => some (.inl (n, pm_st L k (.int (x + v)), st, h))
  | _ => none
def pm_bin (f : Int32 → Int32 → Int32) (n : Nat) (L : Lc_) (st : List Value) (h : Hp_) : Option Out_ := match st with
  | .int y :: .int x :: r => some (.inl (n, L, .int (f x y) :: r, h))
  | _ => none
def pm_div (f : Int32 → Int32 → Int32) (n : Nat) (L : Lc_) (st : List Value) (h : Hp_) : Option Out_ := match st with
  | .int y :: .int x :: r => if y = 0 then none else some (.inl (n, L, .int (f x y) :: r, h))
  | _ => none
def pm_binL (f : Int64 → Int64 → Int64) (n : Nat) (L : Lc_) (st : List Value) (h : Hp_) : Option Out_ := match st with
  | .long y :: .long x :: r => some (.inl (n, L, .long (f x y) :: r, h))
  | _ => none
def pm_divL (f : Int64 → Int64 → Int64) (n : Nat) (L : Lc_) (st : List Value) (h : Hp_) : Option Out_ := match st with
  | .long y :: .long x :: r => if y = 0 then none else some (.inl (n, L, .long (f x y) :: r, h))
  | _ => none
def pm_cmpL (n : Nat) (L : Lc_) (st : List Value) (h : Hp_) : Option Out_ := match st with
  | .long y :: .long x :: r => some (.inl (n, L, .int (lg_cmp x y) :: r, h))
  | _ => none
def pm_i2l (n : Nat) (L : Lc_) (st : List Value) (h : Hp_) : Option Out_ := match st with
  | .int x :: r => some (.inl (n, L, .long x.toInt64 :: r, h))
  | _ => none
def pm_l2i (n : Nat) (L : Lc_) (st : List Value) (h : Hp_) : Option Out_ := match st with
  | .long x :: r => some (.inl (n, L, .int x.toInt32 :: r, h))
  | _ => none
def pm_dup (n : Nat) (L : Lc_) (st : List Value) (h : Hp_) : Option Out_ := match st with
  | .int x :: r => some (.inl (n, L, .int x :: .int x :: r, h))
  | .ref x :: r => some (.inl (n, L, .ref x :: .ref x :: r, h))
  | _ => none
def pm_pop (n : Nat) (L : Lc_) (st : List Value) (h : Hp_) : Option Out_ := match st with
  | .int _ :: r => some (.inl (n, L, r, h))
  | .ref _ :: r => some (.inl (n, L, r, h))
  | _ => none
def pm_rel (c : ClassFile.Cond) (x y : Int32) : Bool := match c with
  | .eq => decide (x = y)
  | .ne => decide (x ≠ y)
  | .lt => decide (x < y)
  | .ge => decide (y ≤ x)
  | .gt => decide (y < x)
  | .le => decide (x ≤ y)
def pm_if (c : ClassFile.Cond) (a n : Nat) (L : Lc_) (st : List Value) (h : Hp_) : Option Out_ := match st with
  | .int x :: r => some (.inl (if pm_rel c x 0 = true then a else n, L, r, h))
  | _ => none
def pm_icmp (c : ClassFile.Cond) (a n : Nat) (L : Lc_) (st : List Value) (h : Hp_) : Option Out_ := match st with
  | .int y :: .int x :: r => some (.inl (if pm_rel c x y = true then a else n, L, r, h))
  | _ => none
/-- c: 0 int, 1 boolean, 2 long, 3 reference -/
def pm_getf (a b c n : Nat) (L : Lc_) (st : List Value) (h : Hp_) : Option Out_ := match st with
  | .ref o :: r =>
    if hp_kd h o = a + 10 then
      (match c with
        | 0 => some (.inl (n, L, .int (hp_I h o b) :: r, h))
        | 1 => some (.inl (n, L, .int (hp_I h o b) :: r, h))
        | 2 => some (.inl (n, L, .long (hp_J h o b) :: r, h))
        | _ => if hp_R h o b = 0 then none else some (.inl (n, L, .ref (hp_R h o b) :: r, h)))
    else none
  | _ => none
def pm_putf (a b c n : Nat) (L : Lc_) (st : List Value) (h : Hp_) : Option Out_ := match st with
  | .int x :: .ref o :: r =>
    if hp_kd h o = a + 10 then
      (match c with
        | 0 => some (.inl (n, L, r, hp_rI h o (va_up (hp_I h o) b x)))
        | 1 => if x = 0 ∨ x = 1 then some (.inl (n, L, r, hp_rI h o (va_up (hp_I h o) b x))) else none
        | _ => none)
    else none
  | .long x :: .ref o :: r => if hp_kd h o = a + 10 ∧ c = 2 then some (.inl (n, L, r, hp_rJ h o (va_up (hp_J h o) b x))) else none
  | .ref q :: .ref o :: r => if hp_kd h o = a + 10 ∧ c = 3 ∧ q ≠ 0 then some (.inl (n, L, r, hp_rR h o (va_up (hp_R h o) b q))) else none
  | _ => none
def pm_new (a b n : Nat) (L : Lc_) (st : List Value) (h : Hp_) : Option Out_ := some (.inl (n, L, .ref (hp_nx h + 1) :: st, hp_al h (a + 10) 0 b))
def pm_newa (a n : Nat) (L : Lc_) (st : List Value) (h : Hp_) : Option Out_ := match st with
  | .int x :: r => if ¬ x < 0 ∧ x.toNatClampNeg ≤ 1000000 then some (.inl (n, L, .ref (hp_nx h + 1) :: r, hp_al h a x.toNatClampNeg x.toNatClampNeg)) else none
  | _ => none
def pm_alen (sc : Sc_) (n : Nat) (L : Lc_) (st : List Value) (h : Hp_) : Option Out_ := match st with
  | .ref o :: r =>
    if o = 0 then (match sc with | some (z, _) => some (.inl (n, L, .int (nI z) :: r, h)) | none => none)
    else if hp_kd h o = 1 ∨ hp_kd h o = 2 ∨ hp_kd h o = 3 then some (.inl (n, L, .int (nI (hp_ln h o)) :: r, h)) else none
  | _ => none
def pm_iald (sc : Sc_) (n : Nat) (L : Lc_) (st : List Value) (h : Hp_) : Option Out_ := match st with
  | .int i :: .ref o :: r =>
    if o = 0 then (match sc with | some (z, f) => if i < 0 ∨ z ≤ i.toNatClampNeg then none else some (.inl (n, L, .int (f i.toNatClampNeg) :: r, h)) | none => none)
    else if hp_kd h o = 1 then (if i < 0 ∨ hp_ln h o ≤ i.toNatClampNeg then none else some (.inl (n, L, .int (hp_I h o i.toNatClampNeg) :: r, h))) else none
  | _ => none
def pm_zald (n : Nat) (L : Lc_) (st : List Value) (h : Hp_) : Option Out_ := match st with
  | .int i :: .ref o :: r => if hp_kd h o = 3 then (if i < 0 ∨ hp_ln h o ≤ i.toNatClampNeg then none else some (.inl (n, L, .int (hp_I h o i.toNatClampNeg) :: r, h))) else none
  | _ => none
def pm_lald (n : Nat) (L : Lc_) (st : List Value) (h : Hp_) : Option Out_ := match st with
  | .int i :: .ref o :: r => if hp_kd h o = 2 then (if i < 0 ∨ hp_ln h o ≤ i.toNatClampNeg then none else some (.inl (n, L, .long (hp_J h o i.toNatClampNeg) :: r, h))) else none
  | _ => none
def pm_iast (n : Nat) (L : Lc_) (st : List Value) (h : Hp_) : Option Out_ := match st with
  | .int x :: .int i :: .ref o :: r => if hp_kd h o = 1 then (if i < 0 ∨ hp_ln h o ≤ i.toNatClampNeg then none else some (.inl (n, L, r, hp_rI h o (va_up (hp_I h o) i.toNatClampNeg x)))) else none
  | _ => none
def pm_zast (n : Nat) (L : Lc_) (st : List Value) (h : Hp_) : Option Out_ := match st with
  | .int x :: .int i :: .ref o :: r => if hp_kd h o = 3 ∧ (x = 0 ∨ x = 1) then (if i < 0 ∨ hp_ln h o ≤ i.toNatClampNeg then none else some (.inl (n, L, r, hp_rI h o (va_up (hp_I h o) i.toNatClampNeg x)))) else none
  | _ => none
def pm_last (n : Nat) (L : Lc_) (st : List Value) (h : Hp_) : Option Out_ := match st with
  | .long x :: .int i :: .ref o :: r => if hp_kd h o = 2 then (if i < 0 ∨ hp_ln h o ≤ i.toNatClampNeg then none else some (.inl (n, L, r, hp_rJ h o (va_up (hp_J h o) i.toNatClampNeg x)))) else none
  | _ => none
def pm_sw (lo hi : Int) (offs : Array Int) (pc a n : Nat) (L : Lc_) (st : List Value) (h : Hp_) : Option Out_ := match st with
  | .int x :: r =>
    if x.toInt < lo ∨ hi < x.toInt then some (.inl (a, L, r, h))
    else (match offs[(x.toInt - lo).toNat]? with
      | some off => if 0 ≤ (pc : Int) + off then some (.inl (((pc : Int) + off).toNat, L, r, h)) else none
      | none => none)
  | _ => none
/-- a: the method, b: how many arguments beside the receiver; c: the receiver's class -/
def pm_callV (a b c n : Nat) (L : Lc_) (st : List Value) (h : Hp_) : Option Out_ :=
  if b < st.length then (match st[b]? with
    | some (.ref o) => if hp_kd h o = c + 10 ∧ (st.drop (b + 1)).length ≤ 3 then some (.inr (.inr (a, .ref o :: (st.take b).reverse, n, L, st.drop (b + 1)))) else none
    | _ => none) else none
def pm_callS (a b n : Nat) (L : Lc_) (st : List Value) (_ : Hp_) : Option Out_ :=
  if b ≤ st.length ∧ (st.drop b).length ≤ 4 then some (.inr (.inr (a, (st.take b).reverse, n, L, st.drop b))) else none
/-- d = 2: java.lang.Object's own -/
def pm_callI (a b c d n : Nat) (L : Lc_) (st : List Value) (h : Hp_) : Option Out_ :=
  if d = 2 then (match st with | .ref o :: r => if hp_kd h o ≠ 0 ∧ r.length ≤ 3 then some (.inl (n, L, r, h)) else none | _ => none)
  else pm_callV a b c n L st h
/-- a: 0 int, 1 boolean -/
def pm_iret (a : Nat) (st : List Value) (h : Hp_) : Option Out_ := match st with
  | [.int x] => if a = 0 then some (.inr (.inl (some (.int x), h))) else if x = 0 ∨ x = 1 then some (.inr (.inl (some (.int x), h))) else none
  | _ => none
def pm_lret (st : List Value) (h : Hp_) : Option Out_ := match st with
  | [.long x] => some (.inr (.inl (some (.long x), h)))
  | _ => none
def pm_aret (st : List Value) (h : Hp_) : Option Out_ := match st with
  | [.ref x] => some (.inr (.inl (some (.ref x), h)))
  | _ => none
def pm_vret (st : List Value) (h : Hp_) : Option Out_ := match st with
  | [] => some (.inr (.inl (none, h)))
  | _ => none
def pm_sem (sc : Sc_) (pc : Nat) (e : Ent_) (L : Lc_) (st : List Value) (h : Hp_) : Option Out_ := match e with
  | (i, n, a, b, c, d, v, w) => match i with
    | .aload_n k => pm_ldA k n L st h
    | .aload k => pm_ldA k n L st h
    | .iload_n k => pm_ldI k n L st h
    | .iload k => pm_ldI k n L st h
    | .lload_n k => pm_ldJ k n L st h
    | .lload k => pm_ldJ k n L st h
    | .istore_n k => pm_stI k n L st h
    | .istore k => pm_stI k n L st h
    | .astore_n k => pm_stA k n L st h
    | .astore k => pm_stA k n L st h
    | .lstore_n k => pm_stL k n L st h
    | .lstore k => pm_stL k n L st h
    | .iconst _ => some (.inl (n, L, .int v :: st, h))
    | .bipush _ => some (.inl (n, L, .int v :: st, h))
    | .sipush _ => some (.inl (n, L, .int v :: st, h))
    | .ldc _ => some (.inl (n, L, .int v :: st, h))
    | .ldc_w _ => some (.inl (n, L, .int v :: st, h))
    | .lconst _ => some (.inl (n, L, .long w :: st, h))
    | .ldc2_w _ => some (.inl (n, L, .long w :: st, h))
    | .iinc k _ => pm_inc k v n L st h
    | .iadd => pm_bin (fun x y => x + y) n L st h
    | .isub => pm_bin (fun x y => x - y) n L st h
    | .imul => pm_bin (fun x y => x * y) n L st h
    | .iand => pm_bin (fun x y => x &&& y) n L st h
    | .ior => pm_bin (fun x y => x ||| y) n L st h
    | .ixor => pm_bin (fun x y => x ^^^ y) n L st h
    | .ishl => pm_bin (fun x y => x <<< (y &&& 31)) n L st h
    | .ishr => pm_bin (fun x y => x >>> (y &&& 31)) n L st h
    | .iushr => pm_bin (fun x y => (x.toUInt32 >>> (y.toUInt32 &&& Int32.toUInt32 31)).toInt32) n L st h
    | .idiv => pm_div (fun x y => x / y) n L st h
    | .irem => pm_div (fun x y => x - x / y * y) n L st h
    | .ladd => pm_binL (fun x y => x + y) n L st h
    | .lmul => pm_binL (fun x y => x * y) n L st h
    | .lrem => pm_divL (fun x y => x - x / y * y) n L st h
    | .lcmp => pm_cmpL n L st h
    | .i2l => pm_i2l n L st h
    | .l2i => pm_l2i n L st h
    | .dup => pm_dup n L st h
    | .pop => pm_pop n L st h
    | .goto _ => some (.inl (a, L, st, h))
    | .ifCond k _ => pm_if k a n L st h
    | .if_icmp k _ => pm_icmp k a n L st h
    | .tableswitch _ lo hi offs => pm_sw lo hi offs pc a n L st h
    | .getfield _ => pm_getf a b c n L st h
    | .putfield _ => pm_putf a b c n L st h
    | .new _ => pm_new a b n L st h
    | .newarray _ => pm_newa a n L st h
    | .arraylength => pm_alen sc n L st h
    | .iaload => pm_iald sc n L st h
    | .baload => pm_zald n L st h
    | .laload => pm_lald n L st h
    | .iastore => pm_iast n L st h
    | .bastore => pm_zast n L st h
    | .lastore => pm_last n L st h
    | .invokevirtual _ => pm_callV a b c n L st h
    | .invokestatic _ => pm_callS a b n L st h
    | .invokespecial _ => pm_callI a b c d n L st h
    | .ireturn => pm_iret a st h
    | .lreturn => pm_lret st h
    | .areturn => pm_aret st h
    | .return_ => pm_vret st h
    | _ => none
def pm_ex (call : Nat → List Value → Hp_ → Option (Option Value × Hp_)) (tab : Tab_) (sc : Sc_) : Nat → Nat → Lc_ → List Value → Hp_ → Option (Option Value × Hp_)
  | 0, _, _, _, _ => none
  | N + 1, pc, L, st, h => match pm_lk tab pc with
    | none => none
    | some e => match pm_sem sc pc e L st h with
      | none => none
      | some (.inl (pc', L', st', h')) => pm_ex call tab sc N pc' L' st' h'
      | some (.inr (.inl r)) => some r
      | some (.inr (.inr (y, as, pc', L', st'))) => match call y as h with
        | none => none
        | some (r, h') => pm_ex call tab sc N pc' L' (r.toList ++ st') h'
/-- a method: its name, bytes, locals, answer, table -/
abbrev Mi_ : Type := MethodName × ByteArray × Nat × Option FieldType × Tab_
def pm_lay : List Value → Nat → Lc_
  | [], n => List.replicate n none
  | v :: r, n => if v.category = 2 then some v :: none :: pm_lay r (n - 2) else some v :: pm_lay r (n - 1)
def pm_call (ms : Nat → Option Mi_) : Nat → Nat → Nat → List Value → Hp_ → Option (Option Value × Hp_)
  | 0, _, _, _, _ => none
  | d + 1, N, y, as, h => match ms y with
    | none => none
    | some (_, _, nL, _, tab) => if (as.map (fun v => v.category)).sum ≤ nL then pm_ex (pm_call ms d N) tab none N 0 (pm_lay as nL) [] h else none
