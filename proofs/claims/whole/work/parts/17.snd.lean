-- ===== a method's contract out of its run =====
theorem sd_lay_len : ∀ (as : List Value) (n : Nat), (as.map (fun v => v.category)).sum ≤ n → (pm_lay as n).length = n := by
  intro as
  induction as with
  | nil => intro n _; rw [pm_lay, List.length_replicate]
  | cons v t ih =>
    intro n h
    rw [List.map_cons, List.sum_cons] at h
    have hc : v.category = 1 ∨ v.category = 2 := by cases v <;> simp [Value.category]
    unfold pm_lay
    split
    · rename_i h2
      rw [h2] at h
      rw [List.length_cons, List.length_cons, ih (n - 2) (by omega)]
      omega
    · rename_i h2
      have h1 : v.category = 1 := by rcases hc with z | z; exact z; exact absurd z h2
      rw [h1] at h
      rw [List.length_cons, ih (n - 1) (by omega)]
      omega
theorem sd_lay_at (ad : Nat → Nat) : ∀ (as : List Value) (n i k : Nat) (v : Value), (pm_lay as n)[k]? = some (some v) → (i + k, sd_re ad v) ∈ lv_args i (as.map (sd_re ad)) ∧ v ∈ as := by
  intro as
  induction as with
  | nil =>
    intro n i k v h
    rw [pm_lay, List.getElem?_replicate] at h
    split at h <;> cases h
  | cons w t ih =>
    intro n i k v h
    rw [List.map_cons]
    unfold lv_args
    rw [sd_re_cat]
    unfold pm_lay at h
    split at h
    · rename_i h2
      rw [if_pos h2]
      cases k with
      | zero => cases h; exact ⟨List.mem_cons_self, List.mem_cons_self⟩
      | succ k =>
        rw [List.getElem?_cons_succ] at h
        cases k with
        | zero => cases h
        | succ k =>
          rw [List.getElem?_cons_succ] at h
          have := ih (n - 2) (i + 2) k v h
          rw [show i + 2 + k = i + (k + 1 + 1) by omega] at this
          exact ⟨List.mem_cons_of_mem _ this.1, List.mem_cons_of_mem _ this.2⟩
    · rename_i h2
      rw [if_neg h2]
      cases k with
      | zero => cases h; exact ⟨List.mem_cons_self, List.mem_cons_self⟩
      | succ k =>
        rw [List.getElem?_cons_succ] at h
        have := ih (n - 1) (i + 1) k v h
        rw [show i + 1 + k = i + (k + 1) by omega] at this
        exact ⟨List.mem_cons_of_mem _ this.1, List.mem_cons_of_mem _ this.2⟩
theorem sd_sl_len (vs : List Value) : (lg_sl vs).length = (vs.map (fun v => v.category)).sum := by
  induction vs with
  | nil => rfl
  | cons v t ih =>
    have hc : v.category = 1 ∨ v.category = 2 := by cases v <;> simp [Value.category]
    have e : lg_sl (v :: t) = (if v.category = 2 then [Slot.val v, .second] else [.val v]) ++ lg_sl t := by simp [lg_sl]
    rw [e, List.length_append, ih, List.map_cons, List.sum_cons]
    rcases hc with z | z
    · rw [if_neg (by omega), z]; rfl
    · rw [if_pos z, z]; rfl
theorem sd_cat_re (ad : Nat → Nat) (vs : List Value) : ((vs.map (sd_re ad)).map (fun v => v.category)).sum = (vs.map (fun v => v.category)).sum := by
  induction vs with
  | nil => rfl
  | cons v t ih => simp only [List.map_cons, List.sum_cons, ih, sd_re_cat]
theorem sd_entry (ad : Nat → Nat) (as : List Value) (nL : Nat) (hs : (as.map (fun v => v.category)).sum ≤ nL) : lv_has ((lg_sl (as.map (sd_re ad)) ++ List.replicate (nL - (lg_sl (as.map (sd_re ad))).length) Slot.unset).toArray) nL (sd_as ad (pm_lay as nL)) := by
  have h := lv_entry (as.map (sd_re ad)) (n := nL) (by rw [sd_sl_len, sd_cat_re]; exact hs)
  refine sd_has h (fun q hq => ?_)
  obtain ⟨v, h1, h2⟩ := sd_as_of hq
  have := (sd_lay_at ad as nL 0 q.1 v h1).1
  rw [Nat.zero_add, ← h2] at this
  exact this
theorem sd_lay_mem {as : List Value} {n : Nat} {v : Value} (h : some v ∈ pm_lay as n) : v ∈ as := by
  obtain ⟨k, hk⟩ := List.getElem?_of_mem h
  exact (sd_lay_at (fun i => i) as n 0 k v hk).2
set_option maxHeartbeats 4000000 in
theorem sd_met (l : Launch) (D : va_G) (cy : Nat → ClassId) (N : Nat) : ∀ (d : Nat) (y : Nat) (as : List Value) (h : Hp_) (r : Option Value) (h' : Hp_), pm_call tt_ms d N y as h = some (r, h') → ∃ q, tt_ml[y]? = some q ∧ ∀ (ad : Nat → Nat) (sz : Nat), sd_Met l d D cy q h ad as h' r sz := by
  intro d
  induction d with
  | zero => intro y as h r h' hs; cases hs
  | succ d ih =>
    intro y as h r h' hs
    rw [pm_call] at hs
    split at hs
    · cases hs
    · rename_i yn bts nL ret0 tab hy
      split at hs
      · rename_i hsum
        have hq : tt_ml[y]? = some (yn, bts, nL, ret0, tab) := hy
        refine ⟨_, hq, fun ad sz => ?_⟩
        obtain ⟨z, hz, hcls, hplain, hcn, hnl, hcode, hini, hstt, hins⟩ := sd_Mw hq
        have hmono := sd_call_mono tt_ms N d
        have hexm := sd_ex_mono hmono _ _ _ _ _ _ _ hs
        refine Met.ofW (cc := bts) (maxL := nL) (ret := ret0) hplain rfl ?_
        intro p e s m args below meth c s₁ B hml hv
        obtain ⟨rfl, hsz, hP, hK, hD0, hNW, hwf, hvf⟩ := hv
        have hx := B.exec
        have hb := B.bytes
        have hr := B.returns
        have hts := atoms_spec (ws := sd_ws (yn, bts, nL, ret0, tab)) B.pre
        have hown : s.vm.findClass (tt_name z.1) = some m.cls := by
          rw [← hcls]
          exact findClass_of_methodNamed B.named
        have hlocks := B.notSynchronized
        have hnm := (name_of_methodNamed B.named B.method).1
        subst hsz
        have hD := hD0.self (sz := s.heap.size)
        have hAin : ∀ q : Nat, s.heap.size ≤ q → va_A (sd_w cy h ad) s.heap.size q := fun q hq => Or.inr hq
        have hS : va_S (va_A (sd_w cy h ad) s.heap.size) s.heap s.heap [] := va_S.rf
        rw [lg_entry_eq]
        have hl := sd_entry ad as nL hsum
        generalize (lg_sl (as.map (sd_re ad)) ++ List.replicate (nL - (lg_sl (as.map (sd_re ad))).length) Slot.unset).toArray = ls at hl ⊢
        have F : sd_Fix p s m (as.map (sd_re ad)).toArray meth c bts nL z.1 (decide (yn.name = "<init>")) D cy := ⟨hx, hb, hml, hown, fun w hw => hts w (List.mem_cons_of_mem _ hw), hNW, hK, fun q => by rw [hnm]; exact of_decide_eq_true q⟩
        have key : sd_G p l e (sd_rm (d + 1) (hp_nx h' - hp_nx h) (hp_sl h' - hp_sl h)) s m (as.map (sd_re ad)).toArray below meth c (MQ below (sd_Qc D cy h ad h' r s.heap.size) (as.map (sd_re ad)).toArray s (hp_nx h' - hp_nx h) (hp_sl h' - hp_sl h) (va_A (sd_w cy h ad) s.heap.size)) D cy ad (hp_nx h) (hp_sl h) (va_A (sd_w cy h ad) s.heap.size) s.heap nL 0 (pm_lay as nL) [] h := by
          refine sd_exec (sc := none) (ret0 := ret0) (d1 := d) (tab := tab) (call := pm_call tt_ms d N) (rf := r) (hf := h') F trivial hAin (Nat.le_refl _) (Nat.le_refl _) (sd_Mt hq hz) hmono ih (Nat.le_refl _) (Nat.le_refl _) ?_ _ _ _ _ _ hs
          intro pc en L st hh hlk hsem ad' H' locs' ls' hrel
          obtain ⟨r1, r2, r3, r4, r5, r6, r7, r8, r9, r10, r11⟩ := hrel
          have ehh := sd_ret_eq hsem
          subst ehh
          obtain ⟨x, ck⟩ := sd_Mt hq hz pc en hlk
          obtain ⟨i, n, a, b, c3, d3, v, w⟩ := en
          unfold sd_ckE at ck
          rw [Bool.and_eq_true, Bool.and_eq_true, Bool.and_eq_true, decide_eq_true_eq, decide_eq_true_eq, decide_eq_true_eq] at ck
          obtain ⟨⟨⟨hpn, hlen⟩, hdec⟩, hk⟩ := ck
          have hqc : ∀ t : State, t.heap = H' → (∀ v, r = some v → sd_vf (hp_nx h') v) → sd_Qc D cy h ad h' r s.heap.size (as.map (sd_re ad)).toArray s (.returned (r.map (sd_re ad'))) t := fun t ht hv => ⟨⟨ad', r6, rfl, by rw [ht]; exact r7, r8, r1, hv⟩, r9.F ht⟩
          cases i with
          | ireturn =>
            obtain ⟨hn, hd⟩ := sd_dec hlen (k := 1) rfl (by decide) hdec
            have hk : decide ((a = 0 ∧ ret0 = some .int) ∨ (a = 1 ∧ ret0 = some .boolean)) = true := hk
            have hk := of_decide_eq_true hk
            change pm_iret a st h' = some (.inr (.inl (r, h'))) at hsem
            unfold pm_iret at hsem
            split at hsem
            · rename_i x1
              split at hsem
              · rename_i ha
                cases hsem
                rcases hk with ⟨-, hk⟩ | ⟨hk, -⟩
                · exact W.iret (v := x1) hx hb (by rw [hr, hk]) (fun t ht hW => hqc t ht (fun v hv => by cases hv; trivial)) r9.2.2 hd
                · exact absurd hk (by omega)
              · rename_i ha
                split at hsem
                · rename_i hx01
                  cases hsem
                  rcases hk with ⟨hk, -⟩ | ⟨-, hk⟩
                  · exact absurd hk ha
                  · exact W.zret (v := x1) (ty := .boolean) hx hb (by rw [hr, hk]) (by rcases hx01 with rfl | rfl <;> rfl) (fun t ht hW => hqc t ht (fun v hv => by cases hv; trivial)) r9.2.2 hd
                · cases hsem
            · cases hsem
          | lreturn =>
            obtain ⟨hn, hd⟩ := sd_dec hlen (k := 1) rfl (by decide) hdec
            have hk : decide (ret0 = some .long) = true := hk
            have hk := of_decide_eq_true hk
            change pm_lret st h' = some (.inr (.inl (r, h'))) at hsem
            unfold pm_lret at hsem
            split at hsem
            · rename_i x1
              cases hsem
              exact W.lret (v := x1) hx hb (by rw [hr, hk]) (fun t ht hW => hqc t ht (fun v hv => by cases hv; trivial)) r9.2.2 hd
            · cases hsem
          | areturn =>
            obtain ⟨hn, hd⟩ := sd_dec hlen (k := 1) rfl (by decide) hdec
            change pm_aret st h' = some (.inr (.inl (r, h'))) at hsem
            unfold pm_aret at hsem
            split at hsem
            · rename_i x1
              cases hsem
              have hvv : ∀ v, some (Value.ref x1) = some v → sd_vf (hp_nx h') v := fun v hv => by cases hv; exact r3 _ List.mem_cons_self
              cases ret0 with
              | none => exact absurd hk Bool.false_ne_true
              | some rt =>
                refine W.aret (v := .ref (ad' x1)) (rt := rt) hx hb hr ?_ (Or.inr ⟨_, rfl⟩) (fun t ht hW => hqc t ht hvv) r9.2.2 hd
                cases rt with
                | object nm => exact Or.inl ⟨_, rfl⟩
                | array nm => exact Or.inr ⟨_, rfl⟩
                | _ => exact absurd hk Bool.false_ne_true
            · cases hsem
          | return_ =>
            obtain ⟨hn, hd⟩ := sd_dec hlen (k := 1) rfl (by decide) hdec
            have hk : decide (ret0 = none) = true := hk
            have hk := of_decide_eq_true hk
            change pm_vret st h' = some (.inr (.inl (r, h'))) at hsem
            unfold pm_vret at hsem
            split at hsem
            · cases hsem
              exact W.vret hx hb (by rw [hr, hk]) (fun t ht hW => hqc t ht (fun v hv => by cases hv)) r9.2.2 hd
            · cases hsem
          | _ => exact absurd hsem (by
              simp only [pm_sem, pm_ldA, pm_ldI, pm_ldJ, pm_stI, pm_stA, pm_stL, pm_inc, pm_bin, pm_div, pm_binL, pm_divL, pm_cmpL, pm_i2l, pm_l2i, pm_dup, pm_pop, pm_if, pm_icmp, pm_sw, pm_getf, pm_putf, pm_new, pm_newa, pm_alen, pm_iald, pm_zald, pm_lald, pm_iast, pm_zast, pm_last, pm_callV, pm_callS, pm_callI]
              intro hs
              (repeat' split at hs) <;> cases hs)
        have := key ad s.heap [] ls ⟨hwf, fun v hv => hvf v (sd_lay_mem hv), fun v hv => (by cases hv), Nat.le_refl _, Nat.le_refl _, fun _ _ => rfl, hP, hD, hS, sd_lay_len as nL hsum, hl⟩
        rw [Nat.sub_self, Nat.sub_self] at this
        exact this
      · cases hs
