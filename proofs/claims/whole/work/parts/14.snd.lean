-- ===== growth; a call; a run =====
set_option maxHeartbeats 4000000 in
theorem sd_mono {sc : Sc_} {pc : Nat} {e : Ent_} {L : Lc_} {st : List Value} {h : Hp_} {pc' : Nat} {L' : Lc_} {st' : List Value} {h' : Hp_} (hs : pm_sem sc pc e L st h = some (.inl (pc', L', st', h'))) : hp_nx h ≤ hp_nx h' ∧ hp_sl h ≤ hp_sl h' := by
  obtain ⟨i, n, a, b, c, d, v, w⟩ := e
  cases i <;> simp only [pm_sem, pm_ldA, pm_ldI, pm_ldJ, pm_stI, pm_stA, pm_stL, pm_inc, pm_bin, pm_div, pm_binL, pm_divL, pm_cmpL, pm_i2l, pm_l2i, pm_dup, pm_pop, pm_if, pm_icmp, pm_sw, pm_getf, pm_putf, pm_new, pm_newa, pm_alen, pm_iald, pm_zald, pm_lald, pm_iast, pm_zast, pm_last, pm_callV, pm_callS, pm_callI, pm_iret, pm_lret, pm_aret, pm_vret, reduceCtorEq] at hs <;> (repeat' split at hs) <;> cases hs <;> first | exact ⟨Nat.le_refl _, Nat.le_refl _⟩ | exact ⟨Nat.le_succ _, Nat.le_add_right _ _⟩
/-- with a call that grows, a run grows -/
def sd_Cm (call : Nat → List Value → Hp_ → Option (Option Value × Hp_)) : Prop := ∀ y as h r h', call y as h = some (r, h') → hp_nx h ≤ hp_nx h' ∧ hp_sl h ≤ hp_sl h'
set_option maxHeartbeats 4000000 in
theorem sd_ret_eq {sc : Sc_} {pc : Nat} {e : Ent_} {L : Lc_} {st : List Value} {h : Hp_} {r : Option Value} {h' : Hp_} (hs : pm_sem sc pc e L st h = some (.inr (.inl (r, h')))) : h' = h := by
  obtain ⟨i, n, a, b, c, d, v, w⟩ := e
  cases i <;> simp only [pm_sem, pm_ldA, pm_ldI, pm_ldJ, pm_stI, pm_stA, pm_stL, pm_inc, pm_bin, pm_div, pm_binL, pm_divL, pm_cmpL, pm_i2l, pm_l2i, pm_dup, pm_pop, pm_if, pm_icmp, pm_sw, pm_getf, pm_putf, pm_new, pm_newa, pm_alen, pm_iald, pm_zald, pm_lald, pm_iast, pm_zast, pm_last, pm_callV, pm_callS, pm_callI, pm_iret, pm_lret, pm_aret, pm_vret, reduceCtorEq] at hs <;> (repeat' split at hs) <;> cases hs <;> rfl
theorem sd_ex_mono {call : Nat → List Value → Hp_ → Option (Option Value × Hp_)} (hc : sd_Cm call) {tab : Tab_} {sc : Sc_} : ∀ (N pc : Nat) (L : Lc_) (st : List Value) (h : Hp_) (r : Option Value) (h' : Hp_), pm_ex call tab sc N pc L st h = some (r, h') → hp_nx h ≤ hp_nx h' ∧ hp_sl h ≤ hp_sl h' := by
  intro N
  induction N with
  | zero => intro pc L st h r h' hs; cases hs
  | succ N ih =>
    intro pc L st h r h' hs
    rw [pm_ex] at hs
    split at hs
    · cases hs
    · rename_i e he
      split at hs
      · cases hs
      · rename_i pc1 L1 st1 h1 hs1
        have h1' := sd_mono hs1
        have h2' := ih _ _ _ _ _ _ hs
        exact ⟨Nat.le_trans h1'.1 h2'.1, Nat.le_trans h1'.2 h2'.2⟩
      · rename_i r1 hs1
        cases hs
        rw [sd_ret_eq hs1]
        exact ⟨Nat.le_refl _, Nat.le_refl _⟩
      · rename_i y as pc1 L1 st1 hs1
        split at hs
        · cases hs
        · rename_i r1 h1 hcl
          have h1' := hc _ _ _ _ _ hcl
          have h2' := ih _ _ _ _ _ _ hs
          exact ⟨Nat.le_trans h1'.1 h2'.1, Nat.le_trans h1'.2 h2'.2⟩
theorem sd_call_mono (ms : Nat → Option Mi_) (N : Nat) : ∀ d, sd_Cm (pm_call ms d N) := by
  intro d
  induction d with
  | zero => intro y as h r h' hs; cases hs
  | succ d ih =>
    intro y as h r h' hs
    rw [pm_call] at hs
    split at hs
    · cases hs
    · split at hs
      · exact sd_ex_mono ih _ _ _ _ _ _ _ hs
      · cases hs
section SDC
variable {p : Program} {l : Launch} {e : Env} {R : Room} {s : State} {m : MethodId} {args : Array Value} {below : List Frame} {meth : Method} {c : Code} {Q : State → Prop} {D : va_G} {cy : Nat → ClassId} {ad0 : Nat → Nat} {n0 s0 : Nat} {A : Nat → Prop} {H0 : Heap} {nL o : Nat} {cc : ByteArray} {ini : Bool} {pc pc' n : Nat} {L L' : Lc_} {st st' : List Value} {h h' : Hp_}
/-- behind a call -/
theorem sd_after {H : Heap} {locs : List Loc} {ls : Array Slot} {ad : Nat → Nat} {r : Option Value} {aa : Array Value} {st0 : List Value} {cells slots mc ms : Nat} (hA : ∀ q, H0.size ≤ q → A q)
    (hrel : sd_wf h ∧ (∀ v, some v ∈ L → sd_vf (hp_nx h) v) ∧ (∀ v ∈ st', sd_vf (hp_nx h) v) ∧ n0 ≤ hp_nx h ∧ s0 ≤ hp_sl h ∧ (∀ i, i ≤ n0 → ad i = ad0 i) ∧ va_P D tt_cls (sd_w cy h ad) H ∧ va_D A (sd_w cy h ad) ∧ va_S A H0 H locs ∧ L.length = nL ∧ lv_has ls nL (sd_as ad L))
    (hgr : hp_nx h ≤ hp_nx h' ∧ hp_sl h ≤ hp_sl h') (hc1 : cells + mc = hp_nx h' - n0) (hc2 : slots + ms = hp_sl h' - s0)
    (hr : va_Run p l e R s m args below meth c H locs cells slots mc ms (F0 m pc ls st0) (st'.map (sd_re ad)) (sd_Qc D cy h ad h' r H.size aa) (va_A (sd_w cy h ad) H.size))
    (kk : sd_G p l e R s m args below meth c Q D cy ad0 n0 s0 A H0 nL (pc + 3) L (r.toList ++ st') h') : W p l e R s m args below meth c H locs cells slots Q (F0 m pc ls st0) := by
  obtain ⟨r1, r2, r3, r4, r5, r6, r7, r8, r9, r10, r11⟩ := hrel
  have hfr : ∀ q, va_A (sd_w cy h ad) H.size q → A q := by
    intro q hq
    rcases hq with ⟨k, e, hk⟩ | hq
    · exact r8.2 k (q, e) hk
    · exact hA q (Nat.le_trans r9.1 hq)
  intro T hT X
  obtain ⟨v, st₀, t, T', Lx, h0, X', hL, e1, e2, ⟨⟨ad', ha, hv, hP, hD, hwf, hvf⟩, hz, hk⟩, stp⟩ := hr T hT X
  cases hv
  rw [h0] at hz hk
  have hS : va_S A H0 T'.heap (locs ++ Lx) := ⟨Nat.le_trans r9.1 (by rw [e1]; exact hz), fun q h1 h2 => by
      rw [e1, hk q (Nat.lt_of_lt_of_le h1 r9.1) (fun z => h2 (hfr q z))]
      exact r9.2.1 q h1 h2, fun q hq => by
      rcases List.mem_append.mp hq with z | z
      · exact r9.2.2 q z
      · exact hfr _ (hL q z)⟩
  have hrel' : sd_Rel D cy ad0 n0 s0 A H0 nL L (r.toList ++ st') h' ad' T'.heap (locs ++ Lx) ls := ⟨hwf, fun v hv => sd_vf_mono hgr.1 (r2 v hv), fun v hv => by
      rcases List.mem_append.mp hv with z | z
      · exact hvf v (by cases r with | none => cases z | some x => simp only [Option.toList, List.mem_singleton] at z; rw [z])
      · exact sd_vf_mono hgr.1 (r3 v z), Nat.le_trans r4 hgr.1, Nat.le_trans r5 hgr.2, fun i hi => by rw [ha i (Nat.le_trans hi r4)]; exact r6 i hi, by rw [e1]; exact hP, hD.weaken (fun k q _ z => hfr q.1 z), hS, r10, by rw [sd_as_eq r2 ha]; exact r11⟩
  have kkk := kk ad' T'.heap (locs ++ Lx) ls hrel'
  rw [← hc1, ← hc2] at kkk
  have est : (r.toList ++ st').map (sd_re ad') = (r.map (sd_re ad')).toList ++ st'.map (sd_re ad) := by
    rw [List.map_append, sd_st_eq r3 ha]
    cases r <;> rfl
  rw [est] at kkk
  obtain ⟨t2, a1, b1⟩ := kkk T' rfl X'
  exact ⟨t2, stp t2 a1, b1⟩
end SDC
