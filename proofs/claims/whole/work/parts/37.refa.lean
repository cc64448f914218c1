-- ===== the reference: places, say, wipe, faults, figure, goes, set, music, judge, dance, home, where =====
theorem S_Ref_fz {P : Nat → Prop} {h h' : Hp_} (f : fz_ P h h') (S : S_Ref h) : S_Ref h' := by
  unfold S_Ref at S ⊢
  rw [fz_kd f, fz_ln f, fz_R f]
  exact S
theorem RB_fz {h0 h h' : Hp_} {t : Rt_} (B : RB_ h0 h t) (f : fz_ (fun c => 78 ≤ c ∧ c ≤ 91) h h') : RB_ h0 h' t := RB_of B (S_Ref_fz f B.S) (fz_trans B.z (fz_mono (fun c hc => by omega) f)) (fun c hc => fz_I f (by omega)) (fun k _ => by rw [fz_I f (by omega)])
theorem ff_at {P : Nat → Bool} {c i : Nat} (h : ∀ j, j < i → P j = false) (hi : i < c) (hP : P i = true) : ff_ P c 0 = some i := by
  have key : ∀ k j, k + j = c → j ≤ i → ff_ P k j = some i := by
    intro k
    induction k with
    | zero => intro j h1 h2; omega
    | succ k ih =>
      intro j h1 h2
      show (if P j then some j else ff_ P k (j + 1)) = some i
      by_cases e : j = i
      · rw [e, if_pos hP]
      · rw [h j (by omega), if_neg (by decide)]
        exact ih (j + 1) (by omega) (by omega)
  exact key c 0 (by omega) (by omega)
theorem ff_no {P : Nat → Bool} {c : Nat} (h : ∀ j, j < c → P j = false) : ff_ P c 0 = none := by
  have key : ∀ k j, k + j = c → ff_ P k j = none := by
    intro k
    induction k with
    | zero => intro j _; rfl
    | succ k ih =>
      intro j h1
      show (if P j then some j else ff_ P k (j + 1)) = none
      rw [h j (by omega), if_neg (by decide)]
      exact ih (j + 1) (by omega)
  exact key c 0 (by omega)
theorem hs_sub {s : Sg_} {a b : Nat} (ha : a < 2 ^ 30) (hb : b < 2 ^ 30) : hs_ s (nI a - nI b) = (decide (b ≤ a) && decide (a < b + sg_n s)) := by
  unfold hs_
  rw [pk_sub_toInt ha hb, ← Bool.decide_and]
  exact decide_eq_decide.mpr (by omega)
theorem rg_sub {a b k : Nat} (ha : a < 2 ^ 30) (hb : b < 2 ^ 30) : rg_ 0 k (nI a - nI b) = (decide (b ≤ a) && decide (a ≤ b + k)) := by
  unfold rg_
  rw [pk_sub_toInt ha hb, ← Bool.decide_and]
  exact decide_eq_decide.mpr (by omega)
theorem Ref_begin_ok {h : Hp_} {n : Nat} (S : S_Ref h) (hn : n ≤ 8) : cV 1 mn_Ref_begin [.ref 65, .int (nI n)] h (fun h' => S_Ref h' ∧ fz_ (fun c => 65 ≤ c ∧ c ≤ 68) h h' ∧ hp_I h' 65 = va_up (va_up (va_up (va_up (hp_I h 65) 0 (nI n)) 4 (nI 0)) 12 (nI 0)) 16 (nI 0) ∧ ∀ p, p < 8 → hp_I h' 67 p = nI p ∧ hp_I h' 68 p = -6 ∧ ∀ f, f < 6 → hp_I h' 66 (8 * f + p) = nI p) := by
  refine cq_in (q := mi_Ref_begin) (L := [some (.ref 65), some (.int (nI n)), none, none]) rfl (Nat.le_of_ble_eq_true rfl) rfl ?_
  show wq _ tb_Ref_begin none 0 _ _ _ _
  refine wp_aload0 rfl ?_
  refine wp_iload1 rfl ?_
  refine wp_putI rfl (Ref_kd S) ?_
  refine wp_iconst rfl ?_
  refine wp_istore2 rfl rfl ?_
  refine wq_loop (X := Option Value) (fun i x => [some (.ref 65), some (.int (nI n)), some (.int (nI i)), x]) (fun i x h1 => S_Ref h1 ∧ fz_ (fun c => 65 ≤ c ∧ c ≤ 68) h h1 ∧ hp_I h1 65 = va_up (hp_I h 65) 0 (nI n) ∧ ∀ p, p < i → hp_I h1 67 p = nI p ∧ hp_I h1 68 p = -6 ∧ ∀ f, f < 6 → hp_I h1 66 (8 * f + p) = nI p) (8) (0) (none) ?_ ?_ ?_ ?_
  · omega
  · exact ⟨S, fz_rI (fz_refl _ _) (by omega) _, by rw [sd_rI_eq], fun p hp => by omega⟩
  · intro i x h1 hi I k
    show wq _ tb_Ref_begin _ 7 [some (.ref 65), some (.int (nI n)), some (.int (nI i)), x] [] h1 _
    obtain ⟨S1, z1, e1, a1⟩ := I
    refine wp_iload2 rfl ?_
    refine wp_bipush rfl ?_
    refine wp_icmp_geN i 8 (by omega) (by omega) rfl (fun z => absurd z (by omega)) (fun _ => ?_)
    refine wp_aload0 rfl ?_
    refine wp_getR rfl (Ref_kd S1) (Ref_R2 S1) (by first | decide | omega) ?_
    refine wp_iload2 rfl ?_
    refine wp_iload2 rfl ?_
    refine wp_iast i rfl (Ref_k2 S1) (Nat.lt_of_lt_of_eq (show i < _ by omega) (Eq.symm (Ref_n2 S1))) (by omega) rfl ?_
    refine wp_aload0 rfl ?_
    refine wp_getR rfl (Ref_kd S1) (Ref_R3 S1) (by first | decide | omega) ?_
    refine wp_iload2 rfl ?_
    refine wp_bipush rfl ?_
    refine wp_iast i rfl (Ref_k3 S1) (Nat.lt_of_lt_of_eq (show i < _ by omega) (Eq.symm (Ref_n3 S1))) (by omega) rfl ?_
    refine wp_iconst rfl ?_
    refine wp_istore3 rfl rfl ?_
    refine wq_loop (X := Unit) (fun j x => [some (.ref 65), some (.int (nI n)), some (.int (nI i)), some (.int (nI j))]) (fun j x h2 => S_Ref h2 ∧ fz_ (fun c => 65 ≤ c ∧ c ≤ 68) h h2 ∧ hp_I h2 65 = va_up (hp_I h 65) 0 (nI n) ∧ (∀ p, p < i → hp_I h2 67 p = nI p ∧ hp_I h2 68 p = -6 ∧ ∀ f, f < 6 → hp_I h2 66 (8 * f + p) = nI p) ∧ hp_I h2 67 i = nI i ∧ hp_I h2 68 i = -6 ∧ ∀ f, f < j → hp_I h2 66 (8 * f + i) = nI i) (6) (0) (()) ?_ ?_ ?_ ?_
    · omega
    · refine ⟨S1, fz_rI (fz_rI z1 (by omega) _) (by omega) _, ?_, fun p hp => ?_, ?_, ?_, fun f hf => by omega⟩
      · rw [sd_rI_ne (by decide), sd_rI_ne (by decide)]; exact e1
      · have := a1 p hp
        simp (disch := omega) only [hI_rI, vu_at, if_pos, if_neg]
        exact this
      · rw [sd_rI_ne (by decide), sd_rI_eq, sd_up_eq]
      · rw [sd_rI_eq, sd_up_eq]
    · intro j x h2 hi J k
      show wq _ tb_Ref_begin _ 30 [some (.ref 65), some (.int (nI n)), some (.int (nI i)), some (.int (nI j))] [] h2 _
      obtain ⟨S2, z2, e2, a2, b2, c2, d2⟩ := J
      refine wp_iload3 rfl ?_
      refine wp_bipush rfl ?_
      refine wp_icmp_geN j 6 (by omega) (by omega) rfl (fun z => absurd z (by omega)) (fun _ => ?_)
      refine wp_aload0 rfl ?_
      refine wp_getR rfl (Ref_kd S2) (Ref_R1 S2) (by first | decide | omega) ?_
      refine wp_bipush rfl ?_
      refine wp_iload3 rfl ?_
      refine wp_imulE (nI (8 * j)) (pk_mul _ _) rfl ?_
      refine wp_iload2 rfl ?_
      refine wp_iaddE (nI ((8 * j) + i)) (nI_add _ _) rfl ?_
      refine wp_iload2 rfl ?_
      refine wp_iast ((8 * j) + i) rfl (Ref_k1 S2) (Nat.lt_of_lt_of_eq (show ((8 * j) + i) < _ by omega) (Eq.symm (Ref_n1 S2))) (by omega) rfl ?_
      refine wp_iinc3N rfl rfl ?_
      refine wp_goto rfl ?_
      refine k () _ ⟨S2, fz_rI z2 (by omega) _, ?_, fun p hp => ?_, ?_, ?_, fun f hf => ?_⟩
      · rw [sd_rI_ne (by decide)]; exact e2
      · have := a2 p hp
        refine ⟨?_, ?_, fun f hf => ?_⟩
        · rw [sd_rI_ne (by decide)]; exact this.1
        · rw [sd_rI_ne (by decide)]; exact this.2.1
        · rw [sd_rI_eq, sd_up_ne (by omega)]; exact this.2.2 f hf
      · rw [sd_rI_ne (by decide)]; exact b2
      · rw [sd_rI_ne (by decide)]; exact c2
      · rw [sd_rI_eq, vu_at]
        split
        · rfl
        · exact d2 f (by omega)
    · intro x h2 J
      show wq _ tb_Ref_begin _ 30 [some (.ref 65), some (.int (nI n)), some (.int (nI i)), some (.int (nI 6))] [] h2 _
      obtain ⟨S2, z2, e2, a2, b2, c2, d2⟩ := J
      refine wp_iload3 rfl ?_
      refine wp_bipush rfl ?_
      refine wp_icmp_geN 6 6 (by omega) (by omega) rfl (fun _ => ?_) (fun z => absurd z (by omega))
      refine wp_iinc2N rfl rfl ?_
      refine wp_goto rfl ?_
      refine k _ _ ⟨S2, z2, e2, fun p hp => ?_⟩
      rcases Nat.lt_or_ge p i with q | q
      · exact a2 p q
      · obtain rfl : p = i := by omega
        exact ⟨b2, c2, d2⟩
  · intro x h1 I
    show wq _ tb_Ref_begin _ 7 [some (.ref 65), some (.int (nI n)), some (.int (nI 8)), x] [] h1 _
    obtain ⟨S1, z1, e1, a1⟩ := I
    refine wp_iload2 rfl ?_
    refine wp_bipush rfl ?_
    refine wp_icmp_geN 8 8 (by omega) (by omega) rfl (fun _ => ?_) (fun z => absurd z (by omega))
    refine wp_aload0 rfl ?_
    refine wp_iconst rfl ?_
    refine wp_putI rfl (Ref_kd S1) ?_
    refine wp_aload0 rfl ?_
    refine wp_iconst rfl ?_
    refine wp_putI rfl (Ref_kd S1) ?_
    refine wp_aload0 rfl ?_
    refine wp_iconst rfl ?_
    refine wp_putI rfl (Ref_kd S1) ?_
    refine wp_vret rfl ?_
    refine ⟨rfl, S1, fz_rI (fz_rI (fz_rI z1 (by omega) _) (by omega) _) (by omega) _, ?_, fun p hp => ?_⟩
    · rw [sd_rI_eq, sd_rI_eq, sd_rI_eq, e1]
    · have := a1 p hp
      simp (disch := omega) only [hI_rI, vu_at, if_pos, if_neg]
      exact this
/-- n places anew -/
def an_places (t : Rt_) (x : Int32) : Int32 × Rt_ := if rg_ 3 8 x then (nI (sg_n t.1), (op_ t.1 x.toNatClampNeg, t.2)) else (-2, t)
theorem op_wf {s : Sg_} {n : Nat} (w : sg_wf s) (h3 : 3 ≤ n) (h8 : n ≤ 8) : sg_wf (op_ s n) := by
  obtain ⟨a1, a2, a3, a4, a5, a6, a7, a8, a9, a10, a11, a12, a13⟩ := w
  exact ⟨⟨h3, h8⟩, IsP.id n, Nat.two_pow_pos n, a4, a5, fun f => IsP.id n, a7, ⟨fun g => Or.inr rfl, fun g g2 _ h => absurd rfl h, fun g _ => rfl⟩, a9, Nat.zero_le _, fun q hq => absurd (show q ∈ ([] : List (Nat × Nat × Nat)) from hq) List.not_mem_nil, Nat.zero_le _, fun q hq => absurd (show q ∈ ([] : List (Nat × Nat × Nat)) from hq) List.not_mem_nil⟩
theorem in_id : in_ (fun p => p) = (fun p => p) := funext fun i => in_left (IsP.id 8) i
theorem Ref_places_ok {h0 h : Hp_} {t : Rt_} {x : Int32} (B : RB_ h0 h t) : cI 3 mn_Ref_places [.ref 65, .int x] h (fun y h' => y = (an_places t x).1 ∧ RB_ h0 h' (an_places t x).2) := by
  refine cq_in (q := mi_Ref_places) (L := [some (.ref 65), some (.int x), none]) rfl (Nat.le_of_ble_eq_true rfl) rfl ?_
  show wq _ tb_Ref_places none 0 _ _ _ _
  refine wp_iload1 rfl ?_
  refine wp_i2l rfl ?_
  refine wp_ldc2_w rfl ?_
  refine wp_ldc2_w rfl ?_
  refine wp_callS3I rfl (Nat.le_of_ble_eq_true rfl) (Ref_inN_ok (a := 3) (b := 8) (by omega) (by omega)) (Nat.le_of_ble_eq_true rfl) ?_
  refine pure_ ?_
  refine wp_if_neB rfl (fun c1 => ?_) (fun c1 => ?_)
  · skip
    obtain ⟨j, j3, j8, jb, rfl⟩ := rg_of c1
    have e : an_places t (nI j) = (nI (sg_n t.1), (op_ t.1 j, t.2)) := by unfold an_places; rw [show rg_ 3 8 (nI j) = true from c1, if_pos rfl, nI_clamp jb]
    rw [e]
    refine wp_aload0 rfl ?_
    refine wp_getIE rfl (Ref_kd B.S) (show _ = nI (sg_n t.1) from B.n) ?_
    refine wp_istore2 rfl rfl ?_
    refine wp_aload0 rfl ?_
    refine wp_iload1 rfl ?_
    refine wp_callV1V rfl (Nat.le_of_ble_eq_true rfl) (Ref_kd B.S) (Ref_begin_ok B.S j8) (Nat.le_of_ble_eq_true rfl) ?_
    rintro h1 ⟨S1, z1, e1, a1⟩
    refine wp_iload2 rfl ?_
    refine wp_iret rfl ?_
    have M := B.M
    refine ⟨_, rfl, rfl, S1, fz_trans B.z (fz_mono (fun c hc => by omega) z1), ⟨⟨?_, ?_, ?_, ?_, ?_, ?_⟩, ?_, ?_, ?_, ?_, ?_, ?_, ?_⟩, op_wf B.w j3 j8, ⟨?_, B.c30, ?_, B.g127⟩, IM_cong (fz_I z1 (by omega)) (fz_I z1 (by omega)) B.2.2.2.2.2.1, IM_cong (fz_I z1 (by omega)) (fz_I z1 (by omega)) B.2.2.2.2.2.2⟩
    · rw [e1]; rfl
    · rw [e1]; rfl
    · rw [e1]; exact B.pl
    · rw [e1]; exact B.le
    · rw [e1]; rfl
    · rw [e1]; rfl
    · intro f p hf hp; exact (a1 p hp).2.2 f hf
    · intro p hp
      rw [(a1 p hp).1]
      exact congrArg nI (congrFun in_id p).symm
    · intro p hp; exact (a1 p hp).2.1
    · intro f hf; rw [fz_I z1 (by omega)]; exact B.mu hf
    · intro c hc; rw [fz_I z1 (by omega)]; exact B.ca hc
    · intro i q hq; cases hq
    · intro i q hq; cases hq
    · rw [e1]; exact B.c
    · rw [fz_I z1 (by omega)]; exact B.P.2.2.1
  · skip
    refine wp_bipush rfl ?_
    exact wp_iret rfl ⟨_, rfl, by unfold an_places; rw [show rg_ 3 8 x = false from c1]; rfl, by unfold an_places; rw [show rg_ 3 8 x = false from c1]; exact B⟩
def an_say (t : Rt_) (x : Int32) : Int32 × Rt_ := if rg_ 33 126 x then (if t.2.2.1 = 30 then (-4, t) else (nI (t.2.2.1 + 1), (t.1, va_up t.2.1 t.2.2.1 x.toNatClampNeg, t.2.2.1 + 1, t.2.2.2))) else (-2, t)
theorem Ref_say_ok {h0 h : Hp_} {t : Rt_} {x : Int32} (B : RB_ h0 h t) : cI 3 mn_Ref_say [.ref 65, .int x] h (fun y h' => y = (an_say t x).1 ∧ RB_ h0 h' (an_say t x).2) := by
  have c30 := B.c30
  refine cq_in (q := mi_Ref_say) (L := [some (.ref 65), some (.int x)]) rfl (Nat.le_of_ble_eq_true rfl) rfl ?_
  show wq _ tb_Ref_say none 0 _ _ _ _
  refine wp_iload1 rfl ?_
  refine wp_i2l rfl ?_
  refine wp_ldc2_w rfl ?_
  refine wp_ldc2_w rfl ?_
  refine wp_callS3I rfl (Nat.le_of_ble_eq_true rfl) (Ref_inN_ok (a := 33) (b := 126) (by omega) (by omega)) (Nat.le_of_ble_eq_true rfl) ?_
  refine pure_ ?_
  refine wp_if_neB rfl (fun c1 => ?_) (fun c1 => ?_)
  · skip
    obtain ⟨j, j3, j8, jb, rfl⟩ := rg_of c1
    refine wp_aload0 rfl ?_
    refine wp_getIE rfl (Ref_kd B.S) (show _ = nI (t.2.2.1) from B.c) ?_
    refine wp_bipush rfl ?_
    refine wp_icmp_neN (t.2.2.1) 30 (by omega) (by omega) rfl (fun c2 => ?_) (fun c2 => ?_)
    · skip
      have e : an_say t (nI j) = (nI (t.2.2.1 + 1), (t.1, va_up t.2.1 t.2.2.1 j, t.2.2.1 + 1, t.2.2.2)) := by unfold an_say; rw [show rg_ 33 126 (nI j) = true from c1, if_pos rfl, if_neg c2, nI_clamp jb]
      rw [e]
      refine wp_aload0 rfl ?_
      refine wp_getR rfl (Ref_kd B.S) (Ref_R17 B.S) (by first | decide | omega) ?_
      refine wp_aload0 rfl ?_
      refine wp_getIE rfl (Ref_kd B.S) (show _ = nI (t.2.2.1) from B.c) ?_
      refine wp_iload1 rfl ?_
      refine wp_iast (t.2.2.1) rfl (Ref_k17 B.S) (Nat.lt_of_lt_of_eq (show (t.2.2.1) < _ by omega) (Eq.symm (Ref_n17 B.S))) (by omega) rfl ?_
      refine wp_aload0 rfl ?_
      refine wp_dup rfl ?_
      refine wp_getIE rfl (Ref_kd B.S) (show _ = nI (t.2.2.1) from by rw [sd_rI_ne (by decide)]; exact B.c) ?_
      refine wp_iconst rfl ?_
      refine wp_iaddE (nI ((t.2.2.1) + 1)) (nI_add _ _) rfl ?_
      refine wp_putI rfl (Ref_kd B.S) ?_
      refine wp_aload0 rfl ?_
      refine wp_getIE rfl (Ref_kd B.S) (show _ = nI (t.2.2.1 + 1) from by rw [sd_rI_eq, sd_up_eq]) ?_
      refine wp_iret rfl ?_
      refine ⟨_, rfl, rfl, B.S, fz_rI (fz_rI B.z (by omega) _) (by omega) _, MR_cong ?_ ?_ B.M, B.w, ⟨?_, ?_, ?_, ?_⟩, IM_cong (by rw [sd_rI_ne (by decide), sd_rI_ne (by decide)]) (by rw [sd_rI_ne (by decide), sd_rI_ne (by decide)]) B.2.2.2.2.2.1, IM_cong (by rw [sd_rI_ne (by decide), sd_rI_ne (by decide)]) (by rw [sd_rI_ne (by decide), sd_rI_ne (by decide)]) B.2.2.2.2.2.2⟩
      · intro c h1 h2
        rw [sd_rI_ne (by omega), sd_rI_ne (by omega)]
      · intro k hk
        rw [sd_rI_eq, sd_up_ne (by omega), sd_rI_ne (by decide)]
      · rw [sd_rI_eq]; rfl
      · show t.2.2.1 + 1 ≤ 30; omega
      · intro i hi
        have hi2 : i < t.2.2.1 + 1 := hi
        rw [sd_rI_ne (by decide), sd_rI_eq, vu_at]
        show _ = nI (va_up t.2.1 t.2.2.1 j i)
        rw [vu_at]
        split
        · rfl
        · exact B.pad (by omega)
      · intro i
        show va_up t.2.1 t.2.2.1 j i < 127
        rw [vu_at]
        split
        · omega
        · exact B.g127 i
    · skip
      refine wp_bipush rfl ?_
      have e : an_say t (nI j) = (-4, t) := by unfold an_say; rw [show rg_ 33 126 (nI j) = true from c1, if_pos rfl, if_pos c2]
      rw [e]
      exact wp_iret rfl ⟨_, rfl, rfl, B⟩
  · skip
    refine wp_bipush rfl ?_
    have e : an_say t x = (-2, t) := by unfold an_say; rw [show rg_ 33 126 x = false from c1]; rfl
    rw [e]
    exact wp_iret rfl ⟨_, rfl, rfl, B⟩
def an_wipe (t : Rt_) : Int32 × Rt_ := (nI t.2.2.1, (t.1, t.2.1, 0, t.2.2.2))
/-- the pad emptied -/
theorem RB_clear {h0 h : Hp_} {t : Rt_} (B : RB_ h0 h t) : RB_ h0 (hp_rI h 65 (va_up (hp_I h 65) 18 (nI 0))) (t.1, t.2.1, 0, t.2.2.2) := by
  refine ⟨B.S, fz_rI B.z (by omega) _, MR_cong ?_ ?_ B.M, B.w, ⟨?_, Nat.zero_le _, fun i hi => absurd hi (Nat.not_lt_zero i), B.g127⟩, IM_cong (by rw [sd_rI_ne (by decide)]) (by rw [sd_rI_ne (by decide)]) B.2.2.2.2.2.1, IM_cong (by rw [sd_rI_ne (by decide)]) (by rw [sd_rI_ne (by decide)]) B.2.2.2.2.2.2⟩
  · intro c h1 h2
    rw [sd_rI_ne (by omega)]
  · intro k hk
    rw [sd_rI_eq, sd_up_ne (by omega)]
  · rw [sd_rI_eq]; rfl
theorem Ref_wipe_ok {h0 h : Hp_} {t : Rt_} (B : RB_ h0 h t) : cI 1 mn_Ref_wipe [.ref 65] h (fun y h' => y = (an_wipe t).1 ∧ RB_ h0 h' (an_wipe t).2) := by
  refine cq_in (q := mi_Ref_wipe) (L := [some (.ref 65), none]) rfl (Nat.le_of_ble_eq_true rfl) rfl ?_
  show wq _ tb_Ref_wipe none 0 _ _ _ _
  refine wp_aload0 rfl ?_
  refine wp_getIE rfl (Ref_kd B.S) (show _ = nI (t.2.2.1) from B.c) ?_
  refine wp_istore1 rfl rfl ?_
  refine wp_aload0 rfl ?_
  refine wp_iconst rfl ?_
  refine wp_putI rfl (Ref_kd B.S) ?_
  refine wp_iload1 rfl ?_
  exact wp_iret rfl ⟨_, rfl, rfl, RB_clear B⟩
theorem Ref_faultOfOrder_ok {h0 h : Hp_} {t : Rt_} {base : Nat} (B : RB_ h0 h t) (hb : base < 128) : cI 3 mn_Ref_faultOfOrder [.ref 65, .int (nI base)] h (fun x h' => x = fo_ t.2.1 t.2.2.1 base (sg_n t.1) ∧ h' = h) := by
  have c30 := B.c30
  have n8 := B.n8
  refine cq_in (q := mi_Ref_faultOfOrder) (L := [some (.ref 65), some (.int (nI base)), none, none, none]) rfl (Nat.le_of_ble_eq_true rfl) rfl ?_
  show wq _ tb_Ref_faultOfOrder none 0 _ _ _ _
  refine wp_iconst rfl ?_
  refine wp_istore2 rfl rfl ?_
  refine wp_iconst rfl ?_
  refine wp_istore3 rfl rfl ?_
  refine wq_loop (X := Option Value) (fun i x => [some (.ref 65), some (.int (nI base)), some (.int (nI (um_ t.2.1 base i))), some (.int (nI i)), x]) (fun i x h1 => h1 = h ∧ ∀ j, j < i → eb_ t.2.1 base (sg_n t.1) j = false) (t.2.2.1) (0) (none) ?_ ?_ ?_ ?_
  · omega
  · exact ⟨rfl, fun j hj => by omega⟩
  · intro i x h1 hi I k
    show wq _ tb_Ref_faultOfOrder _ 4 [some (.ref 65), some (.int (nI base)), some (.int (nI (um_ t.2.1 base i))), some (.int (nI i)), x] [] h1 _
    obtain ⟨rfl, a1⟩ := I
    have hg := B.g127 i
    have hu := um_lt i a1
    have hu8 : um_ t.2.1 base i < 256 := Nat.lt_of_lt_of_le hu (Nat.pow_le_pow_right (by decide) n8)
    refine wp_iload3 rfl ?_
    refine wp_aload0 rfl ?_
    refine wp_getIE rfl (Ref_kd B.S) (show _ = nI (t.2.2.1) from B.c) ?_
    refine wp_icmp_geN i (t.2.2.1) (by omega) (by omega) rfl (fun z => absurd z (by omega)) (fun _ => ?_)
    refine wp_aload0 rfl ?_
    refine wp_getR rfl (Ref_kd B.S) (Ref_R17 B.S) (by first | decide | omega) ?_
    refine wp_iload3 rfl ?_
    refine wp_ialdE i rfl (Ref_k17 B.S) (by first | decide | omega) (Nat.lt_of_lt_of_eq (show i < _ by omega) (Eq.symm (Ref_n17 B.S))) (by omega) (show _ = nI (t.2.1 i) from B.pad hi) rfl ?_
    refine wp_iload1 rfl ?_
    refine wp_isub rfl ?_
    refine wp_istore4 rfl rfl ?_
    refine wp_aload0 rfl ?_
    refine wp_iload4 rfl ?_
    refine wp_callV1I rfl (Nat.le_of_ble_eq_true rfl) (Ref_kd B.S) (Ref_isPlace_ok B) (Nat.le_of_ble_eq_true rfl) ?_
    refine pure_ ?_
    have ehs := hs_sub (s := t.1) (a := t.2.1 i) (b := base) (by omega) (by omega)
    refine wp_if_eqB rfl (fun c1 => ?_) (fun c1 => ?_)
    · skip
      refine wp_iload3 rfl ?_
      rw [ehs] at c1
      have c2 : eb_ t.2.1 base (sg_n t.1) i = true := by
        unfold eb_
        rcases Bool.and_eq_false_iff.mp c1 with z | z
        · rw [decide_eq_true (by have := of_decide_eq_false z; omega)]; rfl
        · rw [show decide (base + sg_n t.1 ≤ t.2.1 i) = true from decide_eq_true (by have := of_decide_eq_false z; omega), Bool.or_true]; rfl
      exact wp_iret rfl ⟨_, rfl, by unfold fo_; rw [ff_at a1 hi c2], rfl⟩
    · skip
      rw [ehs] at c1
      have c2 := (Bool.and_eq_true_iff.mp c1)
      have c3 := of_decide_eq_true c2.1
      have c4 := of_decide_eq_true c2.2
      rw [pk_sub c3]
      have eeb : eb_ t.2.1 base (sg_n t.1) i = (um_ t.2.1 base i).testBit (t.2.1 i - base) := by
        unfold eb_
        rw [decide_eq_false (by omega), decide_eq_false (by omega), Bool.false_or, Bool.false_or]
      refine wp_iload2 rfl ?_
      refine wp_iload4 rfl ?_
      refine wp_ishrE (nI ((um_ t.2.1 base i) / 2 ^ (t.2.1 i - base))) (nn_sshr _ _ (by omega) (by omega)) rfl ?_
      refine wp_iconst rfl ?_
      refine wp_iandE (nI (((um_ t.2.1 base i) / 2 ^ (t.2.1 i - base)) % 2)) (nn_1 _) rfl ?_
      refine wp_iconst rfl ?_
      refine wp_icmp_neN (((um_ t.2.1 base i) / 2 ^ (t.2.1 i - base)) % 2) 1 (by omega) (by omega) rfl (fun c5 => ?_) (fun c5 => ?_)
      · skip
        refine wp_iload2 rfl ?_
        refine wp_iconst rfl ?_
        refine wp_iload4 rfl ?_
        refine wp_ishlE (nI (2 ^ (t.2.1 i - base))) (nn_shl1 _ (by omega)) rfl ?_
        refine wp_iorE (nI ((um_ t.2.1 base i) ||| (2 ^ (t.2.1 i - base)))) (nn_or _ _) rfl ?_
        refine wp_istore2 rfl rfl ?_
        refine wp_iinc3N rfl rfl ?_
        refine wp_goto rfl ?_
        have c6 := (tb_mod0 _ _).mp c5
        exact k _ _ ⟨rfl, fun j hj => by
          rcases Nat.lt_or_ge j i with q | q
          · exact a1 j q
          · obtain rfl : j = i := by omega
            rw [eeb]; exact c6⟩
      · skip
        refine wp_iload3 rfl ?_
        have c6 := (tb_mod _ _).mp c5
        exact wp_iret rfl ⟨_, rfl, by unfold fo_; rw [ff_at a1 hi (by rw [eeb]; exact c6)], rfl⟩
  · intro x h1 I
    show wq _ tb_Ref_faultOfOrder _ 4 [some (.ref 65), some (.int (nI base)), some (.int (nI (um_ t.2.1 base (t.2.2.1)))), some (.int (nI (t.2.2.1))), x] [] h1 _
    obtain ⟨rfl, a1⟩ := I
    refine wp_iload3 rfl ?_
    refine wp_aload0 rfl ?_
    refine wp_getIE rfl (Ref_kd B.S) (show _ = nI (t.2.2.1) from B.c) ?_
    refine wp_icmp_geN (t.2.2.1) (t.2.2.1) (by omega) (by omega) rfl (fun _ => ?_) (fun z => absurd z (by omega))
    refine wp_aload0 rfl ?_
    refine wp_getIE rfl (Ref_kd B.S) (show _ = nI (t.2.2.1) from B.c) ?_
    refine wp_aload0 rfl ?_
    refine wp_getIE rfl (Ref_kd B.S) (show _ = nI (sg_n t.1) from B.n) ?_
    refine wp_icmp_geN (t.2.2.1) (sg_n t.1) (by omega) (by omega) rfl (fun c1 => ?_) (fun c1 => ?_)
    · skip
      refine wp_bipush rfl ?_
      exact wp_iret rfl ⟨_, rfl, by unfold fo_; rw [ff_no a1]; dsimp only; rw [if_neg (by omega)], rfl⟩
    · skip
      refine wp_aload0 rfl ?_
      refine wp_getIE rfl (Ref_kd B.S) (show _ = nI (t.2.2.1) from B.c) ?_
      refine wp_goto rfl ?_
      exact wp_iret rfl ⟨_, rfl, by unfold fo_; rw [ff_no a1]; dsimp only; rw [if_pos c1], rfl⟩
theorem Ref_faultOfRow_ok {h0 h : Hp_} {t : Rt_} (B : RB_ h0 h t) : cI 3 mn_Ref_faultOfRow [.ref 65] h (fun x h' => x = fw_ t.2.1 t.2.2.1 65 6 ∧ h' = h) := by
  have c30 := B.c30
  refine cq_in (q := mi_Ref_faultOfRow) (L := [some (.ref 65), none]) rfl (Nat.le_of_ble_eq_true rfl) rfl ?_
  show wq _ tb_Ref_faultOfRow none 0 _ _ _ _
  refine wp_iconst rfl ?_
  refine wp_istore1 rfl rfl ?_
  refine wq_loop (X := Unit) (fun i x => [some (.ref 65), some (.int (nI i))]) (fun i x h1 => h1 = h ∧ ∀ j, j < i → rb_ t.2.1 65 6 j = false) (t.2.2.1) (0) (()) ?_ ?_ ?_ ?_
  · omega
  · exact ⟨rfl, fun j hj => by omega⟩
  · intro i x h1 hi I k
    show wq _ tb_Ref_faultOfRow _ 2 [some (.ref 65), some (.int (nI i))] [] h1 _
    obtain ⟨rfl, a1⟩ := I
    have hg := B.g127 i
    have hi20 : i ≤ 20 := by
      rcases Nat.lt_or_ge 20 i with q | q
      · have := a1 20 q
        unfold rb_ at this
        rw [decide_eq_true (Nat.le_refl 20)] at this
        cases this
      · exact q
    refine wp_iload1 rfl ?_
    refine wp_aload0 rfl ?_
    refine wp_getIE rfl (Ref_kd B.S) (show _ = nI (t.2.2.1) from B.c) ?_
    refine wp_icmp_geN i (t.2.2.1) (by omega) (by omega) rfl (fun z => absurd z (by omega)) (fun _ => ?_)
    refine wp_iload1 rfl ?_
    refine wp_bipush rfl ?_
    refine wp_icmp_eqN i 20 (by omega) (by omega) rfl (fun c1 => ?_) (fun c1 => ?_)
    · skip
      refine wp_iload1 rfl ?_
      exact wp_iret rfl ⟨_, rfl, by unfold fw_; rw [ff_at a1 hi (by unfold rb_; rw [decide_eq_true (show 20 ≤ i by omega)]; rfl)], rfl⟩
    · skip
      refine wp_aload0 rfl ?_
      refine wp_getR rfl (Ref_kd B.S) (Ref_R17 B.S) (by first | decide | omega) ?_
      refine wp_iload1 rfl ?_
      refine wp_ialdE i rfl (Ref_k17 B.S) (by first | decide | omega) (Nat.lt_of_lt_of_eq (show i < _ by omega) (Eq.symm (Ref_n17 B.S))) (by omega) (show _ = nI (t.2.1 i) from B.pad hi) rfl ?_
      refine wp_bipush rfl ?_
      refine wp_isub rfl ?_
      refine wp_callS1I rfl (Nat.le_of_ble_eq_true rfl) (Ref_isFigure_ok) (Nat.le_of_ble_eq_true rfl) ?_
      refine pure_ ?_
      have ehs := rg_sub (a := t.2.1 i) (b := 65) (k := 5) (by omega) (by omega)
      have eeb : rb_ t.2.1 65 6 i = !rg_ 0 5 (nI (t.2.1 i) - nI 65) := by
        rw [show rg_ 0 5 (nI (t.2.1 i) - nI 65) = _ from ehs]
        unfold rb_
        rw [decide_eq_false (show ¬ 20 ≤ i by omega), Bool.false_or]
        by_cases q1 : 65 ≤ t.2.1 i
        · rw [decide_eq_false (show ¬ t.2.1 i < 65 by omega), decide_eq_true q1, Bool.false_or, Bool.true_and]
          by_cases q2 : t.2.1 i ≤ 65 + 5
          · rw [decide_eq_true q2, decide_eq_false (by omega)]; rfl
          · rw [decide_eq_false q2, decide_eq_true (by omega)]; rfl
        · rw [decide_eq_true (show t.2.1 i < 65 by omega), decide_eq_false q1]; rfl
      refine wp_if_neB rfl (fun c2 => ?_) (fun c2 => ?_)
      · skip
        refine wp_iinc1N rfl rfl ?_
        refine wp_goto rfl ?_
        exact k () _ ⟨rfl, fun j hj => by
          rcases Nat.lt_or_ge j i with q | q
          · exact a1 j q
          · obtain rfl : j = i := by omega
            rw [eeb, c2]; rfl⟩
      · skip
        refine wp_iload1 rfl ?_
        exact wp_iret rfl ⟨_, rfl, by unfold fw_; rw [ff_at a1 hi (by rw [eeb, c2]; rfl)], rfl⟩
  · intro x h1 I
    show wq _ tb_Ref_faultOfRow _ 2 [some (.ref 65), some (.int (nI (t.2.2.1)))] [] h1 _
    obtain ⟨rfl, a1⟩ := I
    refine wp_iload1 rfl ?_
    refine wp_aload0 rfl ?_
    refine wp_getIE rfl (Ref_kd B.S) (show _ = nI (t.2.2.1) from B.c) ?_
    refine wp_icmp_geN (t.2.2.1) (t.2.2.1) (by omega) (by omega) rfl (fun _ => ?_) (fun z => absurd z (by omega))
    refine wp_bipush rfl ?_
    exact wp_iret rfl ⟨_, rfl, by unfold fw_; rw [ff_no a1], rfl⟩
def an_fault (t : Rt_) (x : Int32) : Int32 := if x = 0 then fo_ t.2.1 t.2.2.1 48 (sg_n t.1) else if x = nI 1 then fw_ t.2.1 t.2.2.1 65 6 else if x = nI 2 then fo_ t.2.1 t.2.2.1 97 (sg_n t.1) else -2
theorem Ref_fault_ok {h0 h : Hp_} {t : Rt_} {x : Int32} (B : RB_ h0 h t) : cI 4 mn_Ref_fault [.ref 65, .int x] h (fun y h' => y = an_fault t x ∧ h' = h) := by
  refine cq_in (q := mi_Ref_fault) (L := [some (.ref 65), some (.int x)]) rfl (Nat.le_of_ble_eq_true rfl) rfl ?_
  show wq _ tb_Ref_fault none 0 _ _ _ _
  refine wp_iload1 rfl ?_
  refine wp_if_ne rfl (fun c1 => ?_) (fun c1 => ?_)
  · skip
    refine wp_iload1 rfl ?_
    refine wp_iconst rfl ?_
    refine wp_icmp_ne rfl (fun c2 => ?_) (fun c2 => ?_)
    · skip
      refine wp_iload1 rfl ?_
      refine wp_iconst rfl ?_
      refine wp_icmp_ne rfl (fun c3 => ?_) (fun c3 => ?_)
      · skip
        refine wp_bipush rfl ?_
        exact wp_iret rfl ⟨_, rfl, by unfold an_fault; rw [if_neg c1, if_neg c2, if_neg c3], rfl⟩
      · skip
        refine wp_aload0 rfl ?_
        refine wp_bipush rfl ?_
        refine wp_callV1I rfl (Nat.le_of_ble_eq_true rfl) (Ref_kd B.S) (Ref_faultOfOrder_ok B (by decide)) (Nat.le_of_ble_eq_true rfl) ?_
        refine pure_ ?_
        refine wp_goto rfl ?_
        exact wp_iret rfl ⟨_, rfl, by unfold an_fault; rw [if_neg c1, if_neg c2, if_pos (Classical.not_not.mp c3)], rfl⟩
    · skip
      refine wp_aload0 rfl ?_
      refine wp_callV0I rfl (Nat.le_of_ble_eq_true rfl) (Ref_kd B.S) (Ref_faultOfRow_ok B) (Nat.le_of_ble_eq_true rfl) ?_
      refine pure_ ?_
      refine wp_goto rfl ?_
      exact wp_iret rfl ⟨_, rfl, by unfold an_fault; rw [if_neg c1, if_pos (Classical.not_not.mp c2)], rfl⟩
  · skip
    refine wp_aload0 rfl ?_
    refine wp_bipush rfl ?_
    refine wp_callV1I rfl (Nat.le_of_ble_eq_true rfl) (Ref_kd B.S) (Ref_faultOfOrder_ok B (by decide)) (Nat.le_of_ble_eq_true rfl) ?_
    refine pure_ ?_
    refine wp_goto rfl ?_
    exact wp_iret rfl ⟨_, rfl, by unfold an_fault; rw [if_pos (Classical.not_not.mp c1)], rfl⟩
