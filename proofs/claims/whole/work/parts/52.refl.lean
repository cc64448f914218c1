-- ===== the reference: rows, came =====
/-- the first k sights fit -/
def fk_ (s : Sg_) (b : Nat) (u : Nat → Nat) (k : Nat) : Bool := ((sg_si s).take k).all (fun q => decide (q.1 ≠ b) || decide (u q.2.1 = q.2.2))
theorem take_snoc {α : Type} {l : List α} {k : Nat} {q : α} (h : l[k]? = some q) : l.take (k + 1) = l.take k ++ [q] := by
  rw [List.take_add_one, h]
  rfl
theorem Ref_fits_ok {h0 h : Hp_} {t : Rt_} {u : Nat → Nat} {b : Nat} (B : RB_ h0 h t) (hu : IsP (sg_n t.1) u) (hb : b ≤ 12) : cI 1 mn_Ref_fits [.ref 65, .int (nI (pq_ (ar_ (sg_n t.1) u) (sg_n t.1))), .int (nI b)] h (fun x h' => x = bo_ (ft_ t.1 b u) ∧ h' = h) := by
  have n8 := B.n8
  have W := ar_Lz n8 hu
  have W8 := Lz_lt n8 W
  have u8 := hu.mono n8
  have hpq := pq_8n n8 (fun i _ => W8 i)
  have hl6 := si_len B.w
  refine cq_in (q := mi_Ref_fits) (L := [some (.ref 65), some (.int (nI (pq_ (ar_ (sg_n t.1) u) (sg_n t.1)))), some (.int (nI b)), none, none]) rfl (Nat.le_of_ble_eq_true rfl) rfl ?_
  show wq _ tb_Ref_fits none 0 _ _ _ _
  refine wp_iconst rfl ?_
  refine wp_istore3 rfl rfl ?_
  refine wp_iconst rfl ?_
  refine wp_istore4 rfl rfl ?_
  refine wq_loc (L' := [some (.ref 65), some (.int (nI (pq_ (ar_ (sg_n t.1) u) (sg_n t.1)))), some (.int (nI b)), some (.int (bo_ (fk_ t.1 b u 0))), some (.int (nI 0))]) (by rw [show fk_ t.1 b u 0 = true from rfl]; rfl) ?_
  refine wq_loop (X := Unit) (fun i x => [some (.ref 65), some (.int (nI (pq_ (ar_ (sg_n t.1) u) (sg_n t.1)))), some (.int (nI b)), some (.int (bo_ (fk_ t.1 b u i))), some (.int (nI i))]) (fun i x h1 => h1 = h) ((sg_si t.1).length) (0) (()) ?_ ?_ ?_ ?_
  · omega
  · rfl
  · intro i x h1 hi I k
    show wq _ tb_Ref_fits _ 5 [some (.ref 65), some (.int (nI (pq_ (ar_ (sg_n t.1) u) (sg_n t.1)))), some (.int (nI b)), some (.int (bo_ (fk_ t.1 b u i))), some (.int (nI i))] [] h1 _
    obtain rfl := I
    obtain ⟨q, hq⟩ : ∃ q, (sg_si t.1)[i]? = some q := ⟨_, List.getElem?_eq_getElem hi⟩
    obtain ⟨s1, s2, s3⟩ := B.si hq
    obtain ⟨m1, m2, m3⟩ := B.w.2.2.2.2.2.2.2.2.2.2.1 q (List.mem_of_getElem? hq)
    have nxt : fk_ t.1 b u (i + 1) = (fk_ t.1 b u i && (decide (q.1 ≠ b) || decide (u q.2.1 = q.2.2))) := by
      unfold fk_
      rw [take_snoc hq, List.all_append, List.all_cons, List.all_nil, Bool.and_true]
    have hdig : pq_ (ar_ (sg_n t.1) u) (sg_n t.1) / 2 ^ (3 * q.2.2) % 8 = in_ u q.2.2 := by
      rw [← p8, pq_get _ _ (fun i _ => W8 i) m3]
      unfold ar_
      rw [if_pos m3]
    have hin : in_ u q.2.2 = q.2.1 ↔ u q.2.1 = q.2.2 := ⟨fun z => by rw [← z, in_right u8], fun z => by rw [← z, in_left u8]⟩
    have hin8 : in_ u q.2.2 < 8 := (in_P u8).1 _ (by omega)
    refine wp_iload4 rfl ?_
    refine wp_aload0 rfl ?_
    refine wp_getIE rfl (Ref_kd B.S) (show _ = nI ((sg_si t.1).length) from B.sn) ?_
    refine wp_icmp_geN i ((sg_si t.1).length) (by omega) (by omega) rfl (fun z => absurd z (by omega)) (fun _ => ?_)
    refine wp_iload3 rfl ?_
    refine wp_if_eqB rfl (fun c1 => ?_) (fun c1 => ?_)
    · skip
      refine wp_iconst rfl ?_
      refine wp_istore3 rfl rfl ?_
      refine wp_iinc4N rfl rfl ?_
      refine wp_goto rfl ?_
      have := k () _ rfl
      rw [nxt, c1, Bool.false_and] at this
      exact this
    · skip
      refine wp_aload0 rfl ?_
      refine wp_getR rfl (Ref_kd B.S) (Ref_R9 B.S) (by first | decide | omega) ?_
      refine wp_iload4 rfl ?_
      refine wp_ialdE i rfl (Ref_k9 B.S) (by first | decide | omega) (Nat.lt_of_lt_of_eq (show i < _ by omega) (Eq.symm (Ref_n9 B.S))) (by omega) (show _ = nI (q.1) from s1) rfl ?_
      refine wp_iload2 rfl ?_
      refine wp_icmp_neN (q.1) b (by omega) (by omega) rfl (fun c2 => ?_) (fun c2 => ?_)
      · skip
        refine wp_iconst rfl ?_
        refine wp_goto rfl ?_
        refine wp_istore3 rfl rfl ?_
        refine wp_iinc4N rfl rfl ?_
        refine wp_goto rfl ?_
        have := k () _ rfl
        rw [nxt, c1, decide_eq_true c2, Bool.true_or, Bool.and_true] at this
        exact this
      · skip
        refine wp_iload1 rfl ?_
        refine wp_iconst rfl ?_
        refine wp_aload0 rfl ?_
        refine wp_getR rfl (Ref_kd B.S) (Ref_R11 B.S) (by first | decide | omega) ?_
        refine wp_iload4 rfl ?_
        refine wp_ialdE i rfl (Ref_k11 B.S) (by first | decide | omega) (Nat.lt_of_lt_of_eq (show i < _ by omega) (Eq.symm (Ref_n11 B.S))) (by omega) (show _ = nI (q.2.2) from s3) rfl ?_
        refine wp_imulE (nI (3 * (q.2.2))) (pk_mul _ _) rfl ?_
        refine wp_ishrE (nI ((pq_ (ar_ (sg_n t.1) u) (sg_n t.1)) / 2 ^ (3 * (q.2.2)))) (nn_sshr _ _ (by omega) (by omega)) rfl ?_
        refine wp_bipush rfl ?_
        refine wp_iandE (nI (((pq_ (ar_ (sg_n t.1) u) (sg_n t.1)) / 2 ^ (3 * (q.2.2))) % 8)) (nn_7 _) rfl ?_
        rw [hdig]
        refine wp_aload0 rfl ?_
        refine wp_getR rfl (Ref_kd B.S) (Ref_R10 B.S) (by first | decide | omega) ?_
        refine wp_iload4 rfl ?_
        refine wp_ialdE i rfl (Ref_k10 B.S) (by first | decide | omega) (Nat.lt_of_lt_of_eq (show i < _ by omega) (Eq.symm (Ref_n10 B.S))) (by omega) (show _ = nI (q.2.1) from s2) rfl ?_
        refine wp_icmp_neN (in_ u q.2.2) (q.2.1) (by omega) (by omega) rfl (fun c3 => ?_) (fun c3 => ?_)
        · skip
          refine wp_iconst rfl ?_
          refine wp_istore3 rfl rfl ?_
          refine wp_iinc4N rfl rfl ?_
          refine wp_goto rfl ?_
          have := k () _ rfl
          rw [nxt, c1, decide_eq_false (fun z => z c2), decide_eq_false (fun z => c3 (hin.mpr z))] at this
          exact this
        · skip
          refine wp_iconst rfl ?_
          refine wp_goto rfl ?_
          refine wp_istore3 rfl rfl ?_
          refine wp_iinc4N rfl rfl ?_
          refine wp_goto rfl ?_
          have := k () _ rfl
          rw [nxt, c1, decide_eq_true (hin.mp c3), Bool.or_true] at this
          exact this
  · intro x h1 I
    show wq _ tb_Ref_fits _ 5 [some (.ref 65), some (.int (nI (pq_ (ar_ (sg_n t.1) u) (sg_n t.1)))), some (.int (nI b)), some (.int (bo_ (fk_ t.1 b u ((sg_si t.1).length)))), some (.int (nI ((sg_si t.1).length)))] [] h1 _
    obtain rfl := I
    refine wp_iload4 rfl ?_
    refine wp_aload0 rfl ?_
    refine wp_getIE rfl (Ref_kd B.S) (show _ = nI ((sg_si t.1).length) from B.sn) ?_
    refine wp_icmp_geN ((sg_si t.1).length) ((sg_si t.1).length) (by omega) (by omega) rfl (fun _ => ?_) (fun z => absurd z (by omega))
    refine wp_iload3 rfl ?_
    exact wp_zret rfl (by first | exact bo_01 _ | exact Or.inl rfl | exact Or.inr rfl) ⟨_, rfl, by unfold fk_ ft_; rw [List.take_length], rfl⟩
theorem Ref_onFrom_ok {h0 h : Hp_} {t : Rt_} {l r : Nat} {v : Int64} (B : RB_ h0 h t) (hl : l ≤ 12) (hr : r < 40320) (hv : hp_J h 88 (40320 * l + r) = v) : cJ 1 mn_Ref_onFrom [.ref 65, .int (nI l), .int (nI r)] h (fun x h' => x = v ∧ h' = h) := by
  refine cq_in (q := mi_Ref_onFrom) (L := [some (.ref 65), some (.int (nI l)), some (.int (nI r))]) rfl (Nat.le_of_ble_eq_true rfl) rfl ?_
  show wq _ tb_Ref_onFrom none 0 _ _ _ _
  refine wp_aload0 rfl ?_
  refine wp_getR rfl (Ref_kd B.S) (Ref_R32 B.S) (by first | decide | omega) ?_
  refine wp_ldc rfl ?_
  refine wp_iload1 rfl ?_
  refine wp_imulE (nI (40320 * l)) (pk_mul _ _) rfl ?_
  refine wp_iload2 rfl ?_
  refine wp_iaddE (nI ((40320 * l) + r)) (nI_add _ _) rfl ?_
  refine wp_laldE ((40320 * l) + r) rfl (Ref_k32 B.S) (Nat.lt_of_lt_of_eq (show ((40320 * l) + r) < _ by omega) (Eq.symm (Ref_n32 B.S))) (by omega) (hv) rfl ?_
  exact wp_lret rfl ⟨_, rfl, rfl, rfl⟩
/-- rows on, from layer j up -/
def RO_ (h : Hp_) (s : Sg_) (m j : Nat) : Prop := ∀ l, j ≤ l → l ≤ m → ∀ u, IsP (sg_n s) u → hp_J h 88 (40320 * l + ru_ s u) = lN (nw_ s m (m - l) u)
/-- the next number by a figure, or none -/
def nv_ (s : Sg_) (u : Nat → Nat) (f : Nat) : Int32 := if may_ s f then nI (ru_ s (fun g => mv_ s f (u g))) else -6
theorem FN_nv {h : Hp_} {s : Sg_} {u : Nat → Nat} {f : Nat} (w : sg_wf s) (F : FN_ h s) (hu : IsP (sg_n s) u) (hf : f < 6) : hp_I h 81 (40320 * f + ru_ s u) = nv_ s u f := by
  have h1 := (F.2 _ (ar_Lz w.1.2 hu)).2 f hf
  rw [tr_ar w.1.2 (mv_P w f) hu] at h1
  exact h1
set_option maxRecDepth 4000 in
theorem Ref_findRows_ok {h0 h : Hp_} {t : Rt_} {m : Nat} (B : RB_ h0 h t) (hm : m ≤ 12) : cV 4 mn_Ref_findRows [.ref 65, .int (nI m)] h (fun h' => RB_ h0 h' t ∧ FN_ h' t.1 ∧ RO_ h' t.1 m 0) := by
  have n8 := B.n8
  have ws := B.w
  have hce := ce_le n8 (sg_n t.1)
  refine cq_in (q := mi_Ref_findRows) (L := [some (.ref 65), some (.int (nI m)), none, none, none, none, none, none]) rfl (Nat.le_of_ble_eq_true rfl) rfl ?_
  show wq _ tb_Ref_findRows none 0 _ _ _ _
  refine wp_aload0 rfl ?_
  refine wp_callV0V rfl (Nat.le_of_ble_eq_true rfl) (Ref_kd B.S) (Ref_findNext_ok B) (Nat.le_of_ble_eq_true rfl) ?_
  rintro h1 ⟨B1, F1, -⟩
  refine wp_iload1 rfl ?_
  refine wp_istore2 rfl rfl ?_
  refine wq_loc (L' := [some (.ref 65), some (.int (nI m)), some (.int (nI (m + 1 - 0) - nI 1)), none, none, none, none, none]) (by rw [Nat.sub_zero, nI_m1]) ?_
  refine wq_loop (X := Option Value × Option Value × Option Value × Option Value × Option Value) (fun i x => [some (.ref 65), some (.int (nI m)), some (.int (nI (m + 1 - i) - nI 1)), x.1, x.2.1, x.2.2.1, x.2.2.2.1, x.2.2.2.2]) (fun i x h2 => RB_ h0 h2 t ∧ FN_ h2 t.1 ∧ RO_ h2 t.1 m (m + 1 - i)) (m + 1) (0) ((none, none, none, none, none)) ?_ ?_ ?_ ?_
  · omega
  · exact ⟨B1, F1, fun l h1 h2 => by omega⟩
  · intro i x h2 hi I k
    show wq _ tb_Ref_findRows _ 6 [some (.ref 65), some (.int (nI m)), some (.int (nI (m + 1 - i) - nI 1)), x.1, x.2.1, x.2.2.1, x.2.2.2.1, x.2.2.2.2] [] h2 _
    obtain ⟨B2, F2, R2⟩ := I
    obtain ⟨p, hp⟩ : ∃ p, m + 1 - i = p + 1 := ⟨m - i, by omega⟩
    rw [hp] at R2 ⊢
    rw [nI_m1]
    have hpm : p ≤ m := by omega
    refine wp_iload2 rfl ?_
    refine wp_if_ltN p 0 (by omega) (by decide) rfl ?_
    refine wp_iconst rfl ?_
    refine wp_istore3 rfl rfl ?_
    refine wq_loop (X := Option Value × Option Value × Option Value × Option Value) (fun s x => [some (.ref 65), some (.int (nI m)), some (.int (nI p)), some (.int (nI s)), x.1, x.2.1, x.2.2.1, x.2.2.2]) (fun s x h3 => fz_ (fun c => c = 88) h2 h3 ∧ (∀ u, IsP (sg_n t.1) u → ru_ t.1 u < s → hp_J h3 88 (40320 * p + ru_ t.1 u) = lN (nw_ t.1 m (m - p) u)) ∧ ∀ j, 40320 * (p + 1) ≤ j → hp_J h3 88 j = hp_J h2 88 j) (ce_ (sg_n t.1) (sg_n t.1)) (0) ((x.2.1, x.2.2.1, x.2.2.2.1, x.2.2.2.2)) ?_ ?_ ?_ ?_
    · omega
    · exact ⟨fz_refl _ _, fun u hu hs => absurd hs (Nat.not_lt_zero _), fun j hj => rfl⟩
    · intro s x h3 hi J k
      show wq _ tb_Ref_findRows _ 12 [some (.ref 65), some (.int (nI m)), some (.int (nI p)), some (.int (nI s)), x.1, x.2.1, x.2.2.1, x.2.2.2] [] h3 _
      obtain ⟨z3, a3, b3⟩ := J
      have B3 : RB_ h0 h3 t := RB_fz B2 (fz_mono (fun c hc => by omega) z3)
      have F3 : FN_ h3 t.1 := FN_cong (by rw [fz_I z3 (by decide)]) (fz_I z3 (by decide)) (fz_I z3 (by decide)) F2
      obtain ⟨u, uP, us⟩ := ru_surj ws hi
      have hs4 : s < 40320 := by omega
      have WL := ar_Lz n8 uP
      have hcode : hp_I h3 80 s = nI (pq_ (ar_ (sg_n t.1) u) (sg_n t.1)) := by rw [← us]; exact (F3.2 _ WL).1
      have fin : ∀ v : Int64, (v = if ft_ t.1 p u then lN (nw_ t.1 m (m - p) u) else lN 0) → v = lN (nw_ t.1 m (m - p) u) := by
        intro v hv
        rw [hv]
        cases hft : ft_ t.1 p u with
        | true => rfl
        | false =>
          rw [if_neg Bool.false_ne_true]
          refine congrArg lN ?_
          cases e : m - p with
          | zero =>
            obtain rfl : p = m := by omega
            unfold nw_
            rw [hft]
            rfl
          | succ k =>
            unfold nw_
            rw [show m - (k + 1) = p by omega, hft]
            rfl
      have nxt : ∀ v : Int64, v = lN (nw_ t.1 m (m - p) u) → fz_ (fun c => c = 88) h2 (hp_rJ h3 88 (va_up (hp_J h3 88) (40320 * p + s) v)) ∧ (∀ u, IsP (sg_n t.1) u → ru_ t.1 u < s + 1 → hp_J (hp_rJ h3 88 (va_up (hp_J h3 88) (40320 * p + s) v)) 88 (40320 * p + ru_ t.1 u) = lN (nw_ t.1 m (m - p) u)) ∧ ∀ j, 40320 * (p + 1) ≤ j → hp_J (hp_rJ h3 88 (va_up (hp_J h3 88) (40320 * p + s) v)) 88 j = hp_J h2 88 j := by
        intro v hv
        refine ⟨fz_rJ z3 rfl _, fun u2 h2 h3 => ?_, fun j hj => ?_⟩
        · rw [hJ_rJ, if_pos rfl, vu_at]
          by_cases y : ru_ t.1 u2 = s
          · rw [if_pos (by omega), hv, ru_inj ws h2 uP (by rw [y, us])]
          · rw [if_neg (by omega)]; exact a3 u2 h2 (by omega)
        · rw [hJ_rJ, if_pos rfl, vu_at, if_neg (by omega)]
          exact b3 j hj
      refine wp_iload3 rfl ?_
      refine wp_aload0 rfl ?_
      refine wp_getIE rfl (Ref_kd B3.S) (show _ = nI (ce_ (sg_n t.1) (sg_n t.1)) from F3.1) ?_
      refine wp_icmp_geN s (ce_ (sg_n t.1) (sg_n t.1)) (by omega) (by omega) rfl (fun z => absurd z (by omega)) (fun _ => ?_)
      refine wp_iload2 rfl ?_
      refine wp_iload1 rfl ?_
      refine wp_icmp_neN p m (by omega) (by omega) rfl (fun c2 => ?_) (fun c2 => ?_)
      · skip
        refine wp_lconst rfl ?_
        refine wp_lstore4 rfl rfl ?_
        refine wp_iconst rfl ?_
        refine wp_istore6 rfl rfl ?_
        refine wq_loop (X := Option Value) (fun f x => [some (.ref 65), some (.int (nI m)), some (.int (nI p)), some (.int (nI s)), some (.long (lN (sm_ (fun z => if may_ t.1 z then nw_ t.1 m (m - (p + 1)) (fun g => mv_ t.1 z (u g)) else 0) f))), none, some (.int (nI f)), x]) (fun f x h4 => h4 = h3) (6) (0) (x.2.2.2) ?_ ?_ ?_ ?_
        · omega
        · rfl
        · intro f x h4 hi K k
          show wq _ tb_Ref_findRows _ 35 [some (.ref 65), some (.int (nI m)), some (.int (nI p)), some (.int (nI s)), some (.long (lN (sm_ (fun z => if may_ t.1 z then nw_ t.1 m (m - (p + 1)) (fun g => mv_ t.1 z (u g)) else 0) f))), none, some (.int (nI f)), x] [] h4 _
          obtain rfl := K
          have hf6 := hi
          have mP := uP.then (mv_P ws f)
          have hnv := FN_nv ws F3 uP hf6
          rw [us] at hnv
          refine wp_iload6 rfl ?_
          refine wp_bipush rfl ?_
          refine wp_icmp_geN f 6 (by omega) (by omega) rfl (fun z => absurd z (by omega)) (fun _ => ?_)
          refine wp_iload2 rfl ?_
          refine wp_iload1 rfl ?_
          refine wp_icmp_geN p m (by omega) (by omega) rfl (fun z => absurd z (by omega)) (fun _ => ?_)
          refine wp_aload0 rfl ?_
          refine wp_getR rfl (Ref_kd B3.S) (Ref_R23 B3.S) (by first | decide | omega) ?_
          refine wp_ldc rfl ?_
          refine wp_iload6 rfl ?_
          refine wp_imulE (nI (40320 * f)) (pk_mul _ _) rfl ?_
          refine wp_iload3 rfl ?_
          refine wp_iaddE (nI ((40320 * f) + s)) (nI_add _ _) rfl ?_
          cases hmf : may_ t.1 f with
          | false =>
            unfold nv_ at hnv
            rw [hmf, if_neg Bool.false_ne_true] at hnv
            refine wp_ialdE ((40320 * f) + s) rfl (Ref_k23 B3.S) (by first | decide | omega) (Nat.lt_of_lt_of_eq (show ((40320 * f) + s) < _ by omega) (Eq.symm (Ref_n23 B3.S))) (by omega) (hnv) rfl ?_
            refine wp_istore7 rfl rfl ?_
            refine wp_lload4 rfl ?_
            refine wp_iload7 rfl ?_
            refine wp_if_ge rfl (fun z => absurd z (by decide)) (fun _ => ?_)
            refine wp_lconst rfl ?_
            refine wp_goto rfl ?_
            refine wp_laddE (lN ((sm_ (fun z => if may_ t.1 z then nw_ t.1 m (m - (p + 1)) (fun g => mv_ t.1 z (u g)) else 0) f) + 0)) (lN_add _ _) rfl ?_
            refine wp_lstore4 rfl rfl ?_
            refine wp_iinc6N rfl rfl ?_
            refine wp_goto rfl ?_
            have := k (some (.int (-6))) _ rfl
            rw [show sm_ (fun z => if may_ t.1 z then nw_ t.1 m (m - (p + 1)) (fun g => mv_ t.1 z (u g)) else 0) (f + 1) = sm_ (fun z => if may_ t.1 z then nw_ t.1 m (m - (p + 1)) (fun g => mv_ t.1 z (u g)) else 0) f + 0 by show _ + (if may_ t.1 f = true then _ else 0) = _; rw [hmf]; rfl] at this
            exact this
          | true =>
            have hrl := ru_lt ws mP
            unfold nv_ at hnv
            rw [hmf, if_pos rfl] at hnv
            refine wp_ialdE ((40320 * f) + s) rfl (Ref_k23 B3.S) (by first | decide | omega) (Nat.lt_of_lt_of_eq (show ((40320 * f) + s) < _ by omega) (Eq.symm (Ref_n23 B3.S))) (by omega) (show _ = nI (ru_ t.1 (fun g => mv_ t.1 f (u g))) from hnv) rfl ?_
            refine wp_istore7 rfl rfl ?_
            refine wp_lload4 rfl ?_
            refine wp_iload7 rfl ?_
            refine wp_if_geN (ru_ t.1 (fun g => mv_ t.1 f (u g))) 0 (by omega) (by decide) rfl ?_
            refine wp_aload0 rfl ?_
            refine wp_iload2 rfl ?_
            refine wp_iconst rfl ?_
            refine wp_iaddE (nI (p + 1)) (nI_add _ _) rfl ?_
            refine wp_iload7 rfl ?_
            refine wp_callV2J rfl (Nat.le_of_ble_eq_true rfl) (Ref_kd B3.S) (Ref_onFrom_ok B3 (show p + 1 ≤ 12 by omega) hrl (show hp_J h4 88 (40320 * (p + 1) + ru_ t.1 (fun g => mv_ t.1 f (u g))) = lN (nw_ t.1 m (m - (p + 1)) (fun g => mv_ t.1 f (u g))) from by rw [b3 _ (by omega)]; exact R2 (p + 1) (Nat.le_refl _) (by omega) _ mP)) (Nat.le_of_ble_eq_true rfl) ?_
            refine pure_ ?_
            refine wp_laddE (lN ((sm_ (fun z => if may_ t.1 z then nw_ t.1 m (m - (p + 1)) (fun g => mv_ t.1 z (u g)) else 0) f) + (nw_ t.1 m (m - (p + 1)) (fun g => mv_ t.1 f (u g))))) (lN_add _ _) rfl ?_
            refine wp_lstore4 rfl rfl ?_
            refine wp_iinc6N rfl rfl ?_
            refine wp_goto rfl ?_
            have := k (some (.int (nI (ru_ t.1 (fun g => mv_ t.1 f (u g)))))) _ rfl
            rw [show sm_ (fun z => if may_ t.1 z then nw_ t.1 m (m - (p + 1)) (fun g => mv_ t.1 z (u g)) else 0) (f + 1) = sm_ (fun z => if may_ t.1 z then nw_ t.1 m (m - (p + 1)) (fun g => mv_ t.1 z (u g)) else 0) f + nw_ t.1 m (m - (p + 1)) (fun g => mv_ t.1 f (u g)) by show _ + (if may_ t.1 f = true then _ else 0) = _; rw [hmf]; rfl] at this
            exact this
        · intro x h4 K
          show wq _ tb_Ref_findRows _ 35 [some (.ref 65), some (.int (nI m)), some (.int (nI p)), some (.int (nI s)), some (.long (lN (sm_ (fun z => if may_ t.1 z then nw_ t.1 m (m - (p + 1)) (fun g => mv_ t.1 z (u g)) else 0) 6))), none, some (.int (nI 6)), x] [] h4 _
          obtain rfl := K
          have hsum : (if ft_ t.1 p u then lN (sm_ (fun z => if may_ t.1 z then nw_ t.1 m (m - (p + 1)) (fun g => mv_ t.1 z (u g)) else 0) 6) else lN 0) = if ft_ t.1 p u then lN (nw_ t.1 m (m - p) u) else lN 0 := by
            cases hft : ft_ t.1 p u with
            | false => rfl
            | true =>
              rw [if_pos rfl, if_pos rfl, show m - p = (m - (p + 1)) + 1 by omega]
              show _ = lN (if ft_ t.1 (m - (m - (p + 1) + 1)) u then _ else 0)
              rw [show m - (m - (p + 1) + 1) = p by omega, hft]
              rfl
          refine wp_iload6 rfl ?_
          refine wp_bipush rfl ?_
          refine wp_icmp_geN 6 6 (by omega) (by omega) rfl (fun _ => ?_) (fun z => absurd z (by omega))
          refine wp_aload0 rfl ?_
          refine wp_getR rfl (Ref_kd B3.S) (Ref_R32 B3.S) (by first | decide | omega) ?_
          refine wp_ldc rfl ?_
          refine wp_iload2 rfl ?_
          refine wp_imulE (nI (40320 * p)) (pk_mul _ _) rfl ?_
          refine wp_iload3 rfl ?_
          refine wp_iaddE (nI ((40320 * p) + s)) (nI_add _ _) rfl ?_
          refine wp_aload0 rfl ?_
          refine wp_aload0 rfl ?_
          refine wp_getR rfl (Ref_kd B3.S) (Ref_R22 B3.S) (by first | decide | omega) ?_
          refine wp_iload3 rfl ?_
          refine wp_ialdE s rfl (Ref_k22 B3.S) (by first | decide | omega) (Nat.lt_of_lt_of_eq (show s < _ by omega) (Eq.symm (Ref_n22 B3.S))) (by omega) (show _ = nI (pq_ (ar_ (sg_n t.1) u) (sg_n t.1)) from hcode) rfl ?_
          refine wp_iload2 rfl ?_
          refine wp_callV2I rfl (Nat.le_of_ble_eq_true rfl) (Ref_kd B3.S) (Ref_fits_ok B3 uP (show p ≤ 12 by omega)) (Nat.le_of_ble_eq_true rfl) ?_
          refine pure_ ?_
          refine wp_if_eqB rfl (fun c5 => ?_) (fun c5 => ?_)
          · skip
            refine wp_lconst rfl ?_
            refine wp_last ((40320 * p) + s) rfl (Ref_k32 B3.S) (Nat.lt_of_lt_of_eq (show ((40320 * p) + s) < _ by omega) (Eq.symm (Ref_n32 B3.S))) (by omega) rfl ?_
            refine wp_iinc3N rfl rfl ?_
            refine wp_goto rfl ?_
            exact k (_, none, _, _) _ (nxt _ (fin _ (by rw [c5]; rfl)))
          · skip
            refine wp_lload4 rfl ?_
            refine wp_goto rfl ?_
            refine wp_last ((40320 * p) + s) rfl (Ref_k32 B3.S) (Nat.lt_of_lt_of_eq (show ((40320 * p) + s) < _ by omega) (Eq.symm (Ref_n32 B3.S))) (by omega) rfl ?_
            refine wp_iinc3N rfl rfl ?_
            refine wp_goto rfl ?_
            exact k (_, none, _, _) _ (nxt _ (fin _ (by rw [← hsum, c5]; rfl)))
      · skip
        refine wp_lconst rfl ?_
        refine wp_goto rfl ?_
        refine wp_lstore4 rfl rfl ?_
        refine wp_iconst rfl ?_
        refine wp_istore6 rfl rfl ?_
        refine wp_iload6 rfl ?_
        refine wp_bipush rfl ?_
        have hone : (if ft_ t.1 p u then lN 1 else lN 0) = if ft_ t.1 p u then lN (nw_ t.1 m (m - p) u) else lN 0 := by
          cases hft : ft_ t.1 p u with
          | false => rfl
          | true =>
            rw [if_pos rfl, if_pos rfl, show m - p = 0 by omega]
            unfold nw_
            rw [← c2, hft]
            rfl
        refine wp_icmp_geN 0 6 (by omega) (by omega) rfl (fun z => absurd z (by omega)) (fun _ => ?_)
        refine wp_iload2 rfl ?_
        refine wp_iload1 rfl ?_
        refine wp_icmp_geN p m (by omega) (by omega) rfl (fun _ => ?_) (fun z => absurd z (by omega))
        refine wp_aload0 rfl ?_
        refine wp_getR rfl (Ref_kd B3.S) (Ref_R32 B3.S) (by first | decide | omega) ?_
        refine wp_ldc rfl ?_
        refine wp_iload2 rfl ?_
        refine wp_imulE (nI (40320 * p)) (pk_mul _ _) rfl ?_
        refine wp_iload3 rfl ?_
        refine wp_iaddE (nI ((40320 * p) + s)) (nI_add _ _) rfl ?_
        refine wp_aload0 rfl ?_
        refine wp_aload0 rfl ?_
        refine wp_getR rfl (Ref_kd B3.S) (Ref_R22 B3.S) (by first | decide | omega) ?_
        refine wp_iload3 rfl ?_
        refine wp_ialdE s rfl (Ref_k22 B3.S) (by first | decide | omega) (Nat.lt_of_lt_of_eq (show s < _ by omega) (Eq.symm (Ref_n22 B3.S))) (by omega) (show _ = nI (pq_ (ar_ (sg_n t.1) u) (sg_n t.1)) from hcode) rfl ?_
        refine wp_iload2 rfl ?_
        refine wp_callV2I rfl (Nat.le_of_ble_eq_true rfl) (Ref_kd B3.S) (Ref_fits_ok B3 uP (show p ≤ 12 by omega)) (Nat.le_of_ble_eq_true rfl) ?_
        refine pure_ ?_
        refine wp_if_eqB rfl (fun c5 => ?_) (fun c5 => ?_)
        · skip
          refine wp_lconst rfl ?_
          refine wp_last ((40320 * p) + s) rfl (Ref_k32 B3.S) (Nat.lt_of_lt_of_eq (show ((40320 * p) + s) < _ by omega) (Eq.symm (Ref_n32 B3.S))) (by omega) rfl ?_
          refine wp_iinc3N rfl rfl ?_
          refine wp_goto rfl ?_
          exact k (_, none, _, _) _ (nxt _ (fin _ (by rw [c5]; rfl)))
        · skip
          refine wp_lload4 rfl ?_
          refine wp_goto rfl ?_
          refine wp_last ((40320 * p) + s) rfl (Ref_k32 B3.S) (Nat.lt_of_lt_of_eq (show ((40320 * p) + s) < _ by omega) (Eq.symm (Ref_n32 B3.S))) (by omega) rfl ?_
          refine wp_iinc3N rfl rfl ?_
          refine wp_goto rfl ?_
          exact k (_, none, _, _) _ (nxt _ (fin _ (by rw [← hone, c5]; rfl)))
    · intro x h3 J
      show wq _ tb_Ref_findRows _ 12 [some (.ref 65), some (.int (nI m)), some (.int (nI p)), some (.int (nI (ce_ (sg_n t.1) (sg_n t.1)))), x.1, x.2.1, x.2.2.1, x.2.2.2] [] h3 _
      obtain ⟨z3, a3, b3⟩ := J
      have B3 : RB_ h0 h3 t := RB_fz B2 (fz_mono (fun c hc => by omega) z3)
      have F3 : FN_ h3 t.1 := FN_cong (by rw [fz_I z3 (by decide)]) (fz_I z3 (by decide)) (fz_I z3 (by decide)) F2
      refine wp_iload3 rfl ?_
      refine wp_aload0 rfl ?_
      refine wp_getIE rfl (Ref_kd B3.S) (show _ = nI (ce_ (sg_n t.1) (sg_n t.1)) from F3.1) ?_
      refine wp_icmp_geN (ce_ (sg_n t.1) (sg_n t.1)) (ce_ (sg_n t.1) (sg_n t.1)) (by omega) (by omega) rfl (fun _ => ?_) (fun z => absurd z (by omega))
      refine wp_iinc2 rfl rfl ?_
      refine wp_goto rfl ?_
      have := k (some (.int (nI (ce_ (sg_n t.1) (sg_n t.1)))), x.1, x.2.1, x.2.2.1, x.2.2.2) _ ⟨B3, F3, fun l h4 h5 u hu => by
        rcases Nat.lt_or_ge p l with z | z
        · rw [b3 _ (by omega)]; exact R2 l (by omega) h5 u hu
        · obtain rfl : l = p := by omega
          exact a3 u hu (ru_ce ws hu)⟩
      rw [show m + 1 - (i + 1) = p by omega] at this
      rw [nI_pm]
      exact this
  · intro x h2 I
    show wq _ tb_Ref_findRows _ 6 [some (.ref 65), some (.int (nI m)), some (.int (nI (m + 1 - (m + 1)) - nI 1)), x.1, x.2.1, x.2.2.1, x.2.2.2.1, x.2.2.2.2] [] h2 _
    obtain ⟨B2, F2, R2⟩ := I
    refine wp_iload2 rfl ?_
    refine wp_if_lt rfl (fun _ => ?_) (fun z => absurd z (by rw [Nat.sub_self]; decide))
    rw [Nat.sub_self] at R2
    exact wp_vret rfl ⟨rfl, B2, F2, R2⟩
def an_rows (t : Rt_) (m : Int32) : Int64 := if rg_ 0 12 m then lN (nw_ t.1 m.toNatClampNeg m.toNatClampNeg (fun g => g)) else -2
theorem RO_0 {h : Hp_} {s : Sg_} {m : Nat} (w : sg_wf s) (R : RO_ h s m 0) : hp_J h 88 0 = lN (nw_ s m m (fun g => g)) := by
  have := R 0 (Nat.le_refl 0) (Nat.zero_le m) (fun g => g) (IsP.id _)
  rw [ru_id w, Nat.sub_zero] at this
  exact this
theorem Ref_rows_ok {h0 h : Hp_} {t : Rt_} {m : Int32} (B : RB_ h0 h t) : cJ 5 mn_Ref_rows [.ref 65, .int m] h (fun y h' => y = an_rows t m ∧ RB_ h0 h' t) := by
  refine cq_in (q := mi_Ref_rows) (L := [some (.ref 65), some (.int m)]) rfl (Nat.le_of_ble_eq_true rfl) rfl ?_
  show wq _ tb_Ref_rows none 0 _ _ _ _
  refine wp_iload1 rfl ?_
  refine wp_i2l rfl ?_
  refine wp_lconst rfl ?_
  refine wp_ldc2_w rfl ?_
  refine wp_callS3I rfl (Nat.le_of_ble_eq_true rfl) (Ref_inN_ok (a := 0) (b := 12) (by omega) (by omega)) (Nat.le_of_ble_eq_true rfl) ?_
  refine pure_ ?_
  refine wp_if_neB rfl (fun c1 => ?_) (fun c1 => ?_)
  · skip
    obtain ⟨m, _, hm, hmb, rfl⟩ := rg_of (a := 0) (b := 12) c1
    refine wp_aload0 rfl ?_
    refine wp_iload1 rfl ?_
    refine wp_callV1V rfl (Nat.le_of_ble_eq_true rfl) (Ref_kd B.S) (Ref_findRows_ok B hm) (Nat.le_of_ble_eq_true rfl) ?_
    rintro h1 ⟨B1, F1, R1⟩
    refine wp_aload0 rfl ?_
    refine wp_getR rfl (Ref_kd B1.S) (Ref_R32 B1.S) (by first | decide | omega) ?_
    refine wp_iconst rfl ?_
    refine wp_laldE 0 rfl (Ref_k32 B1.S) (Nat.lt_of_lt_of_eq (show 0 < _ by omega) (Eq.symm (Ref_n32 B1.S))) (by omega) (RO_0 B1.w R1) rfl ?_
    exact wp_lret rfl ⟨_, rfl, by unfold an_rows; rw [show rg_ 0 12 (nI m) = true from c1, if_pos rfl, nI_clamp hmb], B1⟩
  · skip
    refine wp_ldc2_w rfl ?_
    exact wp_lret rfl ⟨_, rfl, by unfold an_rows; rw [show rg_ 0 12 m = false from c1]; rfl, B⟩
