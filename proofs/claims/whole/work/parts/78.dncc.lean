-- ===== the class: want, caller, seen, forget, wish, drop, told, image, restore =====
theorem wa_wf {s : Sg_} {g v : Nat} (w : sg_wf s) (hg : g < sg_n s) (hv : v < sg_n s ∨ v = 8) (hne : v ≠ 8 → ∀ o, o < sg_n s → o ≠ g → sg_wa s o ≠ v) : sg_wf (sw_wa s (va_up (sg_wa s) g v)) := by
  obtain ⟨w1, w2, w3⟩ := w.2.2.2.2.2.2.2.1
  refine sw_wa_wf w ⟨fun q => ?_, fun q q2 e hq => ?_, fun q hq => ?_⟩
  · rw [vu_at]
    split
    · exact hv
    · exact w1 q
  · rw [vu_at] at hq
    rw [vu_at, vu_at] at e
    by_cases y : q = g
    · rw [if_pos y] at e hq
      by_cases y2 : q2 = g
      · rw [y, y2]
      · rw [if_neg y2] at e
        rcases Nat.lt_or_ge q2 (sg_n s) with z | z
        · exact absurd e.symm (hne hq q2 z y2)
        · rw [w3 q2 z] at e; exact absurd e hq
    · rw [if_neg y] at e hq
      by_cases y2 : q2 = g
      · rw [if_pos y2] at e
        rcases Nat.lt_or_ge q (sg_n s) with z | z
        · exact absurd e (hne (by rw [← e]; exact hq) q z y)
        · exact absurd (w3 q z) hq
      · rw [if_neg y2] at e; exact w2 q q2 e hq
  · rw [vu_at, if_neg (by omega)]
    exact w3 q hq
theorem MK_wa {h h2 : Hp_} {s : Sg_} {f v : Nat} (M : MK_ h 4 s) (e : h2 = hp_rI h 7 (va_up (hp_I h 7) f (wv_ v))) : MK_ h2 4 (sw_wa s (va_up (sg_wa s) f v)) := by
  obtain ⟨m1, m2, m3, m4, m5, m6, m7⟩ := M
  rw [e]
  refine ⟨m1, m2, m3, fun g hg => ?_, m5, m6, m7⟩
  show hp_I _ 7 g = wv_ (va_up (sg_wa s) f v g)
  rw [sd_rI_eq, vu_at, vu_at]
  by_cases q : g = f
  · rw [if_pos q, if_pos q]
  · rw [if_neg q, if_neg q]; exact m4 g hg
theorem MK_ca {h h2 : Hp_} {s : Sg_} {f v : Nat} (M : MK_ h 4 s) (e : h2 = hp_rI h 8 (va_up (hp_I h 8) f (nI v))) : MK_ h2 4 (sw_ca s (va_up (sg_ca s) f v)) := by
  obtain ⟨m1, m2, m3, m4, m5, m6, m7⟩ := M
  rw [e]
  refine ⟨m1, m2, m3, m4, fun g hg => ?_, m6, m7⟩
  show hp_I _ 8 g = nI (va_up (sg_ca s) f v g)
  rw [sd_rI_eq, vu_at, vu_at]
  by_cases q : g = f
  · rw [if_pos q, if_pos q]
  · rw [if_neg q, if_neg q]; exact m5 g hg
theorem wv_wr {w : Nat} (hw : w ≤ 8) : (wv_ w = -1 → wr_ w = -6) ∧ (wv_ w ≠ -1 → wr_ w = wv_ w) := by
  unfold wv_ wr_
  by_cases z : w = 8
  · rw [if_pos z, if_pos z]
    exact ⟨fun _ => rfl, fun y => absurd rfl y⟩
  · rw [if_neg z, if_neg z]
    exact ⟨fun y => absurd y (nI_ne_m1 (by omega)), fun _ => rfl⟩
set_option maxRecDepth 4000 in
theorem Dance_want_ok {h : Hp_} {t : Rt_} {k : Nat} {g p : Int32} (X : XB_ h t k) : cI 3 mn_RoundDance_want [.ref 1, .int g, .int p] h (fun y h' => y = (an_want t g p).1 ∧ DR_ h h' (an_want t g p).2 (k + 1)) := by
  have n8 := X.w.1.2
  refine cq_in (q := mi_RoundDance_want) (L := [some (.ref 1), some (.int g), some (.int p), none]) rfl (Nat.le_of_ble_eq_true rfl) rfl ?_
  show wq _ tb_RoundDance_want none 0 _ _ _ _
  refine wq_genQ (fun Q eQ => ?_)
  have no : hs_ t.1 g = false ∨ (p ≠ -1 ∧ hs_ t.1 p = false) → Q (some (.int (-1))) h := by
    intro z
    have e : an_want t g p = (-1, t) := by
      unfold an_want
      rcases z with z | ⟨z1, z2⟩
      · rw [z]; rfl
      · rw [z2, decide_eq_false z1, Bool.or_false, Bool.and_false]; rfl
    rw [eQ, e]
    exact ⟨_, rfl, rfl, DR_same X⟩
  refine wp_aload0 rfl ?_
  refine wp_getR rfl (Dance_kd X.S) (Dance_R1 X.S) (by first | decide | omega) ?_
  refine wp_iload1 rfl ?_
  refine wp_callV1I rfl (Nat.le_of_ble_eq_true rfl) (Market_kd (Dance_s1 X.S)) (Market_has_ok (Dance_s1 X.S) X.n n8) (Nat.le_of_ble_eq_true rfl) ?_
  refine pure_ ?_
  refine wp_if_eqB rfl (fun c1 => ?_) (fun c1 => ?_)
  · skip
    refine wp_iconst rfl ?_
    exact wp_iret rfl (no (Or.inl c1))
  · skip
    obtain ⟨j, hj, rfl⟩ := hs_of c1 n8
    have c1' : hs_ t.1 (nI j) = true := c1
    have tail : ∀ v, (v < sg_n t.1 ∨ v = 8) → (v ≠ 8 → ∀ o, o < sg_n t.1 → o ≠ j → sg_wa t.1 o ≠ v) → an_want t (nI j) p = (wr_ (sg_wa t.1 j), (sw_wa t.1 (va_up (sg_wa t.1) j v), t.2)) → wq 2 tb_RoundDance_want none 49 [some (.ref 1), some (.int (nI j)), some (.int (wv_ v)), none] [] h Q := by
      intro v hv hne e
      have ww := wv_wr (wa_le X.w j)
      refine wp_aload0 rfl ?_
      refine wp_getR rfl (Dance_kd X.S) (Dance_R1 X.S) (by first | decide | omega) ?_
      refine wp_getR rfl (Market_kd (Dance_s1 X.S)) (Market_R7 (Dance_s1 X.S)) (by first | decide | omega) ?_
      refine wp_iload1 rfl ?_
      refine wp_callS2I rfl (Nat.le_of_ble_eq_true rfl) (Cells_atV_ok (Market_k7 (Dance_s1 X.S)) (by decide) (Nat.lt_of_lt_of_eq (show j < 8 by omega) (Market_n7 (Dance_s1 X.S)).symm) (by rw [Market_n7 (Dance_s1 X.S)]; decide) (X.M.2.2.2.1 j (by omega))) (Nat.le_of_ble_eq_true rfl) ?_
      refine pure_ ?_
      refine wp_istore3 rfl rfl ?_
      refine wp_aload0 rfl ?_
      refine wp_getR rfl (Dance_kd X.S) (Dance_R1 X.S) (by first | decide | omega) ?_
      refine wp_getR rfl (Market_kd (Dance_s1 X.S)) (Market_R7 (Dance_s1 X.S)) (by first | decide | omega) ?_
      refine wp_iload1 rfl ?_
      refine wp_iload2 rfl ?_
      refine wp_callS3V rfl (Nat.le_of_ble_eq_true rfl) (Cells_putN_ok (Market_k7 (Dance_s1 X.S)) (by decide) (Market_n7 (Dance_s1 X.S)) (show j < 8 by omega) (by decide)) (Nat.le_of_ble_eq_true rfl) ?_
      intro h2 e2
      have M2 := MK_wa X.M e2
      have z2 := z4_ e2 (by decide) (by decide)
      have D2 := DR_of X (z34 z2) (XS_mkt X.1 z2 M2 (wa_wf X.w hj hv hne))
      refine wp_iload3 rfl ?_
      refine wp_iconst rfl ?_
      refine wp_icmp_ne rfl (fun c5 => ?_) (fun c5 => ?_)
      · skip
        refine wp_iload3 rfl ?_
        exact wp_iret rfl (by rw [eQ, e, ww.2 c5]; exact ⟨_, rfl, rfl, D2⟩)
      · skip
        refine wp_bipush rfl ?_
        refine wp_goto rfl ?_
        exact wp_iret rfl (by rw [eQ, e, ww.1 (Classical.not_not.mp c5)]; exact ⟨_, rfl, rfl, D2⟩)
    refine wp_iload2 rfl ?_
    refine wp_iconst rfl ?_
    refine wp_icmp_eq rfl (fun c2 => ?_) (fun c2 => ?_)
    · skip
      have c2' : p = -1 := c2
      subst c2'
      refine wp_iload2 rfl ?_
      refine wp_iconst rfl ?_
      refine wp_icmp_eq rfl (fun _ => ?_) (fun z => absurd z (fun y => y rfl))
      refine tail 8 (Or.inr rfl) (fun z => absurd rfl z) ?_
      unfold an_want
      rw [c1', decide_eq_true rfl, Bool.true_or, Bool.true_and, if_pos rfl, if_neg (fun z => z.1 rfl), if_pos rfl, nI_clamp (by omega)]
    · skip
      refine wp_aload0 rfl ?_
      refine wp_getR rfl (Dance_kd X.S) (Dance_R1 X.S) (by first | decide | omega) ?_
      refine wp_iload2 rfl ?_
      refine wp_callV1I rfl (Nat.le_of_ble_eq_true rfl) (Market_kd (Dance_s1 X.S)) (Market_has_ok (Dance_s1 X.S) X.n n8) (Nat.le_of_ble_eq_true rfl) ?_
      refine pure_ ?_
      refine wp_if_neB rfl (fun c3 => ?_) (fun c3 => ?_)
      · skip
        obtain ⟨q, hq, rfl⟩ := hs_of c3 n8
        have c3' : hs_ t.1 (nI q) = true := c3
        refine wp_iload2 rfl ?_
        refine wp_iconst rfl ?_
        refine wp_icmp_eq rfl (fun z => absurd z (fun z => nI_ne_m1 (by omega) z)) (fun _ => ?_)
        refine wp_aload0 rfl ?_
        refine wp_getR rfl (Dance_kd X.S) (Dance_R1 X.S) (by first | decide | omega) ?_
        refine wp_iload1 rfl ?_
        refine wp_iload2 rfl ?_
        refine wp_callV2I rfl (Nat.le_of_ble_eq_true rfl) (Market_kd (Dance_s1 X.S)) (Market_isWantedByOther_ok (Dance_s1 X.S) X.M X.w (by omega) (by omega)) (Nat.le_of_ble_eq_true rfl) ?_
        refine pure_ ?_
        refine wp_if_eqB rfl (fun c4 => ?_) (fun c4 => ?_)
        · skip
          have c4' := of_decide_eq_false c4
          have tq := tail q (Or.inl hq) (fun _ o h1 h2 h3 => c4' ⟨o, h1, h2, h3⟩) (by
            unfold an_want
            rw [c1', c3', Bool.or_true, Bool.true_and, if_pos rfl, if_neg (fun z => c4' (by rw [nI_clamp (by omega), nI_clamp (by omega)] at z; exact z.2)), if_neg c2, nI_clamp (by omega), nI_clamp (by omega)])
          rw [show wv_ q = nI q from if_neg (by omega)] at tq
          exact tq
        · skip
          refine wp_bipush rfl ?_
          have c4' := of_decide_eq_true c4
          have e : an_want t (nI j) (nI q) = (-3, t) := by
            unfold an_want
            rw [c1', c3', Bool.or_true, Bool.true_and, if_pos rfl, if_pos ⟨c2, by rw [nI_clamp (by omega), nI_clamp (by omega)]; exact c4'⟩]
          exact wp_iret rfl (by rw [eQ, e]; exact ⟨_, rfl, rfl, DR_same X⟩)
      · skip
        refine wp_iconst rfl ?_
        exact wp_iret rfl (no (Or.inr ⟨c2, c3⟩))
theorem Dance_caller_ok {h : Hp_} {t : Rt_} {k : Nat} {c f : Int32} (X : XB_ h t k) : cI 2 mn_RoundDance_caller [.ref 1, .int c, .int f] h (fun y h' => y = (an_caller t c f).1 ∧ DR_ h h' (an_caller t c f).2 (k + 1)) := by
  cases c1 : rg_ 0 1 c with
  | false =>
    have e : an_caller t c f = (-1, t) := by unfold an_caller; rw [c1]; rfl
    rw [e]
    refine cq_in (q := mi_RoundDance_caller) (L := [some (.ref 1), some (.int c), some (.int f), none]) rfl (Nat.le_of_ble_eq_true rfl) rfl ?_
    show wq _ tb_RoundDance_caller none 0 _ _ _ _
    refine wp_iload1 rfl ?_
    refine wp_if_lt rfl (fun c2 => ?_) (fun c2 => ?_)
    · skip
      refine wp_iconst rfl ?_
      exact wp_iret rfl ⟨_, rfl, rfl, DR_same X⟩
    · skip
      refine wp_iload1 rfl ?_
      refine wp_iconst rfl ?_
      refine wp_icmp_lt rfl (fun z => absurd z (rg_ge0 (b := 1) (c := 2) (by decide) rfl c1 c2)) (fun _ => ?_)
      refine wp_iconst rfl ?_
      exact wp_iret rfl ⟨_, rfl, rfl, DR_same X⟩
  | true =>
    obtain ⟨i, _, i1, ib, rfl⟩ := rg_of (a := 0) (b := 1) c1
    cases c3 : rg_ 0 63 f with
    | false =>
      have e : an_caller t (nI i) f = (-2, t) := by unfold an_caller; rw [c1, if_pos rfl, c3]; rfl
      rw [e]
      refine cq_in (q := mi_RoundDance_caller) (L := [some (.ref 1), some (.int (nI i)), some (.int f), none]) rfl (Nat.le_of_ble_eq_true rfl) rfl ?_
      show wq _ tb_RoundDance_caller none 0 _ _ _ _
      refine wp_iload1 rfl ?_
      refine wp_if_ltN i 0 (by omega) (by decide) rfl ?_
      refine wp_iload1 rfl ?_
      refine wp_iconst rfl ?_
      refine wp_icmp_ltN i 2 (by omega) (by omega) rfl (fun _ => ?_) (fun z => absurd z (by omega))
      refine wp_iload2 rfl ?_
      refine wp_if_lt rfl (fun c2 => ?_) (fun c2 => ?_)
      · skip
        refine wp_bipush rfl ?_
        exact wp_iret rfl ⟨_, rfl, rfl, DR_same X⟩
      · skip
        refine wp_iload2 rfl ?_
        refine wp_bipush rfl ?_
        refine wp_icmp_le rfl (fun z => absurd z (rg_hi0 (b := 63) (by decide) c3 c2)) (fun _ => ?_)
        refine wp_bipush rfl ?_
        exact wp_iret rfl ⟨_, rfl, rfl, DR_same X⟩
    | true =>
      obtain ⟨j, _, j1, jb, rfl⟩ := rg_of (a := 0) (b := 63) c3
      have e : an_caller t (nI i) (nI j) = (nI (sg_ca t.1 i), (sw_ca t.1 (va_up (sg_ca t.1) i j), t.2)) := by unfold an_caller; rw [c1, if_pos rfl, c3, if_pos rfl, nI_clamp ib, nI_clamp jb]
      rw [e]
      refine cq_in (q := mi_RoundDance_caller) (L := [some (.ref 1), some (.int (nI i)), some (.int (nI j)), none]) rfl (Nat.le_of_ble_eq_true rfl) rfl ?_
      show wq _ tb_RoundDance_caller none 0 _ _ _ _
      refine wp_iload1 rfl ?_
      refine wp_if_ltN i 0 (by omega) (by decide) rfl ?_
      refine wp_iload1 rfl ?_
      refine wp_iconst rfl ?_
      refine wp_icmp_ltN i 2 (by omega) (by omega) rfl (fun _ => ?_) (fun z => absurd z (by omega))
      refine wp_iload2 rfl ?_
      refine wp_if_ltN j 0 (by omega) (by decide) rfl ?_
      refine wp_iload2 rfl ?_
      refine wp_bipush rfl ?_
      refine wp_icmp_leN j 63 (by omega) (by omega) rfl (fun _ => ?_) (fun z => absurd z (by omega))
      refine wp_aload0 rfl ?_
      refine wp_getR rfl (Dance_kd X.S) (Dance_R1 X.S) (by first | decide | omega) ?_
      refine wp_getR rfl (Market_kd (Dance_s1 X.S)) (Market_R8 (Dance_s1 X.S)) (by first | decide | omega) ?_
      refine wp_iload1 rfl ?_
      refine wp_callS2I rfl (Nat.le_of_ble_eq_true rfl) (Cells_atV_ok (Market_k8 (Dance_s1 X.S)) (by decide) (Nat.lt_of_lt_of_eq (show i < 2 by omega) (Market_n8 (Dance_s1 X.S)).symm) (by rw [Market_n8 (Dance_s1 X.S)]; decide) (X.M.2.2.2.2.1 i (by omega))) (Nat.le_of_ble_eq_true rfl) ?_
      refine pure_ ?_
      refine wp_istore3 rfl rfl ?_
      refine wp_aload0 rfl ?_
      refine wp_getR rfl (Dance_kd X.S) (Dance_R1 X.S) (by first | decide | omega) ?_
      refine wp_getR rfl (Market_kd (Dance_s1 X.S)) (Market_R8 (Dance_s1 X.S)) (by first | decide | omega) ?_
      refine wp_iload1 rfl ?_
      refine wp_iload2 rfl ?_
      refine wp_callS3V rfl (Nat.le_of_ble_eq_true rfl) (Cells_putN_ok (Market_k8 (Dance_s1 X.S)) (by decide) (Market_n8 (Dance_s1 X.S)) (show i < 2 by omega) (by decide)) (Nat.le_of_ble_eq_true rfl) ?_
      intro h2 e2
      have M2 := MK_ca X.M e2
      have z2 := z4_ e2 (by decide) (by decide)
      refine wp_iload3 rfl ?_
      exact wp_iret rfl ⟨_, rfl, rfl, DR_of X (z34 z2) (XS_mkt X.1 z2 M2 (sw_ca_wf X.w (fun g => by rw [vu_at]; split; omega; exact X.w.2.2.2.2.2.2.2.2.1 g)))⟩
-- notes
theorem Dance_noteFull_ok {h : Hp_} {o : Nat} {a g p : Int32} {l : List (Nat × Nat × Nat)} (S : S_Notes h o) (N : NS_ h o l) (hl : l.length = 6) : cI 3 mn_RoundDance_noteMore [.ref o, .int a, .int g, .int p] h (fun x h' => x = -4 ∧ h' = h) := by
  refine cq_in (q := mi_RoundDance_noteMore) (L := [some (.ref o), some (.int a), some (.int g), some (.int p)]) rfl (Nat.le_of_ble_eq_true rfl) rfl ?_
  show wq _ tb_RoundDance_noteMore none 0 _ _ _ _
  refine wp_aload0 rfl ?_
  refine wp_getIE rfl (Notes_kd S) (show _ = nI (l.length) from N.1) ?_
  refine wp_bipush rfl ?_
  refine wp_icmp_ltN (l.length) 6 (by omega) (by omega) rfl (fun z => absurd z (by omega)) (fun _ => ?_)
  refine wp_bipush rfl ?_
  exact wp_iret rfl ⟨_, rfl, rfl, rfl⟩
theorem Dance_noteMore_ok {h : Hp_} {o a g p : Nat} {l : List (Nat × Nat × Nat)} (S : S_Notes h o) (N : NS_ h o l) (hl : l.length < 6) (hg : g < 8) (hp : p < 8) : cI 3 mn_RoundDance_noteMore [.ref o, .int (nI a), .int (nI g), .int (nI p)] h (fun x h' => x = nI (l.length + 1) ∧ h' = hp_rI (hp_rI h (o + 1) (va_up (hp_I h (o + 1)) l.length (nI (mk_ a g p)))) o (va_up (hp_I h o) 1 (nI (l.length + 1)))) := by
  refine cq_in (q := mi_RoundDance_noteMore) (L := [some (.ref o), some (.int (nI a)), some (.int (nI g)), some (.int (nI p))]) rfl (Nat.le_of_ble_eq_true rfl) rfl ?_
  show wq _ tb_RoundDance_noteMore none 0 _ _ _ _
  refine wp_aload0 rfl ?_
  refine wp_getIE rfl (Notes_kd S) (show _ = nI (l.length) from N.1) ?_
  refine wp_bipush rfl ?_
  refine wp_icmp_ltN (l.length) 6 (by omega) (by omega) rfl (fun _ => ?_) (fun z => absurd z (by omega))
  refine wp_aload0 rfl ?_
  refine wp_iload1 rfl ?_
  refine wp_iload2 rfl ?_
  refine wp_iload3 rfl ?_
  refine wp_callV3V rfl (Nat.le_of_ble_eq_true rfl) (Notes_kd S) (Notes_add_ok S N.1 hl hg hp) (Nat.le_of_ble_eq_true rfl) ?_
  intro h2 e2
  have S2 : S_Notes h2 o := by rw [e2]; exact S
  have k2 : hp_I h2 o 1 = nI (l.length + 1) := by rw [e2, sd_rI_eq, vu_at, if_pos rfl]
  refine wp_aload0 rfl ?_
  refine wp_getIE rfl (Notes_kd S2) (show _ = nI (l.length + 1) from k2) ?_
  exact wp_iret rfl ⟨_, rfl, rfl, e2⟩
theorem Dance_noteNone_ok {h : Hp_} {o : Nat} {l : List (Nat × Nat × Nat)} (S : S_Notes h o) (N : NS_ h o l) : cI 1 mn_RoundDance_noteNone [.ref o] h (fun x h' => x = nI l.length ∧ h' = hp_rI h o (va_up (hp_I h o) 1 (nI 0))) := by
  refine cq_in (q := mi_RoundDance_noteNone) (L := [some (.ref o), none]) rfl (Nat.le_of_ble_eq_true rfl) rfl ?_
  show wq _ tb_RoundDance_noteNone none 0 _ _ _ _
  refine wp_aload0 rfl ?_
  refine wp_getIE rfl (Notes_kd S) (show _ = nI (l.length) from N.1) ?_
  refine wp_istore1 rfl rfl ?_
  refine wp_aload0 rfl ?_
  refine wp_iconst rfl ?_
  refine wp_putI rfl (Notes_kd S) ?_
  refine wp_iload1 rfl ?_
  exact wp_iret rfl ⟨_, rfl, rfl, rfl⟩
theorem NS_add {h h2 : Hp_} {o : Nat} {l : List (Nat × Nat × Nat)} {x : Nat × Nat × Nat} (N : NS_ h o l) (e1 : hp_I h2 o = va_up (hp_I h o) 1 (nI (l.length + 1))) (e2 : hp_I h2 (o + 1) = va_up (hp_I h (o + 1)) l.length (nI (mk_ x.1 x.2.1 x.2.2))) : NS_ h2 o (l ++ [x]) := by
  refine ⟨?_, fun i q hi => ?_⟩
  · rw [e1, vu_at, if_pos rfl, List.length_append]; rfl
  · rw [e2, vu_at]
    by_cases z : i = l.length
    · rw [z, List.getElem?_concat_length] at hi
      cases hi
      rw [if_pos z]
    · have hil := (List.getElem?_eq_some_iff.mp hi).1
      rw [List.length_append] at hil
      have hil2 : i < l.length + 1 := hil
      rw [List.getElem?_append_left (by omega)] at hi
      rw [if_neg z]
      exact N.2 i q hi
theorem MK_si {h h2 : Hp_} {s : Sg_} {l : List (Nat × Nat × Nat)} (M : MK_ h 4 s) (z : ∀ v, v ≠ 9 → v ≠ 10 → hp_I h2 v = hp_I h v) (N : NS_ h2 9 l) : MK_ h2 4 (sw_si s l) := by
  obtain ⟨m1, m2, m3, m4, m5, m6, m7⟩ := M
  unfold NS_ at m7
  refine ⟨by rw [z 4 (by decide) (by decide)]; exact m1, fun g hg => ?_, fun g hg => ?_, fun g hg => ?_, fun g hg => ?_, N, ?_⟩
  · show hp_I h2 5 g = _
    rw [z 5 (by decide) (by decide)]; exact m2 g hg
  · show hp_I h2 6 g = _
    rw [z 6 (by decide) (by decide)]; exact m3 g hg
  · show hp_I h2 7 g = _
    rw [z 7 (by decide) (by decide)]; exact m4 g hg
  · show hp_I h2 8 g = _
    rw [z 8 (by decide) (by decide)]; exact m5 g hg
  · unfold NS_
    rw [show 4 + 7 = 11 from rfl, show 11 + 1 = 12 from rfl, z 11 (by decide) (by decide), z 12 (by decide) (by decide)]
    exact m7
theorem MK_wi {h h2 : Hp_} {s : Sg_} {l : List (Nat × Nat × Nat)} (M : MK_ h 4 s) (z : ∀ v, v ≠ 11 → v ≠ 12 → hp_I h2 v = hp_I h v) (N : NS_ h2 11 l) : MK_ h2 4 (sw_wi s l) := by
  obtain ⟨m1, m2, m3, m4, m5, m6, m7⟩ := M
  unfold NS_ at m6
  refine ⟨by rw [z 4 (by decide) (by decide)]; exact m1, fun g hg => ?_, fun g hg => ?_, fun g hg => ?_, fun g hg => ?_, ?_, N⟩
  · show hp_I h2 5 g = _
    rw [z 5 (by decide) (by decide)]; exact m2 g hg
  · show hp_I h2 6 g = _
    rw [z 6 (by decide) (by decide)]; exact m3 g hg
  · show hp_I h2 7 g = _
    rw [z 7 (by decide) (by decide)]; exact m4 g hg
  · show hp_I h2 8 g = _
    rw [z 8 (by decide) (by decide)]; exact m5 g hg
  · unfold NS_
    rw [show 4 + 5 = 9 from rfl, show 9 + 1 = 10 from rfl, z 9 (by decide) (by decide), z 10 (by decide) (by decide)]
    exact m6
set_option maxRecDepth 4000 in
theorem Dance_seen_ok {h : Hp_} {t : Rt_} {k : Nat} {b u v : Int32} (X : XB_ h t k) : cI 4 mn_RoundDance_seen [.ref 1, .int b, .int u, .int v] h (fun y h' => y = (an_seen t b u v).1 ∧ DR_ h h' (an_seen t b u v).2 (k + 1)) := by
  have n8 := X.w.1.2
  refine cq_in (q := mi_RoundDance_seen) (L := [some (.ref 1), some (.int b), some (.int u), some (.int v)]) rfl (Nat.le_of_ble_eq_true rfl) rfl ?_
  show wq _ tb_RoundDance_seen none 0 _ _ _ _
  refine wp_aload0 rfl ?_
  refine wp_getR rfl (Dance_kd X.S) (Dance_R1 X.S) (by first | decide | omega) ?_
  refine wp_iload2 rfl ?_
  refine wp_callV1I rfl (Nat.le_of_ble_eq_true rfl) (Market_kd (Dance_s1 X.S)) (Market_has_ok (Dance_s1 X.S) X.n n8) (Nat.le_of_ble_eq_true rfl) ?_
  refine pure_ ?_
  refine wp_if_eqB rfl (fun c1 => ?_) (fun c1 => ?_)
  · skip
    refine wp_iconst rfl ?_
    have e : an_seen t b u v = (-1, t) := by unfold an_seen; rw [show hs_ t.1 u = false from c1]; rfl
    rw [e]
    exact wp_iret rfl ⟨_, rfl, rfl, DR_same X⟩
  · skip
    obtain ⟨g, hg, rfl⟩ := hs_of c1 n8
    have c1' : hs_ t.1 (nI g) = true := c1
    refine wp_aload0 rfl ?_
    refine wp_getR rfl (Dance_kd X.S) (Dance_R1 X.S) (by first | decide | omega) ?_
    refine wp_iload3 rfl ?_
    refine wp_callV1I rfl (Nat.le_of_ble_eq_true rfl) (Market_kd (Dance_s1 X.S)) (Market_has_ok (Dance_s1 X.S) X.n n8) (Nat.le_of_ble_eq_true rfl) ?_
    refine pure_ ?_
    refine wp_if_neB rfl (fun c2 => ?_) (fun c2 => ?_)
    · skip
      obtain ⟨p, hp, rfl⟩ := hs_of c2 n8
      have c2' : hs_ t.1 (nI p) = true := c2
      refine wp_iload1 rfl ?_
      cases c3 : rg_ 0 12 b with
      | false =>
        have e : an_seen t b (nI g) (nI p) = (-2, t) := by unfold an_seen; rw [c1', c2', Bool.true_and, if_pos rfl, c3]; rfl
        rw [e]
        refine wp_if_lt rfl (fun c4 => ?_) (fun c4 => ?_)
        · skip
          refine wp_bipush rfl ?_
          exact wp_iret rfl ⟨_, rfl, rfl, DR_same X⟩
        · skip
          refine wp_iload1 rfl ?_
          refine wp_bipush rfl ?_
          refine wp_icmp_le rfl (fun z => absurd z (rg_hi0 (b := 12) (by decide) c3 c4)) (fun _ => ?_)
          refine wp_bipush rfl ?_
          exact wp_iret rfl ⟨_, rfl, rfl, DR_same X⟩
      | true =>
        obtain ⟨a, a0, a1, ab, rfl⟩ := rg_of (a := 0) (b := 12) c3
        refine wp_if_ltN a 0 (by omega) (by decide) rfl ?_
        refine wp_iload1 rfl ?_
        refine wp_bipush rfl ?_
        refine wp_icmp_leN a 12 (by omega) (by omega) rfl (fun _ => ?_) (fun z => absurd z (by omega))
        refine wp_aload0 rfl ?_
        refine wp_getR rfl (Dance_kd X.S) (Dance_R1 X.S) (by first | decide | omega) ?_
        refine wp_getR rfl (Market_kd (Dance_s1 X.S)) (Market_R9 (Dance_s1 X.S)) (by first | decide | omega) ?_
        refine wp_iload1 rfl ?_
        refine wp_iload2 rfl ?_
        refine wp_iload3 rfl ?_
        by_cases hl : (sg_si t.1).length = 6
        · have e : an_seen t (nI a) (nI g) (nI p) = (-4, t) := by unfold an_seen; rw [c1', c2', Bool.true_and, if_pos rfl, c3, if_pos rfl, if_pos hl]
          rw [e]
          refine wp_callS4I rfl (Nat.le_of_ble_eq_true rfl) (Dance_noteFull_ok (Market_s9 (Dance_s1 X.S)) X.M.2.2.2.2.2.1 hl) (Nat.le_of_ble_eq_true rfl) ?_
          refine pure_ ?_
          exact wp_iret rfl ⟨_, rfl, rfl, DR_same X⟩
        · have e : an_seen t (nI a) (nI g) (nI p) = (nI ((sg_si t.1).length + 1), (sw_si t.1 (sg_si t.1 ++ [(a, g, p)]), t.2)) := by unfold an_seen; rw [c1', c2', Bool.true_and, if_pos rfl, c3, if_pos rfl, if_neg hl, nI_clamp ab, nI_clamp (by omega), nI_clamp (by omega)]
          rw [e]
          have h6 := si_len X.w
          refine wp_callS4I rfl (Nat.le_of_ble_eq_true rfl) (Dance_noteMore_ok (Market_s9 (Dance_s1 X.S)) X.M.2.2.2.2.2.1 (by omega) (by omega) (by omega)) (Nat.le_of_ble_eq_true rfl) ?_
          rintro _ h2 ⟨rfl, e2⟩
          have z2 : fz_ (fun v => 4 ≤ v ∧ v ≤ 12) h h2 := by rw [e2]; exact fz_rI (P := fun v => 4 ≤ v ∧ v ≤ 12) (fz_rI (P := fun v => 4 ≤ v ∧ v ≤ 12) (fz_refl _ _) (by decide) _) (by decide) _
          have M2 := MK_si (h2 := h2) (l := sg_si t.1 ++ [(a, g, p)]) X.M (fun v h1 h3 => by rw [e2, sd_rI_ne (by omega), sd_rI_ne (by omega)]) (NS_add X.M.2.2.2.2.2.1 (by rw [e2, sd_rI_eq]) (by rw [e2, sd_rI_ne (by decide), sd_rI_eq]))
          exact wp_iret rfl ⟨_, rfl, rfl, DR_of X (z34 z2) (XS_mkt X.1 z2 M2 (sw_si_wf X.w (by rw [List.length_append]; exact Nat.lt_of_le_of_ne h6 hl) (fun q hq => (List.mem_append.mp hq).elim (X.w.2.2.2.2.2.2.2.2.2.2.1 q) (fun z => by rw [List.mem_singleton] at z; rw [z]; exact ⟨a1, hg, hp⟩))))⟩
    · skip
      refine wp_iconst rfl ?_
      have e : an_seen t b (nI g) v = (-1, t) := by unfold an_seen; rw [c1', show hs_ t.1 v = false from c2]; rfl
      rw [e]
      exact wp_iret rfl ⟨_, rfl, rfl, DR_same X⟩
set_option maxRecDepth 4000 in
theorem Dance_wish_ok {h : Hp_} {t : Rt_} {k : Nat} {u v b : Int32} (X : XB_ h t k) : cI 4 mn_RoundDance_wish [.ref 1, .int u, .int v, .int b] h (fun y h' => y = (an_wish t u v b).1 ∧ DR_ h h' (an_wish t u v b).2 (k + 1)) := by
  have n8 := X.w.1.2
  refine cq_in (q := mi_RoundDance_wish) (L := [some (.ref 1), some (.int u), some (.int v), some (.int b)]) rfl (Nat.le_of_ble_eq_true rfl) rfl ?_
  show wq _ tb_RoundDance_wish none 0 _ _ _ _
  refine wp_aload0 rfl ?_
  refine wp_getR rfl (Dance_kd X.S) (Dance_R1 X.S) (by first | decide | omega) ?_
  refine wp_iload1 rfl ?_
  refine wp_callV1I rfl (Nat.le_of_ble_eq_true rfl) (Market_kd (Dance_s1 X.S)) (Market_has_ok (Dance_s1 X.S) X.n n8) (Nat.le_of_ble_eq_true rfl) ?_
  refine pure_ ?_
  refine wp_if_eqB rfl (fun c1 => ?_) (fun c1 => ?_)
  · skip
    refine wp_iconst rfl ?_
    have e : an_wish t u v b = (-1, t) := by unfold an_wish; rw [show hs_ t.1 u = false from c1]; rfl
    rw [e]
    exact wp_iret rfl ⟨_, rfl, rfl, DR_same X⟩
  · skip
    obtain ⟨g, hg, rfl⟩ := hs_of c1 n8
    have c1' : hs_ t.1 (nI g) = true := c1
    refine wp_aload0 rfl ?_
    refine wp_getR rfl (Dance_kd X.S) (Dance_R1 X.S) (by first | decide | omega) ?_
    refine wp_iload2 rfl ?_
    refine wp_callV1I rfl (Nat.le_of_ble_eq_true rfl) (Market_kd (Dance_s1 X.S)) (Market_has_ok (Dance_s1 X.S) X.n n8) (Nat.le_of_ble_eq_true rfl) ?_
    refine pure_ ?_
    refine wp_if_neB rfl (fun c2 => ?_) (fun c2 => ?_)
    · skip
      obtain ⟨p, hp, rfl⟩ := hs_of c2 n8
      have c2' : hs_ t.1 (nI p) = true := c2
      refine wp_iload3 rfl ?_
      refine wp_iconst rfl ?_
      cases c3 : rg_ 1 99 b with
      | false =>
        have e : an_wish t (nI g) (nI p) b = (-2, t) := by unfold an_wish; rw [c1', c2', Bool.true_and, if_pos rfl, c3]; rfl
        rw [e]
        refine wp_icmp_lt rfl (fun c4 => ?_) (fun c4 => ?_)
        · skip
          refine wp_bipush rfl ?_
          exact wp_iret rfl ⟨_, rfl, rfl, DR_same X⟩
        · skip
          refine wp_iload3 rfl ?_
          refine wp_bipush rfl ?_
          refine wp_icmp_le rfl (fun z => absurd z (rg_hi (a := 1) (b := 99) (by decide) (by decide) c3 c4)) (fun _ => ?_)
          refine wp_bipush rfl ?_
          exact wp_iret rfl ⟨_, rfl, rfl, DR_same X⟩
      | true =>
        obtain ⟨a, a0, a1, ab, rfl⟩ := rg_of (a := 1) (b := 99) c3
        refine wp_icmp_ltN a 1 (by omega) (by omega) rfl (fun z => absurd z (by omega)) (fun _ => ?_)
        refine wp_iload3 rfl ?_
        refine wp_bipush rfl ?_
        refine wp_icmp_leN a 99 (by omega) (by omega) rfl (fun _ => ?_) (fun z => absurd z (by omega))
        refine wp_aload0 rfl ?_
        refine wp_getR rfl (Dance_kd X.S) (Dance_R1 X.S) (by first | decide | omega) ?_
        refine wp_getR rfl (Market_kd (Dance_s1 X.S)) (Market_R10 (Dance_s1 X.S)) (by first | decide | omega) ?_
        refine wp_iload3 rfl ?_
        refine wp_iload1 rfl ?_
        refine wp_iload2 rfl ?_
        by_cases hl : (sg_wi t.1).length = 6
        · have e : an_wish t (nI g) (nI p) (nI a) = (-4, t) := by unfold an_wish; rw [c1', c2', Bool.true_and, if_pos rfl, c3, if_pos rfl, if_pos hl]
          rw [e]
          refine wp_callS4I rfl (Nat.le_of_ble_eq_true rfl) (Dance_noteFull_ok (Market_s10 (Dance_s1 X.S)) X.M.2.2.2.2.2.2 hl) (Nat.le_of_ble_eq_true rfl) ?_
          refine pure_ ?_
          exact wp_iret rfl ⟨_, rfl, rfl, DR_same X⟩
        · have e : an_wish t (nI g) (nI p) (nI a) = (nI ((sg_wi t.1).length + 1), (sw_wi t.1 (sg_wi t.1 ++ [(a, g, p)]), t.2)) := by unfold an_wish; rw [c1', c2', Bool.true_and, if_pos rfl, c3, if_pos rfl, if_neg hl, nI_clamp ab, nI_clamp (by omega), nI_clamp (by omega)]
          rw [e]
          have h6 := wi_len X.w
          refine wp_callS4I rfl (Nat.le_of_ble_eq_true rfl) (Dance_noteMore_ok (Market_s10 (Dance_s1 X.S)) X.M.2.2.2.2.2.2 (by omega) (by omega) (by omega)) (Nat.le_of_ble_eq_true rfl) ?_
          rintro _ h2 ⟨rfl, e2⟩
          have z2 : fz_ (fun v => 4 ≤ v ∧ v ≤ 12) h h2 := by rw [e2]; exact fz_rI (P := fun v => 4 ≤ v ∧ v ≤ 12) (fz_rI (P := fun v => 4 ≤ v ∧ v ≤ 12) (fz_refl _ _) (by decide) _) (by decide) _
          have M2 := MK_wi (h2 := h2) (l := sg_wi t.1 ++ [(a, g, p)]) X.M (fun v h1 h3 => by rw [e2, sd_rI_ne (by omega), sd_rI_ne (by omega)]) (NS_add X.M.2.2.2.2.2.2 (by rw [e2, sd_rI_eq]) (by rw [e2, sd_rI_ne (by decide), sd_rI_eq]))
          exact wp_iret rfl ⟨_, rfl, rfl, DR_of X (z34 z2) (XS_mkt X.1 z2 M2 (sw_wi_wf X.w (by rw [List.length_append]; exact Nat.lt_of_le_of_ne h6 hl) (fun q hq => (List.mem_append.mp hq).elim (X.w.2.2.2.2.2.2.2.2.2.2.2.2 q) (fun z => by rw [List.mem_singleton] at z; rw [z]; exact ⟨⟨a0, a1⟩, hg, hp⟩))))⟩
    · skip
      refine wp_iconst rfl ?_
      have e : an_wish t (nI g) v b = (-1, t) := by unfold an_wish; rw [c1', show hs_ t.1 v = false from c2]; rfl
      rw [e]
      exact wp_iret rfl ⟨_, rfl, rfl, DR_same X⟩
theorem Dance_forget_ok {h : Hp_} {t : Rt_} {k : Nat} (X : XB_ h t k) : cI 2 mn_RoundDance_forget [.ref 1] h (fun y h' => y = (an_forget t).1 ∧ DR_ h h' (an_forget t).2 (k + 1)) := by
  refine cq_in (q := mi_RoundDance_forget) (L := [some (.ref 1)]) rfl (Nat.le_of_ble_eq_true rfl) rfl ?_
  show wq _ tb_RoundDance_forget none 0 _ _ _ _
  refine wp_aload0 rfl ?_
  refine wp_getR rfl (Dance_kd X.S) (Dance_R1 X.S) (by first | decide | omega) ?_
  refine wp_getR rfl (Market_kd (Dance_s1 X.S)) (Market_R9 (Dance_s1 X.S)) (by first | decide | omega) ?_
  refine wp_callS1I rfl (Nat.le_of_ble_eq_true rfl) (Dance_noteNone_ok (Market_s9 (Dance_s1 X.S)) X.M.2.2.2.2.2.1) (Nat.le_of_ble_eq_true rfl) ?_
  rintro _ h2 ⟨rfl, e2⟩
  have z2 := z4_ e2 (by decide) (by decide)
  have M2 := MK_si (h2 := h2) (l := []) X.M (fun v h1 h3 => by rw [e2, sd_rI_ne (by omega)]) ⟨by rw [e2, sd_rI_eq, vu_at, if_pos rfl]; rfl, fun i q hi => by cases hi⟩
  exact wp_iret rfl ⟨_, rfl, rfl, DR_of X (z34 z2) (XS_mkt X.1 z2 M2 (sw_si_wf X.w (Nat.zero_le _) (fun q hq => absurd hq List.not_mem_nil)))⟩
theorem Dance_drop_ok {h : Hp_} {t : Rt_} {k : Nat} (X : XB_ h t k) : cI 2 mn_RoundDance_drop [.ref 1] h (fun y h' => y = (an_drop t).1 ∧ DR_ h h' (an_drop t).2 (k + 1)) := by
  refine cq_in (q := mi_RoundDance_drop) (L := [some (.ref 1)]) rfl (Nat.le_of_ble_eq_true rfl) rfl ?_
  show wq _ tb_RoundDance_drop none 0 _ _ _ _
  refine wp_aload0 rfl ?_
  refine wp_getR rfl (Dance_kd X.S) (Dance_R1 X.S) (by first | decide | omega) ?_
  refine wp_getR rfl (Market_kd (Dance_s1 X.S)) (Market_R10 (Dance_s1 X.S)) (by first | decide | omega) ?_
  refine wp_callS1I rfl (Nat.le_of_ble_eq_true rfl) (Dance_noteNone_ok (Market_s10 (Dance_s1 X.S)) X.M.2.2.2.2.2.2) (Nat.le_of_ble_eq_true rfl) ?_
  rintro _ h2 ⟨rfl, e2⟩
  have z2 := z4_ e2 (by decide) (by decide)
  have M2 := MK_wi (h2 := h2) (l := []) X.M (fun v h1 h3 => by rw [e2, sd_rI_ne (by omega)]) ⟨by rw [e2, sd_rI_eq, vu_at, if_pos rfl]; rfl, fun i q hi => by cases hi⟩
  exact wp_iret rfl ⟨_, rfl, rfl, DR_of X (z34 z2) (XS_mkt X.1 z2 M2 (sw_wi_wf X.w (Nat.zero_le _) (fun q hq => absurd hq List.not_mem_nil)))⟩
