-- ===== the reference: want, caller, seen, forget, wish, drop, told =====
def an_want (t : Rt_) (g p : Int32) : Int32 × Rt_ := if hs_ t.1 g && (decide (p = -1) || hs_ t.1 p) then (if p ≠ -1 ∧ ∃ o, o < sg_n t.1 ∧ o ≠ g.toNatClampNeg ∧ sg_wa t.1 o = p.toNatClampNeg then (-3, t) else (wr_ (sg_wa t.1 g.toNatClampNeg), (sw_wa t.1 (va_up (sg_wa t.1) g.toNatClampNeg (if p = -1 then 8 else p.toNatClampNeg)), t.2))) else (-1, t)
theorem wr_eq {w p : Nat} (hw : w ≤ 8) (hp : p < 8) : wr_ w = nI p ↔ w = p := by
  unfold wr_
  by_cases q : w = 8
  · rw [if_pos q]
    exact ⟨fun z => absurd z.symm (m6_ne (by omega)), fun z => by omega⟩
  · rw [if_neg q]
    exact nI_eq (by omega) (by omega)
theorem wa_le {s : Sg_} (w : sg_wf s) (g : Nat) : sg_wa s g ≤ 8 := by
  have h1 := w.1.2
  rcases w.2.2.2.2.2.2.2.1.1 g with q | q <;> omega
/-- wants put anew -/
theorem RB_wa {h0 h : Hp_} {t : Rt_} {g v : Nat} (B : RB_ h0 h t) (hg : g < sg_n t.1) (hv : v < sg_n t.1 ∨ v = 8) (hne : v ≠ 8 → ∀ o, o < sg_n t.1 → o ≠ g → sg_wa t.1 o ≠ v) {x : Int32} (hx : x = wr_ v) : RB_ h0 (hp_rI h 68 (va_up (hp_I h 68) g x)) (sw_wa t.1 (va_up (sg_wa t.1) g v), t.2) := by
  have n8 := B.n8
  obtain ⟨w1, w2, w3⟩ := B.w.2.2.2.2.2.2.2.1
  refine RB_row B (sw_wa_wf B.w ⟨fun q => ?_, fun q q2 e hq => ?_, fun q hq => ?_⟩) (by omega) rfl rfl rfl rfl rfl rfl ?_ ?_ ?_ ?_ ?_ ?_ ?_
  · rw [vu_at]
    split
    · exact hv
    · exact w1 q
  · rw [vu_at] at hq
    rw [vu_at, vu_at] at e
    by_cases y : q = g
    · rw [if_pos y] at e hq
      by_cases y2 : q2 = g
      · rw [y, y2]
      · rw [if_neg y2] at e
        rcases Nat.lt_or_ge q2 (sg_n t.1) with z | z
        · exact absurd e.symm (hne hq q2 z y2)
        · rw [w3 q2 z] at e; exact absurd e hq
    · rw [if_neg y] at e hq
      by_cases y2 : q2 = g
      · rw [if_pos y2] at e
        rcases Nat.lt_or_ge q (sg_n t.1) with z | z
        · exact absurd e (hne (by rw [← e]; exact hq) q z y)
        · exact absurd (w3 q z) hq
      · rw [if_neg y2] at e
        exact w2 q q2 e hq
  · rw [vu_at, if_neg (by omega)]
    exact w3 q hq
  · intro f2 p h1 h2; rw [sd_rI_ne (by decide)]; exact B.told h1 h2
  · intro p h1; rw [sd_rI_ne (by decide)]; exact B.good h1
  · intro q h1
    rw [sd_rI_eq, vu_at]
    show _ = wr_ (va_up (sg_wa t.1) g v q)
    rw [vu_at]
    split
    · exact hx
    · exact B.wa h1
  · intro p h1; rw [sd_rI_ne (by decide)]; exact B.mu h1
  · intro p h1; rw [sd_rI_ne (by decide)]; exact B.ca h1
  · intro i q hq; rw [sd_rI_ne (by decide), sd_rI_ne (by decide), sd_rI_ne (by decide)]; exact B.si hq
  · intro i q hq; rw [sd_rI_ne (by decide), sd_rI_ne (by decide), sd_rI_ne (by decide)]; exact B.wi hq
theorem Ref_want_ok {h0 h : Hp_} {t : Rt_} {g p : Int32} (B : RB_ h0 h t) : cI 3 mn_Ref_want [.ref 65, .int g, .int p] h (fun y h' => y = (an_want t g p).1 ∧ RB_ h0 h' (an_want t g p).2) := by
  have n8 := B.n8
  refine cq_in (q := mi_Ref_want) (L := [some (.ref 65), some (.int g), some (.int p), none]) rfl (Nat.le_of_ble_eq_true rfl) rfl ?_
  show wq _ tb_Ref_want none 0 _ _ _ _
  refine wp_aload0 rfl ?_
  refine wp_iload1 rfl ?_
  refine wp_callV1I rfl (Nat.le_of_ble_eq_true rfl) (Ref_kd B.S) (Ref_isPlace_ok B) (Nat.le_of_ble_eq_true rfl) ?_
  refine pure_ ?_
  refine wp_if_eqB rfl (fun c1 => ?_) (fun c1 => ?_)
  · skip
    refine wp_iconst rfl ?_
    have e : an_want t g p = (-1, t) := by unfold an_want; rw [c1]; rfl
    rw [e]
    exact wp_iret rfl ⟨_, rfl, rfl, B⟩
  · skip
    obtain ⟨g, hg, rfl⟩ := hs_of c1 n8
    refine wp_iload2 rfl ?_
    refine wp_iconst rfl ?_
    refine wp_icmp_eq rfl (fun c2 => ?_) (fun c2 => ?_)
    · skip
      subst c2
      have e : an_want t (nI g) (-1) = (wr_ (sg_wa t.1 g), (sw_wa t.1 (va_up (sg_wa t.1) g 8), t.2)) := by
        unfold an_want
        rw [show hs_ t.1 (nI g) = true from c1, decide_eq_true (rfl : (-1 : Int32) = -1), Bool.true_or, Bool.true_and, if_pos rfl, if_neg (fun z => z.1 rfl), nI_clamp (show g < 2 ^ 31 by omega), if_pos rfl]
      rw [e]
      refine wp_iconst rfl ?_
      refine wp_istore3 rfl rfl ?_
      refine wq_loop (X := Unit) (fun o x => [some (.ref 65), some (.int (nI g)), some (.int (-1)), some (.int (nI o))]) (fun o x h1 => h1 = h) (sg_n t.1) (0) (()) ?_ ?_ ?_ ?_
      · omega
      · rfl
      · intro o x h1 hi I k
        show wq _ tb_Ref_want _ 25 [some (.ref 65), some (.int (nI g)), some (.int (-1)), some (.int (nI o))] [] h1 _
        obtain rfl := I
        refine wp_iload3 rfl ?_
        refine wp_aload0 rfl ?_
        refine wp_getIE rfl (Ref_kd B.S) (show _ = nI (sg_n t.1) from B.n) ?_
        refine wp_icmp_geN o (sg_n t.1) (by omega) (by omega) rfl (fun z => absurd z (by omega)) (fun _ => ?_)
        refine wp_iload3 rfl ?_
        refine wp_iload1 rfl ?_
        refine wp_icmp_eqN o g (by omega) (by omega) rfl (fun c3 => ?_) (fun c3 => ?_)
        · skip
          refine wp_iinc3N rfl rfl ?_
          refine wp_goto rfl ?_
          exact k () _ rfl
        · skip
          refine wp_iload2 rfl ?_
          refine wp_if_lt rfl (fun _ => ?_) (fun z => absurd z (by decide))
          refine wp_iinc3N rfl rfl ?_
          refine wp_goto rfl ?_
          exact k () _ rfl
      · intro x h1 I
        show wq _ tb_Ref_want _ 25 [some (.ref 65), some (.int (nI g)), some (.int (-1)), some (.int (nI (sg_n t.1)))] [] h1 _
        obtain rfl := I
        refine wp_iload3 rfl ?_
        refine wp_aload0 rfl ?_
        refine wp_getIE rfl (Ref_kd B.S) (show _ = nI (sg_n t.1) from B.n) ?_
        refine wp_icmp_geN (sg_n t.1) (sg_n t.1) (by omega) (by omega) rfl (fun _ => ?_) (fun z => absurd z (by omega))
        refine wp_aload0 rfl ?_
        refine wp_getR rfl (Ref_kd B.S) (Ref_R3 B.S) (by first | decide | omega) ?_
        refine wp_iload1 rfl ?_
        refine wp_ialdE g rfl (Ref_k3 B.S) (by first | decide | omega) (Nat.lt_of_lt_of_eq (show g < _ by omega) (Eq.symm (Ref_n3 B.S))) (by omega) (B.wa (by omega)) rfl ?_
        refine wp_istore3 rfl rfl ?_
        refine wp_aload0 rfl ?_
        refine wp_getR rfl (Ref_kd B.S) (Ref_R3 B.S) (by first | decide | omega) ?_
        refine wp_iload1 rfl ?_
        refine wp_iload2 rfl ?_
        refine wp_iconst rfl ?_
        refine wp_icmp_ne rfl (fun z => absurd z (fun z => z rfl)) (fun _ => ?_)
        refine wp_bipush rfl ?_
        refine wp_goto rfl ?_
        refine wp_iast g rfl (Ref_k3 B.S) (Nat.lt_of_lt_of_eq (show g < _ by omega) (Eq.symm (Ref_n3 B.S))) (by omega) rfl ?_
        refine wp_iload3 rfl ?_
        exact wp_iret rfl ⟨_, rfl, rfl, RB_wa B hg (Or.inr rfl) (fun z => absurd rfl z) rfl⟩
    · skip
      refine wp_aload0 rfl ?_
      refine wp_iload2 rfl ?_
      refine wp_callV1I rfl (Nat.le_of_ble_eq_true rfl) (Ref_kd B.S) (Ref_isPlace_ok B) (Nat.le_of_ble_eq_true rfl) ?_
      refine pure_ ?_
      refine wp_if_neB rfl (fun c3 => ?_) (fun c3 => ?_)
      · skip
        obtain ⟨p, hp, rfl⟩ := hs_of c3 n8
        have hne : nI p ≠ -1 := nI_ne_m1 (by omega)
        have e0 : an_want t (nI g) (nI p) = if ∃ o, o < sg_n t.1 ∧ o ≠ g ∧ sg_wa t.1 o = p then (-3, t) else (wr_ (sg_wa t.1 g), (sw_wa t.1 (va_up (sg_wa t.1) g p), t.2)) := by
          unfold an_want
          rw [show hs_ t.1 (nI g) = true from c1, show hs_ t.1 (nI p) = true from c3, Bool.or_true, Bool.true_and, if_pos rfl, nI_clamp (show g < 2 ^ 31 by omega), nI_clamp (show p < 2 ^ 31 by omega), if_neg hne]
          by_cases q : ∃ o, o < sg_n t.1 ∧ o ≠ g ∧ sg_wa t.1 o = p
          · rw [if_pos ⟨hne, q⟩, if_pos q]
          · rw [if_neg (fun z => q z.2), if_neg q]
        refine wp_iconst rfl ?_
        refine wp_istore3 rfl rfl ?_
        refine wq_loop (X := Unit) (fun o x => [some (.ref 65), some (.int (nI g)), some (.int (nI p)), some (.int (nI o))]) (fun o x h1 => h1 = h ∧ ∀ o2, o2 < o → ¬ (o2 ≠ g ∧ sg_wa t.1 o2 = p)) (sg_n t.1) (0) (()) ?_ ?_ ?_ ?_
        · omega
        · exact ⟨rfl, fun o2 ho => by omega⟩
        · intro o x h1 hi I k
          show wq _ tb_Ref_want _ 25 [some (.ref 65), some (.int (nI g)), some (.int (nI p)), some (.int (nI o))] [] h1 _
          obtain ⟨rfl, a1⟩ := I
          refine wp_iload3 rfl ?_
          refine wp_aload0 rfl ?_
          refine wp_getIE rfl (Ref_kd B.S) (show _ = nI (sg_n t.1) from B.n) ?_
          refine wp_icmp_geN o (sg_n t.1) (by omega) (by omega) rfl (fun z => absurd z (by omega)) (fun _ => ?_)
          refine wp_iload3 rfl ?_
          refine wp_iload1 rfl ?_
          refine wp_icmp_eqN o g (by omega) (by omega) rfl (fun c4 => ?_) (fun c4 => ?_)
          · skip
            refine wp_iinc3N rfl rfl ?_
            refine wp_goto rfl ?_
            exact k () _ ⟨rfl, fun o2 ho => by
              rcases Nat.lt_or_ge o2 o with q | q
              · exact a1 o2 q
              · rintro ⟨z, -⟩; omega⟩
          · skip
            refine wp_iload2 rfl ?_
            refine wp_if_ltN p 0 (by omega) (by decide) rfl ?_
            refine wp_aload0 rfl ?_
            refine wp_getR rfl (Ref_kd B.S) (Ref_R3 B.S) (by first | decide | omega) ?_
            refine wp_iload3 rfl ?_
            refine wp_ialdE o rfl (Ref_k3 B.S) (by first | decide | omega) (Nat.lt_of_lt_of_eq (show o < _ by omega) (Eq.symm (Ref_n3 B.S))) (by omega) (B.wa (by omega)) rfl ?_
            refine wp_iload2 rfl ?_
            refine wp_icmp_ne rfl (fun c6 => ?_) (fun c6 => ?_)
            · skip
              refine wp_iinc3N rfl rfl ?_
              refine wp_goto rfl ?_
              exact k () _ ⟨rfl, fun o2 ho => by
                rcases Nat.lt_or_ge o2 o with q | q
                · exact a1 o2 q
                · obtain rfl : o2 = o := by omega
                  rintro ⟨-, z⟩
                  exact c6 ((wr_eq (wa_le B.w _) (by omega)).mpr z)⟩
            · skip
              refine wp_bipush rfl ?_
              have e : an_want t (nI g) (nI p) = (-3, t) := by rw [e0, if_pos ⟨o, by omega, c4, (wr_eq (wa_le B.w _) (by omega)).mp (Classical.not_not.mp c6)⟩]
              rw [e]
              exact wp_iret rfl ⟨_, rfl, rfl, B⟩
        · intro x h1 I
          show wq _ tb_Ref_want _ 25 [some (.ref 65), some (.int (nI g)), some (.int (nI p)), some (.int (nI (sg_n t.1)))] [] h1 _
          obtain ⟨rfl, a1⟩ := I
          have e : an_want t (nI g) (nI p) = (wr_ (sg_wa t.1 g), (sw_wa t.1 (va_up (sg_wa t.1) g p), t.2)) := by rw [e0, if_neg (by rintro ⟨o, h1, h2⟩; exact a1 o h1 h2)]
          rw [e]
          refine wp_iload3 rfl ?_
          refine wp_aload0 rfl ?_
          refine wp_getIE rfl (Ref_kd B.S) (show _ = nI (sg_n t.1) from B.n) ?_
          refine wp_icmp_geN (sg_n t.1) (sg_n t.1) (by omega) (by omega) rfl (fun _ => ?_) (fun z => absurd z (by omega))
          refine wp_aload0 rfl ?_
          refine wp_getR rfl (Ref_kd B.S) (Ref_R3 B.S) (by first | decide | omega) ?_
          refine wp_iload1 rfl ?_
          refine wp_ialdE g rfl (Ref_k3 B.S) (by first | decide | omega) (Nat.lt_of_lt_of_eq (show g < _ by omega) (Eq.symm (Ref_n3 B.S))) (by omega) (B.wa (by omega)) rfl ?_
          refine wp_istore3 rfl rfl ?_
          refine wp_aload0 rfl ?_
          refine wp_getR rfl (Ref_kd B.S) (Ref_R3 B.S) (by first | decide | omega) ?_
          refine wp_iload1 rfl ?_
          refine wp_iload2 rfl ?_
          refine wp_iconst rfl ?_
          refine wp_icmp_ne rfl (fun _ => ?_) (fun z => absurd z (fun z => z hne))
          refine wp_iload2 rfl ?_
          refine wp_iast g rfl (Ref_k3 B.S) (Nat.lt_of_lt_of_eq (show g < _ by omega) (Eq.symm (Ref_n3 B.S))) (by omega) rfl ?_
          refine wp_iload3 rfl ?_
          exact wp_iret rfl ⟨_, rfl, rfl, RB_wa B hg (Or.inl hp) (fun _ o h1 h2 h3 => a1 o h1 ⟨h2, h3⟩) (by unfold wr_; rw [if_neg (by omega)])⟩
      · skip
        refine wp_iconst rfl ?_
        have e : an_want t (nI g) p = (-1, t) := by unfold an_want; rw [show hs_ t.1 (nI g) = true from c1, decide_eq_false c2, show hs_ t.1 p = false from c3]; rfl
        rw [e]
        exact wp_iret rfl ⟨_, rfl, rfl, B⟩
def an_caller (t : Rt_) (c f : Int32) : Int32 × Rt_ := if rg_ 0 1 c then (if rg_ 0 63 f then (nI (sg_ca t.1 c.toNatClampNeg), (sw_ca t.1 (va_up (sg_ca t.1) c.toNatClampNeg f.toNatClampNeg), t.2)) else (-2, t)) else (-1, t)
theorem Ref_caller_ok {h0 h : Hp_} {t : Rt_} {c f : Int32} (B : RB_ h0 h t) : cI 2 mn_Ref_caller [.ref 65, .int c, .int f] h (fun y h' => y = (an_caller t c f).1 ∧ RB_ h0 h' (an_caller t c f).2) := by
  refine cq_in (q := mi_Ref_caller) (L := [some (.ref 65), some (.int c), some (.int f), none]) rfl (Nat.le_of_ble_eq_true rfl) rfl ?_
  show wq _ tb_Ref_caller none 0 _ _ _ _
  refine wp_iload1 rfl ?_
  refine wp_i2l rfl ?_
  refine wp_lconst rfl ?_
  refine wp_lconst rfl ?_
  refine wp_callS3I rfl (Nat.le_of_ble_eq_true rfl) (Ref_inN_ok (a := 0) (b := 1) (by omega) (by omega)) (Nat.le_of_ble_eq_true rfl) ?_
  refine pure_ ?_
  refine wp_if_neB rfl (fun c1 => ?_) (fun c1 => ?_)
  · skip
    obtain ⟨c, hc, rfl⟩ := rg01 c1
    refine wp_iload2 rfl ?_
    refine wp_i2l rfl ?_
    refine wp_lconst rfl ?_
    refine wp_ldc2_w rfl ?_
    refine wp_callS3I rfl (Nat.le_of_ble_eq_true rfl) (Ref_inN_ok (a := 0) (b := 63) (by omega) (by omega)) (Nat.le_of_ble_eq_true rfl) ?_
    refine pure_ ?_
    have e0 : an_caller t (nI c) f = if rg_ 0 63 f then (nI (sg_ca t.1 c), (sw_ca t.1 (va_up (sg_ca t.1) c f.toNatClampNeg), t.2)) else (-2, t) := by unfold an_caller; rw [show rg_ 0 1 (nI c) = true from c1, if_pos rfl, nI_clamp (show c < 2 ^ 31 by omega)]
    refine wp_if_neB rfl (fun c2 => ?_) (fun c2 => ?_)
    · skip
      have e : an_caller t (nI c) f = (nI (sg_ca t.1 c), (sw_ca t.1 (va_up (sg_ca t.1) c f.toNatClampNeg), t.2)) := by rw [e0, show rg_ 0 63 f = true from c2, if_pos rfl]
      rw [e]
      obtain ⟨m, m1, hm, hmb, rfl⟩ := rg_of (a := 0) (b := 63) c2
      rw [nI_clamp hmb]
      refine wp_aload0 rfl ?_
      refine wp_getR rfl (Ref_kd B.S) (Ref_R8 B.S) (by first | decide | omega) ?_
      refine wp_iload1 rfl ?_
      refine wp_ialdE c rfl (Ref_k8 B.S) (by first | decide | omega) (Nat.lt_of_lt_of_eq (show c < _ by omega) (Eq.symm (Ref_n8 B.S))) (by omega) (show _ = nI (sg_ca t.1 c) from B.ca hc) rfl ?_
      refine wp_istore3 rfl rfl ?_
      refine wp_aload0 rfl ?_
      refine wp_getR rfl (Ref_kd B.S) (Ref_R8 B.S) (by first | decide | omega) ?_
      refine wp_iload1 rfl ?_
      refine wp_iload2 rfl ?_
      refine wp_iast c rfl (Ref_k8 B.S) (Nat.lt_of_lt_of_eq (show c < _ by omega) (Eq.symm (Ref_n8 B.S))) (by omega) rfl ?_
      refine wp_iload3 rfl ?_
      refine wp_iret rfl ?_
      refine ⟨_, rfl, rfl, RB_row B (sw_ca_wf B.w (fun c2 => ?_)) (by omega) rfl rfl rfl rfl rfl rfl ?_ ?_ ?_ ?_ ?_ ?_ ?_⟩
      · rw [vu_at]
        split
        · omega
        · exact B.w.2.2.2.2.2.2.2.2.1 c2
      · intro f2 p h1 h2; rw [sd_rI_ne (by decide)]; exact B.told h1 h2
      · intro p h1; rw [sd_rI_ne (by decide)]; exact B.good h1
      · intro p h1; rw [sd_rI_ne (by decide)]; exact B.wa h1
      · intro p h1; rw [sd_rI_ne (by decide)]; exact B.mu h1
      · intro k hk
        rw [sd_rI_eq, vu_at]
        show _ = nI (va_up (sg_ca t.1) c m k)
        rw [vu_at]
        split
        · rfl
        · exact B.ca hk
      · intro i q hq; rw [sd_rI_ne (by decide), sd_rI_ne (by decide), sd_rI_ne (by decide)]; exact B.si hq
      · intro i q hq; rw [sd_rI_ne (by decide), sd_rI_ne (by decide), sd_rI_ne (by decide)]; exact B.wi hq
    · skip
      refine wp_bipush rfl ?_
      have e : an_caller t (nI c) f = (-2, t) := by rw [e0, show rg_ 0 63 f = false from c2]; rfl
      rw [e]
      exact wp_iret rfl ⟨_, rfl, rfl, B⟩
  · skip
    refine wp_iconst rfl ?_
    have e : an_caller t c f = (-1, t) := by unfold an_caller; rw [show rg_ 0 1 c = false from c1]; rfl
    rw [e]
    exact wp_iret rfl ⟨_, rfl, rfl, B⟩
theorem get_snoc {α : Type} {l : List α} {a q : α} {i : Nat} (h : (l ++ [a])[i]? = some q) : (i < l.length ∧ l[i]? = some q) ∨ (i = l.length ∧ q = a) := by
  rcases Nat.lt_or_ge i l.length with z | z
  · rw [List.getElem?_append_left z] at h
    exact Or.inl ⟨z, h⟩
  · have h1 := (List.getElem?_eq_some_iff.mp h).1
    rw [List.length_append] at h1
    have h2 : i < l.length + 1 := h1
    obtain rfl : i = l.length := by omega
    rw [List.getElem?_concat_length] at h
    cases h
    exact Or.inr ⟨rfl, rfl⟩
theorem si_len {s : Sg_} (w : sg_wf s) : (sg_si s).length ≤ 6 := w.2.2.2.2.2.2.2.2.2.1
theorem wi_len {s : Sg_} (w : sg_wf s) : (sg_wi s).length ≤ 6 := w.2.2.2.2.2.2.2.2.2.2.2.1

def an_seen (t : Rt_) (b g p : Int32) : Int32 × Rt_ := if hs_ t.1 g && hs_ t.1 p then (if rg_ 0 12 b then (if (sg_si t.1).length = 6 then (-4, t) else (nI ((sg_si t.1).length + 1), (sw_si t.1 (sg_si t.1 ++ [(b.toNatClampNeg, g.toNatClampNeg, p.toNatClampNeg)]), t.2))) else (-2, t)) else (-1, t)
theorem Ref_seen_ok {h0 h : Hp_} {t : Rt_} {b g p : Int32} (B : RB_ h0 h t) : cI 3 mn_Ref_seen [.ref 65, .int b, .int g, .int p] h (fun y h' => y = (an_seen t b g p).1 ∧ RB_ h0 h' (an_seen t b g p).2) := by
  have n8 := B.n8
  have hl6 := si_len B.w
  refine cq_in (q := mi_Ref_seen) (L := [some (.ref 65), some (.int b), some (.int g), some (.int p)]) rfl (Nat.le_of_ble_eq_true rfl) rfl ?_
  show wq _ tb_Ref_seen none 0 _ _ _ _
  refine wp_aload0 rfl ?_
  refine wp_iload2 rfl ?_
  refine wp_callV1I rfl (Nat.le_of_ble_eq_true rfl) (Ref_kd B.S) (Ref_isPlace_ok B) (Nat.le_of_ble_eq_true rfl) ?_
  refine pure_ ?_
  refine wp_if_eqB rfl (fun c1 => ?_) (fun c1 => ?_)
  · skip
    refine wp_iconst rfl ?_
    have e : an_seen t b g p = (-1, t) := by unfold an_seen; rw [c1]; rfl
    rw [e]
    exact wp_iret rfl ⟨_, rfl, rfl, B⟩
  · skip
    refine wp_aload0 rfl ?_
    refine wp_iload3 rfl ?_
    refine wp_callV1I rfl (Nat.le_of_ble_eq_true rfl) (Ref_kd B.S) (Ref_isPlace_ok B) (Nat.le_of_ble_eq_true rfl) ?_
    refine pure_ ?_
    refine wp_if_neB rfl (fun c2 => ?_) (fun c2 => ?_)
    · skip
      have e1 : an_seen t b g p = if rg_ 0 12 b then (if (sg_si t.1).length = 6 then (-4, t) else (nI ((sg_si t.1).length + 1), (sw_si t.1 (sg_si t.1 ++ [(b.toNatClampNeg, g.toNatClampNeg, p.toNatClampNeg)]), t.2))) else (-2, t) := by unfold an_seen; rw [c1, c2]; rfl
      refine wp_iload1 rfl ?_
      refine wp_i2l rfl ?_
      refine wp_lconst rfl ?_
      refine wp_ldc2_w rfl ?_
      refine wp_callS3I rfl (Nat.le_of_ble_eq_true rfl) (Ref_inN_ok (a := 0) (b := 12) (by omega) (by omega)) (Nat.le_of_ble_eq_true rfl) ?_
      refine pure_ ?_
      refine wp_if_neB rfl (fun c3 => ?_) (fun c3 => ?_)
      · skip
        refine wp_aload0 rfl ?_
        refine wp_getIE rfl (Ref_kd B.S) (show _ = nI ((sg_si t.1).length) from B.sn) ?_
        refine wp_bipush rfl ?_
        refine wp_icmp_neN ((sg_si t.1).length) 6 (by omega) (by omega) rfl (fun c4 => ?_) (fun c4 => ?_)
        · skip
          have e : an_seen t b g p = (nI ((sg_si t.1).length + 1), (sw_si t.1 (sg_si t.1 ++ [(b.toNatClampNeg, g.toNatClampNeg, p.toNatClampNeg)]), t.2)) := by rw [e1, show rg_ 0 12 b = true from c3, if_pos rfl, if_neg c4]
          rw [e]
          obtain ⟨g, hg, rfl⟩ := hs_of c1 n8
          obtain ⟨p, hp, rfl⟩ := hs_of c2 n8
          obtain ⟨v, v1, v2, vb, rfl⟩ := rg_of (a := 0) (b := 12) c3
          rw [nI_clamp (show g < 2 ^ 31 by omega), nI_clamp (show p < 2 ^ 31 by omega), nI_clamp vb]

          refine wp_aload0 rfl ?_
          refine wp_getR rfl (Ref_kd B.S) (Ref_R9 B.S) (by first | decide | omega) ?_
          refine wp_aload0 rfl ?_
          refine wp_getIE rfl (Ref_kd B.S) (show _ = nI ((sg_si t.1).length) from B.sn) ?_
          refine wp_iload1 rfl ?_
          refine wp_iast ((sg_si t.1).length) rfl (Ref_k9 B.S) (Nat.lt_of_lt_of_eq (show ((sg_si t.1).length) < _ by omega) (Eq.symm (Ref_n9 B.S))) (by omega) rfl ?_
          refine wp_aload0 rfl ?_
          refine wp_getR rfl (Ref_kd B.S) (Ref_R10 B.S) (by first | decide | omega) ?_
          refine wp_aload0 rfl ?_
          refine wp_getIE rfl (Ref_kd B.S) (show _ = nI ((sg_si t.1).length) from by rw [sd_rI_ne (by decide)]; exact B.sn) ?_
          refine wp_iload2 rfl ?_
          refine wp_iast ((sg_si t.1).length) rfl (Ref_k10 B.S) (Nat.lt_of_lt_of_eq (show ((sg_si t.1).length) < _ by omega) (Eq.symm (Ref_n10 B.S))) (by omega) rfl ?_
          refine wp_aload0 rfl ?_
          refine wp_getR rfl (Ref_kd B.S) (Ref_R11 B.S) (by first | decide | omega) ?_
          refine wp_aload0 rfl ?_
          refine wp_getIE rfl (Ref_kd B.S) (show _ = nI ((sg_si t.1).length) from by rw [sd_rI_ne (by decide), sd_rI_ne (by decide)]; exact B.sn) ?_
          refine wp_iload3 rfl ?_
          refine wp_iast ((sg_si t.1).length) rfl (Ref_k11 B.S) (Nat.lt_of_lt_of_eq (show ((sg_si t.1).length) < _ by omega) (Eq.symm (Ref_n11 B.S))) (by omega) rfl ?_
          refine wp_aload0 rfl ?_
          refine wp_dup rfl ?_
          refine wp_getIE rfl (Ref_kd B.S) (show _ = nI ((sg_si t.1).length) from by rw [sd_rI_ne (by decide), sd_rI_ne (by decide), sd_rI_ne (by decide)]; exact B.sn) ?_
          refine wp_iconst rfl ?_
          refine wp_iaddE (nI (((sg_si t.1).length) + 1)) (nI_add _ _) rfl ?_
          refine wp_putI rfl (Ref_kd B.S) ?_
          refine wp_aload0 rfl ?_
          refine wp_getIE rfl (Ref_kd B.S) (show _ = nI ((sg_si t.1).length + 1) from by rw [sd_rI_eq, sd_up_eq]) ?_
          refine wp_iret rfl ?_
          refine ⟨_, rfl, rfl, RB_new B (fz_rI (fz_rI (fz_rI (fz_rI (fz_refl _ _) (by omega) _) (by omega) _) (by omega) _) (by omega) _) ⟨⟨?_, ?_, ?_, ?_, ?_, ?_⟩, ?_, ?_, ?_, ?_, ?_, ?_, ?_⟩ (sw_si_wf B.w ?_ ?_) ⟨?_, B.c30, ?_, B.g127⟩⟩
          · simp (disch := omega) only [hI_rI, vu_at, if_pos, if_neg]
            exact B.n
          · simp (disch := omega) only [hI_rI, vu_at, if_pos, if_neg]
            exact B.lm
          · simp (disch := omega) only [hI_rI, vu_at, if_pos, if_neg]
            exact B.pl
          · simp (disch := omega) only [hI_rI, vu_at, if_pos, if_neg]
            exact B.le
          · simp (disch := omega) only [hI_rI, vu_at, if_pos, if_neg]
            exact congrArg nI (show _ = (_ ++ [_]).length by rw [List.length_append]; rfl)
          · simp (disch := omega) only [hI_rI, vu_at, if_pos, if_neg]
            exact B.wn
          · intro f2 p h1 h2; simp (disch := omega) only [hI_rI, vu_at, if_pos, if_neg]; exact B.told h1 h2
          · intro p h1; simp (disch := omega) only [hI_rI, vu_at, if_pos, if_neg]; exact B.good h1
          · intro p h1; simp (disch := omega) only [hI_rI, vu_at, if_pos, if_neg]; exact B.wa h1
          · intro p h1; simp (disch := omega) only [hI_rI, vu_at, if_pos, if_neg]; exact B.mu h1
          · intro p h1; simp (disch := omega) only [hI_rI, vu_at, if_pos, if_neg]; exact B.ca h1
          · intro i q hq
            rcases get_snoc hq with ⟨z, y⟩ | ⟨z, y⟩
            · simp (disch := omega) only [hI_rI, vu_at, if_pos, if_neg]
              exact B.si y
            · simp (disch := omega) only [hI_rI, vu_at, if_pos, if_neg]
              rw [y]
              exact ⟨rfl, rfl, rfl⟩
          · intro i q hq; simp (disch := omega) only [hI_rI, vu_at, if_pos, if_neg]; exact B.wi hq
          · rw [List.length_append]; show (sg_si t.1).length + 1 ≤ 6; omega
          · intro q hq
            rcases List.mem_append.mp hq with z | z
            · exact B.w.2.2.2.2.2.2.2.2.2.2.1 q z
            · rw [List.mem_singleton.mp z]; exact ⟨v2, hg, hp⟩
          · simp (disch := omega) only [hI_rI, vu_at, if_pos, if_neg]
            exact B.c
          · intro i hi; simp (disch := omega) only [hI_rI, vu_at, if_pos, if_neg]; exact B.pad hi
        · skip
          refine wp_bipush rfl ?_
          have e : an_seen t b g p = (-4, t) := by rw [e1, show rg_ 0 12 b = true from c3, if_pos rfl, if_pos c4]
          rw [e]
          exact wp_iret rfl ⟨_, rfl, rfl, B⟩
      · skip
        refine wp_bipush rfl ?_
        have e : an_seen t b g p = (-2, t) := by rw [e1, show rg_ 0 12 b = false from c3]; rfl
        rw [e]
        exact wp_iret rfl ⟨_, rfl, rfl, B⟩
    · skip
      refine wp_iconst rfl ?_
      have e : an_seen t b g p = (-1, t) := by unfold an_seen; rw [c1, c2]; rfl
      rw [e]
      exact wp_iret rfl ⟨_, rfl, rfl, B⟩
def an_wish (t : Rt_) (g p w : Int32) : Int32 × Rt_ := if hs_ t.1 g && hs_ t.1 p then (if rg_ 1 99 w then (if (sg_wi t.1).length = 6 then (-4, t) else (nI ((sg_wi t.1).length + 1), (sw_wi t.1 (sg_wi t.1 ++ [(w.toNatClampNeg, g.toNatClampNeg, p.toNatClampNeg)]), t.2))) else (-2, t)) else (-1, t)
theorem Ref_wish_ok {h0 h : Hp_} {t : Rt_} {g p w : Int32} (B : RB_ h0 h t) : cI 3 mn_Ref_wish [.ref 65, .int g, .int p, .int w] h (fun y h' => y = (an_wish t g p w).1 ∧ RB_ h0 h' (an_wish t g p w).2) := by
  have n8 := B.n8
  have hl6 := wi_len B.w
  refine cq_in (q := mi_Ref_wish) (L := [some (.ref 65), some (.int g), some (.int p), some (.int w)]) rfl (Nat.le_of_ble_eq_true rfl) rfl ?_
  show wq _ tb_Ref_wish none 0 _ _ _ _
  refine wp_aload0 rfl ?_
  refine wp_iload1 rfl ?_
  refine wp_callV1I rfl (Nat.le_of_ble_eq_true rfl) (Ref_kd B.S) (Ref_isPlace_ok B) (Nat.le_of_ble_eq_true rfl) ?_
  refine pure_ ?_
  refine wp_if_eqB rfl (fun c1 => ?_) (fun c1 => ?_)
  · skip
    refine wp_iconst rfl ?_
    have e : an_wish t g p w = (-1, t) := by unfold an_wish; rw [c1]; rfl
    rw [e]
    exact wp_iret rfl ⟨_, rfl, rfl, B⟩
  · skip
    refine wp_aload0 rfl ?_
    refine wp_iload2 rfl ?_
    refine wp_callV1I rfl (Nat.le_of_ble_eq_true rfl) (Ref_kd B.S) (Ref_isPlace_ok B) (Nat.le_of_ble_eq_true rfl) ?_
    refine pure_ ?_
    refine wp_if_neB rfl (fun c2 => ?_) (fun c2 => ?_)
    · skip
      have e1 : an_wish t g p w = if rg_ 1 99 w then (if (sg_wi t.1).length = 6 then (-4, t) else (nI ((sg_wi t.1).length + 1), (sw_wi t.1 (sg_wi t.1 ++ [(w.toNatClampNeg, g.toNatClampNeg, p.toNatClampNeg)]), t.2))) else (-2, t) := by unfold an_wish; rw [c1, c2]; rfl
      refine wp_iload3 rfl ?_
      refine wp_i2l rfl ?_
      refine wp_lconst rfl ?_
      refine wp_ldc2_w rfl ?_
      refine wp_callS3I rfl (Nat.le_of_ble_eq_true rfl) (Ref_inN_ok (a := 1) (b := 99) (by omega) (by omega)) (Nat.le_of_ble_eq_true rfl) ?_
      refine pure_ ?_
      refine wp_if_neB rfl (fun c3 => ?_) (fun c3 => ?_)
      · skip
        refine wp_aload0 rfl ?_
        refine wp_getIE rfl (Ref_kd B.S) (show _ = nI ((sg_wi t.1).length) from B.wn) ?_
        refine wp_bipush rfl ?_
        refine wp_icmp_neN ((sg_wi t.1).length) 6 (by omega) (by omega) rfl (fun c4 => ?_) (fun c4 => ?_)
        · skip
          have e : an_wish t g p w = (nI ((sg_wi t.1).length + 1), (sw_wi t.1 (sg_wi t.1 ++ [(w.toNatClampNeg, g.toNatClampNeg, p.toNatClampNeg)]), t.2)) := by rw [e1, show rg_ 1 99 w = true from c3, if_pos rfl, if_neg c4]
          rw [e]
          obtain ⟨g, hg, rfl⟩ := hs_of c1 n8
          obtain ⟨p, hp, rfl⟩ := hs_of c2 n8
          obtain ⟨v, v1, v2, vb, rfl⟩ := rg_of (a := 1) (b := 99) c3
          rw [nI_clamp (show g < 2 ^ 31 by omega), nI_clamp (show p < 2 ^ 31 by omega), nI_clamp vb]

          refine wp_aload0 rfl ?_
          refine wp_getR rfl (Ref_kd B.S) (Ref_R13 B.S) (by first | decide | omega) ?_
          refine wp_aload0 rfl ?_
          refine wp_getIE rfl (Ref_kd B.S) (show _ = nI ((sg_wi t.1).length) from B.wn) ?_
          refine wp_iload1 rfl ?_
          refine wp_iast ((sg_wi t.1).length) rfl (Ref_k13 B.S) (Nat.lt_of_lt_of_eq (show ((sg_wi t.1).length) < _ by omega) (Eq.symm (Ref_n13 B.S))) (by omega) rfl ?_
          refine wp_aload0 rfl ?_
          refine wp_getR rfl (Ref_kd B.S) (Ref_R14 B.S) (by first | decide | omega) ?_
          refine wp_aload0 rfl ?_
          refine wp_getIE rfl (Ref_kd B.S) (show _ = nI ((sg_wi t.1).length) from by rw [sd_rI_ne (by decide)]; exact B.wn) ?_
          refine wp_iload2 rfl ?_
          refine wp_iast ((sg_wi t.1).length) rfl (Ref_k14 B.S) (Nat.lt_of_lt_of_eq (show ((sg_wi t.1).length) < _ by omega) (Eq.symm (Ref_n14 B.S))) (by omega) rfl ?_
          refine wp_aload0 rfl ?_
          refine wp_getR rfl (Ref_kd B.S) (Ref_R15 B.S) (by first | decide | omega) ?_
          refine wp_aload0 rfl ?_
          refine wp_getIE rfl (Ref_kd B.S) (show _ = nI ((sg_wi t.1).length) from by rw [sd_rI_ne (by decide), sd_rI_ne (by decide)]; exact B.wn) ?_
          refine wp_iload3 rfl ?_
          refine wp_iast ((sg_wi t.1).length) rfl (Ref_k15 B.S) (Nat.lt_of_lt_of_eq (show ((sg_wi t.1).length) < _ by omega) (Eq.symm (Ref_n15 B.S))) (by omega) rfl ?_
          refine wp_aload0 rfl ?_
          refine wp_dup rfl ?_
          refine wp_getIE rfl (Ref_kd B.S) (show _ = nI ((sg_wi t.1).length) from by rw [sd_rI_ne (by decide), sd_rI_ne (by decide), sd_rI_ne (by decide)]; exact B.wn) ?_
          refine wp_iconst rfl ?_
          refine wp_iaddE (nI (((sg_wi t.1).length) + 1)) (nI_add _ _) rfl ?_
          refine wp_putI rfl (Ref_kd B.S) ?_
          refine wp_aload0 rfl ?_
          refine wp_getIE rfl (Ref_kd B.S) (show _ = nI ((sg_wi t.1).length + 1) from by rw [sd_rI_eq, sd_up_eq]) ?_
          refine wp_iret rfl ?_
          refine ⟨_, rfl, rfl, RB_new B (fz_rI (fz_rI (fz_rI (fz_rI (fz_refl _ _) (by omega) _) (by omega) _) (by omega) _) (by omega) _) ⟨⟨?_, ?_, ?_, ?_, ?_, ?_⟩, ?_, ?_, ?_, ?_, ?_, ?_, ?_⟩ (sw_wi_wf B.w ?_ ?_) ⟨?_, B.c30, ?_, B.g127⟩⟩
          · simp (disch := omega) only [hI_rI, vu_at, if_pos, if_neg]
            exact B.n
          · simp (disch := omega) only [hI_rI, vu_at, if_pos, if_neg]
            exact B.lm
          · simp (disch := omega) only [hI_rI, vu_at, if_pos, if_neg]
            exact B.pl
          · simp (disch := omega) only [hI_rI, vu_at, if_pos, if_neg]
            exact B.le
          · simp (disch := omega) only [hI_rI, vu_at, if_pos, if_neg]
            exact B.sn
          · simp (disch := omega) only [hI_rI, vu_at, if_pos, if_neg]
            exact congrArg nI (show _ = (_ ++ [_]).length by rw [List.length_append]; rfl)
          · intro f2 p h1 h2; simp (disch := omega) only [hI_rI, vu_at, if_pos, if_neg]; exact B.told h1 h2
          · intro p h1; simp (disch := omega) only [hI_rI, vu_at, if_pos, if_neg]; exact B.good h1
          · intro p h1; simp (disch := omega) only [hI_rI, vu_at, if_pos, if_neg]; exact B.wa h1
          · intro p h1; simp (disch := omega) only [hI_rI, vu_at, if_pos, if_neg]; exact B.mu h1
          · intro p h1; simp (disch := omega) only [hI_rI, vu_at, if_pos, if_neg]; exact B.ca h1
          · intro i q hq; simp (disch := omega) only [hI_rI, vu_at, if_pos, if_neg]; exact B.si hq
          · intro i q hq
            rcases get_snoc hq with ⟨z, y⟩ | ⟨z, y⟩
            · simp (disch := omega) only [hI_rI, vu_at, if_pos, if_neg]
              exact B.wi y
            · simp (disch := omega) only [hI_rI, vu_at, if_pos, if_neg]
              rw [y]
              exact ⟨rfl, rfl, rfl⟩
          · rw [List.length_append]; show (sg_wi t.1).length + 1 ≤ 6; omega
          · intro q hq
            rcases List.mem_append.mp hq with z | z
            · exact B.w.2.2.2.2.2.2.2.2.2.2.2.2 q z
            · rw [List.mem_singleton.mp z]; exact ⟨⟨v1, v2⟩, hg, hp⟩
          · simp (disch := omega) only [hI_rI, vu_at, if_pos, if_neg]
            exact B.c
          · intro i hi; simp (disch := omega) only [hI_rI, vu_at, if_pos, if_neg]; exact B.pad hi
        · skip
          refine wp_bipush rfl ?_
          have e : an_wish t g p w = (-4, t) := by rw [e1, show rg_ 1 99 w = true from c3, if_pos rfl, if_pos c4]
          rw [e]
          exact wp_iret rfl ⟨_, rfl, rfl, B⟩
      · skip
        refine wp_bipush rfl ?_
        have e : an_wish t g p w = (-2, t) := by rw [e1, show rg_ 1 99 w = false from c3]; rfl
        rw [e]
        exact wp_iret rfl ⟨_, rfl, rfl, B⟩
    · skip
      refine wp_iconst rfl ?_
      have e : an_wish t g p w = (-1, t) := by unfold an_wish; rw [c1, c2]; rfl
      rw [e]
      exact wp_iret rfl ⟨_, rfl, rfl, B⟩
def an_forget (t : Rt_) : Int32 × Rt_ := (nI (sg_si t.1).length, (sw_si t.1 [], t.2))
theorem Ref_forget_ok {h0 h : Hp_} {t : Rt_} (B : RB_ h0 h t) : cI 1 mn_Ref_forget [.ref 65] h (fun y h' => y = (an_forget t).1 ∧ RB_ h0 h' (an_forget t).2) := by
  refine cq_in (q := mi_Ref_forget) (L := [some (.ref 65), none]) rfl (Nat.le_of_ble_eq_true rfl) rfl ?_
  show wq _ tb_Ref_forget none 0 _ _ _ _
  refine wp_aload0 rfl ?_
  refine wp_getIE rfl (Ref_kd B.S) (show _ = nI ((sg_si t.1).length) from B.sn) ?_
  refine wp_istore1 rfl rfl ?_
  refine wp_aload0 rfl ?_
  refine wp_iconst rfl ?_
  refine wp_putI rfl (Ref_kd B.S) ?_
  refine wp_iload1 rfl ?_
  refine wp_iret rfl ?_
  refine ⟨_, rfl, rfl, RB_set B (sw_si_wf B.w (Nat.zero_le _) (fun q hq => absurd hq List.not_mem_nil)) ?_ ?_ ?_ ?_ ?_ ?_ ?_ rfl rfl rfl rfl rfl (fun i q h => by cases h) (fun i q h => h)⟩
  · exact B.n
  · exact B.lm
  · exact B.pl
  · exact B.le
  · exact rfl
  · exact B.wn
  · exact B.c
def an_drop (t : Rt_) : Int32 × Rt_ := (nI (sg_wi t.1).length, (sw_wi t.1 [], t.2))
theorem Ref_drop_ok {h0 h : Hp_} {t : Rt_} (B : RB_ h0 h t) : cI 1 mn_Ref_drop [.ref 65] h (fun y h' => y = (an_drop t).1 ∧ RB_ h0 h' (an_drop t).2) := by
  refine cq_in (q := mi_Ref_drop) (L := [some (.ref 65), none]) rfl (Nat.le_of_ble_eq_true rfl) rfl ?_
  show wq _ tb_Ref_drop none 0 _ _ _ _
  refine wp_aload0 rfl ?_
  refine wp_getIE rfl (Ref_kd B.S) (show _ = nI ((sg_wi t.1).length) from B.wn) ?_
  refine wp_istore1 rfl rfl ?_
  refine wp_aload0 rfl ?_
  refine wp_iconst rfl ?_
  refine wp_putI rfl (Ref_kd B.S) ?_
  refine wp_iload1 rfl ?_
  refine wp_iret rfl ?_
  refine ⟨_, rfl, rfl, RB_set B (sw_wi_wf B.w (Nat.zero_le _) (fun q hq => absurd hq List.not_mem_nil)) ?_ ?_ ?_ ?_ ?_ ?_ ?_ rfl rfl rfl rfl rfl (fun i q h => h) (fun i q h => by cases h)⟩
  · exact B.n
  · exact B.lm
  · exact B.pl
  · exact B.le
  · exact B.sn
  · exact rfl
  · exact B.c
def at_ (t : Rt_) (x : Int32) : Int32 := if x = nI 0 then nI t.2.2.1 else if x = nI 1 then nI (sg_n t.1) else if x = nI 2 then nI (sg_lm t.1) else if x = nI 3 then nI (sg_pl t.1) else if x = nI 4 then nI (sg_le t.1) else if x = nI 5 then nI (sg_si t.1).length else if x = nI 6 then nI (sg_wi t.1).length else if x = nI 20 then nI (sg_ca t.1 0) else if x = nI 21 then nI (sg_ca t.1 1) else -2
def an_told (t : Rt_) (x : Int32) : Int32 := if rg_ 10 15 x then nI (sg_mu t.1 (x.toNatClampNeg - 10)) else if rg_ 30 (29 + sg_n t.1 : Nat) x then nI (sg_pos t.1 (x.toNatClampNeg - 30)) else if rg_ 40 (39 + sg_n t.1 : Nat) x then wr_ (sg_wa t.1 (x.toNatClampNeg - 40)) else at_ t x
theorem Ref_told_ok {h0 h : Hp_} {t : Rt_} {x : Int32} (B : RB_ h0 h t) : cI 2 mn_Ref_told [.ref 65, .int x] h (fun y h' => y = an_told t x ∧ h' = h) := by
  have n8 := B.n8
  have n3 := B.n3
  refine cq_in (q := mi_Ref_told) (L := [some (.ref 65), some (.int x)]) rfl (Nat.le_of_ble_eq_true rfl) rfl ?_
  show wq _ tb_Ref_told none 0 _ _ _ _
  refine wp_iload1 rfl ?_
  refine wp_i2l rfl ?_
  refine wp_ldc2_w rfl ?_
  refine wp_ldc2_w rfl ?_
  refine wp_callS3I rfl (Nat.le_of_ble_eq_true rfl) (Ref_inN_ok (a := 10) (b := 15) (by omega) (by omega)) (Nat.le_of_ble_eq_true rfl) ?_
  refine pure_ ?_
  refine wp_if_eqB rfl (fun c1 => ?_) (fun c1 => ?_)
  · skip
    refine wp_iload1 rfl ?_
    refine wp_i2l rfl ?_
    refine wp_ldc2_w rfl ?_
    refine wp_bipush rfl ?_
    refine wp_aload0 rfl ?_
    refine wp_getIE rfl (Ref_kd B.S) (show _ = nI (sg_n t.1) from B.n) ?_
    refine wp_iaddE (nI (29 + (sg_n t.1))) (nI_add _ _) rfl ?_
    refine wp_i2lE (lN (29 + (sg_n t.1))) (nI_l (by omega)) rfl ?_
    refine wp_callS3I rfl (Nat.le_of_ble_eq_true rfl) (Ref_inN_ok (a := 30) (b := 29 + sg_n t.1) (by omega) (by omega)) (Nat.le_of_ble_eq_true rfl) ?_
    refine pure_ ?_
    refine wp_if_eqB rfl (fun c2 => ?_) (fun c2 => ?_)
    · skip
      refine wp_iload1 rfl ?_
      refine wp_i2l rfl ?_
      refine wp_ldc2_w rfl ?_
      refine wp_bipush rfl ?_
      refine wp_aload0 rfl ?_
      refine wp_getIE rfl (Ref_kd B.S) (show _ = nI (sg_n t.1) from B.n) ?_
      refine wp_iaddE (nI (39 + (sg_n t.1))) (nI_add _ _) rfl ?_
      refine wp_i2lE (lN (39 + (sg_n t.1))) (nI_l (by omega)) rfl ?_
      refine wp_callS3I rfl (Nat.le_of_ble_eq_true rfl) (Ref_inN_ok (a := 40) (b := 39 + sg_n t.1) (by omega) (by omega)) (Nat.le_of_ble_eq_true rfl) ?_
      refine pure_ ?_
      refine wp_if_eqB rfl (fun c3 => ?_) (fun c3 => ?_)
      · skip
        refine wp_iload1 rfl ?_
        have e : an_told t x = at_ t x := by unfold an_told; rw [show rg_ 10 15 x = false from c1, show rg_ 30 (29 + sg_n t.1 : Nat) x = false from c2, show rg_ 40 (39 + sg_n t.1 : Nat) x = false from c3]; rfl
        rw [e]
        by_cases q : x.toInt < 0 ∨ 21 < x.toInt
        · skip
          refine wp_sw_out q rfl ?_
          refine wp_bipush rfl ?_
          have en : ∀ j : Nat, j ≤ 21 → x ≠ nI j := fun j hj z => by rw [z, nI_toInt (by omega)] at q; omega
          exact wp_iret rfl ⟨_, rfl, by unfold at_; rw [if_neg (en 0 (by omega)), if_neg (en 1 (by omega)), if_neg (en 2 (by omega)), if_neg (en 3 (by omega)), if_neg (en 4 (by omega)), if_neg (en 5 (by omega)), if_neg (en 6 (by omega)), if_neg (en 20 (by omega)), if_neg (en 21 (by omega))], rfl⟩
        · skip
          obtain ⟨j, hj, rfl⟩ := nI_of (x := x) (by rw [Int32.lt_iff_toInt_lt]; show ¬ x.toInt < 0; omega)
          rw [nI_toInt hj] at q
          rcases (show j = 0 ∨ j = 1 ∨ j = 2 ∨ j = 3 ∨ j = 4 ∨ j = 5 ∨ j = 6 ∨ j = 7 ∨ j = 8 ∨ j = 9 ∨ j = 10 ∨ j = 11 ∨ j = 12 ∨ j = 13 ∨ j = 14 ∨ j = 15 ∨ j = 16 ∨ j = 17 ∨ j = 18 ∨ j = 19 ∨ j = 20 ∨ j = 21 by omega) with rfl | rfl | rfl | rfl | rfl | rfl | rfl | rfl | rfl | rfl | rfl | rfl | rfl | rfl | rfl | rfl | rfl | rfl | rfl | rfl | rfl | rfl
          · skip
            refine wp_sw_in (off := 102) 184 (by decide) (by decide) (by decide) rfl ?_
            refine wp_aload0 rfl ?_
            refine wp_getIE rfl (Ref_kd B.S) (show _ = nI (t.2.2.1) from B.c) ?_
            exact wp_iret rfl ⟨_, rfl, by unfold at_; rw [if_pos rfl], rfl⟩
          · skip
            refine wp_sw_in (off := 107) 189 (by decide) (by decide) (by decide) rfl ?_
            refine wp_aload0 rfl ?_
            refine wp_getIE rfl (Ref_kd B.S) (show _ = nI (sg_n t.1) from B.n) ?_
            exact wp_iret rfl ⟨_, rfl, by unfold at_; rw [if_neg (nI_dec (by omega) (by omega) (by omega)), if_pos rfl], rfl⟩
          · skip
            refine wp_sw_in (off := 112) 194 (by decide) (by decide) (by decide) rfl ?_
            refine wp_aload0 rfl ?_
            refine wp_getIE rfl (Ref_kd B.S) (show _ = nI (sg_lm t.1) from B.lm) ?_
            exact wp_iret rfl ⟨_, rfl, by unfold at_; rw [if_neg (nI_dec (by omega) (by omega) (by omega)), if_neg (nI_dec (by omega) (by omega) (by omega)), if_pos rfl], rfl⟩
          · skip
            refine wp_sw_in (off := 117) 199 (by decide) (by decide) (by decide) rfl ?_
            refine wp_aload0 rfl ?_
            refine wp_getIE rfl (Ref_kd B.S) (show _ = nI (sg_pl t.1) from B.pl) ?_
            exact wp_iret rfl ⟨_, rfl, by unfold at_; rw [if_neg (nI_dec (by omega) (by omega) (by omega)), if_neg (nI_dec (by omega) (by omega) (by omega)), if_neg (nI_dec (by omega) (by omega) (by omega)), if_pos rfl], rfl⟩
          · skip
            refine wp_sw_in (off := 122) 204 (by decide) (by decide) (by decide) rfl ?_
            refine wp_aload0 rfl ?_
            refine wp_getIE rfl (Ref_kd B.S) (show _ = nI (sg_le t.1) from B.le) ?_
            exact wp_iret rfl ⟨_, rfl, by unfold at_; rw [if_neg (nI_dec (by omega) (by omega) (by omega)), if_neg (nI_dec (by omega) (by omega) (by omega)), if_neg (nI_dec (by omega) (by omega) (by omega)), if_neg (nI_dec (by omega) (by omega) (by omega)), if_pos rfl], rfl⟩
          · skip
            refine wp_sw_in (off := 127) 209 (by decide) (by decide) (by decide) rfl ?_
            refine wp_aload0 rfl ?_
            refine wp_getIE rfl (Ref_kd B.S) (show _ = nI ((sg_si t.1).length) from B.sn) ?_
            exact wp_iret rfl ⟨_, rfl, by unfold at_; rw [if_neg (nI_dec (by omega) (by omega) (by omega)), if_neg (nI_dec (by omega) (by omega) (by omega)), if_neg (nI_dec (by omega) (by omega) (by omega)), if_neg (nI_dec (by omega) (by omega) (by omega)), if_neg (nI_dec (by omega) (by omega) (by omega)), if_pos rfl], rfl⟩
          · skip
            refine wp_sw_in (off := 132) 214 (by decide) (by decide) (by decide) rfl ?_
            refine wp_aload0 rfl ?_
            refine wp_getIE rfl (Ref_kd B.S) (show _ = nI ((sg_wi t.1).length) from B.wn) ?_
            exact wp_iret rfl ⟨_, rfl, by unfold at_; rw [if_neg (nI_dec (by omega) (by omega) (by omega)), if_neg (nI_dec (by omega) (by omega) (by omega)), if_neg (nI_dec (by omega) (by omega) (by omega)), if_neg (nI_dec (by omega) (by omega) (by omega)), if_neg (nI_dec (by omega) (by omega) (by omega)), if_neg (nI_dec (by omega) (by omega) (by omega)), if_pos rfl], rfl⟩
          · skip
            refine wp_sw_in (off := 151) 233 (by decide) (by decide) (by decide) rfl ?_
            refine wp_bipush rfl ?_
            exact wp_iret rfl ⟨_, rfl, by unfold at_; rw [if_neg (nI_dec (by omega) (by omega) (by omega)), if_neg (nI_dec (by omega) (by omega) (by omega)), if_neg (nI_dec (by omega) (by omega) (by omega)), if_neg (nI_dec (by omega) (by omega) (by omega)), if_neg (nI_dec (by omega) (by omega) (by omega)), if_neg (nI_dec (by omega) (by omega) (by omega)), if_neg (nI_dec (by omega) (by omega) (by omega)), if_neg (nI_dec (by omega) (by omega) (by omega)), if_neg (nI_dec (by omega) (by omega) (by omega))], rfl⟩
          · skip
            refine wp_sw_in (off := 151) 233 (by decide) (by decide) (by decide) rfl ?_
            refine wp_bipush rfl ?_
            exact wp_iret rfl ⟨_, rfl, by unfold at_; rw [if_neg (nI_dec (by omega) (by omega) (by omega)), if_neg (nI_dec (by omega) (by omega) (by omega)), if_neg (nI_dec (by omega) (by omega) (by omega)), if_neg (nI_dec (by omega) (by omega) (by omega)), if_neg (nI_dec (by omega) (by omega) (by omega)), if_neg (nI_dec (by omega) (by omega) (by omega)), if_neg (nI_dec (by omega) (by omega) (by omega)), if_neg (nI_dec (by omega) (by omega) (by omega)), if_neg (nI_dec (by omega) (by omega) (by omega))], rfl⟩
          · skip
            refine wp_sw_in (off := 151) 233 (by decide) (by decide) (by decide) rfl ?_
            refine wp_bipush rfl ?_
            exact wp_iret rfl ⟨_, rfl, by unfold at_; rw [if_neg (nI_dec (by omega) (by omega) (by omega)), if_neg (nI_dec (by omega) (by omega) (by omega)), if_neg (nI_dec (by omega) (by omega) (by omega)), if_neg (nI_dec (by omega) (by omega) (by omega)), if_neg (nI_dec (by omega) (by omega) (by omega)), if_neg (nI_dec (by omega) (by omega) (by omega)), if_neg (nI_dec (by omega) (by omega) (by omega)), if_neg (nI_dec (by omega) (by omega) (by omega)), if_neg (nI_dec (by omega) (by omega) (by omega))], rfl⟩
          · skip
            refine wp_sw_in (off := 151) 233 (by decide) (by decide) (by decide) rfl ?_
            refine wp_bipush rfl ?_
            exact wp_iret rfl ⟨_, rfl, by unfold at_; rw [if_neg (nI_dec (by omega) (by omega) (by omega)), if_neg (nI_dec (by omega) (by omega) (by omega)), if_neg (nI_dec (by omega) (by omega) (by omega)), if_neg (nI_dec (by omega) (by omega) (by omega)), if_neg (nI_dec (by omega) (by omega) (by omega)), if_neg (nI_dec (by omega) (by omega) (by omega)), if_neg (nI_dec (by omega) (by omega) (by omega)), if_neg (nI_dec (by omega) (by omega) (by omega)), if_neg (nI_dec (by omega) (by omega) (by omega))], rfl⟩
          · skip
            refine wp_sw_in (off := 151) 233 (by decide) (by decide) (by decide) rfl ?_
            refine wp_bipush rfl ?_
            exact wp_iret rfl ⟨_, rfl, by unfold at_; rw [if_neg (nI_dec (by omega) (by omega) (by omega)), if_neg (nI_dec (by omega) (by omega) (by omega)), if_neg (nI_dec (by omega) (by omega) (by omega)), if_neg (nI_dec (by omega) (by omega) (by omega)), if_neg (nI_dec (by omega) (by omega) (by omega)), if_neg (nI_dec (by omega) (by omega) (by omega)), if_neg (nI_dec (by omega) (by omega) (by omega)), if_neg (nI_dec (by omega) (by omega) (by omega)), if_neg (nI_dec (by omega) (by omega) (by omega))], rfl⟩
          · skip
            refine wp_sw_in (off := 151) 233 (by decide) (by decide) (by decide) rfl ?_
            refine wp_bipush rfl ?_
            exact wp_iret rfl ⟨_, rfl, by unfold at_; rw [if_neg (nI_dec (by omega) (by omega) (by omega)), if_neg (nI_dec (by omega) (by omega) (by omega)), if_neg (nI_dec (by omega) (by omega) (by omega)), if_neg (nI_dec (by omega) (by omega) (by omega)), if_neg (nI_dec (by omega) (by omega) (by omega)), if_neg (nI_dec (by omega) (by omega) (by omega)), if_neg (nI_dec (by omega) (by omega) (by omega)), if_neg (nI_dec (by omega) (by omega) (by omega)), if_neg (nI_dec (by omega) (by omega) (by omega))], rfl⟩
          · skip
            refine wp_sw_in (off := 151) 233 (by decide) (by decide) (by decide) rfl ?_
            refine wp_bipush rfl ?_
            exact wp_iret rfl ⟨_, rfl, by unfold at_; rw [if_neg (nI_dec (by omega) (by omega) (by omega)), if_neg (nI_dec (by omega) (by omega) (by omega)), if_neg (nI_dec (by omega) (by omega) (by omega)), if_neg (nI_dec (by omega) (by omega) (by omega)), if_neg (nI_dec (by omega) (by omega) (by omega)), if_neg (nI_dec (by omega) (by omega) (by omega)), if_neg (nI_dec (by omega) (by omega) (by omega)), if_neg (nI_dec (by omega) (by omega) (by omega)), if_neg (nI_dec (by omega) (by omega) (by omega))], rfl⟩
          · skip
            refine wp_sw_in (off := 151) 233 (by decide) (by decide) (by decide) rfl ?_
            refine wp_bipush rfl ?_
            exact wp_iret rfl ⟨_, rfl, by unfold at_; rw [if_neg (nI_dec (by omega) (by omega) (by omega)), if_neg (nI_dec (by omega) (by omega) (by omega)), if_neg (nI_dec (by omega) (by omega) (by omega)), if_neg (nI_dec (by omega) (by omega) (by omega)), if_neg (nI_dec (by omega) (by omega) (by omega)), if_neg (nI_dec (by omega) (by omega) (by omega)), if_neg (nI_dec (by omega) (by omega) (by omega)), if_neg (nI_dec (by omega) (by omega) (by omega)), if_neg (nI_dec (by omega) (by omega) (by omega))], rfl⟩
          · skip
            refine wp_sw_in (off := 151) 233 (by decide) (by decide) (by decide) rfl ?_
            refine wp_bipush rfl ?_
            exact wp_iret rfl ⟨_, rfl, by unfold at_; rw [if_neg (nI_dec (by omega) (by omega) (by omega)), if_neg (nI_dec (by omega) (by omega) (by omega)), if_neg (nI_dec (by omega) (by omega) (by omega)), if_neg (nI_dec (by omega) (by omega) (by omega)), if_neg (nI_dec (by omega) (by omega) (by omega)), if_neg (nI_dec (by omega) (by omega) (by omega)), if_neg (nI_dec (by omega) (by omega) (by omega)), if_neg (nI_dec (by omega) (by omega) (by omega)), if_neg (nI_dec (by omega) (by omega) (by omega))], rfl⟩
          · skip
            refine wp_sw_in (off := 151) 233 (by decide) (by decide) (by decide) rfl ?_
            refine wp_bipush rfl ?_
            exact wp_iret rfl ⟨_, rfl, by unfold at_; rw [if_neg (nI_dec (by omega) (by omega) (by omega)), if_neg (nI_dec (by omega) (by omega) (by omega)), if_neg (nI_dec (by omega) (by omega) (by omega)), if_neg (nI_dec (by omega) (by omega) (by omega)), if_neg (nI_dec (by omega) (by omega) (by omega)), if_neg (nI_dec (by omega) (by omega) (by omega)), if_neg (nI_dec (by omega) (by omega) (by omega)), if_neg (nI_dec (by omega) (by omega) (by omega)), if_neg (nI_dec (by omega) (by omega) (by omega))], rfl⟩
          · skip
            refine wp_sw_in (off := 151) 233 (by decide) (by decide) (by decide) rfl ?_
            refine wp_bipush rfl ?_
            exact wp_iret rfl ⟨_, rfl, by unfold at_; rw [if_neg (nI_dec (by omega) (by omega) (by omega)), if_neg (nI_dec (by omega) (by omega) (by omega)), if_neg (nI_dec (by omega) (by omega) (by omega)), if_neg (nI_dec (by omega) (by omega) (by omega)), if_neg (nI_dec (by omega) (by omega) (by omega)), if_neg (nI_dec (by omega) (by omega) (by omega)), if_neg (nI_dec (by omega) (by omega) (by omega)), if_neg (nI_dec (by omega) (by omega) (by omega)), if_neg (nI_dec (by omega) (by omega) (by omega))], rfl⟩
          · skip
            refine wp_sw_in (off := 151) 233 (by decide) (by decide) (by decide) rfl ?_
            refine wp_bipush rfl ?_
            exact wp_iret rfl ⟨_, rfl, by unfold at_; rw [if_neg (nI_dec (by omega) (by omega) (by omega)), if_neg (nI_dec (by omega) (by omega) (by omega)), if_neg (nI_dec (by omega) (by omega) (by omega)), if_neg (nI_dec (by omega) (by omega) (by omega)), if_neg (nI_dec (by omega) (by omega) (by omega)), if_neg (nI_dec (by omega) (by omega) (by omega)), if_neg (nI_dec (by omega) (by omega) (by omega)), if_neg (nI_dec (by omega) (by omega) (by omega)), if_neg (nI_dec (by omega) (by omega) (by omega))], rfl⟩
          · skip
            refine wp_sw_in (off := 151) 233 (by decide) (by decide) (by decide) rfl ?_
            refine wp_bipush rfl ?_
            exact wp_iret rfl ⟨_, rfl, by unfold at_; rw [if_neg (nI_dec (by omega) (by omega) (by omega)), if_neg (nI_dec (by omega) (by omega) (by omega)), if_neg (nI_dec (by omega) (by omega) (by omega)), if_neg (nI_dec (by omega) (by omega) (by omega)), if_neg (nI_dec (by omega) (by omega) (by omega)), if_neg (nI_dec (by omega) (by omega) (by omega)), if_neg (nI_dec (by omega) (by omega) (by omega)), if_neg (nI_dec (by omega) (by omega) (by omega)), if_neg (nI_dec (by omega) (by omega) (by omega))], rfl⟩
          · skip
            refine wp_sw_in (off := 137) 219 (by decide) (by decide) (by decide) rfl ?_
            refine wp_aload0 rfl ?_
            refine wp_getR rfl (Ref_kd B.S) (Ref_R8 B.S) (by first | decide | omega) ?_
            refine wp_iconst rfl ?_
            refine wp_ialdE 0 rfl (Ref_k8 B.S) (by first | decide | omega) (Nat.lt_of_lt_of_eq (show 0 < _ by omega) (Eq.symm (Ref_n8 B.S))) (by omega) (show _ = nI (sg_ca t.1 0) from B.ca (by omega)) rfl ?_
            exact wp_iret rfl ⟨_, rfl, by unfold at_; rw [if_neg (nI_dec (by omega) (by omega) (by omega)), if_neg (nI_dec (by omega) (by omega) (by omega)), if_neg (nI_dec (by omega) (by omega) (by omega)), if_neg (nI_dec (by omega) (by omega) (by omega)), if_neg (nI_dec (by omega) (by omega) (by omega)), if_neg (nI_dec (by omega) (by omega) (by omega)), if_neg (nI_dec (by omega) (by omega) (by omega)), if_pos rfl], rfl⟩
          · skip
            refine wp_sw_in (off := 144) 226 (by decide) (by decide) (by decide) rfl ?_
            refine wp_aload0 rfl ?_
            refine wp_getR rfl (Ref_kd B.S) (Ref_R8 B.S) (by first | decide | omega) ?_
            refine wp_iconst rfl ?_
            refine wp_ialdE 1 rfl (Ref_k8 B.S) (by first | decide | omega) (Nat.lt_of_lt_of_eq (show 1 < _ by omega) (Eq.symm (Ref_n8 B.S))) (by omega) (show _ = nI (sg_ca t.1 1) from B.ca (by omega)) rfl ?_
            exact wp_iret rfl ⟨_, rfl, by unfold at_; rw [if_neg (nI_dec (by omega) (by omega) (by omega)), if_neg (nI_dec (by omega) (by omega) (by omega)), if_neg (nI_dec (by omega) (by omega) (by omega)), if_neg (nI_dec (by omega) (by omega) (by omega)), if_neg (nI_dec (by omega) (by omega) (by omega)), if_neg (nI_dec (by omega) (by omega) (by omega)), if_neg (nI_dec (by omega) (by omega) (by omega)), if_neg (nI_dec (by omega) (by omega) (by omega)), if_pos rfl], rfl⟩
      · skip
        obtain ⟨j, j1, j2, jb, rfl⟩ := rg_of c3
        refine wp_aload0 rfl ?_
        refine wp_getR rfl (Ref_kd B.S) (Ref_R3 B.S) (by first | decide | omega) ?_
        refine wp_iload1 rfl ?_
        refine wp_bipush rfl ?_
        refine wp_isubE (nI (j - 40)) (pk_sub (by omega)) rfl ?_
        refine wp_ialdE (j - 40) rfl (Ref_k3 B.S) (by first | decide | omega) (Nat.lt_of_lt_of_eq (show (j - 40) < _ by omega) (Eq.symm (Ref_n3 B.S))) (by omega) (B.wa (by omega)) rfl ?_
        exact wp_iret rfl ⟨_, rfl, by unfold an_told; rw [show rg_ 10 15 (nI j) = false from c1, show rg_ 30 (29 + sg_n t.1 : Nat) (nI j) = false from c2, show rg_ 40 (39 + sg_n t.1 : Nat) (nI j) = true from c3, nI_clamp jb]; rfl, rfl⟩
    · skip
      obtain ⟨j, j1, j2, jb, rfl⟩ := rg_of c2
      refine wp_aload0 rfl ?_
      refine wp_iload1 rfl ?_
      refine wp_bipush rfl ?_
      refine wp_isubE (nI (j - 30)) (pk_sub (by omega)) rfl ?_
      refine wp_callV1I rfl (Nat.le_of_ble_eq_true rfl) (Ref_kd B.S) (Ref_placeOf_ok B (by omega)) (Nat.le_of_ble_eq_true rfl) ?_
      refine pure_ ?_
      exact wp_iret rfl ⟨_, rfl, by unfold an_told; rw [show rg_ 10 15 (nI j) = false from c1, show rg_ 30 (29 + sg_n t.1 : Nat) (nI j) = true from c2, nI_clamp jb]; rfl, rfl⟩
  · skip
    obtain ⟨j, j1, j2, jb, rfl⟩ := rg_of (a := 10) (b := 15) c1
    refine wp_aload0 rfl ?_
    refine wp_getR rfl (Ref_kd B.S) (Ref_R7 B.S) (by first | decide | omega) ?_
    refine wp_iload1 rfl ?_
    refine wp_bipush rfl ?_
    refine wp_isubE (nI (j - 10)) (pk_sub (by omega)) rfl ?_
    refine wp_ialdE (j - 10) rfl (Ref_k7 B.S) (by first | decide | omega) (Nat.lt_of_lt_of_eq (show (j - 10) < _ by omega) (Eq.symm (Ref_n7 B.S))) (by omega) (B.mu (by omega)) rfl ?_
    exact wp_iret rfl ⟨_, rfl, by unfold an_told; rw [show rg_ 10 15 (nI j) = true from c1, nI_clamp jb]; rfl, rfl⟩
