-- ===== Shortest =====
/-- the rows of an orbit: those of the beginning or new ones -/
def rw4_ (x a b c e : Nat) : Prop := (a = x ∨ 93 < a) ∧ (b = x + 1 ∨ 93 < b) ∧ (c = x + 2 ∨ 93 < c) ∧ (e = x + 3 ∨ 93 < e)
theorem rw4_new {x a b c e a2 b2 c2 e2 : Nat} {h : Hp_} (hn : 93 ≤ hp_nx h) (r : rw4_ x a b c e) (w1 : nw2_ h a a2) (w2 : nw2_ h b b2) (w3 : nw2_ h c c2) (w4 : nw2_ h e e2) : rw4_ x a2 b2 c2 e2 := by
  unfold rw4_ at r ⊢
  unfold nw2_ at w1 w2 w3 w4
  omega
def S_Short (h : Hp_) (a b c e : Nat) : Prop := hp_kd h 35 = 15 ∧ (hp_R h 35 0 = 36 ∧ hp_R h 35 1 = 41) ∧ S_Orbit h 36 a b c e ∧ S_Memo h 41 ∧ on_ h 36 a b c e ∧ rw4_ 37 a b c e ∧ 93 ≤ hp_nx h ∧ hp_I h 36 0 = bo_ false
theorem Short_kd {h : Hp_} {a b c e : Nat} (S : S_Short h a b c e) : hp_kd h 35 = 15 := S.1
theorem Short_R0 {h : Hp_} {a b c e : Nat} (S : S_Short h a b c e) : hp_R h 35 0 = 36 := S.2.1.1
theorem Short_R1 {h : Hp_} {a b c e : Nat} (S : S_Short h a b c e) : hp_R h 35 1 = 41 := S.2.1.2
theorem Short_s0 {h : Hp_} {a b c e : Nat} (S : S_Short h a b c e) : S_Orbit h 36 a b c e := S.2.2.1
theorem Short_s1 {h : Hp_} {a b c e : Nat} (S : S_Short h a b c e) : S_Memo h 41 := S.2.2.2.1
/-- the outcome of a search that speaks of s -/
def SR_ (h : Hp_) (a b c e : Nat) (s : Sg_) : Prop := ∃ t, OI_ h 36 a b c (sg_n s) (kw_ s) ((bf_ (nx2_ (kw_ s) (mv_ s)) (may_ s) (sl_ s) t).map (·.1)) ((bf_ (nx2_ (kw_ s) (mv_ s)) (may_ s) (sl_ s) t).map (fun x => x.2.1)) ∧ ((hp_I h 35 3 = -1 ∧ FW_ s none) ∨ ∃ (j : Nat) (x : (Nat → Nat) × Nat × List Nat), (bf_ (nx2_ (kw_ s) (mv_ s)) (may_ s) (sl_ s) t)[j]? = some x ∧ hp_I h 35 2 = nI j ∧ hp_I h 35 3 = nI x.2.2.length ∧ FW_ s (some x.2.2))
def SH_ (h : Hp_) (P : Nat → Int32) (st : Bool) (a b c e : Nat) : Prop := MM_ h 41 P st ∧ (st = true → ∃ s, sg_wf s ∧ (∀ j, j < 10 → P j = kS_ s j) ∧ SR_ h a b c e s)
def sc_ (a b c e q : Nat) : Prop := q = 35 ∨ q = 36 ∨ q = 41 ∨ q = 42 ∨ q = a ∨ q = b ∨ q = c ∨ q = e
theorem S_Short_keep {P : Nat → Prop} {h h' : Hp_} {a b c e : Nat} (S : S_Short h a b c e) (A : ag_ P h h') (h1 : ¬ P 35) (h2 : hp_R h' 36 = hp_R h 36) (h3 : hp_I h' 36 0 = hp_I h 36 0) (h4 : hp_R h' 41 = hp_R h 41) : S_Short h' a b c e := by
  obtain ⟨k, r, ⟨o1, o2, o3, o4, o5, o6, o7⟩, m, ⟨n1, n2, n3, n4, n5⟩, w, n93, i0⟩ := S
  obtain ⟨A1, A2, A3⟩ := A
  unfold S_Memo at m
  have e35 := A3 35 (by omega)
  have e36 := A3 36 (by omega)
  have e41 := A3 41 (by omega)
  have e42 := A3 42 (by omega)
  have ea := A3 a n2
  have eb := A3 b n3
  have ec := A3 c n4
  have ee := A3 e n5
  refine ⟨e35.1.trans k, by rw [(e35.2.2 h1).2.2]; exact r, ⟨e36.1.trans o1, by rw [h2]; exact o2, ?_, o4, o5, o6, ?_⟩, ⟨e41.1.trans m.1, by rw [h4]; exact m.2.1, e42.1.trans m.2.2.1, e42.2.1.trans m.2.2.2⟩, ⟨by omega, by omega, by omega, by omega, by omega⟩, w, by omega, by rw [h3]; exact i0⟩
  · rw [ea.1, eb.1, ec.1, ee.1]; exact o3
  · rw [ea.2.1, eb.2.1, ec.2.1, ee.2.1]; exact o7
theorem OI_cg {h h' : Hp_} {o a b c n k : Nat} {ws : List (Nat → Nat)} {os : List Nat} (I : OI_ h o a b c n k ws os) (ho : hp_I h' o = hp_I h o) (ha : hp_I h' a = hp_I h a ∧ hp_ln h' a = hp_ln h a) (hb : hp_I h' b = hp_I h b ∧ hp_ln h' b = hp_ln h b) (hc : hp_I h' c = hp_I h c ∧ hp_ln h' c = hp_ln h c) : OI_ h' o a b c n k ws os := by
  unfold OI_ at I ⊢
  rw [ho, ha.1, hb.1, hc.1, ha.2, hb.2, hc.2]
  exact I
theorem SR_keep {P : Nat → Prop} {h h' : Hp_} {a b c e : Nat} {s : Sg_} (S : S_Short h a b c e) (R : SR_ h a b c e s) (A : ag_ P h h') (hP : ∀ q, q = 35 ∨ q = 36 ∨ q = a ∨ q = b ∨ q = c → ¬ P q) : SR_ h' a b c e s := by
  obtain ⟨t, I, F⟩ := R
  obtain ⟨k, r, o, m, ⟨n1, n2, n3, n4, n5⟩, w, n93, i0⟩ := S
  obtain ⟨A1, A2, A3⟩ := A
  have e35 := (A3 35 (by omega)).2.2 (hP _ (by omega))
  have e36 := (A3 36 (by omega)).2.2 (hP _ (by omega))
  have ea := A3 a n2
  have eb := A3 b n3
  have ec := A3 c n4
  refine ⟨t, OI_cg I e36.1 ⟨(ea.2.2 (hP _ (by omega))).1, ea.2.1⟩ ⟨(eb.2.2 (hP _ (by omega))).1, eb.2.1⟩ ⟨(ec.2.2 (hP _ (by omega))).1, ec.2.1⟩, ?_⟩
  rw [e35.1]
  exact F
theorem SH_keep {P : Nat → Prop} {h h' : Hp_} {a b c e : Nat} {PP : Nat → Int32} {st : Bool} (S : S_Short h a b c e) (H : SH_ h PP st a b c e) (A : ag_ P h h') (hP : ∀ q, sc_ a b c e q → ¬ P q) : S_Short h' a b c e ∧ SH_ h' PP st a b c e := by
  have n93 := S.2.2.2.2.2.2.1
  have e36 := (A.2.2 36 (by omega)).2.2 (hP _ (by unfold sc_; omega))
  have e41 := (A.2.2 41 (by omega)).2.2 (hP _ (by unfold sc_; omega))
  have e42 := (A.2.2 42 (by omega)).2.2 (hP _ (by unfold sc_; omega))
  refine ⟨S_Short_keep S A (hP _ (by unfold sc_; omega)) e36.2.2 (by rw [e36.1]) e41.2.2, ?_, fun z => ?_⟩
  · obtain ⟨cc, m1, m2, m3⟩ := H.1
    exact ⟨cc, by rw [e42.1]; exact m1, by rw [e41.1]; exact m2, by rw [e41.1]; exact m3⟩
  · obtain ⟨s, w, hk, R⟩ := H.2 z
    exact ⟨s, w, hk, SR_keep S R A (fun q hq => hP q (by unfold sc_; omega))⟩
theorem mm_ne {h : Hp_} {o q c : Nat} {P : Nat → Int32} {s : Bool} (h1 : q ≠ o) (h2 : q ≠ o + 1) : hp_I (mm_ h o P c s) q = hp_I h q := by
  unfold mm_
  rw [sd_rI_ne h1, sd_rI_ne h2]
theorem mm_fz (h : Hp_) (o : Nat) (P : Nat → Int32) (c : Nat) (s : Bool) : fz_ (fun q => q = o ∨ q = o + 1) h (mm_ h o P c s) := fz_rI (fz_rI (fz_refl _ h) (Or.inr rfl) P) (Or.inl rfl) _
-- the mathematics
theorem bfS_Lz {n k : Nat} {mv : Nat → Nat → Nat} {ok : Nat → Bool} {w0 : Nat → Nat} (hm : ∀ f, IsP n (mv f)) (W : Lz_ n k w0) : ∀ u, Lz_ n k (rn_ (nx2_ k mv) w0 u) := by
  refine snoc_ind W ?_
  intro u f ih
  rw [rn_snoc]
  exact nx2_Lz (hm f) ih
theorem bfS_len {n k : Nat} {mv : Nat → Nat → Nat} {ok : Nat → Bool} {w0 : Nat → Nat} (hm : ∀ f, IsP n (mv f)) (W : Lz_ n k w0) (t : Nat) : (bf_ (nx2_ k mv) ok w0 t).length ≤ ce_ n k := by
  have := Lz_count (n := n) (k := k) (bf_inv (st := nx2_ k mv) (ok := ok) (s0 := w0) t).nod (fun w hw => by
    obtain ⟨e, he, rfl⟩ := List.mem_map.mp hw
    show Lz_ n k e.1
    rw [((bf_inv (st := nx2_ k mv) (ok := ok) (s0 := w0) t).word e he).1]
    exact bfS_Lz (ok := ok) hm W _)
  rw [List.length_map] at this
  exact this
/-- a state that has been met stands by its least word -/
theorem bf_least {n k : Nat} {mv : Nat → Nat → Nat} {ok : Nat → Bool} {w0 : Nat → Nat} (hn : n ≤ 8) (hm : ∀ f, IsP n (mv f)) (W : Lz_ n k w0) {t : Nat} {e : (Nat → Nat) × Nat × List Nat} (he : e ∈ bf_ (nx2_ k mv) ok w0 t) {v : List Nat} (hv : ∀ f ∈ v, f < 6 ∧ ok f = true) (hr : e.1 = rn_ (nx2_ k mv) w0 v) : va_w e.2.2 ≤ va_w v := by
  have hl := bfS_len (ok := ok) hm W (t + 6 * ce_ n k)
  obtain ⟨e2, h1, h2, h3⟩ := bf_all (st := nx2_ k mv) (ok := ok) (s0 := w0) (t := t + 6 * ce_ n k) (by omega) v hv
  obtain ⟨i, hi⟩ := List.getElem?_of_mem he
  obtain ⟨j, hj⟩ := List.getElem?_of_mem h1
  have hi2 := bf_get (st := nx2_ k mv) (ok := ok) (s0 := w0) t (6 * ce_ n k) i e hi
  have hnd := (bf_inv (st := nx2_ k mv) (ok := ok) (s0 := w0) (t + 6 * ce_ n k)).nod
  have hii := (List.getElem?_eq_some_iff.mp hi2).1
  have : i = j := (List.getElem?_inj (by rw [List.length_map]; exact hii) hnd).mp (by rw [List.getElem?_map, List.getElem?_map, hi2, hj]; show some e.1 = some e2.1; rw [hr, h2])
  rw [this, hj] at hi2
  cases hi2
  exact h3
theorem SR_none {s : Sg_} (w : sg_wf s) {t : Nat} (ht : 6 * (bf_ (nx2_ (kw_ s) (mv_ s)) (may_ s) (sl_ s) t).length ≤ t) (hn : ¬ gl_ s ∈ (bf_ (nx2_ (kw_ s) (mv_ s)) (may_ s) (sl_ s) t).map (·.1)) : FW_ s none := by
  intro u hu hW
  obtain ⟨e, h1, h2, _⟩ := bf_all (st := nx2_ (kw_ s) (mv_ s)) (ok := may_ s) (s0 := sl_ s) ht u hu
  refine hn (List.mem_map.mpr ⟨e, h1, ?_⟩)
  show e.1 = gl_ s
  rw [h2, rn_nx2 (sl_Lz w) u]
  funext i
  by_cases z : i < kw_ s
  · rw [if_pos z]; exact (WT_kS u).mp hW i z
  · rw [if_neg z, (gl_Lz w).2 i (by omega)]
theorem SR_some {s : Sg_} (w : sg_wf s) {t : Nat} {e : (Nat → Nat) × Nat × List Nat} (he : e ∈ bf_ (nx2_ (kw_ s) (mv_ s)) (may_ s) (sl_ s) t) (hg : e.1 = gl_ s) : FW_ s (some e.2.2) := by
  obtain ⟨h1, h2⟩ := (bf_inv (st := nx2_ (kw_ s) (mv_ s)) (ok := may_ s) (s0 := sl_ s) t).word e he
  refine ⟨h2, ?_, fun v hv hW => ?_⟩
  · rw [WT_kS]
    intro i hi
    have e1 := congrFun (h1.symm.trans hg) i
    rw [rn_nx2 (sl_Lz w), if_pos hi] at e1
    exact e1
  · refine bf_least w.1.2 (mv_P w) (sl_Lz w) he hv ?_
    rw [hg, rn_nx2 (sl_Lz w) v]
    funext i
    by_cases z : i < kw_ s
    · rw [if_pos z]; exact ((WT_kS v).mp hW i z).symm
    · rw [if_neg z, (gl_Lz w).2 i (by omega)]
-- the program
set_option maxRecDepth 4000 in
theorem Shortest_figuresTo_ok {h : Hp_} {a b c e j : Nat} {s : Sg_} {t : Nat} {x0 : (Nat → Nat) × Nat × List Nat} (S : S_Short h a b c e) (w : sg_wf s) (I : OI_ h 36 a b c (sg_n s) (kw_ s) ((bf_ (nx2_ (kw_ s) (mv_ s)) (may_ s) (sl_ s) t).map (·.1)) ((bf_ (nx2_ (kw_ s) (mv_ s)) (may_ s) (sl_ s) t).map (fun x => x.2.1))) (hj : (bf_ (nx2_ (kw_ s) (mv_ s)) (may_ s) (sl_ s) t)[j]? = some x0) : cI 4 mn_Shortest_figuresTo [.ref 35, .int (nI j)] h (fun x h' => x = nI x0.2.2.length ∧ h' = h) := by
  have ⟨I1, I2, I3, ⟨Ia, Ib, Ic⟩, Ind, IL, Iat, Ino, Iol, Ios⟩ := I
  have B := bf_inv (st := nx2_ (kw_ s) (mv_ s)) (ok := may_ s) (s0 := sl_ s) t
  have hlen := bfS_len (ok := may_ s) (mv_P w) (sl_Lz w) t
  have hce := ce_le w.1.2 (kw_ s)
  have hjl := (List.getElem?_eq_some_iff.mp hj).1
  have hwl := bi_wl B j x0 hj
  rw [List.length_map] at I3
  refine cq_in (q := mi_Shortest_figuresTo) (L := [some (.ref 35), some (.int (nI j)), none, none]) rfl (Nat.le_of_ble_eq_true rfl) rfl ?_
  show wq _ tb_Shortest_figuresTo none 0 _ _ _ _
  refine wp_iconst rfl ?_
  refine wp_istore2 rfl rfl ?_
  refine wp_iload1 rfl ?_
  refine wp_istore3 rfl rfl ?_
  refine wq_loop (X := Nat × ((Nat → Nat) × Nat × List Nat)) (fun r x => [some (.ref 35), some (.int (nI j)), some (.int (nI r)), some (.int (nI x.1))]) (fun r x h1 => h1 = h ∧ (bf_ (nx2_ (kw_ s) (mv_ s)) (may_ s) (sl_ s) t)[x.1]? = some x.2 ∧ x.2.2.2.length + r = x0.2.2.length) (x0.2.2.length) (0) ((j, x0)) ?_ ?_ ?_ ?_
  · omega
  · exact ⟨rfl, hj, rfl⟩
  · intro r x h1 hi I go
    show wq _ tb_Shortest_figuresTo _ 4 [some (.ref 35), some (.int (nI j)), some (.int (nI r)), some (.int (nI x.1))] [] h1 _
    obtain ⟨rfl, q1, q3⟩ := I
    obtain ⟨j2, e2⟩ := x
    dsimp only at q1 q3
    show wq _ tb_Shortest_figuresTo _ 4 [some (.ref 35), some (.int (nI j)), some (.int (nI r)), some (.int (nI j2))] [] h1 _
    have hr : r < x0.2.2.length := hi
    have hj2l := (List.getElem?_eq_some_iff.mp q1).1
    have hj0 : 0 < j2 := by
      rcases Nat.eq_zero_or_pos j2 with z | z
      · rw [z, B.zero] at q1
        cases q1
        have : 0 + r = x0.2.2.length := q3
        omega
      · exact z
    obtain ⟨o1, o2, e3, o3, o4⟩ := B.orig j2 e2 q1 hj0
    have hos := Ios j2 e2.2.1 (by rw [List.getElem?_map, q1]; rfl)
    refine wp_iload3 rfl ?_
    refine wp_if_leN j2 0 (by omega) (by decide) rfl (fun z => absurd z (by omega)) (fun _ => ?_)
    refine wp_iload2 rfl ?_
    refine wp_aload0 rfl ?_
    refine wp_getR rfl (Short_kd S) (Short_R0 S) (by first | decide | omega) ?_
    refine wp_getIE rfl (Orbit_kd (Short_s0 S)) (show _ = nI ((bf_ (nx2_ (kw_ s) (mv_ s)) (may_ s) (sl_ s) t).length) from I3) ?_
    refine wp_icmp_geN r ((bf_ (nx2_ (kw_ s) (mv_ s)) (may_ s) (sl_ s) t).length) (by omega) (by omega) rfl (fun z => absurd z (by omega)) (fun _ => ?_)
    refine wp_aload0 rfl ?_
    refine wp_getR rfl (Short_kd S) (Short_R0 S) (by first | decide | omega) ?_
    refine wp_iload3 rfl ?_
    refine wp_callV1I rfl (Nat.le_of_ble_eq_true rfl) (Orbit_kd (Short_s0 S)) (Orbit_previous_ok (Short_s0 S) (show j2 < hp_ln h1 b by omega) hos (by omega)) (Nat.le_of_ble_eq_true rfl) ?_
    refine pure_ ?_
    refine wp_istore3 rfl rfl ?_
    refine wp_iinc2N rfl rfl ?_
    refine wp_goto rfl ?_
    have hl4 : e2.2.2.length = e3.2.2.length + 1 := by rw [o4, List.length_append]; rfl
    exact go (e2.2.1 / 6, e3) h1 ⟨rfl, o3, show e3.2.2.length + (r + 1) = _ by omega⟩
  · intro x h1 I
    show wq _ tb_Shortest_figuresTo _ 4 [some (.ref 35), some (.int (nI j)), some (.int (nI (x0.2.2.length))), some (.int (nI x.1))] [] h1 _
    obtain ⟨rfl, q1, q3⟩ := I
    obtain ⟨j2, e2⟩ := x
    dsimp only at q1 q3
    have hz : j2 = 0 := by
      rcases Nat.eq_zero_or_pos j2 with z | z
      · exact z
      · obtain ⟨_, _, e3, _, o4⟩ := B.orig j2 e2 q1 z
        have : e2.2.2.length = e3.2.2.length + 1 := by rw [o4, List.length_append]; rfl
        omega
    subst hz
    show wq _ tb_Shortest_figuresTo _ 4 [some (.ref 35), some (.int (nI j)), some (.int (nI x0.2.2.length)), some (.int (nI 0))] [] h1 _
    refine wp_iload3 rfl ?_
    refine wp_if_leN 0 0 (by omega) (by decide) rfl (fun _ => ?_) (fun z => absurd z (by omega))
    refine wp_iload2 rfl ?_
    exact wp_iret rfl ⟨_, rfl, rfl, rfl⟩
set_option maxRecDepth 4000 in
theorem Shortest_figureAt_ok {h : Hp_} {a b c e m : Nat} {s : Sg_} {t j : Nat} {x0 : (Nat → Nat) × Nat × List Nat} (S : S_Short h a b c e) (w : sg_wf s) (I : OI_ h 36 a b c (sg_n s) (kw_ s) ((bf_ (nx2_ (kw_ s) (mv_ s)) (may_ s) (sl_ s) t).map (·.1)) ((bf_ (nx2_ (kw_ s) (mv_ s)) (may_ s) (sl_ s) t).map (fun x => x.2.1))) (hj : (bf_ (nx2_ (kw_ s) (mv_ s)) (may_ s) (sl_ s) t)[j]? = some x0) (he : hp_I h 35 2 = nI j) (hf : hp_I h 35 3 = nI x0.2.2.length) (hm : m < x0.2.2.length) : cI 4 mn_Shortest_figureAt [.ref 35, .int (nI m)] h (fun x h' => x = nI (x0.2.2.getD m 0) ∧ h' = h) := by
  have ⟨I1, I2, I3, ⟨Ia, Ib, Ic⟩, Ind, IL, Iat, Ino, Iol, Ios⟩ := I
  have B := bf_inv (st := nx2_ (kw_ s) (mv_ s)) (ok := may_ s) (s0 := sl_ s) t
  have hlen := bfS_len (ok := may_ s) (mv_P w) (sl_Lz w) t
  have hce := ce_le w.1.2 (kw_ s)
  have hjl := (List.getElem?_eq_some_iff.mp hj).1
  have hwl := bi_wl B j x0 hj
  rw [List.length_map] at I3
  refine cq_in (q := mi_Shortest_figureAt) (L := [some (.ref 35), some (.int (nI m)), none, none]) rfl (Nat.le_of_ble_eq_true rfl) rfl ?_
  show wq _ tb_Shortest_figureAt none 0 _ _ _ _
  refine wp_aload0 rfl ?_
  refine wp_getIE rfl (Short_kd S) (show _ = nI j from he) ?_
  refine wp_istore2 rfl rfl ?_
  refine wp_aload0 rfl ?_
  refine wp_getIE rfl (Short_kd S) (show _ = nI (x0.2.2.length) from hf) ?_
  refine wp_iconst rfl ?_
  refine wp_isubE (nI ((x0.2.2.length) - 1)) (pk_sub (by omega)) rfl ?_
  refine wp_istore3 rfl rfl ?_
  refine wq_loop (X := Nat × ((Nat → Nat) × Nat × List Nat)) (fun r x => [some (.ref 35), some (.int (nI m)), some (.int (nI x.1)), some (.int (nI (x0.2.2.length - 1 - r)))]) (fun r x h1 => h1 = h ∧ (bf_ (nx2_ (kw_ s) (mv_ s)) (may_ s) (sl_ s) t)[x.1]? = some x.2 ∧ x.2.2.2 <+: x0.2.2 ∧ x.2.2.2.length + r = x0.2.2.length) (x0.2.2.length - 1 - m) (0) ((j, x0)) ?_ ?_ ?_ ?_
  · omega
  · exact ⟨rfl, hj, List.prefix_rfl, rfl⟩
  · intro r x h1 hi I go
    show wq _ tb_Shortest_figureAt _ 12 [some (.ref 35), some (.int (nI m)), some (.int (nI x.1)), some (.int (nI (x0.2.2.length - 1 - r)))] [] h1 _
    obtain ⟨rfl, q1, q2, q3⟩ := I
    obtain ⟨j2, e2⟩ := x
    dsimp only at q1 q2 q3
    have hr : r < x0.2.2.length - 1 - m := hi
    show wq _ tb_Shortest_figureAt _ 12 [some (.ref 35), some (.int (nI m)), some (.int (nI j2)), some (.int (nI (x0.2.2.length - 1 - r)))] [] h1 _
    rw [show x0.2.2.length - 1 - r = (x0.2.2.length - 1 - (r + 1)) + 1 by omega]
    have hj2l := (List.getElem?_eq_some_iff.mp q1).1
    have hj0 : 0 < j2 := by
      rcases Nat.eq_zero_or_pos j2 with z | z
      · rw [z, B.zero] at q1
        cases q1
        have : 0 + r = x0.2.2.length := q3
        omega
      · exact z
    obtain ⟨o1, o2, e3, o3, o4⟩ := B.orig j2 e2 q1 hj0
    have hos := Ios j2 e2.2.1 (by rw [List.getElem?_map, q1]; rfl)
    refine wp_iload3 rfl ?_
    refine wp_iload1 rfl ?_
    refine wp_icmp_leN ((x0.2.2.length - 1 - (r + 1)) + 1) m (by omega) (by omega) rfl (fun z => absurd z (by omega)) (fun _ => ?_)
    refine wp_aload0 rfl ?_
    refine wp_getR rfl (Short_kd S) (Short_R0 S) (by first | decide | omega) ?_
    refine wp_iload2 rfl ?_
    refine wp_callV1I rfl (Nat.le_of_ble_eq_true rfl) (Orbit_kd (Short_s0 S)) (Orbit_previous_ok (Short_s0 S) (show j2 < hp_ln h1 b by omega) hos (by omega)) (Nat.le_of_ble_eq_true rfl) ?_
    refine pure_ ?_
    refine wp_istore2 rfl rfl ?_
    refine wp_iinc3M rfl rfl ?_
    refine wp_goto rfl ?_
    have hl4 : e2.2.2.length = e3.2.2.length + 1 := by rw [o4, List.length_append]; rfl
    exact go (e2.2.1 / 6, e3) h1 ⟨rfl, o3, (by rw [o4] at q2; exact (List.prefix_append _ _).trans q2), show e3.2.2.length + (r + 1) = _ by omega⟩
  · intro x h1 I
    show wq _ tb_Shortest_figureAt _ 12 [some (.ref 35), some (.int (nI m)), some (.int (nI x.1)), some (.int (nI (x0.2.2.length - 1 - (x0.2.2.length - 1 - m))))] [] h1 _
    obtain ⟨rfl, q1, q2, q3⟩ := I
    obtain ⟨j2, e2⟩ := x
    dsimp only at q1 q2 q3
    show wq _ tb_Shortest_figureAt _ 12 [some (.ref 35), some (.int (nI m)), some (.int (nI j2)), some (.int (nI (x0.2.2.length - 1 - (x0.2.2.length - 1 - m))))] [] h1 _
    have hj2l := (List.getElem?_eq_some_iff.mp q1).1
    have hl2 : e2.2.2.length = m + 1 := by omega
    have hj0 : 0 < j2 := by
      rcases Nat.eq_zero_or_pos j2 with z | z
      · rw [z, B.zero] at q1
        cases q1
        have : 0 = m + 1 := hl2
        omega
      · exact z
    obtain ⟨o1, o2, e3, o3, o4⟩ := B.orig j2 e2 q1 hj0
    have hos := Ios j2 e2.2.1 (by rw [List.getElem?_map, q1]; rfl)
    have hl4 : e2.2.2.length = e3.2.2.length + 1 := by rw [o4, List.length_append]; rfl
    have hg : x0.2.2[m]? = some (e2.2.1 % 6) := pre_get q2 (by
      rw [o4, show m = e3.2.2.length by omega, List.getElem?_concat_length])
    refine wp_iload3 rfl ?_
    refine wp_iload1 rfl ?_
    refine wp_icmp_leN (x0.2.2.length - 1 - (x0.2.2.length - 1 - m)) m (by omega) (by omega) rfl (fun _ => ?_) (fun z => absurd z (by omega))
    refine wp_aload0 rfl ?_
    refine wp_getR rfl (Short_kd S) (Short_R0 S) (by first | decide | omega) ?_
    refine wp_iload2 rfl ?_
    refine wp_callV1I rfl (Nat.le_of_ble_eq_true rfl) (Orbit_kd (Short_s0 S)) (Orbit_figureTo_ok (Short_s0 S) (show j2 < hp_ln h1 b by omega) hos (by omega)) (Nat.le_of_ble_eq_true rfl) ?_
    refine pure_ ?_
    rw [show e2.2.1 % 6 = x0.2.2.getD m 0 by rw [List.getD_eq_getElem?_getD, hg]; rfl]
    exact wp_iret rfl ⟨_, rfl, rfl, rfl⟩
