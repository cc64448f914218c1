-- ===== Shortest =====
/-- the rows of an orbit: those of the beginning or new ones -/
def rw4_ (x a b c e : Nat) : Prop := (a = x ∨ 93 < a) ∧ (b = x + 1 ∨ 93 < b) ∧ (c = x + 2 ∨ 93 < c) ∧ (e = x + 3 ∨ 93 < e)
theorem rw4_new {x a b c e a2 b2 c2 e2 : Nat} {h : Hp_} (hn : 93 ≤ hp_nx h) (r : rw4_ x a b c e) (w1 : nw2_ h a a2) (w2 : nw2_ h b b2) (w3 : nw2_ h c c2) (w4 : nw2_ h e e2) : rw4_ x a2 b2 c2 e2 := by
  unfold rw4_ at r ⊢
  unfold nw2_ at w1 w2 w3 w4
  omega
def S_Short (h : Hp_) (a b c e : Nat) : Prop := hp_kd h 35 = 15 ∧ (hp_R h 35 0 = 36 ∧ hp_R h 35 1 = 41) ∧ S_Orbit h 36 a b c e ∧ S_Memo h 41 ∧ on_ h 36 a b c e ∧ rw4_ 37 a b c e ∧ 93 ≤ hp_nx h ∧ hp_I h 36 0 = bo_ false
theorem Short_kd {h : Hp_} {a b c e : Nat} (S : S_Short h a b c e) : hp_kd h 35 = 15 := S.1
theorem Short_R0 {h : Hp_} {a b c e : Nat} (S : S_Short h a b c e) : hp_R h 35 0 = 36 := S.2.1.1
theorem Short_R1 {h : Hp_} {a b c e : Nat} (S : S_Short h a b c e) : hp_R h 35 1 = 41 := S.2.1.2
theorem Short_s0 {h : Hp_} {a b c e : Nat} (S : S_Short h a b c e) : S_Orbit h 36 a b c e := S.2.2.1
theorem Short_s1 {h : Hp_} {a b c e : Nat} (S : S_Short h a b c e) : S_Memo h 41 := S.2.2.2.1
/-- the outcome of a search that speaks of s -/
def SR_ (h : Hp_) (a b c e : Nat) (s : Sg_) : Prop := ∃ t, OI_ h 36 a b c (sg_n s) (kw_ s) ((bf_ (nx2_ (kw_ s) (mv_ s)) (may_ s) (sl_ s) t).map (·.1)) ((bf_ (nx2_ (kw_ s) (mv_ s)) (may_ s) (sl_ s) t).map (fun x => x.2.1)) ∧ ((hp_I h 35 3 = -1 ∧ FW_ s none) ∨ ∃ (j : Nat) (x : (Nat → Nat) × Nat × List Nat), (bf_ (nx2_ (kw_ s) (mv_ s)) (may_ s) (sl_ s) t)[j]? = some x ∧ hp_I h 35 2 = nI j ∧ hp_I h 35 3 = nI x.2.2.length ∧ FW_ s (some x.2.2))
def SH_ (h : Hp_) (P : Nat → Int32) (st : Bool) (a b c e : Nat) : Prop := MM_ h 41 P st ∧ (st = true → ∃ s, sg_wf s ∧ (∀ j, j < 10 → P j = kS_ s j) ∧ SR_ h a b c e s)
def sc_ (a b c e q : Nat) : Prop := q = 35 ∨ q = 36 ∨ q = 41 ∨ q = 42 ∨ q = a ∨ q = b ∨ q = c ∨ q = e
theorem S_Short_keep {P : Nat → Prop} {h h' : Hp_} {a b c e : Nat} (S : S_Short h a b c e) (A : ag_ P h h') (h1 : ¬ P 35) (h2 : hp_R h' 36 = hp_R h 36) (h3 : hp_I h' 36 0 = hp_I h 36 0) (h4 : hp_R h' 41 = hp_R h 41) : S_Short h' a b c e := by
  obtain ⟨k, r, ⟨o1, o2, o3, o4, o5, o6, o7⟩, m, ⟨n1, n2, n3, n4, n5⟩, w, n93, i0⟩ := S
  obtain ⟨A1, A2, A3⟩ := A
  unfold S_Memo at m
  have e35 := A3 35 (by omega)
  have e36 := A3 36 (by omega)
  have e41 := A3 41 (by omega)
  have e42 := A3 42 (by omega)
  have ea := A3 a n2
  have eb := A3 b n3
  have ec := A3 c n4
  have ee := A3 e n5
  refine ⟨e35.1.trans k, by rw [(e35.2.2 h1).2.2]; exact r, ⟨e36.1.trans o1, by rw [h2]; exact o2, ?_, o4, o5, o6, ?_⟩, ⟨e41.1.trans m.1, by rw [h4]; exact m.2.1, e42.1.trans m.2.2.1, e42.2.1.trans m.2.2.2⟩, ⟨by omega, by omega, by omega, by omega, by omega⟩, w, by omega, by rw [h3]; exact i0⟩
  · rw [ea.1, eb.1, ec.1, ee.1]; exact o3
  · rw [ea.2.1, eb.2.1, ec.2.1, ee.2.1]; exact o7
theorem OI_cg {h h' : Hp_} {o a b c n k : Nat} {ws : List (Nat → Nat)} {os : List Nat} (I : OI_ h o a b c n k ws os) (ho : hp_I h' o = hp_I h o) (ha : hp_I h' a = hp_I h a ∧ hp_ln h' a = hp_ln h a) (hb : hp_I h' b = hp_I h b ∧ hp_ln h' b = hp_ln h b) (hc : hp_I h' c = hp_I h c ∧ hp_ln h' c = hp_ln h c) : OI_ h' o a b c n k ws os := by
  unfold OI_ at I ⊢
  rw [ho, ha.1, hb.1, hc.1, ha.2, hb.2, hc.2]
  exact I
theorem SR_keep {P : Nat → Prop} {h h' : Hp_} {a b c e : Nat} {s : Sg_} (S : S_Short h a b c e) (R : SR_ h a b c e s) (A : ag_ P h h') (hP : ∀ q, q = 35 ∨ q = 36 ∨ q = a ∨ q = b ∨ q = c → ¬ P q) : SR_ h' a b c e s := by
  obtain ⟨t, I, F⟩ := R
  obtain ⟨k, r, o, m, ⟨n1, n2, n3, n4, n5⟩, w, n93, i0⟩ := S
  obtain ⟨A1, A2, A3⟩ := A
  have e35 := (A3 35 (by omega)).2.2 (hP _ (by omega))
  have e36 := (A3 36 (by omega)).2.2 (hP _ (by omega))
  have ea := A3 a n2
  have eb := A3 b n3
  have ec := A3 c n4
  refine ⟨t, OI_cg I e36.1 ⟨(ea.2.2 (hP _ (by omega))).1, ea.2.1⟩ ⟨(eb.2.2 (hP _ (by omega))).1, eb.2.1⟩ ⟨(ec.2.2 (hP _ (by omega))).1, ec.2.1⟩, ?_⟩
  rw [e35.1]
  exact F
theorem SH_keep {P : Nat → Prop} {h h' : Hp_} {a b c e : Nat} {PP : Nat → Int32} {st : Bool} (S : S_Short h a b c e) (H : SH_ h PP st a b c e) (A : ag_ P h h') (hP : ∀ q, sc_ a b c e q → ¬ P q) : S_Short h' a b c e ∧ SH_ h' PP st a b c e := by
  have n93 := S.2.2.2.2.2.2.1
  have e36 := (A.2.2 36 (by omega)).2.2 (hP _ (by unfold sc_; omega))
  have e41 := (A.2.2 41 (by omega)).2.2 (hP _ (by unfold sc_; omega))
  have e42 := (A.2.2 42 (by omega)).2.2 (hP _ (by unfold sc_; omega))
  refine ⟨S_Short_keep S A (hP _ (by unfold sc_; omega)) e36.2.2 (by rw [e36.1]) e41.2.2, ?_, fun z => ?_⟩
  · obtain ⟨cc, m1, m2, m3⟩ := H.1
    exact ⟨cc, by rw [e42.1]; exact m1, by rw [e41.1]; exact m2, by rw [e41.1]; exact m3⟩
  · obtain ⟨s, w, hk, R⟩ := H.2 z
    exact ⟨s, w, hk, SR_keep S R A (fun q hq => hP q (by unfold sc_; omega))⟩
theorem mm_ne {h : Hp_} {o q c : Nat} {P : Nat → Int32} {s : Bool} (h1 : q ≠ o) (h2 : q ≠ o + 1) : hp_I (mm_ h o P c s) q = hp_I h q := by
  unfold mm_
  rw [sd_rI_ne h1, sd_rI_ne h2]
theorem mm_fz (h : Hp_) (o : Nat) (P : Nat → Int32) (c : Nat) (s : Bool) : fz_ (fun q => q = o ∨ q = o + 1) h (mm_ h o P c s) := fz_rI (fz_rI (fz_refl _ h) (Or.inr rfl) P) (Or.inl rfl) _
-- the mathematics
theorem bfS_Lz {n k : Nat} {mv : Nat → Nat → Nat} {ok : Nat → Bool} {w0 : Nat → Nat} (hm : ∀ f, IsP n (mv f)) (W : Lz_ n k w0) : ∀ u, Lz_ n k (rn_ (nx2_ k mv) w0 u) := by
  refine snoc_ind W ?_
  intro u f ih
  rw [rn_snoc]
  exact nx2_Lz (hm f) ih
theorem bfS_len {n k : Nat} {mv : Nat → Nat → Nat} {ok : Nat → Bool} {w0 : Nat → Nat} (hm : ∀ f, IsP n (mv f)) (W : Lz_ n k w0) (t : Nat) : (bf_ (nx2_ k mv) ok w0 t).length ≤ ce_ n k := by
  have := Lz_count (n := n) (k := k) (bf_inv (st := nx2_ k mv) (ok := ok) (s0 := w0) t).nod (fun w hw => by
    obtain ⟨e, he, rfl⟩ := List.mem_map.mp hw
    show Lz_ n k e.1
    rw [((bf_inv (st := nx2_ k mv) (ok := ok) (s0 := w0) t).word e he).1]
    exact bfS_Lz (ok := ok) hm W _)
  rw [List.length_map] at this
  exact this
/-- a state that has been met stands by its least word -/
theorem bf_least {n k : Nat} {mv : Nat → Nat → Nat} {ok : Nat → Bool} {w0 : Nat → Nat} (hn : n ≤ 8) (hm : ∀ f, IsP n (mv f)) (W : Lz_ n k w0) {t : Nat} {e : (Nat → Nat) × Nat × List Nat} (he : e ∈ bf_ (nx2_ k mv) ok w0 t) {v : List Nat} (hv : ∀ f ∈ v, f < 6 ∧ ok f = true) (hr : e.1 = rn_ (nx2_ k mv) w0 v) : va_w e.2.2 ≤ va_w v := by
  have hl := bfS_len (ok := ok) hm W (t + 6 * ce_ n k)
  obtain ⟨e2, h1, h2, h3⟩ := bf_all (st := nx2_ k mv) (ok := ok) (s0 := w0) (t := t + 6 * ce_ n k) (by omega) v hv
  obtain ⟨i, hi⟩ := List.getElem?_of_mem he
  obtain ⟨j, hj⟩ := List.getElem?_of_mem h1
  have hi2 := bf_get (st := nx2_ k mv) (ok := ok) (s0 := w0) t (6 * ce_ n k) i e hi
  have hnd := (bf_inv (st := nx2_ k mv) (ok := ok) (s0 := w0) (t + 6 * ce_ n k)).nod
  have hii := (List.getElem?_eq_some_iff.mp hi2).1
  have : i = j := (List.getElem?_inj (by rw [List.length_map]; exact hii) hnd).mp (by rw [List.getElem?_map, List.getElem?_map, hi2, hj]; show some e.1 = some e2.1; rw [hr, h2])
  rw [this, hj] at hi2
  cases hi2
  exact h3
theorem SR_none {s : Sg_} (w : sg_wf s) {t : Nat} (ht : 6 * (bf_ (nx2_ (kw_ s) (mv_ s)) (may_ s) (sl_ s) t).length ≤ t) (hn : ¬ gl_ s ∈ (bf_ (nx2_ (kw_ s) (mv_ s)) (may_ s) (sl_ s) t).map (·.1)) : FW_ s none := by
  intro u hu hW
  obtain ⟨e, h1, h2, _⟩ := bf_all (st := nx2_ (kw_ s) (mv_ s)) (ok := may_ s) (s0 := sl_ s) ht u hu
  refine hn (List.mem_map.mpr ⟨e, h1, ?_⟩)
  show e.1 = gl_ s
  rw [h2, rn_nx2 (sl_Lz w) u]
  funext i
  by_cases z : i < kw_ s
  · rw [if_pos z]; exact (WT_kS u).mp hW i z
  · rw [if_neg z, (gl_Lz w).2 i (by omega)]
theorem SR_some {s : Sg_} (w : sg_wf s) {t : Nat} {e : (Nat → Nat) × Nat × List Nat} (he : e ∈ bf_ (nx2_ (kw_ s) (mv_ s)) (may_ s) (sl_ s) t) (hg : e.1 = gl_ s) : FW_ s (some e.2.2) := by
  obtain ⟨h1, h2⟩ := (bf_inv (st := nx2_ (kw_ s) (mv_ s)) (ok := may_ s) (s0 := sl_ s) t).word e he
  refine ⟨h2, ?_, fun v hv hW => ?_⟩
  · rw [WT_kS]
    intro i hi
    have e1 := congrFun (h1.symm.trans hg) i
    rw [rn_nx2 (sl_Lz w)] at e1
    (try dsimp only at e1)
    rw [if_pos hi] at e1
    exact e1
  · refine bf_least w.1.2 (mv_P w) (sl_Lz w) he hv ?_
    rw [hg, rn_nx2 (sl_Lz w) v]
    funext i
    by_cases z : i < kw_ s
    · rw [if_pos z]; exact ((WT_kS v).mp hW i z).symm
    · rw [if_neg z, (gl_Lz w).2 i (by omega)]
-- the program
set_option maxRecDepth 4000 in
theorem Shortest_figuresTo_ok {h : Hp_} {a b c e j : Nat} {s : Sg_} {t : Nat} {x0 : (Nat → Nat) × Nat × List Nat} (S : S_Short h a b c e) (w : sg_wf s) (I : OI_ h 36 a b c (sg_n s) (kw_ s) ((bf_ (nx2_ (kw_ s) (mv_ s)) (may_ s) (sl_ s) t).map (·.1)) ((bf_ (nx2_ (kw_ s) (mv_ s)) (may_ s) (sl_ s) t).map (fun x => x.2.1))) (hj : (bf_ (nx2_ (kw_ s) (mv_ s)) (may_ s) (sl_ s) t)[j]? = some x0) : cI 4 mn_Shortest_figuresTo [.ref 35, .int (nI j)] h (fun x h' => x = nI x0.2.2.length ∧ h' = h) := by
  have ⟨I1, I2, I3, ⟨Ia, Ib, Ic⟩, Ind, IL, Iat, Ino, Iol, Ios⟩ := I
  have B := bf_inv (st := nx2_ (kw_ s) (mv_ s)) (ok := may_ s) (s0 := sl_ s) t
  have hlen := bfS_len (ok := may_ s) (mv_P w) (sl_Lz w) t
  have hce := ce_le w.1.2 (kw_ s)
  have hjl := (List.getElem?_eq_some_iff.mp hj).1
  have hwl := bi_wl B j x0 hj
  rw [List.length_map] at I3
  refine cq_in (q := mi_Shortest_figuresTo) (L := [some (.ref 35), some (.int (nI j)), none, none]) rfl (Nat.le_of_ble_eq_true rfl) rfl ?_
  show wq _ tb_Shortest_figuresTo none 0 _ _ _ _
  refine wp_iconst rfl ?_
  refine wp_istore2 rfl rfl ?_
  refine wp_iload1 rfl ?_
  refine wp_istore3 rfl rfl ?_
  refine wq_loop (X := Nat × ((Nat → Nat) × Nat × List Nat)) (fun r x => [some (.ref 35), some (.int (nI j)), some (.int (nI r)), some (.int (nI x.1))]) (fun r x h1 => h1 = h ∧ (bf_ (nx2_ (kw_ s) (mv_ s)) (may_ s) (sl_ s) t)[x.1]? = some x.2 ∧ x.2.2.2.length + r = x0.2.2.length) (x0.2.2.length) (0) ((j, x0)) ?_ ?_ ?_ ?_
  · omega
  · exact ⟨rfl, hj, rfl⟩
  · intro r x h1 hi I go
    show wq _ tb_Shortest_figuresTo _ 4 [some (.ref 35), some (.int (nI j)), some (.int (nI r)), some (.int (nI x.1))] [] h1 _
    obtain ⟨rfl, q1, q3⟩ := I
    obtain ⟨j2, e2⟩ := x
    dsimp only at q1 q3
    show wq _ tb_Shortest_figuresTo _ 4 [some (.ref 35), some (.int (nI j)), some (.int (nI r)), some (.int (nI j2))] [] h1 _
    have hr : r < x0.2.2.length := hi
    have hj2l := (List.getElem?_eq_some_iff.mp q1).1
    have hj0 : 0 < j2 := by
      rcases Nat.eq_zero_or_pos j2 with z | z
      · rw [z, B.zero] at q1
        cases q1
        have : 0 + r = x0.2.2.length := q3
        omega
      · exact z
    obtain ⟨o1, o2, e3, o3, o4⟩ := B.orig j2 e2 q1 hj0
    have hos := Ios j2 e2.2.1 (by rw [List.getElem?_map, q1]; rfl)
    refine wp_iload3 rfl ?_
    refine wp_if_leN j2 0 (by omega) (by decide) rfl (fun z => absurd z (by omega)) (fun _ => ?_)
    refine wp_iload2 rfl ?_
    refine wp_aload0 rfl ?_
    refine wp_getR rfl (Short_kd S) (Short_R0 S) (by first | decide | omega) ?_
    refine wp_getIE rfl (Orbit_kd (Short_s0 S)) (show _ = nI ((bf_ (nx2_ (kw_ s) (mv_ s)) (may_ s) (sl_ s) t).length) from I3) ?_
    refine wp_icmp_geN r ((bf_ (nx2_ (kw_ s) (mv_ s)) (may_ s) (sl_ s) t).length) (by omega) (by omega) rfl (fun z => absurd z (by omega)) (fun _ => ?_)
    refine wp_aload0 rfl ?_
    refine wp_getR rfl (Short_kd S) (Short_R0 S) (by first | decide | omega) ?_
    refine wp_iload3 rfl ?_
    refine wp_callV1I rfl (Nat.le_of_ble_eq_true rfl) (Orbit_kd (Short_s0 S)) (Orbit_previous_ok (Short_s0 S) (show j2 < hp_ln h1 b by omega) hos (by omega)) (Nat.le_of_ble_eq_true rfl) ?_
    refine pure_ ?_
    refine wp_istore3 rfl rfl ?_
    refine wp_iinc2N rfl rfl ?_
    refine wp_goto rfl ?_
    have hl4 : e2.2.2.length = e3.2.2.length + 1 := by rw [o4, List.length_append]; rfl
    exact go (e2.2.1 / 6, e3) h1 ⟨rfl, o3, show e3.2.2.length + (r + 1) = _ by omega⟩
  · intro x h1 I
    show wq _ tb_Shortest_figuresTo _ 4 [some (.ref 35), some (.int (nI j)), some (.int (nI (x0.2.2.length))), some (.int (nI x.1))] [] h1 _
    obtain ⟨rfl, q1, q3⟩ := I
    obtain ⟨j2, e2⟩ := x
    dsimp only at q1 q3
    have hz : j2 = 0 := by
      rcases Nat.eq_zero_or_pos j2 with z | z
      · exact z
      · obtain ⟨_, _, e3, _, o4⟩ := B.orig j2 e2 q1 z
        have : e2.2.2.length = e3.2.2.length + 1 := by rw [o4, List.length_append]; rfl
        omega
    subst hz
    show wq _ tb_Shortest_figuresTo _ 4 [some (.ref 35), some (.int (nI j)), some (.int (nI x0.2.2.length)), some (.int (nI 0))] [] h1 _
    refine wp_iload3 rfl ?_
    refine wp_if_leN 0 0 (by omega) (by decide) rfl (fun _ => ?_) (fun z => absurd z (by omega))
    refine wp_iload2 rfl ?_
    exact wp_iret rfl ⟨_, rfl, rfl, rfl⟩
set_option maxRecDepth 4000 in
theorem Shortest_figureAt_ok {h : Hp_} {a b c e m : Nat} {s : Sg_} {t j : Nat} {x0 : (Nat → Nat) × Nat × List Nat} (S : S_Short h a b c e) (w : sg_wf s) (I : OI_ h 36 a b c (sg_n s) (kw_ s) ((bf_ (nx2_ (kw_ s) (mv_ s)) (may_ s) (sl_ s) t).map (·.1)) ((bf_ (nx2_ (kw_ s) (mv_ s)) (may_ s) (sl_ s) t).map (fun x => x.2.1))) (hj : (bf_ (nx2_ (kw_ s) (mv_ s)) (may_ s) (sl_ s) t)[j]? = some x0) (he : hp_I h 35 2 = nI j) (hf : hp_I h 35 3 = nI x0.2.2.length) (hm : m < x0.2.2.length) : cI 4 mn_Shortest_figureAt [.ref 35, .int (nI m)] h (fun x h' => x = nI (x0.2.2.getD m 0) ∧ h' = h) := by
  have ⟨I1, I2, I3, ⟨Ia, Ib, Ic⟩, Ind, IL, Iat, Ino, Iol, Ios⟩ := I
  have B := bf_inv (st := nx2_ (kw_ s) (mv_ s)) (ok := may_ s) (s0 := sl_ s) t
  have hlen := bfS_len (ok := may_ s) (mv_P w) (sl_Lz w) t
  have hce := ce_le w.1.2 (kw_ s)
  have hjl := (List.getElem?_eq_some_iff.mp hj).1
  have hwl := bi_wl B j x0 hj
  rw [List.length_map] at I3
  refine cq_in (q := mi_Shortest_figureAt) (L := [some (.ref 35), some (.int (nI m)), none, none]) rfl (Nat.le_of_ble_eq_true rfl) rfl ?_
  show wq _ tb_Shortest_figureAt none 0 _ _ _ _
  refine wp_aload0 rfl ?_
  refine wp_getIE rfl (Short_kd S) (show _ = nI j from he) ?_
  refine wp_istore2 rfl rfl ?_
  refine wp_aload0 rfl ?_
  refine wp_getIE rfl (Short_kd S) (show _ = nI (x0.2.2.length) from hf) ?_
  refine wp_iconst rfl ?_
  refine wp_isubE (nI ((x0.2.2.length) - 1)) (pk_sub (by omega)) rfl ?_
  refine wp_istore3 rfl rfl ?_
  refine wq_loop (X := Nat × ((Nat → Nat) × Nat × List Nat)) (fun r x => [some (.ref 35), some (.int (nI m)), some (.int (nI x.1)), some (.int (nI (x0.2.2.length - 1 - r)))]) (fun r x h1 => h1 = h ∧ (bf_ (nx2_ (kw_ s) (mv_ s)) (may_ s) (sl_ s) t)[x.1]? = some x.2 ∧ x.2.2.2 <+: x0.2.2 ∧ x.2.2.2.length + r = x0.2.2.length) (x0.2.2.length - 1 - m) (0) ((j, x0)) ?_ ?_ ?_ ?_
  · omega
  · exact ⟨rfl, hj, List.prefix_rfl, rfl⟩
  · intro r x h1 hi I go
    show wq _ tb_Shortest_figureAt _ 12 [some (.ref 35), some (.int (nI m)), some (.int (nI x.1)), some (.int (nI (x0.2.2.length - 1 - r)))] [] h1 _
    obtain ⟨rfl, q1, q2, q3⟩ := I
    obtain ⟨j2, e2⟩ := x
    dsimp only at q1 q2 q3
    have hr : r < x0.2.2.length - 1 - m := hi
    show wq _ tb_Shortest_figureAt _ 12 [some (.ref 35), some (.int (nI m)), some (.int (nI j2)), some (.int (nI (x0.2.2.length - 1 - r)))] [] h1 _
    rw [show x0.2.2.length - 1 - r = (x0.2.2.length - 1 - (r + 1)) + 1 by omega]
    have hj2l := (List.getElem?_eq_some_iff.mp q1).1
    have hj0 : 0 < j2 := by
      rcases Nat.eq_zero_or_pos j2 with z | z
      · rw [z, B.zero] at q1
        cases q1
        have : 0 + r = x0.2.2.length := q3
        omega
      · exact z
    obtain ⟨o1, o2, e3, o3, o4⟩ := B.orig j2 e2 q1 hj0
    have hos := Ios j2 e2.2.1 (by rw [List.getElem?_map, q1]; rfl)
    refine wp_iload3 rfl ?_
    refine wp_iload1 rfl ?_
    refine wp_icmp_leN ((x0.2.2.length - 1 - (r + 1)) + 1) m (by omega) (by omega) rfl (fun z => absurd z (by omega)) (fun _ => ?_)
    refine wp_aload0 rfl ?_
    refine wp_getR rfl (Short_kd S) (Short_R0 S) (by first | decide | omega) ?_
    refine wp_iload2 rfl ?_
    refine wp_callV1I rfl (Nat.le_of_ble_eq_true rfl) (Orbit_kd (Short_s0 S)) (Orbit_previous_ok (Short_s0 S) (show j2 < hp_ln h1 b by omega) hos (by omega)) (Nat.le_of_ble_eq_true rfl) ?_
    refine pure_ ?_
    refine wp_istore2 rfl rfl ?_
    refine wp_iinc3M rfl rfl ?_
    refine wp_goto rfl ?_
    have hl4 : e2.2.2.length = e3.2.2.length + 1 := by rw [o4, List.length_append]; rfl
    exact go (e2.2.1 / 6, e3) h1 ⟨rfl, o3, (by rw [o4] at q2; exact (List.prefix_append _ _).trans q2), show e3.2.2.length + (r + 1) = _ by omega⟩
  · intro x h1 I
    show wq _ tb_Shortest_figureAt _ 12 [some (.ref 35), some (.int (nI m)), some (.int (nI x.1)), some (.int (nI (x0.2.2.length - 1 - (x0.2.2.length - 1 - m))))] [] h1 _
    obtain ⟨rfl, q1, q2, q3⟩ := I
    obtain ⟨j2, e2⟩ := x
    dsimp only at q1 q2 q3
    show wq _ tb_Shortest_figureAt _ 12 [some (.ref 35), some (.int (nI m)), some (.int (nI j2)), some (.int (nI (x0.2.2.length - 1 - (x0.2.2.length - 1 - m))))] [] h1 _
    have hj2l := (List.getElem?_eq_some_iff.mp q1).1
    have hl2 : e2.2.2.length = m + 1 := by omega
    have hj0 : 0 < j2 := by
      rcases Nat.eq_zero_or_pos j2 with z | z
      · rw [z, B.zero] at q1
        cases q1
        have : 0 = m + 1 := hl2
        omega
      · exact z
    obtain ⟨o1, o2, e3, o3, o4⟩ := B.orig j2 e2 q1 hj0
    have hos := Ios j2 e2.2.1 (by rw [List.getElem?_map, q1]; rfl)
    have hl4 : e2.2.2.length = e3.2.2.length + 1 := by rw [o4, List.length_append]; rfl
    have hg : x0.2.2[m]? = some (e2.2.1 % 6) := pre_get q2 (by
      rw [o4, show m = e3.2.2.length by omega, List.getElem?_concat_length])
    refine wp_iload3 rfl ?_
    refine wp_iload1 rfl ?_
    refine wp_icmp_leN (x0.2.2.length - 1 - (x0.2.2.length - 1 - m)) m (by omega) (by omega) rfl (fun _ => ?_) (fun z => absurd z (by omega))
    refine wp_aload0 rfl ?_
    refine wp_getR rfl (Short_kd S) (Short_R0 S) (by first | decide | omega) ?_
    refine wp_iload2 rfl ?_
    refine wp_callV1I rfl (Nat.le_of_ble_eq_true rfl) (Orbit_kd (Short_s0 S)) (Orbit_figureTo_ok (Short_s0 S) (show j2 < hp_ln h1 b by omega) hos (by omega)) (Nat.le_of_ble_eq_true rfl) ?_
    refine pure_ ?_
    rw [show e2.2.1 % 6 = x0.2.2.getD m 0 by rw [List.getD_eq_getElem?_getD, hg]; rfl]
    exact wp_iret rfl ⟨_, rfl, rfl, rfl⟩
theorem lw0 (s : Sg_) (p : Nat → Nat) : pq_ (lw2_ s p 0) 8 = 0 := by
  rw [show pq_ (lw2_ s p 0) 8 = pq_ (fun _ => 0) 8 from pq_cong 8 (fun i _ => if_neg (Nat.not_lt_zero i))]
  rfl
theorem lw2_8 {s : Sg_} {p : Nat → Nat} {n : Nat} (h : ∀ g, g < n → sg_wa s g ≠ 8 → p g < 8) (i : Nat) : lw2_ s p n i < 8 := by
  unfold lw2_
  by_cases z : i < (wl_ s n).length
  · rw [if_pos z]
    have := wl_mem.mp (List.mem_of_getElem? (wl_get z))
    exact h _ this.1 this.2
  · rw [if_neg z]; exact Nat.zero_lt_succ _
set_option maxRecDepth 4000 in
set_option maxHeartbeats 4000000 in
theorem Shortest_find_ok {h : Hp_} {a b c e : Nat} {P : Nat → Int32} {st : Bool} {s : Sg_} (S : S_Short h a b c e) (H : SH_ h P st a b c e) (Mk : S_Market h 4) (M : MK_ h 4 s) (w : sg_wf s) (hM : hp_kd h 31 = 1 ∧ hp_ln h 31 = 6) (hr : ∀ f, f < 6 → hp_I h 31 f = ms_ s f) : cV 10 mn_Shortest_find [.ref 35, .ref 4, .ref 31] h (fun h' => ∃ a2 b2 c2 e2 P2, S_Short h' a2 b2 c2 e2 ∧ SH_ h' P2 true a2 b2 c2 e2 ∧ (∀ j, j < 10 → P2 j = kS_ s j) ∧ ag_ (sc_ a b c e) h h' ∧ (nw2_ h a a2 ∧ nw2_ h b b2 ∧ nw2_ h c c2 ∧ nw2_ h e e2) ∧ hp_nx h' ≤ hp_nx h + 4 ∧ hp_sl h' + oc2_ h a b c e ≤ hp_sl h + oc2_ h' a2 b2 c2 e2) := by
  have n3 := w.1.1
  have n8 := w.1.2
  have hw8 : ∀ g, g < sg_n s → sg_wa s g ≠ 8 → sg_wa s g < 8 := fun g hg h8 => by rcases w.2.2.2.2.2.2.2.1.1 g with z | z; omega; exact absurd z h8
  have hp8 : ∀ g, g < sg_n s → sg_pos s g < 8 := fun g hg => Nat.lt_of_lt_of_le (w.2.1.1 g hg) n8
  have hkl := wl_len s (sg_n s)
  have n93 := S.2.2.2.2.2.2.1
  refine cq_in (q := mi_Shortest_find) (L := [some (.ref 35), some (.ref 4), some (.ref 31), none, none, none, none, none]) rfl (Nat.le_of_ble_eq_true rfl) rfl ?_
  show wq _ tb_Shortest_find none 0 _ _ _ _
  refine wp_iconst rfl ?_
  refine wp_istore3 rfl rfl ?_
  refine wp_iconst rfl ?_
  refine wp_istore4 rfl rfl ?_
  refine wp_iconst rfl ?_
  refine wp_istore5 rfl rfl ?_
  refine wp_iconst rfl ?_
  refine wp_istore6 rfl rfl ?_
  refine wq_loc (L' := [some (.ref 35), some (.ref 4), some (.ref 31), some (.int (nI (wl_ s 0).length)), some (.int (nI (pq_ (lw2_ s (sg_pos s) 0) 8))), some (.int (nI (pq_ (lw2_ s (sg_wa s) 0) 8))), some (.int (nI 0)), none]) (by rw [lw0, lw0]; rfl) ?_
  refine wq_loop (X := Option Value) (fun g x => [some (.ref 35), some (.ref 4), some (.ref 31), some (.int (nI (wl_ s g).length)), some (.int (nI (pq_ (lw2_ s (sg_pos s) g) 8))), some (.int (nI (pq_ (lw2_ s (sg_wa s) g) 8))), some (.int (nI g)), x]) (fun g x h1 => h1 = h) (sg_n s) (0) (none) ?_ ?_ ?_ ?_
  · omega
  · rfl
  · intro g x h1 hi I go
    show wq _ tb_Shortest_find _ 11 [some (.ref 35), some (.ref 4), some (.ref 31), some (.int (nI (wl_ s g).length)), some (.int (nI (pq_ (lw2_ s (sg_pos s) g) 8))), some (.int (nI (pq_ (lw2_ s (sg_wa s) g) 8))), some (.int (nI g)), x] [] h1 _
    obtain rfl := I
    have hg : g < sg_n s := hi
    have hwv := M.2.2.2.1 g (by omega)
    have hgl := wl_len s g
    refine wp_iload6 rfl ?_
    refine wp_aload1 rfl ?_
    refine wp_getIE rfl (Market_kd Mk) (show _ = nI (sg_n s) from M.1.1) ?_
    refine wp_icmp_geN g (sg_n s) (by omega) (by omega) rfl (fun z => absurd z (by omega)) (fun _ => ?_)
    refine wp_aload1 rfl ?_
    refine wp_getR rfl (Market_kd Mk) (Market_R7 Mk) (by first | decide | omega) ?_
    refine wp_iload6 rfl ?_
    refine wp_callS2I rfl (Nat.le_of_ble_eq_true rfl) (Cells_atV_ok (Market_k7 Mk) (by decide) (Nat.lt_of_lt_of_eq (show g < 8 by omega) (Market_n7 Mk).symm) (by rw [Market_n7 Mk]; decide) hwv) (Nat.le_of_ble_eq_true rfl) ?_
    refine pure_ ?_
    by_cases z : sg_wa s g ≠ 8
    · rw [show wv_ (sg_wa s g) = nI (sg_wa s g) from if_neg z]
      have hz8 := hw8 g hg z
      have hpg := hp8 g hg
      refine wp_istore7 rfl rfl ?_
      refine wp_iload7 rfl ?_
      refine wp_iconst rfl ?_
      refine wp_icmp_eq rfl (fun z => absurd z (fun y => nI_ne_m1 (by omega) y)) (fun _ => ?_)
      refine wp_iload4 rfl ?_
      refine wp_iload3 rfl ?_
      refine wp_aload1 rfl ?_
      refine wp_iload6 rfl ?_
      refine wp_callV1I rfl (Nat.le_of_ble_eq_true rfl) (Market_kd Mk) (Market_placeOf_ok Mk (w.2.1.lt8 n8) M.1.2.1 (by omega)) (Nat.le_of_ble_eq_true rfl) ?_
      refine pure_ ?_
      refine wp_callS3I rfl (Nat.le_of_ble_eq_true rfl) (Maps_with_ok (fun i _ => lw2_8 (fun q hq _ => hp8 q (by omega)) i) (by omega) hpg) (Nat.le_of_ble_eq_true rfl) ?_
      refine pure_ ?_
      refine wp_istore4 rfl rfl ?_
      refine wp_iload5 rfl ?_
      refine wp_iload3 rfl ?_
      refine wp_iload7 rfl ?_
      refine wp_callS3I rfl (Nat.le_of_ble_eq_true rfl) (Maps_with_ok (fun i _ => lw2_8 (fun q hq h8 => hw8 q (by omega) h8) i) (by omega) hz8) (Nat.le_of_ble_eq_true rfl) ?_
      refine pure_ ?_
      refine wp_istore5 rfl rfl ?_
      refine wp_iinc3N rfl rfl ?_
      refine wp_iinc6N rfl rfl ?_
      refine wp_goto rfl ?_
      rw [lw2_next z, lw2_next z]
      have e1 : (wl_ s g).length + 1 = (wl_ s (g + 1)).length := by rw [wl_succ, if_pos z, List.length_append]; rfl
      rw [e1]
      exact go (some (.int (nI (sg_wa s g)))) h1 rfl
    · rw [show wv_ (sg_wa s g) = -1 from if_pos (Decidable.of_not_not z)]
      refine wp_istore7 rfl rfl ?_
      refine wp_iload7 rfl ?_
      refine wp_iconst rfl ?_
      refine wp_icmp_eq rfl (fun _ => ?_) (fun z => absurd z (fun y => y rfl))
      refine wp_iinc6N rfl rfl ?_
      refine wp_goto rfl ?_
      have kk := go (some (.int (-1))) h1 rfl
      (try dsimp only at kk)
      unfold lw2_ at kk
      rw [wl_same z] at kk
      exact kk
  · intro x h1 I
    show wq _ tb_Shortest_find _ 11 [some (.ref 35), some (.ref 4), some (.ref 31), some (.int (nI (wl_ s (sg_n s)).length)), some (.int (nI (pq_ (lw2_ s (sg_pos s) (sg_n s)) 8))), some (.int (nI (pq_ (lw2_ s (sg_wa s) (sg_n s)) 8))), some (.int (nI (sg_n s))), x] [] h1 _
    obtain rfl := I
    have hkw : kw_ s ≤ 8 := Nat.le_trans hkl n8
    refine wp_iload6 rfl ?_
    refine wp_aload1 rfl ?_
    refine wp_getIE rfl (Market_kd Mk) (show _ = nI (sg_n s) from M.1.1) ?_
    refine wp_icmp_geN (sg_n s) (sg_n s) (by omega) (by omega) rfl (fun _ => ?_) (fun z => absurd z (by omega))
    refine wp_aload0 rfl ?_
    refine wp_getR rfl (Short_kd S) (Short_R1 S) (by first | decide | omega) ?_
    refine wp_callV0V rfl (Nat.le_of_ble_eq_true rfl) (Memo_kd (Short_s1 S)) (Memo_begin_ok (Short_s1 S)) (Nat.le_of_ble_eq_true rfl) ?_
    intro h2 e2
    rw [mm_begin H.1] at e2
    subst e2
    refine wp_aload0 rfl ?_
    refine wp_getR rfl (Short_kd S) (Short_R1 S) (by first | decide | omega) ?_
    refine wp_aload2 rfl ?_
    refine wp_callV1V rfl (Nat.le_of_ble_eq_true rfl) (Memo_kd (Short_s1 S)) (Memo_partsOfRow_ok (m := 6) (Short_s1 S) hM.1 (by decide) hM.2 (by decide) (by decide) (by decide)) (Nat.le_of_ble_eq_true rfl) ?_
    intro h2 e2
    obtain ⟨P1, f1, e3, Q1⟩ : ∃ P1 f1, h2 = mm_ h1 41 P1 6 f1 ∧ MQ_ P st (kS_ s) 6 P1 f1 := ⟨_, _, e2, MQ_row (c := 0) (m := 6) (fun i hi => by rw [Nat.zero_add, hr i hi]; exact if_pos hi) (MQ_0 P st (kS_ s))⟩
    subst e3
    clear e2
    refine wp_aload0 rfl ?_
    refine wp_getR rfl (Short_kd S) (Short_R1 S) (by first | decide | omega) ?_
    refine wp_aload1 rfl ?_
    refine wp_getIE rfl (Market_kd Mk) (show _ = nI (sg_n s) from by rw [mm_ne (by decide) (by decide)]; exact M.1.1) ?_
    refine wp_callV1V rfl (Nat.le_of_ble_eq_true rfl) (Memo_kd (Short_s1 S)) (Memo_part_ok (c := 6) (Short_s1 S) (by decide)) (Nat.le_of_ble_eq_true rfl) ?_
    intro h2 e2
    obtain ⟨P2, f2, e3, Q2⟩ : ∃ P2 f2, h2 = mm_ h1 41 P2 7 f2 ∧ MQ_ P st (kS_ s) 7 P2 f2 := ⟨_, _, e2, MQ_part (c := 6) rfl Q1⟩
    subst e3
    clear e2
    refine wp_aload0 rfl ?_
    refine wp_getR rfl (Short_kd S) (Short_R1 S) (by first | decide | omega) ?_
    refine wp_iload3 rfl ?_
    refine wp_callV1V rfl (Nat.le_of_ble_eq_true rfl) (Memo_kd (Short_s1 S)) (Memo_part_ok (c := 7) (Short_s1 S) (by decide)) (Nat.le_of_ble_eq_true rfl) ?_
    intro h2 e2
    obtain ⟨P3, f3, e3, Q3⟩ : ∃ P3 f3, h2 = mm_ h1 41 P3 8 f3 ∧ MQ_ P st (kS_ s) 8 P3 f3 := ⟨_, _, e2, MQ_part (c := 7) rfl Q2⟩
    subst e3
    clear e2
    refine wp_aload0 rfl ?_
    refine wp_getR rfl (Short_kd S) (Short_R1 S) (by first | decide | omega) ?_
    refine wp_iload4 rfl ?_
    refine wp_callV1V rfl (Nat.le_of_ble_eq_true rfl) (Memo_kd (Short_s1 S)) (Memo_part_ok (c := 8) (Short_s1 S) (by decide)) (Nat.le_of_ble_eq_true rfl) ?_
    intro h2 e2
    obtain ⟨P4, f4, e3, Q4⟩ : ∃ P4 f4, h2 = mm_ h1 41 P4 9 f4 ∧ MQ_ P st (kS_ s) 9 P4 f4 := ⟨_, _, e2, MQ_part (c := 8) rfl Q3⟩
    subst e3
    clear e2
    refine wp_aload0 rfl ?_
    refine wp_getR rfl (Short_kd S) (Short_R1 S) (by first | decide | omega) ?_
    refine wp_iload5 rfl ?_
    refine wp_callV1V rfl (Nat.le_of_ble_eq_true rfl) (Memo_kd (Short_s1 S)) (Memo_part_ok (c := 9) (Short_s1 S) (by decide)) (Nat.le_of_ble_eq_true rfl) ?_
    intro h2 e2
    obtain ⟨P5, f5, e3, Q5⟩ : ∃ P5 f5, h2 = mm_ h1 41 P5 10 f5 ∧ MQ_ P st (kS_ s) 10 P5 f5 := ⟨_, _, e2, MQ_part (c := 9) rfl Q4⟩
    subst e3
    clear e2
    refine wp_aload0 rfl ?_
    refine wp_getR rfl (Short_kd S) (Short_R1 S) (by first | decide | omega) ?_
    refine wp_callV0I rfl (Nat.le_of_ble_eq_true rfl) (Memo_kd (Short_s1 S)) (Memo_endsStale_ok (Short_s1 S)) (Nat.le_of_ble_eq_true rfl) ?_
    refine pure_ ?_
    have z2 := mm_fz h1 41 P5 10 true
    have A2 : ag_ (sc_ a b c e) h1 (mm_ h1 41 P5 10 true) := ag_mono (fun q _ hq => by unfold sc_; omega) (ag_fz z2)
    have S2 : S_Short (mm_ h1 41 P5 10 true) a b c e := S_Short_keep S (ag_fz z2) (by omega) (by rw [fz_R z2]) (by rw [mm_ne (by decide) (by decide)]) (by rw [fz_R z2])
    have MM2 := mm_MM h1 41 P5 10 true
    have ln2 : oc2_ (mm_ h1 41 P5 10 true) a b c e = oc2_ h1 a b c e := rfl
    refine wp_if_eqB rfl (fun c1 => ?_) (fun c1 => ?_)
    · skip
      have c2 : f5 = true := by cases f5; cases c1; rfl
      obtain ⟨r1, r2⟩ := Q5.2.2 c2
      obtain ⟨s1, w1, k1, R1⟩ := H.2 r1
      have hSR := SR_keep S R1 (ag_fz z2) (fun q hq y => by have r4 := S.2.2.2.2.2.1; unfold rw4_ at r4; omega)
      exact wp_vret rfl ⟨rfl, a, b, c, e, P5, S2, ⟨MM2, fun _ => ⟨s1, w1, fun j hj => by rw [Q5.1 j hj, ← r2 j hj]; exact k1 j hj, hSR⟩⟩, Q5.1, A2, ⟨Or.inl rfl, Or.inl rfl, Or.inl rfl, Or.inl rfl⟩, Nat.le_add_right _ _, Nat.le_of_eq rfl⟩
    · skip
      generalize hh : mm_ h1 41 P5 10 true = hm at z2 A2 S2 MM2 ln2
      have r4 := S.2.2.2.2.2.1
      unfold rw4_ at r4
      have hMk : hp_I hm 4 0 = nI (sg_n s) := by rw [fz_I z2 (by omega)]; exact M.1.1
      have Mk2 : S_Market hm 4 := by unfold S_Market S_Notes at Mk ⊢; rw [fz_kd z2, fz_ln z2, fz_R z2]; exact Mk
      refine wp_aload0 rfl ?_
      refine wp_aload0 rfl ?_
      refine wp_getR rfl (Short_kd S2) (Short_R0 S2) (by first | decide | omega) ?_
      refine wp_aload1 rfl ?_
      refine wp_getIE rfl (Market_kd Mk2) (show _ = nI (sg_n s) from hMk) ?_
      refine wp_iload3 rfl ?_
      refine wp_iload4 rfl ?_
      refine wp_iload5 rfl ?_
      refine wp_aload2 rfl ?_
      refine wp_callV5I rfl (Nat.le_of_ble_eq_true rfl) (Orbit_kd (Short_s0 S2)) (Orbit_explore_ok (kp := false) (k := kw_ s) (w0 := sl_ s) (g := some (gl_ s)) (mv := mv_ s) (ok := may_ s) (Short_s0 S2) S2.2.2.2.2.1 n3 n8 hkl S2.2.2.2.2.2.2.2 (sl_Lz w) (fun w2 y => by cases y; exact gl_Lz w) ⟨(by rw [fz_kd z2]; exact hM.1), (by rw [fz_ln z2]; exact hM.2), (by decide), (by have := S2.2.2.2.2.2.2.1; omega), (by unfold oc5_; omega)⟩ (fun f hf => by rw [fz_I z2 (by omega), hr f hf]; rfl) (mv_P w)) (Nat.le_of_ble_eq_true rfl) ?_
      rintro x h3 ⟨a2, b2, c2, e2, t, S3, N3, E3, _, G3, X3, K3, A3, ⟨w1, w2, w3, w4⟩, nx3, sl3, ln3⟩
      have n93' := S2.2.2.2.2.2.2.1
      have f35 := A3.2.2 35 (by omega)
      have f35' := f35.2.2 (by unfold oc5_; omega)
      have f41 := A3.2.2 41 (by omega)
      have f41' := f41.2.2 (by unfold oc5_; omega)
      have f42 := A3.2.2 42 (by omega)
      have f42' := f42.2.2 (by unfold oc5_; omega)
      have m2 := Short_s1 S2
      unfold S_Memo at m2
      have r5 := rw4_new n93' S2.2.2.2.2.2.1 w1 w2 w3 w4
      have S4 : S_Short h3 a2 b2 c2 e2 := ⟨f35.1.trans S2.1, by rw [f35'.2.2]; exact S2.2.1, S3, ⟨f41.1.trans m2.1, by rw [f41'.2.2]; exact m2.2.1, f42.1.trans m2.2.2.1, f42.2.1.trans m2.2.2.2⟩, N3, r5, Nat.le_trans n93' A3.1, K3⟩
      have hk35 : ∀ (r : Nat → Int32), S_Short (hp_rI h3 35 r) a2 b2 c2 e2 := fun r => ⟨S4.1, S4.2.1, S3, S4.2.2.2.1, N3, r5, S4.2.2.2.2.2.2.1, by rw [sd_rI_ne (by decide)]; exact K3⟩
      have hMM : ∀ (r : Nat → Int32), MM_ (hp_rI h3 35 r) 41 P5 true := fun r => by
        obtain ⟨cc, m1, m2, m3⟩ := MM2
        exact ⟨cc, by rw [sd_rI_ne (by decide), f42'.1]; exact m1, by rw [sd_rI_ne (by decide), f41'.1]; exact m2, by rw [sd_rI_ne (by decide), f41'.1]; exact m3⟩
      unfold rw4_ at r5
      have hOI : ∀ (r : Nat → Int32), OI_ (hp_rI h3 35 r) 36 a2 b2 c2 (sg_n s) (kw_ s) ((bf_ (nx2_ (kw_ s) (mv_ s)) (may_ s) (sl_ s) t).map (·.1)) ((bf_ (nx2_ (kw_ s) (mv_ s)) (may_ s) (sl_ s) t).map (fun x => x.2.1)) := fun r => OI_rI (by decide) (by omega) (by omega) (by omega) E3.1
      have fin : ∀ (r : Nat → Int32), ((r 3 = -1 ∧ FW_ s none) ∨ ∃ (j : Nat) (x : (Nat → Nat) × Nat × List Nat), (bf_ (nx2_ (kw_ s) (mv_ s)) (may_ s) (sl_ s) t)[j]? = some x ∧ r 2 = nI j ∧ r 3 = nI x.2.2.length ∧ FW_ s (some x.2.2)) → (∃ a2 b2 c2 e2 P2, S_Short (hp_rI h3 35 r) a2 b2 c2 e2 ∧ SH_ (hp_rI h3 35 r) P2 true a2 b2 c2 e2 ∧ (∀ j, j < 10 → P2 j = kS_ s j) ∧ ag_ (sc_ a b c e) h1 (hp_rI h3 35 r) ∧ (nw2_ h1 a a2 ∧ nw2_ h1 b b2 ∧ nw2_ h1 c c2 ∧ nw2_ h1 e e2) ∧ hp_nx (hp_rI h3 35 r) ≤ hp_nx h1 + 4 ∧ hp_sl (hp_rI h3 35 r) + oc2_ h1 a b c e ≤ hp_sl h1 + oc2_ (hp_rI h3 35 r) a2 b2 c2 e2) := by
        intro r hr2
        have z1 := z2.1.1
        have z3 := z2.1.2.1
        unfold nw2_ at w1 w2 w3 w4
        rw [z1] at w1 w2 w3 w4 nx3
        rw [z3, ln2] at sl3
        refine ⟨a2, b2, c2, e2, P5, hk35 r, ⟨hMM r, fun _ => ⟨s, w, Q5.1, t, hOI r, ?_⟩⟩, Q5.1, ?_, ⟨w1, w2, w3, w4⟩, nx3, sl3⟩
        · rw [sd_rI_eq]; exact hr2
        · exact ag_rI (ag_trans A2 A3 (fun q _ hq => by unfold oc5_ at hq; unfold sc_; omega)) (fun _ => Or.inl rfl) r
      rcases G3 with ⟨j, hj, rfl⟩ | ⟨hn, rfl⟩
      · rw [List.getElem?_map] at hj
        cases hx : (bf_ (nx2_ (kw_ s) (mv_ s)) (may_ s) (sl_ s) t)[j]? with
        | none => rw [hx] at hj; cases hj
        | some x =>
          rw [hx] at hj
          have hx1 : x.1 = gl_ s := Option.some.inj hj
          have hlen := bfS_len (ok := may_ s) (mv_P w) (sl_Lz w) t
          have hce := ce_le n8 (kw_ s)
          have hjl := (List.getElem?_eq_some_iff.mp hx).1
          refine wp_putI rfl (Short_kd S4) ?_
          refine wp_aload0 rfl ?_
          refine wp_aload0 rfl ?_
          refine wp_getIE (z := nI j) rfl (Short_kd (hk35 _)) (by rw [sd_rI_eq, vu_at, if_pos rfl]) ?_
          refine wp_iconst rfl ?_
          refine wp_icmp_ne rfl (fun _ => ?_) (fun z => absurd z (fun y => y (nI_ne_m1 (by omega))))
          refine wp_aload0 rfl ?_
          refine wp_aload0 rfl ?_
          refine wp_getIE (z := nI j) rfl (Short_kd (hk35 _)) (by rw [sd_rI_eq, vu_at, if_pos rfl]) ?_
          refine wp_callV1I rfl (Nat.le_of_ble_eq_true rfl) (Short_kd (hk35 _)) (Shortest_figuresTo_ok (hk35 _) w (hOI _) hx) (Nat.le_of_ble_eq_true rfl) ?_
          refine pure_ ?_
          refine wp_putI rfl (Short_kd (hk35 _)) ?_
          rw [hp_rI_rI]
          exact wp_vret rfl ⟨rfl, fin _ (Or.inr ⟨j, x, hx, (by rw [sd_rI_eq, vu_at, if_neg (by decide), vu_at, if_pos rfl]), (by rw [vu_at, if_pos rfl]), SR_some w (List.mem_of_getElem? hx) hx1⟩)⟩
      · skip
        refine wp_putI rfl (Short_kd S4) ?_
        refine wp_aload0 rfl ?_
        refine wp_aload0 rfl ?_
        refine wp_getIE (z := -1) rfl (Short_kd (hk35 _)) (by rw [sd_rI_eq, vu_at, if_pos rfl]) ?_
        refine wp_iconst rfl ?_
        refine wp_icmp_ne rfl (fun z => absurd z (fun y => y rfl)) (fun _ => ?_)
        refine wp_iconst rfl ?_
        refine wp_goto rfl ?_
        refine wp_putI rfl (Short_kd (hk35 _)) ?_
        rw [hp_rI_rI]
        exact wp_vret rfl ⟨rfl, fin _ (Or.inl ⟨(by rw [vu_at, if_pos rfl]), SR_none w (X3 rfl) hn⟩)⟩
