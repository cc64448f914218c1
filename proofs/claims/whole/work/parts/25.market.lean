-- ===== the state in words of its own; Market =====
/-- places, place of a good, lame, music played, Lent, figures as told, music of figures, wanted at (8: not), callers, sights, wishes -/
abbrev Sg_ : Type := Nat × (Nat → Nat) × Nat × Nat × Nat × (Nat → Nat → Nat) × (Nat → Nat) × (Nat → Nat) × (Nat → Nat) × List (Nat × Nat × Nat) × List (Nat × Nat × Nat)
def sg_n (s : Sg_) : Nat := s.1
def sg_pos (s : Sg_) : Nat → Nat := s.2.1
def sg_lm (s : Sg_) : Nat := s.2.2.1
def sg_pl (s : Sg_) : Nat := s.2.2.2.1
def sg_le (s : Sg_) : Nat := s.2.2.2.2.1
def sg_fig (s : Sg_) : Nat → Nat → Nat := s.2.2.2.2.2.1
def sg_mu (s : Sg_) : Nat → Nat := s.2.2.2.2.2.2.1
def sg_wa (s : Sg_) : Nat → Nat := s.2.2.2.2.2.2.2.1
def sg_ca (s : Sg_) : Nat → Nat := s.2.2.2.2.2.2.2.2.1
def sg_si (s : Sg_) : List (Nat × Nat × Nat) := s.2.2.2.2.2.2.2.2.2.1
def sg_wi (s : Sg_) : List (Nat × Nat × Nat) := s.2.2.2.2.2.2.2.2.2.2
/-- a map of n places to n places, that leaves all others -/
def IsP (n : Nat) (f : Nat → Nat) : Prop := (∀ i, i < n → f i < n) ∧ (∀ i j, i < n → j < n → f i = f j → i = j) ∧ ∀ i, n ≤ i → f i = i
def sg_wf (s : Sg_) : Prop := (3 ≤ sg_n s ∧ sg_n s ≤ 8) ∧ IsP (sg_n s) (sg_pos s) ∧ sg_lm s < 2 ^ sg_n s ∧ (sg_pl s = 1 ∨ sg_pl s = 2) ∧ sg_le s < 64 ∧ (∀ f, IsP (sg_n s) (sg_fig s f)) ∧ (∀ f, 1 ≤ sg_mu s f ∧ sg_mu s f ≤ 3) ∧ ((∀ g, sg_wa s g < sg_n s ∨ sg_wa s g = 8) ∧ (∀ g g2, sg_wa s g = sg_wa s g2 → sg_wa s g ≠ 8 → g = g2) ∧ ∀ g, sg_n s ≤ g → sg_wa s g = 8) ∧ (∀ c, sg_ca s c < 64) ∧ (sg_si s).length ≤ 6 ∧ (∀ q ∈ sg_si s, q.1 ≤ 12 ∧ q.2.1 < sg_n s ∧ q.2.2 < sg_n s) ∧ (sg_wi s).length ≤ 6 ∧ ∀ q ∈ sg_wi s, (1 ≤ q.1 ∧ q.1 ≤ 99) ∧ q.2.1 < sg_n s ∧ q.2.2 < sg_n s
/-- a figure may be danced; a figure as danced -/
def may_ (s : Sg_) (f : Nat) : Bool := decide (sg_mu s f &&& sg_pl s ≠ 0) && !(sg_le s).testBit f
def mv_ (s : Sg_) (f : Nat) : Nat → Nat := dz_ (sg_fig s f) (sg_lm s)
theorem IsP.lt8 {n : Nat} {f : Nat → Nat} (h : IsP n f) (hn : n ≤ 8) : ∀ i, i < 8 → f i < 8 := by
  intro i hi
  rcases Nat.lt_or_ge i n with q | q
  · have := h.1 i q; omega
  · rw [h.2.2 i q]; exact hi
theorem IsP.inj8 {n : Nat} {f : Nat → Nat} (h : IsP n f) : ∀ i j, f i = f j → i = j := by
  intro i j hij
  rcases Nat.lt_or_ge i n with q | q
  · rcases Nat.lt_or_ge j n with q2 | q2
    · exact h.2.1 i j q q2 hij
    · rw [h.2.2 j q2] at hij
      have := h.1 i q
      omega
  · rw [h.2.2 i q] at hij
    rcases Nat.lt_or_ge j n with q2 | q2
    · have := h.1 j q2
      omega
    · rw [h.2.2 j q2] at hij
      exact hij
/-- where a want is told: -1 or a place -/
def wv_ (w : Nat) : Int32 := if w = 8 then -1 else nI w
/-- notes held in a Notes object -/
def NS_ (h : Hp_) (o : Nat) (l : List (Nat × Nat × Nat)) : Prop := hp_I h o 1 = nI l.length ∧ ∀ (i : Nat) (q : Nat × Nat × Nat), l[i]? = some q → hp_I h (o + 1) i = nI (mk_ q.1 q.2.1 q.2.2)
def S_Market (h : Hp_) (m : Nat) : Prop := hp_kd h m = 12 ∧ (hp_R h m 5 = m + 1 ∧ hp_R h m 6 = m + 2 ∧ hp_R h m 7 = m + 3 ∧ hp_R h m 8 = m + 4 ∧ hp_R h m 9 = m + 5 ∧ hp_R h m 10 = m + 7) ∧ (hp_kd h (m + 1) = 1 ∧ hp_ln h (m + 1) = 6) ∧ (hp_kd h (m + 2) = 1 ∧ hp_ln h (m + 2) = 6) ∧ (hp_kd h (m + 3) = 1 ∧ hp_ln h (m + 3) = 8) ∧ (hp_kd h (m + 4) = 1 ∧ hp_ln h (m + 4) = 2) ∧ S_Notes h (m + 5) ∧ S_Notes h (m + 7)
theorem Market_kd {h : Hp_} {m : Nat} (S : S_Market h m) : hp_kd h m = 12 := S.1
theorem Market_R5 {h : Hp_} {m : Nat} (S : S_Market h m) : hp_R h m 5 = m + 1 := S.2.1.1
theorem Market_R6 {h : Hp_} {m : Nat} (S : S_Market h m) : hp_R h m 6 = m + 2 := S.2.1.2.1
theorem Market_R7 {h : Hp_} {m : Nat} (S : S_Market h m) : hp_R h m 7 = m + 3 := S.2.1.2.2.1
theorem Market_R8 {h : Hp_} {m : Nat} (S : S_Market h m) : hp_R h m 8 = m + 4 := S.2.1.2.2.2.1
theorem Market_R9 {h : Hp_} {m : Nat} (S : S_Market h m) : hp_R h m 9 = m + 5 := S.2.1.2.2.2.2.1
theorem Market_R10 {h : Hp_} {m : Nat} (S : S_Market h m) : hp_R h m 10 = m + 7 := S.2.1.2.2.2.2.2
theorem Market_k5 {h : Hp_} {m : Nat} (S : S_Market h m) : hp_kd h (m + 1) = 1 := S.2.2.1.1
theorem Market_n5 {h : Hp_} {m : Nat} (S : S_Market h m) : hp_ln h (m + 1) = 6 := S.2.2.1.2
theorem Market_k6 {h : Hp_} {m : Nat} (S : S_Market h m) : hp_kd h (m + 2) = 1 := S.2.2.2.1.1
theorem Market_n6 {h : Hp_} {m : Nat} (S : S_Market h m) : hp_ln h (m + 2) = 6 := S.2.2.2.1.2
theorem Market_k7 {h : Hp_} {m : Nat} (S : S_Market h m) : hp_kd h (m + 3) = 1 := S.2.2.2.2.1.1
theorem Market_n7 {h : Hp_} {m : Nat} (S : S_Market h m) : hp_ln h (m + 3) = 8 := S.2.2.2.2.1.2
theorem Market_k8 {h : Hp_} {m : Nat} (S : S_Market h m) : hp_kd h (m + 4) = 1 := S.2.2.2.2.2.1.1
theorem Market_n8 {h : Hp_} {m : Nat} (S : S_Market h m) : hp_ln h (m + 4) = 2 := S.2.2.2.2.2.1.2
theorem Market_s9 {h : Hp_} {m : Nat} (S : S_Market h m) : S_Notes h (m + 5) := S.2.2.2.2.2.2.1
theorem Market_s10 {h : Hp_} {m : Nat} (S : S_Market h m) : S_Notes h (m + 7) := S.2.2.2.2.2.2.2
/-- a Market holds a state -/
def MK_ (h : Hp_) (m : Nat) (s : Sg_) : Prop := (hp_I h m 0 = nI (sg_n s) ∧ hp_I h m 1 = nI (pq_ (sg_pos s) 8) ∧ hp_I h m 2 = nI (sg_lm s) ∧ hp_I h m 3 = nI (sg_pl s) ∧ hp_I h m 4 = nI (sg_le s)) ∧ (∀ f, f < 6 → hp_I h (m + 1) f = nI (pq_ (sg_fig s f) 8)) ∧ (∀ f, f < 6 → hp_I h (m + 2) f = nI (sg_mu s f)) ∧ (∀ g, g < 8 → hp_I h (m + 3) g = wv_ (sg_wa s g)) ∧ (∀ c, c < 2 → hp_I h (m + 4) c = nI (sg_ca s c)) ∧ NS_ h (m + 5) (sg_si s) ∧ NS_ h (m + 7) (sg_wi s)
theorem sg_lm256 {s : Sg_} (w : sg_wf s) : sg_lm s < 256 := Nat.lt_of_lt_of_le w.2.2.1 (show 2 ^ sg_n s ≤ 2 ^ 8 from Nat.pow_le_pow_right (by omega) w.1.2)
theorem sg_fig8 {s : Sg_} (w : sg_wf s) (f : Nat) : ∀ i, i < 8 → sg_fig s f i < 8 := (w.2.2.2.2.2.1 f).lt8 w.1.2
theorem sg_pos8 {s : Sg_} (w : sg_wf s) : ∀ i, i < 8 → sg_pos s i < 8 := w.2.1.lt8 w.1.2
theorem mv8 {s : Sg_} (w : sg_wf s) (f : Nat) : ∀ i, i < 8 → mv_ s f i < 8 := dz_lt (sg_fig8 w f)
theorem Market_has_ok {h : Hp_} {m n : Nat} {p : Int32} (S : S_Market h m) (hn : hp_I h m 0 = nI n) (hn8 : n ≤ 8) : cI 1 mn_Market_has [.ref m, .int p] h (fun x h' => x = bo_ (decide (0 ≤ p.toInt ∧ p.toInt < n)) ∧ h' = h) := by
  refine cq_in (q := mi_Market_has) (L := [some (.ref m), some (.int p)]) rfl (Nat.le_of_ble_eq_true rfl) rfl ?_
  show wq _ tb_Market_has none 0 _ _ _ _
  refine wp_iload1 rfl ?_
  refine wp_if_lt rfl (fun c1 => ?_) (fun c1 => ?_)
  · skip
    refine wp_iconst rfl ?_
    exact wp_zret rfl (by first | exact Or.inl rfl | exact Or.inr rfl) ⟨_, rfl, by rw [decide_eq_false (by rw [Int32.lt_iff_toInt_lt] at c1; simp at c1; omega)]; rfl, rfl⟩
  · skip
    refine wp_iload1 rfl ?_
    refine wp_aload0 rfl ?_
    refine wp_getI rfl (Market_kd S) ?_
    rw [hn]
    have e1 : (nI n).toInt = n := nI_toInt (by omega)
    refine wp_icmp_ge rfl (fun c2 => ?_) (fun c2 => ?_)
    · skip
      refine wp_iconst rfl ?_
      exact wp_zret rfl (by first | exact Or.inl rfl | exact Or.inr rfl) ⟨_, rfl, by rw [decide_eq_false (by rw [Int32.le_iff_toInt_le, e1] at c2; omega)]; rfl, rfl⟩
    · skip
      refine wp_iconst rfl ?_
      refine wp_goto rfl ?_
      exact wp_zret rfl (by first | exact Or.inl rfl | exact Or.inr rfl) ⟨_, rfl, by rw [decide_eq_true (by rw [Int32.le_iff_toInt_le, e1] at c2; rw [Int32.lt_iff_toInt_lt] at c1; simp at c1; omega)]; rfl, rfl⟩
theorem Market_placeOf_ok {h : Hp_} {m g : Nat} {f : Nat → Nat} (S : S_Market h m) (hf : ∀ i, i < 8 → f i < 8) (hp : hp_I h m 1 = nI (pq_ f 8)) (hg : g < 8) : cI 2 mn_Market_placeOf [.ref m, .int (nI g)] h (fun x h' => x = nI (f g) ∧ h' = h) := by
  refine cq_in (q := mi_Market_placeOf) (L := [some (.ref m), some (.int (nI g))]) rfl (Nat.le_of_ble_eq_true rfl) rfl ?_
  show wq _ tb_Market_placeOf none 0 _ _ _ _
  refine wp_aload0 rfl ?_
  refine wp_getI rfl (Market_kd S) ?_
  refine wp_iload1 rfl ?_
  rw [hp]
  refine wp_callS2I rfl (Nat.le_of_ble_eq_true rfl) (Maps_toP_ok hf hg) (Nat.le_of_ble_eq_true rfl) ?_
  rintro _ _ ⟨rfl, rfl⟩
  exact wp_iret rfl ⟨_, rfl, rfl, rfl⟩
theorem Market_may_ok {h : Hp_} {m f : Nat} {s : Sg_} (S : S_Market h m) (M : MK_ h m s) (w : sg_wf s) (hf : f < 6) : cI 2 mn_Market_may [.ref m, .int (nI f)] h (fun x h' => x = bo_ (may_ s f) ∧ h' = h) := by
  refine cq_in (q := mi_Market_may) (L := [some (.ref m), some (.int (nI f))]) rfl (Nat.le_of_ble_eq_true rfl) rfl ?_
  show wq _ tb_Market_may none 0 _ _ _ _
  have hmu := (w.2.2.2.2.2.2.1 f)
  have hle := w.2.2.2.2.1
  have hb : sg_mu s f &&& sg_pl s < 4 := Nat.lt_of_le_of_lt Nat.and_le_left (by omega)
  refine wp_aload0 rfl ?_
  refine wp_getR rfl (Market_kd S) (Market_R6 S) (by first | decide | omega) ?_
  refine wp_iload1 rfl ?_
  refine wp_callS2I rfl (Nat.le_of_ble_eq_true rfl) (Cells_at_ok (Market_k6 S) (by omega) (by rw [Market_n6 S]; decide)) (Nat.le_of_ble_eq_true rfl) ?_
  rintro _ _ ⟨rfl, rfl⟩
  rw [Market_n6 S, ca_in hf (by omega), M.2.2.1 f hf]
  refine wp_aload0 rfl ?_
  refine wp_getI rfl (Market_kd S) ?_
  rw [M.1.2.2.2.1]
  refine wp_iandE (nI (sg_mu s f &&& sg_pl s)) (nn_and _ _) rfl ?_
  refine wp_if_eqN (sg_mu s f &&& sg_pl s) (0) (by omega) (by omega) rfl (fun c1 => ?_) (fun c1 => ?_)
  · skip
    refine wp_iconst rfl ?_
    exact wp_zret rfl (by first | exact Or.inl rfl | exact Or.inr rfl) ⟨_, rfl, by unfold may_; rw [decide_eq_false (by rw [c1]; exact fun z => z rfl), Bool.false_and]; rfl, rfl⟩
  · skip
    refine wp_aload0 rfl ?_
    refine wp_getI rfl (Market_kd S) ?_
    refine wp_iload1 rfl ?_
    rw [M.1.2.2.2.2]
    refine wp_callS2I rfl (Nat.le_of_ble_eq_true rfl) (Cells_isIn_ok (show sg_le s < 2 ^ 32 by omega) (show f < 32 by omega)) (Nat.le_of_ble_eq_true rfl) ?_
    rintro _ _ ⟨rfl, rfl⟩
    refine wp_if_neB rfl (fun c2 => ?_) (fun c2 => ?_)
    · skip
      refine wp_iconst rfl ?_
      exact wp_zret rfl (by first | exact Or.inl rfl | exact Or.inr rfl) ⟨_, rfl, by unfold may_; rw [c2, Bool.not_true, Bool.and_false]; rfl, rfl⟩
    · skip
      refine wp_iconst rfl ?_
      refine wp_goto rfl ?_
      exact wp_zret rfl (by first | exact Or.inl rfl | exact Or.inr rfl) ⟨_, rfl, by unfold may_; rw [decide_eq_true c1, c2, Bool.not_false, Bool.and_true]; rfl, rfl⟩
theorem Market_danced_ok {h : Hp_} {m f : Nat} {s : Sg_} (S : S_Market h m) (M : MK_ h m s) (w : sg_wf s) (hf : f < 6) : cI 4 mn_Market_danced [.ref m, .int (nI f)] h (fun x h' => x = nI (pq_ (mv_ s f) 8) ∧ h' = h) := by
  refine cq_in (q := mi_Market_danced) (L := [some (.ref m), some (.int (nI f))]) rfl (Nat.le_of_ble_eq_true rfl) rfl ?_
  show wq _ tb_Market_danced none 0 _ _ _ _
  refine wp_aload0 rfl ?_
  refine wp_getR rfl (Market_kd S) (Market_R5 S) (by first | decide | omega) ?_
  refine wp_iload1 rfl ?_
  refine wp_callS2I rfl (Nat.le_of_ble_eq_true rfl) (Cells_at_ok (Market_k5 S) (by omega) (by rw [Market_n5 S]; decide)) (Nat.le_of_ble_eq_true rfl) ?_
  rintro _ _ ⟨rfl, rfl⟩
  rw [Market_n5 S, ca_in hf (by omega), M.2.1 f hf]
  refine wp_aload0 rfl ?_
  refine wp_getI rfl (Market_kd S) ?_
  rw [M.1.2.2.1]
  have hlm := sg_lm256 w
  refine wp_callS2I rfl (Nat.le_of_ble_eq_true rfl) (Maps_passing_ok (sg_fig8 w f) (show sg_lm s < 2 ^ 31 by omega)) (Nat.le_of_ble_eq_true rfl) ?_
  rintro _ _ ⟨rfl, rfl⟩
  exact wp_iret rfl ⟨_, rfl, rfl, rfl⟩
/-- the moves of a state, as they are told to others -/
def ms_ (s : Sg_) (f : Nat) : Int32 := if may_ s f then nI (pq_ (mv_ s f) 8) else -1
theorem MK_row {h : Hp_} {m a : Nat} {s : Sg_} {r : Nat → Int32} (ha : a < m ∨ m + 8 < a) (M : MK_ h m s) : MK_ (hp_rI h a r) m s := by
  obtain ⟨⟨m1, m2, m3, m4, m5⟩, m6, m7, m8, m9, ⟨m10, m11⟩, m12, m13⟩ := M
  have e : ∀ k, k ≤ 8 → hp_I (hp_rI h a r) (m + k) = hp_I h (m + k) := fun k hk => sd_rI_ne (by omega)
  have e0 : hp_I (hp_rI h a r) m = hp_I h m := sd_rI_ne (by omega)
  refine ⟨⟨by rw [e0]; exact m1, by rw [e0]; exact m2, by rw [e0]; exact m3, by rw [e0]; exact m4, by rw [e0]; exact m5⟩, fun f hf => by rw [e 1 (by omega)]; exact m6 f hf, fun f hf => by rw [e 2 (by omega)]; exact m7 f hf, fun f hf => by rw [e 3 (by omega)]; exact m8 f hf, fun f hf => by rw [e 4 (by omega)]; exact m9 f hf, ⟨by rw [e 5 (by omega)]; exact m10, fun i q hq => ?_⟩, by rw [e 7 (by omega)]; exact m12, fun i q hq => ?_⟩
  · rw [show m + 5 + 1 = m + 6 from rfl, e 6 (by omega)]
    exact m11 i q hq
  · rw [show m + 7 + 1 = m + 8 from rfl, e 8 (by omega)]
    exact m13 i q hq
theorem Market_fillMoves_ok {h : Hp_} {m a : Nat} {s : Sg_} (S : S_Market h m) (M : MK_ h m s) (w : sg_wf s) (hk : hp_kd h a = 1) (hl : hp_ln h a = 6) (h0 : a ≠ 0) (ha : a < m ∨ m + 8 < a) : cV 5 mn_Market_fillMoves [.ref m, .ref a] h (fun h' => h' = hp_rI h a (fun f => if f < 6 then ms_ s f else hp_I h a f)) := by
  refine cq_in (q := mi_Market_fillMoves) (L := [some (.ref m), some (.ref a), none]) rfl (Nat.le_of_ble_eq_true rfl) rfl ?_
  show wq _ tb_Market_fillMoves none 0 _ _ _ _
  have loop : ∀ k i, i ≤ 6 → 6 - i = k → wq 4 tb_Market_fillMoves none 2 [some (.ref m), some (.ref a), some (.int (nI i))] [] (hp_rI h a (fun f => if f < i then ms_ s f else hp_I h a f)) (fun r h' => r = none ∧ h' = hp_rI h a (fun f => if f < 6 then ms_ s f else hp_I h a f)) := by
    intro k
    induction k with
    | zero =>
      intro i hi hk0
      obtain rfl : i = 6 := by omega
      refine wp_iload2 rfl ?_
      refine wp_bipush rfl ?_
      refine wp_icmp_geN (6) (6) (by omega) (by omega) rfl (fun c1 => ?_) (fun c1 => ?_)
      · skip
        exact wp_vret rfl ⟨rfl, rfl⟩
      · exact absurd c1 (Nat.lt_irrefl _)
    | succ k ih =>
      intro i hi hk0
      have M2 := MK_row (r := fun f => if f < i then ms_ s f else hp_I h a f) ha M
      have S2 : S_Market (hp_rI h a (fun f => if f < i then ms_ s f else hp_I h a f)) m := S
      have hk2 : hp_kd (hp_rI h a (fun f => if f < i then ms_ s f else hp_I h a f)) a = 1 := hk
      have hl2 : hp_ln (hp_rI h a (fun f => if f < i then ms_ s f else hp_I h a f)) a = 6 := hl
      have key : ∀ x : Int32, x = ms_ s i → hp_rI (hp_rI h a (fun f => if f < i then ms_ s f else hp_I h a f)) a (cp_ (hp_I (hp_rI h a (fun f => if f < i then ms_ s f else hp_I h a f)) a) (hp_ln (hp_rI h a (fun f => if f < i then ms_ s f else hp_I h a f)) a) (nI i) x) = hp_rI h a (fun f => if f < i + 1 then ms_ s f else hp_I h a f) := by
        intro x hx
        rw [hl2, cp_in (by omega) (by omega), sd_rI_eq, hp_rI_rI, hx]
        refine congrArg (hp_rI h a) (funext fun j => ?_)
        unfold va_up
        dsimp only
        by_cases q : j = i
        · rw [if_pos q, if_pos (by omega), q]
        · rw [if_neg q]
          by_cases q2 : j < i
          · rw [if_pos q2, if_pos (by omega)]
          · rw [if_neg q2, if_neg (by omega)]
      refine wp_iload2 rfl ?_
      refine wp_bipush rfl ?_
      refine wp_icmp_geN (i) (6) (by omega) (by omega) rfl (fun c1 => ?_) (fun c1 => ?_)
      · exact absurd c1 (by omega)
      · skip
        refine wp_aload1 rfl ?_
        refine wp_iload2 rfl ?_
        refine wp_aload0 rfl ?_
        refine wp_iload2 rfl ?_
        refine wp_callV1I rfl (Nat.le_of_ble_eq_true rfl) (Market_kd S) (Market_may_ok S2 M2 w (show i < 6 by omega)) (Nat.le_of_ble_eq_true rfl) ?_
        rintro _ _ ⟨rfl, rfl⟩
        refine wp_if_eqB rfl (fun c2 => ?_) (fun c2 => ?_)
        · skip
          refine wp_iconst rfl ?_
          refine wp_callS3V rfl (Nat.le_of_ble_eq_true rfl) (Cells_put_ok hk2 h0 (by rw [hl2]; decide)) (Nat.le_of_ble_eq_true rfl) ?_
          rintro _ rfl
          rw [key _ (by unfold ms_; rw [c2, if_neg Bool.false_ne_true])]
          refine wp_iinc2N rfl rfl ?_
          refine wp_goto rfl ?_
          exact ih (i + 1) (by omega) (by omega)
        · skip
          refine wp_aload0 rfl ?_
          refine wp_iload2 rfl ?_
          refine wp_callV1I rfl (Nat.le_of_ble_eq_true rfl) (Market_kd S) (Market_danced_ok S2 M2 w (show i < 6 by omega)) (Nat.le_of_ble_eq_true rfl) ?_
          rintro _ _ ⟨rfl, rfl⟩
          refine wp_goto rfl ?_
          refine wp_callS3V rfl (Nat.le_of_ble_eq_true rfl) (Cells_put_ok hk2 h0 (by rw [hl2]; decide)) (Nat.le_of_ble_eq_true rfl) ?_
          rintro _ rfl
          rw [key _ (by unfold ms_; rw [c2, if_pos rfl])]
          refine wp_iinc2N rfl rfl ?_
          refine wp_goto rfl ?_
          exact ih (i + 1) (by omega) (by omega)
  refine wp_iconst rfl ?_
  refine wp_istore2 rfl rfl ?_
  have := loop 6 0 (by omega) rfl
  rw [show (fun f => if f < 0 then ms_ s f else hp_I h a f) = hp_I h a from funext fun f => if_neg (Nat.not_lt_zero _), hp_rI_self] at this
  exact this
