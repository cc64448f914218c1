-- ===== the pad's faults =====
theorem ni_sub {a b : Nat} (hb : b ≤ a) : nI a - nI b = nI (a - b) := by
  have e := nI_add (a - b) b
  rw [Nat.sub_add_cancel hb] at e
  rw [← e, Int32.add_sub_cancel]
theorem ni_neg {a b : Nat} (hab : a < b) (hb : b < 2 ^ 31) : nI a - nI b < 0 := by
  rw [Int32.lt_iff_toInt_lt, Int32.toInt_sub, nI_toInt (by omega), nI_toInt hb, Int.bmod_def]
  show _ < (0 : Int)
  split <;> omega
/-- the first i from a on, of k, with P -/
def ff_ (P : Nat → Bool) : Nat → Nat → Option Nat
  | 0, _ => none
  | k + 1, i => if P i then some i else ff_ P k (i + 1)
theorem ff_cong {P Q : Nat → Bool} : ∀ k i, (∀ j, i ≤ j → j < i + k → P j = Q j) → ff_ P k i = ff_ Q k i := by
  intro k
  induction k with
  | zero => intro i _; rfl
  | succ k ih =>
    intro i h
    show (if P i then some i else ff_ P k (i + 1)) = (if Q i then some i else ff_ Q k (i + 1))
    rw [h i (Nat.le_refl _) (by omega), ih (i + 1) (fun j h1 h2 => h j (by omega) (by omega))]
/-- none before: first bad is none iff no bad -/
theorem ff_none {P : Nat → Bool} : ∀ k i, ff_ P k i = none → ∀ j, i ≤ j → j < i + k → P j = false := by
  intro k
  induction k with
  | zero => intro i _ j h1 h2; omega
  | succ k ih =>
    intro i h j h1 h2
    have h' : (if P i then some i else ff_ P k (i + 1)) = none := h
    by_cases q : P i = true
    · rw [if_pos q] at h'; cases h'
    · rw [if_neg q] at h'
      by_cases e : j = i
      · rw [e]; exact Bool.eq_false_iff.mpr q
      · exact ih (i + 1) h' j (by omega) (by omega)
/-- the signs from base on that stand among the first i -/
def um_ (g : Nat → Nat) (base : Nat) : Nat → Nat
  | 0 => 0
  | i + 1 => um_ g base i ||| 2 ^ (g i - base)
def eb_ (g : Nat → Nat) (base n i : Nat) : Bool := decide (g i < base) || decide (base + n ≤ g i) || (um_ g base i).testBit (g i - base)
/-- the answer of fault for an order of n signs from base on -/
def fo_ (g : Nat → Nat) (c base n : Nat) : Int32 := match ff_ (eb_ g base n) c 0 with
  | some i => nI i
  | none => if c < n then nI c else -6
def rb_ (g : Nat → Nat) (base kinds i : Nat) : Bool := decide (20 ≤ i) || decide (g i < base) || decide (base + kinds ≤ g i)
def fw_ (g : Nat → Nat) (c base kinds : Nat) : Int32 := match ff_ (rb_ g base kinds) c 0 with
  | some i => nI i
  | none => -6
/-- the pad holds the signs g, c of them -/
def P_is (h : Hp_) (o : Nat) (g : Nat → Nat) (c : Nat) : Prop := hp_I h o 1 = nI c ∧ c ≤ 30 ∧ (∀ i, i < c → hp_I h (o + 1) i = nI (g i)) ∧ ∀ i, g i < 127
theorem um_lt {g : Nat → Nat} {base n : Nat} : ∀ i, (∀ j, j < i → eb_ g base n j = false) → um_ g base i < 2 ^ n := by
  intro i
  induction i with
  | zero => intro _; exact Nat.two_pow_pos n
  | succ i ih =>
    intro h
    have h1 := h i (Nat.lt_succ_self i)
    have h2 : g i < base + n := by
      unfold eb_ at h1
      rw [Bool.or_eq_false_iff, Bool.or_eq_false_iff] at h1
      have := of_decide_eq_false h1.1.2
      omega
    have h3 : base ≤ g i := by
      unfold eb_ at h1
      rw [Bool.or_eq_false_iff, Bool.or_eq_false_iff] at h1
      have := of_decide_eq_false h1.1.1
      omega
    exact Nat.or_lt_two_pow (ih (fun j hj => h j (by omega))) (Nat.pow_lt_pow_right (by decide) (by omega))
theorem Pad_faultEachOnce_ok {h : Hp_} {o c base n : Nat} {g : Nat → Nat} (S : S_Pad h o) (W : P_is h o g c) (hb : base < 128) (hn : n ≤ 8) : cI 3 mn_Pad_faultEachOnce [.ref o, .int (nI base), .int (nI n)] h (fun x h' => x = fo_ g c base n ∧ h' = h) := by
  obtain ⟨hc, h30, hr, hg⟩ := W
  refine cq_in (q := mi_Pad_faultEachOnce) (L := [some (.ref o), some (.int (nI base)), some (.int (nI n)), none, none, none]) rfl (Nat.le_of_ble_eq_true rfl) rfl ?_
  show wq _ tb_Pad_faultEachOnce none 0 _ _ _ _
  have loop : ∀ k i (a5 : Option Value), i ≤ c → c - i = k → (∀ j, j < i → eb_ g base n j = false) → fo_ g c base n = (match ff_ (eb_ g base n) k i with | some i => nI i | none => if c < n then nI c else -6) → wq 2 tb_Pad_faultEachOnce none 5 [some (.ref o), some (.int (nI base)), some (.int (nI n)), some (.int (nI (um_ g base i))), some (.int (nI i)), a5] [] h (fun r h' => ∃ x, r = some (.int x) ∧ x = fo_ g c base n ∧ h' = h) := by
    intro k
    induction k with
    | zero =>
      intro i a5 hi hk0 hno hfo
      obtain rfl : i = c := by omega
      have hfo2 : fo_ g i base n = if i < n then nI i else -6 := hfo
      refine wp_iload4 rfl ?_
      refine wp_aload0 rfl ?_
      refine wp_getI rfl (Pad_kd S) ?_
      rw [hc]
      refine wp_icmp_geN (i) (i) (by omega) (by omega) rfl (fun c1 => ?_) (fun c1 => ?_)
      · skip
        refine wp_aload0 rfl ?_
        refine wp_getI rfl (Pad_kd S) ?_
        refine wp_iload2 rfl ?_
        rw [hc]
        refine wp_icmp_geN (i) (n) (by omega) (by omega) rfl (fun c2 => ?_) (fun c2 => ?_)
        · skip
          refine wp_bipush rfl ?_
          exact wp_iret rfl ⟨_, rfl, by rw [hfo2, if_neg (by omega)], rfl⟩
        · skip
          refine wp_aload0 rfl ?_
          refine wp_getI rfl (Pad_kd S) ?_
          refine wp_goto rfl ?_
          rw [hc]
          exact wp_iret rfl ⟨_, rfl, by rw [hfo2, if_pos c2], rfl⟩
      · exact absurd c1 (Nat.lt_irrefl _)
    | succ k ih =>
      intro i a5 hi hk0 hno hfo
      have hum := um_lt i hno
      have hum8 : um_ g base i < 256 := Nat.lt_of_lt_of_le hum (Nat.pow_le_pow_right (by decide) hn)
      have hbad : eb_ g base n i = true → fo_ g c base n = nI i := by
        intro z
        rw [hfo]
        show (match (if eb_ g base n i then some i else ff_ (eb_ g base n) k (i + 1)) with | some i => nI i | none => if c < n then nI c else -6) = nI i
        rw [if_pos z]
      have hok : eb_ g base n i = false → fo_ g c base n = (match ff_ (eb_ g base n) k (i + 1) with | some i => nI i | none => if c < n then nI c else -6) := by
        intro z
        rw [hfo]
        show (match (if eb_ g base n i then some i else ff_ (eb_ g base n) k (i + 1)) with | some i => nI i | none => if c < n then nI c else -6) = _
        rw [if_neg (by rw [z]; exact Bool.false_ne_true)]
      refine wp_iload4 rfl ?_
      refine wp_aload0 rfl ?_
      refine wp_getI rfl (Pad_kd S) ?_
      rw [hc]
      refine wp_icmp_geN (i) (c) (by omega) (by omega) rfl (fun c1 => ?_) (fun c1 => ?_)
      · exact absurd c1 (by omega)
      · skip
        refine wp_aload0 rfl ?_
        refine wp_iload4 rfl ?_
        refine wp_callV1I rfl (Nat.le_of_ble_eq_true rfl) (Pad_kd S) (Pad_signAt_ok S (show i < 30 by omega)) (Nat.le_of_ble_eq_true rfl) ?_
        rintro _ hx1 ⟨rfl, ehx1⟩
        rw [ehx1, hr i c1]
        refine wp_iload1 rfl ?_
        refine wp_isub rfl ?_
        refine wp_istore5 rfl rfl ?_
        refine wp_iload5 rfl ?_
        have hgi := hg i
        rcases Nat.lt_or_ge (g i) base with q | q
        · refine wp_if_lt rfl (fun _ => ?_) (fun z => absurd (ni_neg q (by omega)) z)
          refine wp_iload4 rfl ?_
          exact wp_iret rfl ⟨_, rfl, (hbad (by unfold eb_; rw [decide_eq_true q]; rfl)).symm, rfl⟩
        · rw [ni_sub q]
          refine wp_if_ltN (g i - base) 0 (by omega) (by omega) rfl ?_
          refine wp_iload5 rfl ?_
          refine wp_iload2 rfl ?_
          refine wp_icmp_geN (g i - base) (n) (by omega) (by omega) rfl (fun c2 => ?_) (fun c2 => ?_)
          · skip
            refine wp_iload4 rfl ?_
            exact wp_iret rfl ⟨_, rfl, (hbad (by unfold eb_; rw [decide_eq_true (show base + n ≤ g i by omega), Bool.or_true, Bool.true_or])).symm, rfl⟩
          · skip
            refine wp_iload3 rfl ?_
            refine wp_iload5 rfl ?_
            refine wp_callS2I rfl (Nat.le_of_ble_eq_true rfl) (Cells_isIn_ok (show um_ g base i < 2 ^ 32 by omega) (show g i - base < 32 by omega)) (Nat.le_of_ble_eq_true rfl) ?_
            rintro _ hx2 ⟨rfl, ehx2⟩
            rw [ehx2]
            refine wp_if_eqB rfl (fun c3 => ?_) (fun c3 => ?_)
            · skip
              refine wp_iload3 rfl ?_
              refine wp_iconst rfl ?_
              refine wp_iload5 rfl ?_
              have hf : eb_ g base n i = false := by
                unfold eb_
                rw [decide_eq_false (show ¬ g i < base by omega), decide_eq_false (show ¬ base + n ≤ g i by omega), c3]
                rfl
              refine wp_ishlE (nI (1 * 2 ^ (g i - base))) (nn_shl 1 _ (by omega)) rfl ?_
              rw [Nat.one_mul]
              refine wp_iorE (nI (um_ g base i ||| 2 ^ (g i - base))) (nn_or _ _) rfl ?_
              refine wp_istore3 rfl rfl ?_
              refine wp_iinc4N rfl rfl ?_
              refine wp_goto rfl ?_
              refine ih (i + 1) _ (by omega) (by omega) (fun j hj => ?_) (hok hf)
              rcases Nat.lt_or_ge j i with q2 | q2
              · exact hno j q2
              · obtain rfl : j = i := by omega
                exact hf
            · skip
              refine wp_iload4 rfl ?_
              exact wp_iret rfl ⟨_, rfl, (hbad (by unfold eb_; rw [c3, Bool.or_true])).symm, rfl⟩
  refine wp_iconst rfl ?_
  refine wp_istore3 rfl rfl ?_
  refine wp_iconst rfl ?_
  refine wp_istore4 rfl rfl ?_
  exact loop c 0 none (Nat.zero_le _) (by omega) (fun j hj => absurd hj (Nat.not_lt_zero _)) rfl
theorem Pad_faultRow_ok {h : Hp_} {o c base n : Nat} {g : Nat → Nat} (S : S_Pad h o) (W : P_is h o g c) (hb : base < 128) (hn : n ≤ 8) : cI 3 mn_Pad_faultRow [.ref o, .int (nI base), .int (nI n)] h (fun x h' => x = fw_ g c base n ∧ h' = h) := by
  obtain ⟨hc, h30, hr, hg⟩ := W
  refine cq_in (q := mi_Pad_faultRow) (L := [some (.ref o), some (.int (nI base)), some (.int (nI n)), none, none]) rfl (Nat.le_of_ble_eq_true rfl) rfl ?_
  show wq _ tb_Pad_faultRow none 0 _ _ _ _
  have loop : ∀ k i (a5 : Option Value), i ≤ c → c - i = k → fw_ g c base n = (match ff_ (rb_ g base n) k i with | some i => nI i | none => -6) → wq 2 tb_Pad_faultRow none 2 [some (.ref o), some (.int (nI base)), some (.int (nI n)), some (.int (nI i)), a5] [] h (fun r h' => ∃ x, r = some (.int x) ∧ x = fw_ g c base n ∧ h' = h) := by
    intro k
    induction k with
    | zero =>
      intro i a5 hi hk0 hfo
      obtain rfl : i = c := by omega
      have hfo2 : fw_ g i base n = -6 := hfo
      refine wp_iload3 rfl ?_
      refine wp_aload0 rfl ?_
      refine wp_getI rfl (Pad_kd S) ?_
      rw [hc]
      refine wp_icmp_geN (i) (i) (by omega) (by omega) rfl (fun c1 => ?_) (fun c1 => ?_)
      · skip
        refine wp_bipush rfl ?_
        exact wp_iret rfl ⟨_, rfl, by rw [hfo2], rfl⟩
      · exact absurd c1 (Nat.lt_irrefl _)
    | succ k ih =>
      intro i a5 hi hk0 hfo
      have hbad : rb_ g base n i = true → fw_ g c base n = nI i := by
        intro z
        rw [hfo]
        show (match (if rb_ g base n i then some i else ff_ (rb_ g base n) k (i + 1)) with | some i => nI i | none => -6) = nI i
        rw [if_pos z]
      have hok : rb_ g base n i = false → fw_ g c base n = (match ff_ (rb_ g base n) k (i + 1) with | some i => nI i | none => -6) := by
        intro z
        rw [hfo]
        show (match (if rb_ g base n i then some i else ff_ (rb_ g base n) k (i + 1)) with | some i => nI i | none => -6) = _
        rw [if_neg (by rw [z]; exact Bool.false_ne_true)]
      refine wp_iload3 rfl ?_
      refine wp_aload0 rfl ?_
      refine wp_getI rfl (Pad_kd S) ?_
      rw [hc]
      refine wp_icmp_geN (i) (c) (by omega) (by omega) rfl (fun c1 => ?_) (fun c1 => ?_)
      · exact absurd c1 (by omega)
      · skip
        refine wp_aload0 rfl ?_
        refine wp_iload3 rfl ?_
        refine wp_callV1I rfl (Nat.le_of_ble_eq_true rfl) (Pad_kd S) (Pad_signAt_ok S (show i < 30 by omega)) (Nat.le_of_ble_eq_true rfl) ?_
        rintro _ hx1 ⟨rfl, ehx1⟩
        rw [ehx1, hr i c1]
        refine wp_iload1 rfl ?_
        refine wp_isub rfl ?_
        refine wp_istore4 rfl rfl ?_
        refine wp_iload3 rfl ?_
        refine wp_bipush rfl ?_
        refine wp_icmp_geN (i) (20) (by omega) (by omega) rfl (fun c0 => ?_) (fun c0 => ?_)
        · skip
          refine wp_iload3 rfl ?_
          exact wp_iret rfl ⟨_, rfl, (hbad (by unfold rb_; rw [decide_eq_true c0]; rfl)).symm, rfl⟩
        · skip
          refine wp_iload4 rfl ?_
          have hgi := hg i
          rcases Nat.lt_or_ge (g i) base with q | q
          · refine wp_if_lt rfl (fun _ => ?_) (fun z => absurd (ni_neg q (by omega)) z)
            refine wp_iload3 rfl ?_
            exact wp_iret rfl ⟨_, rfl, (hbad (by unfold rb_; rw [decide_eq_true q, Bool.or_true]; rfl)).symm, rfl⟩
          · rw [ni_sub q]
            refine wp_if_ltN (g i - base) 0 (by omega) (by omega) rfl ?_
            refine wp_iload4 rfl ?_
            refine wp_iload2 rfl ?_
            refine wp_icmp_ltN (g i - base) (n) (by omega) (by omega) rfl (fun c2 => ?_) (fun c2 => ?_)
            · skip
              refine wp_iinc3N rfl rfl ?_
              refine wp_goto rfl ?_
              refine ih (i + 1) _ (by omega) (by omega) (hok ?_)
              unfold rb_
              rw [decide_eq_false (show ¬ 20 ≤ i by omega), decide_eq_false (show ¬ g i < base by omega), decide_eq_false (show ¬ base + n ≤ g i by omega)]
              rfl
            · skip
              refine wp_iload3 rfl ?_
              exact wp_iret rfl ⟨_, rfl, (hbad (by unfold rb_; rw [decide_eq_true (show base + n ≤ g i by omega), Bool.or_true])).symm, rfl⟩
  refine wp_iconst rfl ?_
  refine wp_istore3 rfl rfl ?_
  exact loop c 0 none (Nat.zero_le _) (by omega) rfl
