-- ===== Maps, the rest =====
/-- the first that is not lame, within k steps -/
def fn_ (f : Nat → Nat) (lm : Nat) : Nat → Nat → Nat
  | 0, p => p
  | k + 1, p => if lm.testBit p then fn_ f lm k (f p) else p
/-- a map as danced -/
def dz_ (f : Nat → Nat) (lm p : Nat) : Nat := if lm.testBit p then p else fn_ f lm 8 (f p)
/-- k times -/
def it_ (f : Nat → Nat) : Nat → Nat → Nat
  | 0, p => p
  | k + 1, p => f (it_ f k p)
/-- how many cross -/
def cr_ (f : Nat → Nat) (p : Nat) : Nat → Nat
  | 0 => 0
  | q + 1 => cr_ f p q + if f p < f q then 1 else 0
def iv_ (f : Nat → Nat) : Nat → Nat
  | 0 => 0
  | p + 1 => iv_ f p + cr_ f p p
theorem fn_lt {f : Nat → Nat} {lm : Nat} (hf : ∀ i, i < 8 → f i < 8) : ∀ k p, p < 8 → fn_ f lm k p < 8
  | 0, p, hp => hp
  | k + 1, p, hp => by
    unfold fn_
    split
    · exact fn_lt hf k (f p) (hf p hp)
    · exact hp
theorem dz_lt {f : Nat → Nat} {lm : Nat} (hf : ∀ i, i < 8 → f i < 8) : ∀ p, p < 8 → dz_ f lm p < 8 := by
  intro p hp
  unfold dz_
  split
  · exact hp
  · exact fn_lt hf 8 _ (hf p hp)
theorem it_lt {f : Nat → Nat} (hf : ∀ i, i < 8 → f i < 8) : ∀ k p, p < 8 → it_ f k p < 8
  | 0, p, hp => hp
  | k + 1, p, hp => hf _ (it_lt hf k p hp)
theorem cr_le (f : Nat → Nat) (p : Nat) : ∀ q, cr_ f p q ≤ q
  | 0 => Nat.le_refl _
  | q + 1 => by
    have := cr_le f p q
    unfold cr_
    split <;> omega
theorem Maps_undone_ok {h : Hp_} {f g : Nat → Nat} (hf : ∀ i, i < 8 → f i < 8) (hg : ∀ i, i < 8 → g i < 8) (hgf : ∀ i, i < 8 → g (f i) = i) (hfg : ∀ i, i < 8 → f (g i) = i) : cI 2 mn_Maps_undone [.int (nI (pq_ f 8))] h (fun x h' => x = nI (pq_ g 8) ∧ h' = h) := by
  refine cq_in (q := mi_Maps_undone) (L := [some (.int (nI (pq_ f 8))), none, none]) rfl (Nat.le_of_ble_eq_true rfl) rfl ?_
  show wq _ tb_Maps_undone none 0 _ _ _ _
  have loop : ∀ k i, i ≤ 8 → 8 - i = k → wq 1 tb_Maps_undone none 4 [some (.int (nI (pq_ f 8))), some (.int (nI (pq_ (fun q => if g q < i then g q else 0) 8))), some (.int (nI i))] [] h (fun r h' => ∃ x, r = some (.int x) ∧ x = nI (pq_ g 8) ∧ h' = h) := by
    intro k
    induction k with
    | zero =>
      intro i hi hk0
      obtain rfl : i = 8 := by omega
      refine wp_iload2 rfl ?_
      refine wp_bipush rfl ?_
      refine wp_icmp_geN (8) (8) (by omega) (by omega) rfl (fun c1 => ?_) (fun c1 => ?_)
      · skip
        refine wp_iload1 rfl ?_
        exact wp_iret rfl ⟨_, rfl, by rw [pq_cong 8 (fun i hi => if_pos (hg i hi))], rfl⟩
      · exact absurd c1 (Nat.lt_irrefl _)
    | succ k ih =>
      intro i hi hk0
      refine wp_iload2 rfl ?_
      refine wp_bipush rfl ?_
      refine wp_icmp_geN (i) (8) (by omega) (by omega) rfl (fun c1 => ?_) (fun c1 => ?_)
      · exact absurd c1 (by omega)
      · skip
        refine wp_iload1 rfl ?_
        refine wp_iload2 rfl ?_
        refine wp_iconst rfl ?_
        refine wp_iload0 rfl ?_
        refine wp_iload2 rfl ?_
        refine wp_callS2I rfl (Nat.le_of_ble_eq_true rfl) (Maps_toP_ok hf (show i < 8 by omega)) (Nat.le_of_ble_eq_true rfl) ?_
        rintro _ _ ⟨rfl, rfl⟩
        refine wp_imulE (nI (3 * f i)) (pk_mul 3 _) rfl ?_
        have hfi := hf i (by omega)
        refine wp_ishlE (nI (i * 8 ^ f i)) (by rw [nn_shl _ _ (by omega), p8]) rfl ?_
        refine wp_iorE (nI (pq_ (fun q => if g q < i + 1 then g q else 0) 8)) ?_ rfl ?_
        · rw [nn_or, pq_or_at (fun j hj => by split; exact hg j hj; decide) hfi (by rw [hgf i (by omega), if_neg (Nat.lt_irrefl _)]) (by omega)]
          refine congrArg nI (pq_cong 8 fun j hj => ?_)
          unfold va_up
          by_cases q : j = f i
          · rw [if_pos q, q, hgf i (by omega), if_pos (Nat.lt_succ_self _)]
          · rw [if_neg q]
            have : g j ≠ i := fun z => q (by rw [← z, hfg j hj])
            show (if g j < i then g j else 0) = _
            by_cases q2 : g j < i
            · rw [if_pos q2, if_pos (by omega)]
            · rw [if_neg q2, if_neg (by omega)]
        refine wp_istore1 rfl rfl ?_
        refine wp_iinc2N rfl rfl ?_
        refine wp_goto rfl ?_
        exact ih (i + 1) (by omega) (by omega)
  refine wp_iconst rfl ?_
  refine wp_istore1 rfl rfl ?_
  refine wp_iconst rfl ?_
  refine wp_istore2 rfl rfl ?_
  have := loop 8 0 (by omega) rfl
  rw [pq_cong 8 (g := fun _ => 0) (fun i hi => if_neg (Nat.not_lt_zero _))] at this
  exact this
theorem Maps_firstNotLame_ok {h : Hp_} {f : Nat → Nat} {lm p : Nat} (hf : ∀ i, i < 8 → f i < 8) (hlm : lm < 2 ^ 31) (hp : p < 8) : cI 2 mn_Maps_firstNotLame [.int (nI (pq_ f 8)), .int (nI lm), .int (nI p)] h (fun x h' => x = nI (fn_ f lm 8 p) ∧ h' = h) := by
  refine cq_in (q := mi_Maps_firstNotLame) (L := [some (.int (nI (pq_ f 8))), some (.int (nI lm)), some (.int (nI p)), none, none]) rfl (Nat.le_of_ble_eq_true rfl) rfl ?_
  show wq _ tb_Maps_firstNotLame none 0 _ _ _ _
  have loop : ∀ k i q, i ≤ 8 → 8 - i = k → q < 8 → wq 1 tb_Maps_firstNotLame none 5 [some (.int (nI (pq_ f 8))), some (.int (nI lm)), some (.int (nI p)), some (.int (nI q)), some (.int (nI i))] [] h (fun r h' => ∃ x, r = some (.int x) ∧ x = nI (fn_ f lm k q) ∧ h' = h) := by
    intro k
    induction k with
    | zero =>
      intro i q hi hk0 hq
      obtain rfl : i = 8 := by omega
      refine wp_iload4 rfl ?_
      refine wp_bipush rfl ?_
      refine wp_icmp_geN (8) (8) (by omega) (by omega) rfl (fun c1 => ?_) (fun c1 => ?_)
      · skip
        refine wp_iload3 rfl ?_
        exact wp_iret rfl ⟨_, rfl, rfl, rfl⟩
      · exact absurd c1 (Nat.lt_irrefl _)
    | succ k ih =>
      intro i q hi hk0 hq
      refine wp_iload4 rfl ?_
      refine wp_bipush rfl ?_
      refine wp_icmp_geN (i) (8) (by omega) (by omega) rfl (fun c1 => ?_) (fun c1 => ?_)
      · exact absurd c1 (by omega)
      · skip
        refine wp_iload1 rfl ?_
        refine wp_iload3 rfl ?_
        refine wp_callS2I rfl (Nat.le_of_ble_eq_true rfl) (Cells_isIn_ok (show lm < 2 ^ 32 by omega) (show q < 32 by omega)) (Nat.le_of_ble_eq_true rfl) ?_
        rintro _ _ ⟨rfl, rfl⟩
        refine wp_if_eqB rfl (fun c2 => ?_) (fun c2 => ?_)
        · skip
          refine wp_iload3 rfl ?_
          exact wp_iret rfl ⟨_, rfl, by unfold fn_; rw [c2]; rfl, rfl⟩
        · skip
          refine wp_iload0 rfl ?_
          refine wp_iload3 rfl ?_
          refine wp_callS2I rfl (Nat.le_of_ble_eq_true rfl) (Maps_toP_ok hf hq) (Nat.le_of_ble_eq_true rfl) ?_
          rintro _ _ ⟨rfl, rfl⟩
          refine wp_istore3 rfl rfl ?_
          refine wp_iinc4N rfl rfl ?_
          refine wp_goto rfl ?_
          have := ih (i + 1) (f q) (by omega) (by omega) (hf q hq)
          rw [show fn_ f lm (k + 1) q = fn_ f lm k (f q) by rw [fn_, if_pos c2]]
          exact this
  refine wp_iload2 rfl ?_
  refine wp_istore3 rfl rfl ?_
  refine wp_iconst rfl ?_
  refine wp_istore4 rfl rfl ?_
  exact loop 8 0 p (by omega) rfl hp
theorem Maps_passing_ok {h : Hp_} {f : Nat → Nat} {lm : Nat} (hf : ∀ i, i < 8 → f i < 8) (hlm : lm < 2 ^ 31) : cI 3 mn_Maps_passing [.int (nI (pq_ f 8)), .int (nI lm)] h (fun x h' => x = nI (pq_ (dz_ f lm) 8) ∧ h' = h) := by
  refine cq_in (q := mi_Maps_passing) (L := [some (.int (nI (pq_ f 8))), some (.int (nI lm)), none, none]) rfl (Nat.le_of_ble_eq_true rfl) rfl ?_
  show wq _ tb_Maps_passing none 0 _ _ _ _
  have loop : ∀ k i, i ≤ 8 → 8 - i = k → wq 2 tb_Maps_passing none 5 [some (.int (nI (pq_ f 8))), some (.int (nI lm)), some (.int (nI (pq_ (fun q => if q < i then dz_ f lm q else q) 8))), some (.int (nI i))] [] h (fun r h' => ∃ x, r = some (.int x) ∧ x = nI (pq_ (dz_ f lm) 8) ∧ h' = h) := by
    intro k
    induction k with
    | zero =>
      intro i hi hk0
      obtain rfl : i = 8 := by omega
      refine wp_iload3 rfl ?_
      refine wp_bipush rfl ?_
      refine wp_icmp_geN (8) (8) (by omega) (by omega) rfl (fun c1 => ?_) (fun c1 => ?_)
      · skip
        refine wp_iload2 rfl ?_
        exact wp_iret rfl ⟨_, rfl, by rw [pq_cong 8 (fun i hi => if_pos hi)], rfl⟩
      · exact absurd c1 (Nat.lt_irrefl _)
    | succ k ih =>
      intro i hi hk0
      have hi8 : i < 8 := by omega
      have hdz : ∀ j, j < 8 → (fun q => if q < i then dz_ f lm q else q) j < 8 := by
        intro j hj
        dsimp only
        split
        · exact dz_lt hf j hj
        · exact hj
      refine wp_iload3 rfl ?_
      refine wp_bipush rfl ?_
      refine wp_icmp_geN (i) (8) (by omega) (by omega) rfl (fun c1 => ?_) (fun c1 => ?_)
      · exact absurd c1 (by omega)
      · skip
        refine wp_iload1 rfl ?_
        refine wp_iload3 rfl ?_
        refine wp_callS2I rfl (Nat.le_of_ble_eq_true rfl) (Cells_isIn_ok (show lm < 2 ^ 32 by omega) (show i < 32 by omega)) (Nat.le_of_ble_eq_true rfl) ?_
        rintro _ _ ⟨rfl, rfl⟩
        refine wp_if_neB rfl (fun c2 => ?_) (fun c2 => ?_)
        · skip
          refine wp_iinc3N rfl rfl ?_
          refine wp_goto rfl ?_
          have := ih (i + 1) (by omega) (by omega)
          rw [pq_cong 8 (f := fun q => if q < i + 1 then dz_ f lm q else q) (g := fun q => if q < i then dz_ f lm q else q)] at this
          · exact this
          · intro j hj
            show (if j < i + 1 then dz_ f lm j else j) = (if j < i then dz_ f lm j else j)
            by_cases q : j < i
            · rw [if_pos q, if_pos (by omega)]
            · rw [if_neg q]
              by_cases q2 : j = i
              · rw [if_pos (by omega), q2, dz_, if_pos c2]
              · rw [if_neg (by omega)]
        · skip
          refine wp_iload2 rfl ?_
          refine wp_iload3 rfl ?_
          refine wp_iload0 rfl ?_
          refine wp_iload1 rfl ?_
          refine wp_iload0 rfl ?_
          refine wp_iload3 rfl ?_
          refine wp_callS2I rfl (Nat.le_of_ble_eq_true rfl) (Maps_toP_ok hf hi8) (Nat.le_of_ble_eq_true rfl) ?_
          rintro _ _ ⟨rfl, rfl⟩
          refine wp_callS3I rfl (Nat.le_of_ble_eq_true rfl) (Maps_firstNotLame_ok hf hlm (hf i hi8)) (Nat.le_of_ble_eq_true rfl) ?_
          rintro _ _ ⟨rfl, rfl⟩
          refine wp_callS3I rfl (Nat.le_of_ble_eq_true rfl) (Maps_with_ok hdz hi8 (fn_lt hf 8 _ (hf i hi8))) (Nat.le_of_ble_eq_true rfl) ?_
          rintro _ _ ⟨rfl, rfl⟩
          refine wp_istore2 rfl rfl ?_
          refine wp_iinc3N rfl rfl ?_
          refine wp_goto rfl ?_
          have := ih (i + 1) (by omega) (by omega)
          rw [pq_cong 8 (f := fun q => if q < i + 1 then dz_ f lm q else q) (g := va_up (fun q => if q < i then dz_ f lm q else q) i (fn_ f lm 8 (f i)))] at this
          · exact this
          · intro j hj
            unfold va_up
            show (if j < i + 1 then dz_ f lm j else j) = (if j = i then _ else (if j < i then dz_ f lm j else j))
            by_cases q2 : j = i
            · rw [if_pos (by omega), if_pos q2, q2, dz_, if_neg (by rw [c2]; decide)]
            · rw [if_neg q2]
              by_cases q : j < i
              · rw [if_pos q, if_pos (by omega)]
              · rw [if_neg q, if_neg (by omega)]
  refine wp_ldc rfl ?_
  refine wp_istore2 rfl rfl ?_
  refine wp_iconst rfl ?_
  refine wp_istore3 rfl rfl ?_
  have := loop 8 0 (by omega) rfl
  rw [pq_cong 8 (g := fun q => q) (fun i hi => if_neg (Nat.not_lt_zero _))] at this
  exact this
theorem Maps_timesTillStays_ok {h : Hp_} {f : Nat → Nat} {N : Nat} (hf : ∀ i, i < 8 → f i < 8) (h1 : 1 ≤ N) (hN : N < 1000000) (hid : ∀ i, i < 8 → it_ f N i = i) (hmin : ∀ k, 1 ≤ k → k < N → ∃ i, i < 8 ∧ it_ f k i ≠ i) : cI 4 mn_Maps_timesTillStays [.int (nI (pq_ f 8))] h (fun x h' => x = nI N ∧ h' = h) := by
  refine cq_in (q := mi_Maps_timesTillStays) (L := [some (.int (nI (pq_ f 8))), none, none]) rfl (Nat.le_of_ble_eq_true rfl) rfl ?_
  show wq _ tb_Maps_timesTillStays none 0 _ _ _ _
  have hid8 : ∀ i, i < 8 → (fun q : Nat => q) i < 8 := fun i hi => hi
  have hst : (16434824 : Nat) = pq_ (fun q => q) 8 := by decide +kernel
  have loop : ∀ k i, 1 ≤ i → i ≤ N → N - i = k → wq 3 tb_Maps_timesTillStays none 4 [some (.int (nI (pq_ f 8))), some (.int (nI i)), some (.int (nI (pq_ (it_ f i) 8)))] [] h (fun r h' => ∃ x, r = some (.int x) ∧ x = nI N ∧ h' = h) := by
    intro k
    induction k with
    | zero =>
      intro i hi0 hi hk0
      obtain rfl : i = N := by omega
      refine wp_iload2 rfl ?_
      refine wp_ldc rfl ?_
      have e := pq_cong 8 hid
      have := pq_lt24 (it_lt hf i)
      refine wp_icmp_eqN (pq_ (it_ f i) 8) (16434824) (by omega) (by omega) rfl (fun c1 => ?_) (fun c1 => ?_)
      · skip
        refine wp_iload1 rfl ?_
        exact wp_iret rfl ⟨_, rfl, rfl, rfl⟩
      · exact absurd (e.trans hst.symm) c1
    | succ k ih =>
      intro i hi0 hi hk0
      refine wp_iload2 rfl ?_
      refine wp_ldc rfl ?_
      have := pq_lt24 (it_lt hf i)
      refine wp_icmp_eqN (pq_ (it_ f i) 8) (16434824) (by omega) (by omega) rfl (fun c1 => ?_) (fun c1 => ?_)
      · 
        obtain ⟨j, hj, hne⟩ := hmin i hi0 (by omega)
        exact absurd (pq_inj (it_lt hf i) hid8 (c1.trans hst) j hj) hne
      · skip
        refine wp_iload1 rfl ?_
        refine wp_ldc rfl ?_
        refine wp_icmp_geN (i) (1000000) (by omega) (by omega) rfl (fun c2 => ?_) (fun c2 => ?_)
        · exact absurd c2 (by omega)
        · skip
          refine wp_iload2 rfl ?_
          refine wp_iload0 rfl ?_
          refine wp_callS2I rfl (Nat.le_of_ble_eq_true rfl) (Maps_then_ok (it_lt hf i) hf) (Nat.le_of_ble_eq_true rfl) ?_
          rintro _ _ ⟨rfl, rfl⟩
          refine wp_istore2 rfl rfl ?_
          refine wp_iinc1N rfl rfl ?_
          refine wp_goto rfl ?_
          exact ih (i + 1) (by omega) (by omega) (by omega)
  refine wp_iconst rfl ?_
  refine wp_istore1 rfl rfl ?_
  refine wp_iload0 rfl ?_
  refine wp_istore2 rfl rfl ?_
  have := loop (N - 1) 1 (Nat.le_refl _) h1 rfl
  exact this
theorem Maps_isEven_ok {h : Hp_} {f : Nat → Nat} (hf : ∀ i, i < 8 → f i < 8) : cI 2 mn_Maps_isEven [.int (nI (pq_ f 8))] h (fun x h' => x = bo_ (decide (iv_ f 8 % 2 = 0)) ∧ h' = h) := by
  refine cq_in (q := mi_Maps_isEven) (L := [some (.int (nI (pq_ f 8))), none, none, none]) rfl (Nat.le_of_ble_eq_true rfl) rfl ?_
  show wq _ tb_Maps_isEven none 0 _ _ _ _
  have hiv : ∀ p, p ≤ 8 → iv_ f p ≤ 8 * p := by
    intro p
    induction p with
    | zero => intro _; exact Nat.le_refl _
    | succ p ih =>
      intro hp
      have := ih (by omega)
      have := cr_le f p p
      unfold iv_
      omega
  have loop : ∀ k i (a3 : Option Value), i ≤ 8 → 8 - i = k → wq 1 tb_Maps_isEven none 4 [some (.int (nI (pq_ f 8))), some (.int (nI (iv_ f i))), some (.int (nI i)), a3] [] h (fun r h' => ∃ x, r = some (.int x) ∧ x = bo_ (decide (iv_ f 8 % 2 = 0)) ∧ h' = h) := by
    intro k
    induction k with
    | zero =>
      intro i a3 hi hk0
      obtain rfl : i = 8 := by omega
      have := hiv 8 (by omega)
      refine wp_iload2 rfl ?_
      refine wp_bipush rfl ?_
      refine wp_icmp_geN (8) (8) (by omega) (by omega) rfl (fun c1 => ?_) (fun c1 => ?_)
      · skip
        refine wp_iload1 rfl ?_
        refine wp_iconst rfl ?_
        refine wp_iandE (nI (iv_ f 8 % 2)) (nn_1 _) rfl ?_
        refine wp_if_neN (iv_ f 8 % 2) (0) (by omega) (by omega) rfl (fun c2 => ?_) (fun c2 => ?_)
        · skip
          refine wp_iconst rfl ?_
          exact wp_zret rfl (by first | exact Or.inl rfl | exact Or.inr rfl) ⟨_, rfl, by rw [decide_eq_false c2]; rfl, rfl⟩
        · skip
          refine wp_iconst rfl ?_
          refine wp_goto rfl ?_
          exact wp_zret rfl (by first | exact Or.inl rfl | exact Or.inr rfl) ⟨_, rfl, by rw [decide_eq_true c2]; rfl, rfl⟩
      · exact absurd c1 (Nat.lt_irrefl _)
    | succ k ih =>
      intro i a3 hi hk0
      refine wp_iload2 rfl ?_
      refine wp_bipush rfl ?_
      refine wp_icmp_geN (i) (8) (by omega) (by omega) rfl (fun c1 => ?_) (fun c1 => ?_)
      · exact absurd c1 (by omega)
      · skip
        refine wp_iconst rfl ?_
        refine wp_istore3 rfl rfl ?_
        have inner : ∀ k2 q, q ≤ i → i - q = k2 → wq 1 tb_Maps_isEven none 12 [some (.int (nI (pq_ f 8))), some (.int (nI (iv_ f i + cr_ f i q))), some (.int (nI i)), some (.int (nI q))] [] h (fun r h' => ∃ x, r = some (.int x) ∧ x = bo_ (decide (iv_ f 8 % 2 = 0)) ∧ h' = h) := by
          intro k2
          induction k2 with
          | zero =>
            intro q hq hk2
            obtain rfl : q = i := by omega
            refine wp_iload3 rfl ?_
            refine wp_iload2 rfl ?_
            refine wp_icmp_geN (q) (q) (by omega) (by omega) rfl (fun c2 => ?_) (fun c2 => ?_)
            · skip
              refine wp_iinc2N rfl rfl ?_
              refine wp_goto rfl ?_
              exact ih (q + 1) _ (by omega) (by omega)
            · exact absurd c2 (Nat.lt_irrefl _)
          | succ k2 ih2 =>
            intro q hq hk2
            refine wp_iload3 rfl ?_
            refine wp_iload2 rfl ?_
            refine wp_icmp_geN (q) (i) (by omega) (by omega) rfl (fun c2 => ?_) (fun c2 => ?_)
            · exact absurd c2 (by omega)
            · skip
              refine wp_iload0 rfl ?_
              refine wp_iload3 rfl ?_
              refine wp_callS2I rfl (Nat.le_of_ble_eq_true rfl) (Maps_toP_ok hf (show q < 8 by omega)) (Nat.le_of_ble_eq_true rfl) ?_
              rintro _ _ ⟨rfl, rfl⟩
              refine wp_iload0 rfl ?_
              refine wp_iload2 rfl ?_
              refine wp_callS2I rfl (Nat.le_of_ble_eq_true rfl) (Maps_toP_ok hf (show i < 8 by omega)) (Nat.le_of_ble_eq_true rfl) ?_
              rintro _ _ ⟨rfl, rfl⟩
              have h1 := hf q (by omega)
              have h2 := hf i (by omega)
              refine wp_icmp_leN (f q) (f i) (by omega) (by omega) rfl (fun c3 => ?_) (fun c3 => ?_)
              · skip
                refine wp_iinc3N rfl rfl ?_
                refine wp_goto rfl ?_
                have := ih2 (q + 1) (by omega) (by omega)
                rw [show cr_ f i (q + 1) = cr_ f i q by rw [cr_, if_neg (by omega), Nat.add_zero]] at this
                exact this
              · skip
                refine wp_iinc1N rfl rfl ?_
                refine wp_iinc3N rfl rfl ?_
                refine wp_goto rfl ?_
                have := ih2 (q + 1) (by omega) (by omega)
                rw [show cr_ f i (q + 1) = cr_ f i q + 1 by rw [cr_, if_pos c3]] at this
                exact this
        exact inner i 0 (by omega) rfl
  refine wp_iconst rfl ?_
  refine wp_istore1 rfl rfl ?_
  refine wp_iconst rfl ?_
  refine wp_istore2 rfl rfl ?_
  exact loop 8 0 none (by omega) rfl
