-- ===== NUMBERS: bits (begun with a family of kit/laws/BITS), packed rows of three bits =====
def bt (x : Int32) (i : Nat) : Bool := x.toBitVec.getLsbD i
theorem b_ext {x y : Int32} (h : ∀ i, i < 32 → bt x i = bt y i) : x = y := Int32.toBitVec_inj.mp (BitVec.eq_of_getLsbD_eq (fun i hi => h i hi))
theorem b_or (x y : Int32) (i : Nat) : bt (x ||| y) i = (bt x i || bt y i) := by unfold bt; rw [Int32.toBitVec_or, BitVec.getLsbD_or]
theorem b_and (x y : Int32) (i : Nat) : bt (x &&& y) i = (bt x i && bt y i) := by unfold bt; rw [Int32.toBitVec_and, BitVec.getLsbD_and]
theorem b_xor (x y : Int32) (i : Nat) : bt (x ^^^ y) i = (bt x i ^^ bt y i) := by unfold bt; rw [Int32.toBitVec_xor, BitVec.getLsbD_xor]
theorem b_big {x : Int32} {i : Nat} (h : 32 ≤ i) : bt x i = false := BitVec.getLsbD_of_ge _ _ h
theorem b_255 (i : Nat) : bt 255 i = decide (i < 8) := by
  rcases Nat.lt_or_ge i 32 with h | h
  · exact (by decide +kernel : ∀ i, i < 32 → bt 255 i = decide (i < 8)) i h
  · rw [b_big h, decide_eq_false (by omega)]
theorem b_65535 (i : Nat) : bt 65535 i = decide (i < 16) := by
  rcases Nat.lt_or_ge i 32 with h | h
  · exact (by decide +kernel : ∀ i, i < 32 → bt 65535 i = decide (i < 16)) i h
  · rw [b_big h, decide_eq_false (by omega)]
theorem b_m1 : ∀ i, i < 32 → bt (-1) i = true := by decide +kernel
theorem b_0 (i : Nat) : bt 0 i = false := BitVec.getLsbD_zero
theorem s_l : ∀ n, n < 32 → ((nI n &&& 31).toBitVec.smod 32).toNat = n := by decide +kernel
theorem s_u : ∀ n, n < 32 → (((nI n).toUInt32 &&& Int32.toUInt32 31).toBitVec % 32).toNat = n := by decide +kernel
theorem b_shl (n : Nat) (hn : n < 32) (x : Int32) {i : Nat} (hi : i < 32) : bt (x <<< (nI n &&& 31)) i = (decide (n ≤ i) && bt x (i - n)) := by
  unfold bt
  rw [Int32.toBitVec_shiftLeft]
  show (x.toBitVec <<< ((nI n &&& 31).toBitVec.smod 32).toNat).getLsbD i = _
  rw [s_l n hn, BitVec.getLsbD_shiftLeft]
  rcases Nat.lt_or_ge i n with h | h
  · simp [h, Nat.not_le.mpr h]
  · simp [hi, h, Nat.not_lt.mpr h]
theorem b_ushr (n : Nat) (hn : n < 32) (x : Int32) (i : Nat) : bt ((x.toUInt32 >>> ((nI n).toUInt32 &&& Int32.toUInt32 31)).toInt32) i = bt x (n + i) := by
  show (x.toUInt32 >>> ((nI n).toUInt32 &&& Int32.toUInt32 31)).toBitVec.getLsbD i = x.toUInt32.toBitVec.getLsbD (n + i)
  rw [UInt32.toBitVec_shiftRight]
  show (x.toUInt32.toBitVec >>> (((nI n).toUInt32 &&& Int32.toUInt32 31).toBitVec % 32).toNat).getLsbD i = _
  rw [s_u n hn, BitVec.getLsbD_ushiftRight]
theorem b_sshr (n : Nat) (hn : n < 32) (x : Int32) {i : Nat} (hi : i < 32) : bt (x >>> (nI n &&& 31)) i = if n + i < 32 then bt x (n + i) else bt x 31 := by
  unfold bt
  rw [Int32.toBitVec_shiftRight]
  show (x.toBitVec.sshiftRight ((nI n &&& 31).toBitVec.smod 32).toNat).getLsbD i = _
  rw [s_l n hn, BitVec.getLsbD_sshiftRight, BitVec.msb_eq_getLsbD_last]
  simp [hi]
theorem bt_nI (n : Nat) {i : Nat} (hi : i < 32) : bt (nI n) i = n.testBit i := by
  show (BitVec.ofNat 32 n).getLsbD i = _
  rw [BitVec.getLsbD_ofNat]
  simp [hi]
theorem nn_and (a b : Nat) : nI a &&& nI b = nI (a &&& b) := b_ext fun i hi => by rw [b_and, bt_nI a hi, bt_nI b hi, bt_nI _ hi, Nat.testBit_and]
theorem nn_or (a b : Nat) : nI a ||| nI b = nI (a ||| b) := b_ext fun i hi => by rw [b_or, bt_nI a hi, bt_nI b hi, bt_nI _ hi, Nat.testBit_or]
theorem nn_shl (a k : Nat) (hk : k < 32) : nI a <<< (nI k &&& 31) = nI (a * 2 ^ k) := b_ext fun i hi => by
  rw [b_shl k hk _ hi, bt_nI _ hi]
  rcases Nat.lt_or_ge i k with q | q
  · rw [decide_eq_false (by omega), Nat.testBit_mul_two_pow, decide_eq_false (by omega)]
    rfl
  · rw [decide_eq_true q, bt_nI _ (by omega), Nat.testBit_mul_two_pow, decide_eq_true q]
theorem nn_ushr (a k : Nat) (ha : a < 2 ^ 32) (hk : k < 32) : ((nI a).toUInt32 >>> ((nI k).toUInt32 &&& Int32.toUInt32 31)).toInt32 = nI (a / 2 ^ k) := b_ext fun i hi => by
  rw [b_ushr k hk, bt_nI _ hi, Nat.testBit_div_two_pow]
  rcases Nat.lt_or_ge (k + i) 32 with q | q
  · rw [bt_nI _ q, Nat.add_comm]
  · rw [b_big q, Nat.add_comm i k]
    exact (Nat.testBit_lt_two_pow (Nat.lt_of_lt_of_le ha (Nat.pow_le_pow_right (by omega) q))).symm
theorem nn_sshr (a k : Nat) (ha : a < 2 ^ 31) (hk : k < 32) : nI a >>> (nI k &&& 31) = nI (a / 2 ^ k) := b_ext fun i hi => by
  rw [b_sshr k hk _ hi, bt_nI _ hi, Nat.testBit_div_two_pow]
  split
  · rename_i q
    rw [bt_nI _ q, Nat.add_comm]
  · rename_i q
    rw [bt_nI _ (by omega), Nat.add_comm i k]
    rw [Nat.testBit_lt_two_pow ha]
    exact (Nat.testBit_lt_two_pow (Nat.lt_of_lt_of_le ha (Nat.pow_le_pow_right (by omega) (by omega)))).symm
theorem nn_7 (a : Nat) : nI a &&& nI 7 = nI (a % 8) := by
  rw [nn_and]
  exact congrArg nI (Nat.and_two_pow_sub_one_eq_mod a 3)
theorem nn_1 (a : Nat) : nI a &&& nI 1 = nI (a % 2) := by
  rw [nn_and]
  exact congrArg nI (Nat.and_two_pow_sub_one_eq_mod a 1)
theorem p8 (k : Nat) : 8 ^ k = 2 ^ (3 * k) := by rw [show 8 = 2 ^ 3 from rfl, ← Nat.pow_mul]
/-- n numbers below 8, packed -/
def pq_ (f : Nat → Nat) : Nat → Nat
  | 0 => 0
  | n + 1 => pq_ f n + f n * 8 ^ n
theorem pq_lt {f : Nat → Nat} : ∀ n, (∀ i, i < n → f i < 8) → pq_ f n < 8 ^ n
  | 0, _ => Nat.one_pos
  | n + 1, h => by
    have h1 := pq_lt n (fun i hi => h i (by omega))
    have h2 := h n (by omega)
    have h3 : f n * 8 ^ n ≤ 7 * 8 ^ n := Nat.mul_le_mul_right _ (by omega)
    show pq_ f n + f n * 8 ^ n < 8 ^ (n + 1)
    rw [Nat.pow_succ]
    omega
theorem pq_lt24 {f : Nat → Nat} (h : ∀ i, i < 8 → f i < 8) : pq_ f 8 < 16777216 := pq_lt 8 h
theorem pq_cong {f g : Nat → Nat} : ∀ n, (∀ i, i < n → f i = g i) → pq_ f n = pq_ g n
  | 0, _ => rfl
  | n + 1, h => by
    show pq_ f n + f n * 8 ^ n = pq_ g n + g n * 8 ^ n
    rw [pq_cong n (fun i hi => h i (by omega)), h n (by omega)]
theorem pq_get {f : Nat → Nat} : ∀ n k, (∀ i, i < n → f i < 8) → k < n → pq_ f n / 8 ^ k % 8 = f k
  | 0, k, _, hk => by omega
  | n + 1, k, h, hk => by
    show (pq_ f n + f n * 8 ^ n) / 8 ^ k % 8 = f k
    have h1 := pq_lt n (fun i hi => h i (by omega))
    rcases Nat.lt_or_ge k n with q | q
    · have e : f n * 8 ^ n = 8 ^ k * (f n * 8 ^ (n - k - 1) * 8) := by
        have : 8 ^ n = 8 ^ k * (8 ^ (n - k - 1) * 8) := by
          rw [← Nat.pow_succ, ← Nat.pow_add]
          congr 1
          omega
        rw [this, Nat.mul_assoc, Nat.mul_left_comm]
      rw [e, Nat.add_mul_div_left _ _ (Nat.pow_pos (by decide)), Nat.add_mul_mod_self_right]
      exact pq_get n k (fun i hi => h i (by omega)) q
    · obtain rfl : k = n := by omega
      rw [Nat.add_mul_div_right _ _ (Nat.pow_pos (by decide)), Nat.div_eq_of_lt h1, Nat.zero_add, Nat.mod_eq_of_lt (h k (by omega))]
theorem pq_inj {f g : Nat → Nat} {n : Nat} (hf : ∀ i, i < n → f i < 8) (hg : ∀ i, i < n → g i < 8) (h : pq_ f n = pq_ g n) : ∀ i, i < n → f i = g i := fun i hi => by rw [← pq_get n i hf hi, ← pq_get n i hg hi, h]
theorem pq_testBit {f : Nat → Nat} {n : Nat} (h : ∀ i, i < n → f i < 8) (j : Nat) : (pq_ f n).testBit j = (decide (j < 3 * n) && (f (j / 3)).testBit (j % 3)) := by
  rcases Nat.lt_or_ge j (3 * n) with q | q
  · rw [decide_eq_true q, Bool.true_and, ← pq_get n (j / 3) h (by omega), p8]
    rw [show (8 : Nat) = 2 ^ 3 from rfl, Nat.testBit_mod_two_pow, decide_eq_true (show j % 3 < 3 by omega), Bool.true_and, Nat.testBit_div_two_pow]
    congr 1
    omega
  · rw [decide_eq_false (by omega), Bool.false_and]
    have := pq_lt n h
    rw [p8] at this
    exact Nat.testBit_lt_two_pow (Nat.lt_of_lt_of_le this (Nat.pow_le_pow_right (by omega) q))
/-- one more packed number, by an or -/
theorem pq_or {f : Nat → Nat} {n : Nat} (h : ∀ i, i < n → f i < 8) (v : Nat) : pq_ f n ||| v * 8 ^ n = pq_ f n + v * 8 ^ n := by
  have h1 := pq_lt n h
  rw [p8] at h1 ⊢
  rw [Nat.or_comm, Nat.mul_comm v, Nat.add_comm]
  exact (Nat.two_pow_add_eq_or_of_lt h1 v).symm
theorem nI_inj {a b : Nat} (ha : a < 2 ^ 31) (hb : b < 2 ^ 31) (h : nI a = nI b) : a = b := (nI_eq ha hb).mp h
theorem vu_self {α : Type} (f : Nat → α) (k : Nat) : va_up f k (f k) = f := funext fun j => by
  unfold va_up
  split
  · rename_i q; rw [q]
  · rfl
theorem vu_up {α : Type} (f : Nat → α) (k : Nat) (v w : α) : va_up (va_up f k v) k w = va_up f k w := funext fun j => by
  unfold va_up
  split <;> rfl
theorem hp_rI_self (h : Hp_) (c : Nat) : hp_rI h c (hp_I h c) = h := by
  obtain ⟨h1, h2, h3, h4, h5, h6, h7⟩ := h
  show (h1, h2, h3, h4, va_up h5 c (h5 c), h6, h7) = _
  rw [vu_self]
theorem hp_rI_rI (h : Hp_) (c : Nat) (f g : Nat → Int32) : hp_rI (hp_rI h c f) c g = hp_rI h c g := by
  obtain ⟨h1, h2, h3, h4, h5, h6, h7⟩ := h
  show (h1, h2, h3, h4, va_up (va_up h5 c f) c g, h6, h7) = _
  rw [vu_up]
  rfl
theorem hp_rJ_self (h : Hp_) (c : Nat) : hp_rJ h c (hp_J h c) = h := by
  obtain ⟨h1, h2, h3, h4, h5, h6, h7⟩ := h
  show (h1, h2, h3, h4, h5, va_up h6 c (h6 c), h7) = _
  rw [vu_self]
theorem hp_rJ_rJ (h : Hp_) (c : Nat) (f g : Nat → Int64) : hp_rJ (hp_rJ h c f) c g = hp_rJ h c g := by
  obtain ⟨h1, h2, h3, h4, h5, h6, h7⟩ := h
  show (h1, h2, h3, h4, h5, va_up (va_up h6 c f) c g, h7) = _
  rw [vu_up]
  rfl
theorem hp_rI_comm (h : Hp_) {c d : Nat} (hcd : c ≠ d) (f g : Nat → Int32) : hp_rI (hp_rI h c f) d g = hp_rI (hp_rI h d g) c f := by
  obtain ⟨h1, h2, h3, h4, h5, h6, h7⟩ := h
  show (h1, h2, h3, h4, va_up (va_up h5 c f) d g, h6, h7) = (h1, h2, h3, h4, va_up (va_up h5 d g) c f, h6, h7)
  congr 4
  rw [show va_up (va_up h5 c f) d g = va_up (va_up h5 d g) c f from funext fun j => by
    unfold va_up
    split
    · rename_i q
      rw [if_neg (fun z => hcd (z.symm.trans q))]
    · rfl]
/-- a boolean as an int -/
def bo_ (b : Bool) : Int32 := if b then nI 1 else nI 0
theorem bo_01 (b : Bool) : bo_ b = 0 ∨ bo_ b = 1 := by cases b; exact Or.inl rfl; exact Or.inr rfl
theorem bo_if (c : Prop) (d : Decidable c) : (if c then nI 1 else nI 0) = bo_ (decide c) := by
  unfold bo_
  by_cases q : c
  · rw [if_pos q, if_pos (decide_eq_true q)]
  · rw [if_neg q, if_neg (fun z => q (of_decide_eq_true z))]
section NXW
variable {d n a b c e k y : Nat} {v : Int32} {w : Int64} {tab : Tab_} {sc : Sc_} {pc : Nat} {L L' : Lc_} {st st' : List Value} {h h' : Hp_} {Q : Option Value → Hp_ → Prop}
theorem wp_alenE {x m : Nat} (hc : pm_lk tab pc = some (.arraylength, n, a, b, c, e, v, w)) (h0 : x ≠ 0) (hk : hp_kd h x = 1 ∨ hp_kd h x = 2 ∨ hp_kd h x = 3) (hm : hp_ln h x = m) (kk : wq d tab sc n L (.int (nI m) :: st) h Q) : wq d tab sc pc L (.ref x :: st) h Q := by
  subst hm
  exact wp_alen hc h0 hk kk
theorem wq_top {x y : Int32} (hxy : x = y) (kk : wq d tab sc pc L (.int y :: st) h Q) : wq d tab sc pc L (.int x :: st) h Q := by rw [hxy]; exact kk
theorem wq_topJ {x y : Int64} (hxy : x = y) (kk : wq d tab sc pc L (.long y :: st) h Q) : wq d tab sc pc L (.long x :: st) h Q := by rw [hxy]; exact kk
theorem wq_hp (hh : h = h') (kk : wq d tab sc pc L st h' Q) : wq d tab sc pc L st h Q := by rw [hh]; exact kk
theorem wp_if_ltN (i j : Nat) (hi : i < 2 ^ 31) (hj : j < 2 ^ 31) {k1 : Int} (hc : pm_lk tab pc = some (.ifCond .lt k1, n, a, b, c, e, v, w)) (kf : wq d tab sc n L st h Q) : wq d tab sc pc L (.int (nI i) :: st) h Q := wp_if_lt hc (fun q => absurd q (nI_pos hi)) (fun _ => kf)
theorem wp_if_geN (i j : Nat) (hi : i < 2 ^ 31) (hj : j < 2 ^ 31) {k1 : Int} (hc : pm_lk tab pc = some (.ifCond .ge k1, n, a, b, c, e, v, w)) (kt : wq d tab sc a L st h Q) : wq d tab sc pc L (.int (nI i) :: st) h Q := wp_if_ge hc (fun _ => kt) (fun q => absurd (nI_pos' hi) q)
theorem nI_z {i : Nat} (hi : i < 2 ^ 31) : nI i = 0 ↔ i = 0 := by rw [← nI_0]; exact nI_eq hi (by decide)
theorem wp_if_eqN (i j : Nat) (hi : i < 2 ^ 31) (hj : j < 2 ^ 31) {k1 : Int} (hc : pm_lk tab pc = some (.ifCond .eq k1, n, a, b, c, e, v, w)) (kt : i = 0 → wq d tab sc a L st h Q) (kf : i ≠ 0 → wq d tab sc n L st h Q) : wq d tab sc pc L (.int (nI i) :: st) h Q := wp_if_eq hc (fun q => kt ((nI_z hi).mp q)) (fun q => kf (fun z => q ((nI_z hi).mpr z)))
theorem wp_if_neN (i j : Nat) (hi : i < 2 ^ 31) (hj : j < 2 ^ 31) {k1 : Int} (hc : pm_lk tab pc = some (.ifCond .ne k1, n, a, b, c, e, v, w)) (kt : i ≠ 0 → wq d tab sc a L st h Q) (kf : i = 0 → wq d tab sc n L st h Q) : wq d tab sc pc L (.int (nI i) :: st) h Q := wp_if_ne hc (fun q => kt (fun z => q ((nI_z hi).mpr z))) (fun q => kf ((nI_z hi).mp (Classical.not_not.mp q)))
theorem wp_if_leN (i j : Nat) (hi : i < 2 ^ 31) (hj : j < 2 ^ 31) {k1 : Int} (hc : pm_lk tab pc = some (.ifCond .le k1, n, a, b, c, e, v, w)) (kt : i = 0 → wq d tab sc a L st h Q) (kf : 0 < i → wq d tab sc n L st h Q) : wq d tab sc pc L (.int (nI i) :: st) h Q := wp_if_le hc (fun q => kt (by have := (nI_leI hi (show 0 < 2 ^ 31 by decide)).mp (by rw [nI_0]; exact q); omega)) (fun q => kf (by rcases Nat.eq_zero_or_pos i with z | z; exact absurd (by rw [z, nI_0]; exact Int32.le_refl _) q; exact z))
theorem wp_if_gtN (i j : Nat) (hi : i < 2 ^ 31) (hj : j < 2 ^ 31) {k1 : Int} (hc : pm_lk tab pc = some (.ifCond .gt k1, n, a, b, c, e, v, w)) (kt : 0 < i → wq d tab sc a L st h Q) (kf : i = 0 → wq d tab sc n L st h Q) : wq d tab sc pc L (.int (nI i) :: st) h Q := wp_if_gt hc (fun q => kt (by have := (nI_ltI (show 0 < 2 ^ 31 by decide) hi).mp (by rw [nI_0]; exact q); omega)) (fun q => kf (by rcases Nat.eq_zero_or_pos i with z | z; exact z; exact absurd (by rw [← nI_0]; exact nI_lt z hi) q))
theorem wp_iinc0N {i j : Nat} {w1 : Int} {t : Lc_} (hc : pm_lk tab pc = some (.iinc 0 w1, n, a, b, c, e, nI j, w)) (kk : wq d tab sc n (some (.int (nI (i + j))) :: t) st h Q) : wq d tab sc pc (some (.int (nI i)) :: t) st h Q := wp_iinc0 hc (by rw [nI_add]; exact kk)
theorem wp_iinc0M {i : Nat} {w1 : Int} {t : Lc_} (hc : pm_lk tab pc = some (.iinc 0 w1, n, a, b, c, e, -1, w)) (kk : wq d tab sc n (some (.int (nI i)) :: t) st h Q) : wq d tab sc pc (some (.int (nI (i + 1))) :: t) st h Q := wp_iinc0 hc (by rw [pk_m1]; exact kk)
theorem wp_iinc1N {i j : Nat} {w1 : Int} {a0 : Option Value} {t : Lc_} (hc : pm_lk tab pc = some (.iinc 1 w1, n, a, b, c, e, nI j, w)) (hz : nl_ a0 = true := by rfl) (kk : wq d tab sc n (a0 :: some (.int (nI (i + j))) :: t) st h Q) : wq d tab sc pc (a0 :: some (.int (nI i)) :: t) st h Q := wp_iinc1 hc hz (by rw [nI_add]; exact kk)
theorem wp_iinc1M {i : Nat} {w1 : Int} {a0 : Option Value} {t : Lc_} (hc : pm_lk tab pc = some (.iinc 1 w1, n, a, b, c, e, -1, w)) (hz : nl_ a0 = true := by rfl) (kk : wq d tab sc n (a0 :: some (.int (nI i)) :: t) st h Q) : wq d tab sc pc (a0 :: some (.int (nI (i + 1))) :: t) st h Q := wp_iinc1 hc hz (by rw [pk_m1]; exact kk)
theorem wp_iinc2N {i j : Nat} {w1 : Int} {a0 a1 : Option Value} {t : Lc_} (hc : pm_lk tab pc = some (.iinc 2 w1, n, a, b, c, e, nI j, w)) (hz : nl_ a1 = true := by rfl) (kk : wq d tab sc n (a0 :: a1 :: some (.int (nI (i + j))) :: t) st h Q) : wq d tab sc pc (a0 :: a1 :: some (.int (nI i)) :: t) st h Q := wp_iinc2 hc hz (by rw [nI_add]; exact kk)
theorem wp_iinc2M {i : Nat} {w1 : Int} {a0 a1 : Option Value} {t : Lc_} (hc : pm_lk tab pc = some (.iinc 2 w1, n, a, b, c, e, -1, w)) (hz : nl_ a1 = true := by rfl) (kk : wq d tab sc n (a0 :: a1 :: some (.int (nI i)) :: t) st h Q) : wq d tab sc pc (a0 :: a1 :: some (.int (nI (i + 1))) :: t) st h Q := wp_iinc2 hc hz (by rw [pk_m1]; exact kk)
theorem wp_iinc3N {i j : Nat} {w1 : Int} {a0 a1 a2 : Option Value} {t : Lc_} (hc : pm_lk tab pc = some (.iinc 3 w1, n, a, b, c, e, nI j, w)) (hz : nl_ a2 = true := by rfl) (kk : wq d tab sc n (a0 :: a1 :: a2 :: some (.int (nI (i + j))) :: t) st h Q) : wq d tab sc pc (a0 :: a1 :: a2 :: some (.int (nI i)) :: t) st h Q := wp_iinc3 hc hz (by rw [nI_add]; exact kk)
theorem wp_iinc3M {i : Nat} {w1 : Int} {a0 a1 a2 : Option Value} {t : Lc_} (hc : pm_lk tab pc = some (.iinc 3 w1, n, a, b, c, e, -1, w)) (hz : nl_ a2 = true := by rfl) (kk : wq d tab sc n (a0 :: a1 :: a2 :: some (.int (nI i)) :: t) st h Q) : wq d tab sc pc (a0 :: a1 :: a2 :: some (.int (nI (i + 1))) :: t) st h Q := wp_iinc3 hc hz (by rw [pk_m1]; exact kk)
theorem wp_iinc4N {i j : Nat} {w1 : Int} {a0 a1 a2 a3 : Option Value} {t : Lc_} (hc : pm_lk tab pc = some (.iinc 4 w1, n, a, b, c, e, nI j, w)) (hz : nl_ a3 = true := by rfl) (kk : wq d tab sc n (a0 :: a1 :: a2 :: a3 :: some (.int (nI (i + j))) :: t) st h Q) : wq d tab sc pc (a0 :: a1 :: a2 :: a3 :: some (.int (nI i)) :: t) st h Q := wp_iinc4 hc hz (by rw [nI_add]; exact kk)
theorem wp_iinc4M {i : Nat} {w1 : Int} {a0 a1 a2 a3 : Option Value} {t : Lc_} (hc : pm_lk tab pc = some (.iinc 4 w1, n, a, b, c, e, -1, w)) (hz : nl_ a3 = true := by rfl) (kk : wq d tab sc n (a0 :: a1 :: a2 :: a3 :: some (.int (nI i)) :: t) st h Q) : wq d tab sc pc (a0 :: a1 :: a2 :: a3 :: some (.int (nI (i + 1))) :: t) st h Q := wp_iinc4 hc hz (by rw [pk_m1]; exact kk)
theorem wp_iinc5N {i j : Nat} {w1 : Int} {a0 a1 a2 a3 a4 : Option Value} {t : Lc_} (hc : pm_lk tab pc = some (.iinc 5 w1, n, a, b, c, e, nI j, w)) (hz : nl_ a4 = true := by rfl) (kk : wq d tab sc n (a0 :: a1 :: a2 :: a3 :: a4 :: some (.int (nI (i + j))) :: t) st h Q) : wq d tab sc pc (a0 :: a1 :: a2 :: a3 :: a4 :: some (.int (nI i)) :: t) st h Q := wp_iinc5 hc hz (by rw [nI_add]; exact kk)
theorem wp_iinc5M {i : Nat} {w1 : Int} {a0 a1 a2 a3 a4 : Option Value} {t : Lc_} (hc : pm_lk tab pc = some (.iinc 5 w1, n, a, b, c, e, -1, w)) (hz : nl_ a4 = true := by rfl) (kk : wq d tab sc n (a0 :: a1 :: a2 :: a3 :: a4 :: some (.int (nI i)) :: t) st h Q) : wq d tab sc pc (a0 :: a1 :: a2 :: a3 :: a4 :: some (.int (nI (i + 1))) :: t) st h Q := wp_iinc5 hc hz (by rw [pk_m1]; exact kk)
theorem wp_iinc6N {i j : Nat} {w1 : Int} {a0 a1 a2 a3 a4 a5 : Option Value} {t : Lc_} (hc : pm_lk tab pc = some (.iinc 6 w1, n, a, b, c, e, nI j, w)) (hz : nl_ a5 = true := by rfl) (kk : wq d tab sc n (a0 :: a1 :: a2 :: a3 :: a4 :: a5 :: some (.int (nI (i + j))) :: t) st h Q) : wq d tab sc pc (a0 :: a1 :: a2 :: a3 :: a4 :: a5 :: some (.int (nI i)) :: t) st h Q := wp_iinc6 hc hz (by rw [nI_add]; exact kk)
theorem wp_iinc6M {i : Nat} {w1 : Int} {a0 a1 a2 a3 a4 a5 : Option Value} {t : Lc_} (hc : pm_lk tab pc = some (.iinc 6 w1, n, a, b, c, e, -1, w)) (hz : nl_ a5 = true := by rfl) (kk : wq d tab sc n (a0 :: a1 :: a2 :: a3 :: a4 :: a5 :: some (.int (nI i)) :: t) st h Q) : wq d tab sc pc (a0 :: a1 :: a2 :: a3 :: a4 :: a5 :: some (.int (nI (i + 1))) :: t) st h Q := wp_iinc6 hc hz (by rw [pk_m1]; exact kk)
theorem wp_iinc7N {i j : Nat} {w1 : Int} {a0 a1 a2 a3 a4 a5 a6 : Option Value} {t : Lc_} (hc : pm_lk tab pc = some (.iinc 7 w1, n, a, b, c, e, nI j, w)) (hz : nl_ a6 = true := by rfl) (kk : wq d tab sc n (a0 :: a1 :: a2 :: a3 :: a4 :: a5 :: a6 :: some (.int (nI (i + j))) :: t) st h Q) : wq d tab sc pc (a0 :: a1 :: a2 :: a3 :: a4 :: a5 :: a6 :: some (.int (nI i)) :: t) st h Q := wp_iinc7 hc hz (by rw [nI_add]; exact kk)
theorem wp_iinc7M {i : Nat} {w1 : Int} {a0 a1 a2 a3 a4 a5 a6 : Option Value} {t : Lc_} (hc : pm_lk tab pc = some (.iinc 7 w1, n, a, b, c, e, -1, w)) (hz : nl_ a6 = true := by rfl) (kk : wq d tab sc n (a0 :: a1 :: a2 :: a3 :: a4 :: a5 :: a6 :: some (.int (nI i)) :: t) st h Q) : wq d tab sc pc (a0 :: a1 :: a2 :: a3 :: a4 :: a5 :: a6 :: some (.int (nI (i + 1))) :: t) st h Q := wp_iinc7 hc hz (by rw [pk_m1]; exact kk)
theorem wp_iinc8N {i j : Nat} {w1 : Int} {a0 a1 a2 a3 a4 a5 a6 a7 : Option Value} {t : Lc_} (hc : pm_lk tab pc = some (.iinc 8 w1, n, a, b, c, e, nI j, w)) (hz : nl_ a7 = true := by rfl) (kk : wq d tab sc n (a0 :: a1 :: a2 :: a3 :: a4 :: a5 :: a6 :: a7 :: some (.int (nI (i + j))) :: t) st h Q) : wq d tab sc pc (a0 :: a1 :: a2 :: a3 :: a4 :: a5 :: a6 :: a7 :: some (.int (nI i)) :: t) st h Q := wp_iinc8 hc hz (by rw [nI_add]; exact kk)
theorem wp_iinc8M {i : Nat} {w1 : Int} {a0 a1 a2 a3 a4 a5 a6 a7 : Option Value} {t : Lc_} (hc : pm_lk tab pc = some (.iinc 8 w1, n, a, b, c, e, -1, w)) (hz : nl_ a7 = true := by rfl) (kk : wq d tab sc n (a0 :: a1 :: a2 :: a3 :: a4 :: a5 :: a6 :: a7 :: some (.int (nI i)) :: t) st h Q) : wq d tab sc pc (a0 :: a1 :: a2 :: a3 :: a4 :: a5 :: a6 :: a7 :: some (.int (nI (i + 1))) :: t) st h Q := wp_iinc8 hc hz (by rw [pk_m1]; exact kk)
theorem wp_iinc9N {i j : Nat} {w1 : Int} {a0 a1 a2 a3 a4 a5 a6 a7 a8 : Option Value} {t : Lc_} (hc : pm_lk tab pc = some (.iinc 9 w1, n, a, b, c, e, nI j, w)) (hz : nl_ a8 = true := by rfl) (kk : wq d tab sc n (a0 :: a1 :: a2 :: a3 :: a4 :: a5 :: a6 :: a7 :: a8 :: some (.int (nI (i + j))) :: t) st h Q) : wq d tab sc pc (a0 :: a1 :: a2 :: a3 :: a4 :: a5 :: a6 :: a7 :: a8 :: some (.int (nI i)) :: t) st h Q := wp_iinc9 hc hz (by rw [nI_add]; exact kk)
theorem wp_iinc9M {i : Nat} {w1 : Int} {a0 a1 a2 a3 a4 a5 a6 a7 a8 : Option Value} {t : Lc_} (hc : pm_lk tab pc = some (.iinc 9 w1, n, a, b, c, e, -1, w)) (hz : nl_ a8 = true := by rfl) (kk : wq d tab sc n (a0 :: a1 :: a2 :: a3 :: a4 :: a5 :: a6 :: a7 :: a8 :: some (.int (nI i)) :: t) st h Q) : wq d tab sc pc (a0 :: a1 :: a2 :: a3 :: a4 :: a5 :: a6 :: a7 :: a8 :: some (.int (nI (i + 1))) :: t) st h Q := wp_iinc9 hc hz (by rw [pk_m1]; exact kk)
theorem wp_iinc10N {i j : Nat} {w1 : Int} {a0 a1 a2 a3 a4 a5 a6 a7 a8 a9 : Option Value} {t : Lc_} (hc : pm_lk tab pc = some (.iinc 10 w1, n, a, b, c, e, nI j, w)) (hz : nl_ a9 = true := by rfl) (kk : wq d tab sc n (a0 :: a1 :: a2 :: a3 :: a4 :: a5 :: a6 :: a7 :: a8 :: a9 :: some (.int (nI (i + j))) :: t) st h Q) : wq d tab sc pc (a0 :: a1 :: a2 :: a3 :: a4 :: a5 :: a6 :: a7 :: a8 :: a9 :: some (.int (nI i)) :: t) st h Q := wp_iinc10 hc hz (by rw [nI_add]; exact kk)
theorem wp_iinc10M {i : Nat} {w1 : Int} {a0 a1 a2 a3 a4 a5 a6 a7 a8 a9 : Option Value} {t : Lc_} (hc : pm_lk tab pc = some (.iinc 10 w1, n, a, b, c, e, -1, w)) (hz : nl_ a9 = true := by rfl) (kk : wq d tab sc n (a0 :: a1 :: a2 :: a3 :: a4 :: a5 :: a6 :: a7 :: a8 :: a9 :: some (.int (nI i)) :: t) st h Q) : wq d tab sc pc (a0 :: a1 :: a2 :: a3 :: a4 :: a5 :: a6 :: a7 :: a8 :: a9 :: some (.int (nI (i + 1))) :: t) st h Q := wp_iinc10 hc hz (by rw [pk_m1]; exact kk)
theorem wp_iinc11N {i j : Nat} {w1 : Int} {a0 a1 a2 a3 a4 a5 a6 a7 a8 a9 a10 : Option Value} {t : Lc_} (hc : pm_lk tab pc = some (.iinc 11 w1, n, a, b, c, e, nI j, w)) (hz : nl_ a10 = true := by rfl) (kk : wq d tab sc n (a0 :: a1 :: a2 :: a3 :: a4 :: a5 :: a6 :: a7 :: a8 :: a9 :: a10 :: some (.int (nI (i + j))) :: t) st h Q) : wq d tab sc pc (a0 :: a1 :: a2 :: a3 :: a4 :: a5 :: a6 :: a7 :: a8 :: a9 :: a10 :: some (.int (nI i)) :: t) st h Q := wp_iinc11 hc hz (by rw [nI_add]; exact kk)
theorem wp_iinc11M {i : Nat} {w1 : Int} {a0 a1 a2 a3 a4 a5 a6 a7 a8 a9 a10 : Option Value} {t : Lc_} (hc : pm_lk tab pc = some (.iinc 11 w1, n, a, b, c, e, -1, w)) (hz : nl_ a10 = true := by rfl) (kk : wq d tab sc n (a0 :: a1 :: a2 :: a3 :: a4 :: a5 :: a6 :: a7 :: a8 :: a9 :: a10 :: some (.int (nI i)) :: t) st h Q) : wq d tab sc pc (a0 :: a1 :: a2 :: a3 :: a4 :: a5 :: a6 :: a7 :: a8 :: a9 :: a10 :: some (.int (nI (i + 1))) :: t) st h Q := wp_iinc11 hc hz (by rw [pk_m1]; exact kk)
theorem wp_iinc12N {i j : Nat} {w1 : Int} {a0 a1 a2 a3 a4 a5 a6 a7 a8 a9 a10 a11 : Option Value} {t : Lc_} (hc : pm_lk tab pc = some (.iinc 12 w1, n, a, b, c, e, nI j, w)) (hz : nl_ a11 = true := by rfl) (kk : wq d tab sc n (a0 :: a1 :: a2 :: a3 :: a4 :: a5 :: a6 :: a7 :: a8 :: a9 :: a10 :: a11 :: some (.int (nI (i + j))) :: t) st h Q) : wq d tab sc pc (a0 :: a1 :: a2 :: a3 :: a4 :: a5 :: a6 :: a7 :: a8 :: a9 :: a10 :: a11 :: some (.int (nI i)) :: t) st h Q := wp_iinc12 hc hz (by rw [nI_add]; exact kk)
theorem wp_iinc12M {i : Nat} {w1 : Int} {a0 a1 a2 a3 a4 a5 a6 a7 a8 a9 a10 a11 : Option Value} {t : Lc_} (hc : pm_lk tab pc = some (.iinc 12 w1, n, a, b, c, e, -1, w)) (hz : nl_ a11 = true := by rfl) (kk : wq d tab sc n (a0 :: a1 :: a2 :: a3 :: a4 :: a5 :: a6 :: a7 :: a8 :: a9 :: a10 :: a11 :: some (.int (nI i)) :: t) st h Q) : wq d tab sc pc (a0 :: a1 :: a2 :: a3 :: a4 :: a5 :: a6 :: a7 :: a8 :: a9 :: a10 :: a11 :: some (.int (nI (i + 1))) :: t) st h Q := wp_iinc12 hc hz (by rw [pk_m1]; exact kk)
theorem wp_if_neB {b0 : Bool} {k1 : Int} (hc : pm_lk tab pc = some (.ifCond .ne k1, n, a, b, c, e, v, w)) (kt : b0 = true → wq d tab sc a L st h Q) (kf : b0 = false → wq d tab sc n L st h Q) : wq d tab sc pc L (.int (bo_ b0) :: st) h Q := by
  cases b0 with
  | true => exact wp_if_neN 1 0 (by decide) (by decide) hc (fun _ => kt rfl) (fun q => absurd q (by decide))
  | false => exact wp_if_neN 0 0 (by decide) (by decide) hc (fun q => absurd rfl q) (fun _ => kf rfl)
theorem wp_if_eqB {b0 : Bool} {k1 : Int} (hc : pm_lk tab pc = some (.ifCond .eq k1, n, a, b, c, e, v, w)) (kt : b0 = false → wq d tab sc a L st h Q) (kf : b0 = true → wq d tab sc n L st h Q) : wq d tab sc pc L (.int (bo_ b0) :: st) h Q := by
  cases b0 with
  | true => exact wp_if_eqN 1 0 (by decide) (by decide) hc (fun q => absurd q (by decide)) (fun _ => kf rfl)
  | false => exact wp_if_eqN 0 0 (by decide) (by decide) hc (fun _ => kt rfl) (fun q => absurd rfl q)
end NXW
/-- a packed number put into a free place -/
theorem pq_or_at {u : Nat → Nat} {n q v : Nat} (hu : ∀ i, i < n → u i < 8) (hq : q < n) (h0 : u q = 0) (hv : v < 8) : pq_ u n ||| v * 8 ^ q = pq_ (va_up u q v) n := by
  have hg : ∀ i, i < n → va_up u q v i < 8 := by
    intro i hi
    unfold va_up
    split
    · exact hv
    · exact hu i hi
  refine Nat.eq_of_testBit_eq fun j => ?_
  rw [Nat.testBit_or, pq_testBit hu, pq_testBit hg, p8, Nat.testBit_mul_two_pow]
  by_cases z : j / 3 = q
  · rw [z, sd_up_eq, h0, decide_eq_true (show j < 3 * n by omega), decide_eq_true (show 3 * q ≤ j by omega), show j - 3 * q = j % 3 by omega]
    simp
  · rw [sd_up_ne z]
    rcases Nat.lt_or_ge j (3 * q) with z2 | z2
    · rw [decide_eq_false (show ¬ 3 * q ≤ j by omega)]
      simp
    · have : v.testBit (j - 3 * q) = false := Nat.testBit_lt_two_pow (Nat.lt_of_lt_of_le hv (show 2 ^ 3 ≤ 2 ^ (j - 3 * q) from Nat.pow_le_pow_right (by omega) (by omega)))
      rw [this]
      simp
