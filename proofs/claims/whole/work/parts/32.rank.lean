-- ===== bits counted; ranks =====
/-- the bits of u below p -/
def bc_ (u : Nat) : Nat → Nat
  | 0 => 0
  | p + 1 => bc_ u p + (if u.testBit p then 1 else 0)
theorem bc_le (u : Nat) : ∀ p, bc_ u p ≤ p := by
  intro p
  induction p with
  | zero => exact Nat.le_refl _
  | succ p ih =>
    show bc_ u p + (if u.testBit p then 1 else 0) ≤ p + 1
    split <;> omega
theorem bc_mod (u p : Nat) : ∀ k, bc_ (u % 2 ^ p) k = bc_ u (min k p) := by
  intro k
  induction k with
  | zero => rw [Nat.zero_min]; rfl
  | succ k ih =>
    show bc_ (u % 2 ^ p) k + (if (u % 2 ^ p).testBit k then 1 else 0) = _
    rw [ih, Nat.testBit_mod_two_pow]
    by_cases q : k < p
    · rw [decide_eq_true q, Bool.true_and, Nat.min_eq_left (by omega : k ≤ p), Nat.min_eq_left (by omega : k + 1 ≤ p)]
      rfl
    · rw [decide_eq_false q, Bool.false_and, Nat.min_eq_right (by omega : p ≤ k), Nat.min_eq_right (by omega : p ≤ k + 1)]
      rfl
def jc_ (x k : Int32) : Int32 := (x.toUInt32 >>> (k.toUInt32 &&& Int32.toUInt32 31)).toInt32
def jb_ (x : Int32) : Int32 :=
  let a := x - (jc_ x 1 &&& 1431655765)
  let b := (a &&& 858993459) + (jc_ a 2 &&& 858993459)
  let c := (b + jc_ b 4) &&& 252645135
  let e := c + jc_ c 8
  (e + jc_ e 16) &&& 63
theorem Integer_bitCount_ok {h : Hp_} {x : Int32} : cI 1 mn_Integer_bitCount [.int x] h (fun y h' => y = jb_ x ∧ h' = h) := by
  refine cq_in (q := mi_Integer_bitCount) (L := [some (.int x)]) rfl (Nat.le_of_ble_eq_true rfl) rfl ?_
  show wq _ tb_Integer_bitCount none 0 _ _ _ _
  refine wp_iload0 rfl ?_
  refine wp_iload0 rfl ?_
  refine wp_iconst rfl ?_
  refine wp_iushr rfl ?_
  refine wp_ldc_w rfl ?_
  refine wp_iand rfl ?_
  refine wp_isub rfl ?_
  refine wp_istore0 rfl ?_
  refine wp_iload0 rfl ?_
  refine wp_ldc_w rfl ?_
  refine wp_iand rfl ?_
  refine wp_iload0 rfl ?_
  refine wp_iconst rfl ?_
  refine wp_iushr rfl ?_
  refine wp_ldc_w rfl ?_
  refine wp_iand rfl ?_
  refine wp_iadd rfl ?_
  refine wp_istore0 rfl ?_
  refine wp_iload0 rfl ?_
  refine wp_iload0 rfl ?_
  refine wp_iconst rfl ?_
  refine wp_iushr rfl ?_
  refine wp_iadd rfl ?_
  refine wp_ldc_w rfl ?_
  refine wp_iand rfl ?_
  refine wp_istore0 rfl ?_
  refine wp_iload0 rfl ?_
  refine wp_iload0 rfl ?_
  refine wp_bipush rfl ?_
  refine wp_iushr rfl ?_
  refine wp_iadd rfl ?_
  refine wp_istore0 rfl ?_
  refine wp_iload0 rfl ?_
  refine wp_iload0 rfl ?_
  refine wp_bipush rfl ?_
  refine wp_iushr rfl ?_
  refine wp_iadd rfl ?_
  refine wp_istore0 rfl ?_
  refine wp_iload0 rfl ?_
  refine wp_bipush rfl ?_
  refine wp_iand rfl ?_
  exact wp_iret rfl ⟨_, rfl, rfl, rfl⟩
theorem jb_low : ∀ u : Fin 256, jb_ (nI u.1) = nI (bc_ u.1 8) := by decide +kernel
/-- u's free places below p -/
def ub_ (u p : Nat) : Nat := p - bc_ u p
theorem ub_succ (u p : Nat) : ub_ u (p + 1) = ub_ u p + (if u.testBit p then 0 else 1) := by
  have := bc_le u p
  unfold ub_
  show p + 1 - (bc_ u p + (if u.testBit p then 1 else 0)) = _
  split <;> omega
theorem ub_mono (u : Nat) : ∀ d p, ub_ u p ≤ ub_ u (p + d) := by
  intro d p
  induction d with
  | zero => exact Nat.le_refl _
  | succ d ih =>
    rw [← Nat.add_assoc, ub_succ]
    omega
theorem ub_lt {u p q : Nat} (hp : u.testBit p = false) (hq : p < q) : ub_ u p < ub_ u q := by
  have h1 := ub_succ u p
  rw [hp] at h1
  have h2 := ub_mono u (q - (p + 1)) (p + 1)
  rw [show p + 1 + (q - (p + 1)) = q by omega] at h2
  have h3 : (if false = true then 0 else 1 : Nat) = 1 := rfl
  omega
theorem ub_inj {u p q : Nat} (hp : u.testBit p = false) (hq : u.testBit q = false) (e : ub_ u p = ub_ u q) : p = q := by
  rcases Nat.lt_trichotomy p q with z | z | z
  · have := ub_lt hp z; omega
  · exact z
  · have := ub_lt hq z; omega
theorem bc_or {u q : Nat} (hq : u.testBit q = false) : ∀ p, bc_ (u ||| 2 ^ q) p = bc_ u p + (if q < p then 1 else 0) := by
  intro p
  induction p with
  | zero => rfl
  | succ p ih =>
    show bc_ (u ||| 2 ^ q) p + (if (u ||| 2 ^ q).testBit p then 1 else 0) = bc_ u p + (if u.testBit p then 1 else 0) + _
    rw [ih, Nat.testBit_or, Nat.testBit_two_pow]
    by_cases e : q = p
    · rw [← e, hq, decide_eq_true rfl, if_neg (Nat.lt_irrefl _), if_pos (Nat.lt_succ_self _)]
      rfl
    · rw [decide_eq_false e, Bool.or_false]
      by_cases z : q < p
      · rw [if_pos z, if_pos (show q < p + 1 by omega)]; omega
      · rw [if_neg z, if_neg (show ¬ q < p + 1 by omega)]; omega
/-- the places of the first i goods of a lying -/
def us_ (w : Nat → Nat) : Nat → Nat
  | 0 => 0
  | i + 1 => us_ w i ||| 2 ^ w i
theorem us_bit (w : Nat → Nat) (p : Nat) : ∀ i, (us_ w i).testBit p = true ↔ ∃ j, j < i ∧ w j = p := by
  intro i
  induction i with
  | zero => rw [us_, Nat.zero_testBit]; exact ⟨fun z => (by cases z), fun ⟨j, hj, _⟩ => absurd hj (Nat.not_lt_zero _)⟩
  | succ i ih =>
    rw [us_, Nat.testBit_or, Bool.or_eq_true, ih, Nat.testBit_two_pow]
    constructor
    · rintro (⟨j, hj, e⟩ | e)
      · exact ⟨j, by omega, e⟩
      · exact ⟨i, Nat.lt_succ_self _, of_decide_eq_true e⟩
    · rintro ⟨j, hj, e⟩
      rcases Nat.lt_or_ge j i with z | z
      · exact Or.inl ⟨j, z, e⟩
      · obtain rfl : j = i := by omega
        exact Or.inr (decide_eq_true e)
/-- k goods on different places of n -/
def Ly_ (n k : Nat) (w : Nat → Nat) : Prop := (∀ i, i < k → w i < n) ∧ ∀ i j, i < k → j < k → w i = w j → i = j
theorem us_free {n k : Nat} {w : Nat → Nat} (W : Ly_ n k w) {i : Nat} (hi : i < k) : (us_ w i).testBit (w i) = false := by
  cases z : (us_ w i).testBit (w i) with
  | false => rfl
  | true =>
    obtain ⟨j, hj, e⟩ := (us_bit w (w i) i).mp z
    have := W.2 j i (by omega) hi e
    omega
theorem us_count {n k : Nat} {w : Nat → Nat} (W : Ly_ n k w) : ∀ i, i ≤ k → bc_ (us_ w i) n = i := by
  intro i
  induction i with
  | zero =>
    intro _
    have : ∀ p, bc_ 0 p = 0 := by
      intro p
      induction p with
      | zero => rfl
      | succ p ih =>
        show bc_ 0 p + (if (0 : Nat).testBit p then 1 else 0) = 0
        rw [ih, Nat.zero_testBit]
        rfl
    exact this n
  | succ i ih =>
    intro hi
    rw [us_, bc_or (us_free W (by omega)), ih (by omega), if_pos (W.1 i (by omega))]
theorem us_lt {n k : Nat} {w : Nat → Nat} (W : Ly_ n k w) : ∀ i, i ≤ k → us_ w i < 2 ^ n := by
  intro i
  induction i with
  | zero => intro _; exact Nat.two_pow_pos n
  | succ i ih =>
    intro hi
    exact Nat.or_lt_two_pow (ih (by omega)) (Nat.pow_lt_pow_right (by decide) (W.1 i (by omega)))
/-- a good's digit in the rank -/
def dg_ (w : Nat → Nat) (i : Nat) : Nat := ub_ (us_ w i) (w i)
theorem dg_lt {n k : Nat} {w : Nat → Nat} (W : Ly_ n k w) {i : Nat} (hi : i < k) : dg_ w i < n - i := by
  have h1 := ub_lt (us_free W hi) (W.1 i hi)
  have h2 : ub_ (us_ w i) n = n - i := by unfold ub_; rw [us_count W i (by omega)]
  unfold dg_
  omega
/-- the rank of the first i goods' places; how many there are -/
def rk_ (n : Nat) (w : Nat → Nat) : Nat → Nat
  | 0 => 0
  | i + 1 => rk_ n w i * (n - i) + dg_ w i
def ce_ (n : Nat) : Nat → Nat
  | 0 => 1
  | i + 1 => ce_ n i * (n - i)
theorem rk_lt {n k : Nat} {w : Nat → Nat} (W : Ly_ n k w) : ∀ i, i ≤ k → rk_ n w i < ce_ n i := by
  intro i
  induction i with
  | zero => intro _; exact Nat.one_pos
  | succ i ih =>
    intro hi
    have h1 := ih (by omega)
    have h2 := dg_lt W (show i < k by omega)
    show rk_ n w i * (n - i) + dg_ w i < ce_ n i * (n - i)
    calc rk_ n w i * (n - i) + dg_ w i < rk_ n w i * (n - i) + (n - i) := by omega
      _ = (rk_ n w i + 1) * (n - i) := by rw [Nat.add_mul, Nat.one_mul]
      _ ≤ ce_ n i * (n - i) := Nat.mul_le_mul_right _ h1
theorem us_cong {w v : Nat → Nat} : ∀ i, (∀ j, j < i → w j = v j) → us_ w i = us_ v i := by
  intro i
  induction i with
  | zero => intro _; rfl
  | succ i ih => intro h; rw [us_, us_, ih (fun j hj => h j (by omega)), h i (by omega)]
theorem rk_inj {n k : Nat} {w v : Nat → Nat} (W : Ly_ n k w) (V : Ly_ n k v) : ∀ i, i ≤ k → rk_ n w i = rk_ n v i → ∀ j, j < i → w j = v j := by
  intro i
  induction i with
  | zero => intro _ _ j hj; exact absurd hj (Nat.not_lt_zero _)
  | succ i ih =>
    intro hi e
    have e' : rk_ n w i * (n - i) + dg_ w i = rk_ n v i * (n - i) + dg_ v i := e
    have h1 := dg_lt W (show i < k by omega)
    have h2 := dg_lt V (show i < k by omega)
    have hd : dg_ w i = dg_ v i := by
      have := congrArg (· % (n - i)) e'
      simp only [Nat.mul_add_mod_self_right, Nat.mod_eq_of_lt h1, Nat.mod_eq_of_lt h2] at this
      exact this
    have hr : rk_ n w i = rk_ n v i := by
      rw [hd] at e'
      exact Nat.eq_of_mul_eq_mul_right (show 0 < n - i by omega) (Nat.add_right_cancel e')
    have hb := ih (by omega) hr
    intro j hj
    rcases Nat.lt_or_ge j i with z | z
    · exact hb j z
    · obtain rfl : j = i := by omega
      have hu := us_cong j hb
      unfold dg_ at hd
      rw [← hu] at hd
      exact ub_inj (us_free W (by omega)) (by rw [hu]; exact us_free V (by omega)) hd
theorem ce_le {n : Nat} (hn : n ≤ 8) : ∀ i, ce_ n i ≤ 40320 := by
  have key : ∀ n : Fin 9, ∀ i : Fin 9, ce_ n.1 i.1 ≤ 40320 := by decide +kernel
  have z : ∀ i, 9 ≤ i → ce_ n i = 0 := by
    intro i hi
    obtain ⟨d, rfl⟩ : ∃ d, i = 9 + d := ⟨i - 9, by omega⟩
    induction d with
    | zero =>
      show ce_ n 8 * (n - 8) = 0
      rw [show n - 8 = 0 by omega, Nat.mul_zero]
    | succ d ih =>
      show ce_ n (9 + d) * (n - (9 + d)) = 0
      rw [ih (by omega), Nat.zero_mul]
  intro i
  rcases Nat.lt_or_ge i 9 with q | q
  · exact key ⟨n, by omega⟩ ⟨i, q⟩
  · rw [z i q]; exact Nat.zero_le _
