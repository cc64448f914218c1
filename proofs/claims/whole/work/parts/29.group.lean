-- ===== Group =====
def S_Group (h : Hp_) (o : Nat) : Prop := hp_kd h o = 14 ∧ (hp_R h o 0 = o + 1 ∧ hp_R h o 1 = o + 2) ∧ (hp_kd h (o + 1) = 1 ∧ hp_ln h (o + 1) = 64) ∧ hp_kd h (o + 2) = 1 ∧ hp_ln h (o + 2) = 28
theorem Group_kd {h : Hp_} {o : Nat} (S : S_Group h o) : hp_kd h o = 14 := S.1
theorem Group_R0 {h : Hp_} {o : Nat} (S : S_Group h o) : hp_R h o 0 = o + 1 := S.2.1.1
theorem Group_R1 {h : Hp_} {o : Nat} (S : S_Group h o) : hp_R h o 1 = o + 2 := S.2.1.2
theorem Group_k0 {h : Hp_} {o : Nat} (S : S_Group h o) : hp_kd h (o + 1) = 1 := S.2.2.1.1
theorem Group_n0 {h : Hp_} {o : Nat} (S : S_Group h o) : hp_ln h (o + 1) = 64 := S.2.2.1.2
theorem Group_k1 {h : Hp_} {o : Nat} (S : S_Group h o) : hp_kd h (o + 2) = 1 := S.2.2.2.1
theorem Group_n1 {h : Hp_} {o : Nat} (S : S_Group h o) : hp_ln h (o + 2) = 28 := S.2.2.2.2
theorem S_Group_fr {P : Nat → Prop} {h h' : Hp_} {o : Nat} (hf : fr_ P h h') (S : S_Group h o) : S_Group h' o := by
  obtain ⟨g, rfl, hg⟩ := hf
  exact S
/-- a table's entry as an int -/
def te_ (t : Option (Nat → Nat)) : Int32 := match t with
  | none => -1
  | some u => nI (pq_ u 8)
theorem te_some {u : Nat → Nat} (hu : IsP 8 u) : nI (pq_ u 8) ≠ -1 := by
  intro z
  have := congrArg Int32.toInt z
  have h2 := pq_lt24 hu.1
  rw [nI_toInt (by omega)] at this
  have e1 : (-1 : Int32).toInt = -1 := by decide
  omega
def GT_ (h : Hp_) (o : Nat) (T : Tb_) : Prop := ∀ p q, p < 8 → q < 8 → hp_I h (o + 1) (8 * p + q) = te_ (T p q)
theorem Group_sift_ok {h : Hp_} {o : Nat} {T : Tb_} {u : Nat → Nat} (S : S_Group h o) (hT : Tok_ T) (hG : GT_ h o T) (hu : IsP 8 u) : cI 4 mn_Group_sift [.ref o, .int (nI (pq_ u 8))] h (fun x h' => x = nI (pq_ (sf_ T 8 u) 8) ∧ h' = h) := by
  refine cq_in (q := mi_Group_sift) (L := [some (.ref o), some (.int (nI (pq_ u 8))), none, none, none, none]) rfl (Nat.le_of_ble_eq_true rfl) rfl ?_
  show wq _ tb_Group_sift none 0 _ _ _ _
  have loop : ∀ k v (a4 a5 : Option Value), nl_ a4 = true → k ≤ 8 → IsP 8 v → wq 3 tb_Group_sift none 4 [some (.ref o), some (.int (nI (pq_ u 8))), some (.int (nI (pq_ v 8))), some (.int (nI (8 - k))), a4, a5] [] h (fun r h' => ∃ x, r = some (.int x) ∧ x = nI (pq_ (sf_ T k v) 8) ∧ h' = h) := by
    intro k
    induction k with
    | zero =>
      intro v a4 a5 hn hk hv
      refine wp_iload3 rfl ?_
      refine wp_bipush rfl ?_
      refine wp_icmp_geN (8 - 0) (8) (by omega) (by omega) rfl (fun c1 => ?_) (fun c1 => ?_)
      · skip
        refine wp_iload2 rfl ?_
        exact wp_iret rfl ⟨_, rfl, rfl, rfl⟩
      · exact absurd c1 (by omega)
    | succ k ih =>
      intro v a4 a5 hn hk hv
      have e7 : 8 - (k + 1) = 7 - k := by omega
      have e8 : 7 - k + 1 = 8 - k := by omega
      have hq := hv.1 (7 - k) (by omega)
      rw [e7]
      refine wp_iload3 rfl ?_
      refine wp_bipush rfl ?_
      refine wp_icmp_geN (7 - k) (8) (by omega) (by omega) rfl (fun c1 => ?_) (fun c1 => ?_)
      · exact absurd c1 (by omega)
      · skip
        refine wp_iload2 rfl ?_
        refine wp_iload3 rfl ?_
        refine wp_callS2I rfl (Nat.le_of_ble_eq_true rfl) (Maps_toP_ok hv.1 (show 7 - k < 8 by omega)) (Nat.le_of_ble_eq_true rfl) ?_
        rintro _ _ ⟨rfl, rfl⟩
        refine wp_istore4 rfl rfl ?_
        refine wp_iload4 rfl ?_
        refine wp_iload3 rfl ?_
        refine wp_icmp_eqN (v (7 - k)) (7 - k) (by omega) (by omega) rfl (fun c2 => ?_) (fun c2 => ?_)
        · skip
          refine wp_iinc3N rfl rfl ?_
          refine wp_goto rfl ?_
          have := ih v (some (.int (nI (v (7 - k))))) a5 rfl (by omega) hv
          rw [sf_, if_pos c2, e8]
          exact this
        · skip
          refine wp_aload0 rfl ?_
          refine wp_getR rfl (Group_kd S) (Group_R0 S) (by first | decide | omega) ?_
          refine wp_bipush rfl ?_
          refine wp_iload3 rfl ?_
          refine wp_imulE (nI (8 * (7 - k))) (pk_mul 8 _) rfl ?_
          refine wp_iload4 rfl ?_
          refine wp_iaddE (nI (8 * (7 - k) + v (7 - k))) (nI_add _ _) rfl ?_
          refine wp_callS2I rfl (Nat.le_of_ble_eq_true rfl) (Cells_at_ok (Group_k0 S) (by omega) (by rw [Group_n0 S]; decide)) (Nat.le_of_ble_eq_true rfl) ?_
          rintro _ _ ⟨rfl, rfl⟩
          rw [Group_n0 S, ca_in (show 8 * (7 - k) + v (7 - k) < 64 by omega) (by omega), hG _ _ (by omega) hq]
          refine wp_istore5 rfl rfl ?_
          refine wp_iload5 rfl ?_
          refine wp_iconst rfl ?_
          cases hTv : T (7 - k) (v (7 - k)) with
          | none =>
            refine wp_icmp_ne rfl (fun c3 => ?_) (fun c3 => ?_)
            · exact absurd rfl c3
            · skip
              refine wp_iload2 rfl ?_
              exact wp_iret rfl ⟨_, rfl, by rw [sf_, if_neg c2, hTv], rfl⟩
          | some w =>
            obtain ⟨-, wP, wF, wv⟩ := hT _ _ _ hTv
            refine wp_icmp_ne rfl (fun c3 => ?_) (fun c3 => ?_)
            · skip
              refine wp_iload2 rfl ?_
              refine wp_iload5 rfl ?_
              refine wp_callS1I rfl (Nat.le_of_ble_eq_true rfl) (Maps_undone_ok wP.1 (in_P wP).1 (fun i _ => in_left wP i) (fun i _ => in_right wP i)) (Nat.le_of_ble_eq_true rfl) ?_
              rintro _ _ ⟨rfl, rfl⟩
              refine wp_callS2I rfl (Nat.le_of_ble_eq_true rfl) (Maps_then_ok hv.1 (in_P wP).1) (Nat.le_of_ble_eq_true rfl) ?_
              rintro _ _ ⟨rfl, rfl⟩
              refine wp_istore2 rfl rfl ?_
              refine wp_iinc3N rfl rfl ?_
              refine wp_goto rfl ?_
              have := ih (fun i => in_ w (v i)) (some (.int (nI (v (7 - k))))) (some (.int (te_ (some w)))) rfl (by omega) (hv.then (in_P wP))
              rw [sf_, if_neg c2, hTv, e8]
              exact this
            · exact absurd (te_some wP) c3
  refine wp_iload1 rfl ?_
  refine wp_istore2 rfl rfl ?_
  refine wp_iconst rfl ?_
  refine wp_istore3 rfl rfl ?_
  exact loop 8 u none none rfl (Nat.le_refl _) hu
/-- how many places of the table are taken -/
def fc_ (T : Tb_) : Nat → Nat
  | 0 => 0
  | n + 1 => fc_ T n + if (T (n / 8) (n % 8)).isSome then 1 else 0
def fu_ : Nat → Nat
  | 0 => 0
  | n + 1 => fu_ n + if n / 8 < n % 8 then 1 else 0
theorem fc_le {T : Tb_} (hT : Tok_ T) : ∀ n, fc_ T n ≤ fu_ n
  | 0 => Nat.le_refl _
  | n + 1 => by
    have := fc_le hT n
    unfold fc_ fu_
    cases h : T (n / 8) (n % 8) with
    | none => simp; omega
    | some t =>
      have := (hT _ _ _ h).1.1
      rw [if_pos this]
      simp
      omega
theorem fc_lt {T : Tb_} (hT : Tok_ T) {p q : Nat} (hpq : p < q) (hq : q < 8) (hn : T p q = none) : ∀ n, 8 * p + q < n → fc_ T n < fu_ n
  | 0, h => absurd h (Nat.not_lt_zero _)
  | n + 1, h => by
    rcases Nat.lt_or_ge (8 * p + q) n with z | z
    · have := fc_lt hT hpq hq hn n z
      unfold fc_ fu_
      cases h : T (n / 8) (n % 8) with
      | none => simp; omega
      | some t =>
        have := (hT _ _ _ h).1.1
        rw [if_pos this]
        simp
        omega
    · have := fc_le hT n
      unfold fc_ fu_
      rw [show n / 8 = p by omega, show n % 8 = q by omega, hn, if_pos hpq]
      simp
      omega
theorem fu_64 : fu_ 64 = 28 := by decide
def tu_ (T : Tb_) (p q : Nat) (u : Nat → Nat) : Tb_ := fun a b => if a = p ∧ b = q then some u else T a b
theorem fc_tu {T : Tb_} {p q : Nat} {u : Nat → Nat} (hq : q < 8) (hn : T p q = none) : ∀ n, fc_ (tu_ T p q u) n = fc_ T n + if 8 * p + q < n then 1 else 0
  | 0 => by simp [fc_]
  | n + 1 => by
    have := fc_tu (u := u) hq hn n
    unfold fc_
    rw [this]
    by_cases z : n = 8 * p + q
    · have e1 : tu_ T p q u (n / 8) (n % 8) = some u := if_pos ⟨by omega, by omega⟩
      have e2 : T (n / 8) (n % 8) = none := by rw [show n / 8 = p by omega, show n % 8 = q by omega]; exact hn
      have e3 : (if 8 * p + q < n then 1 else 0) = 0 := if_neg (by omega)
      have e4 : (if 8 * p + q < n + 1 then 1 else 0) = 1 := if_pos (by omega)
      rw [e1, e2, e3, e4]
      simp
    · have e1 : tu_ T p q u (n / 8) (n % 8) = T (n / 8) (n % 8) := if_neg (by omega)
      rw [e1]
      by_cases z2 : 8 * p + q < n
      · have e3 : (if 8 * p + q < n then 1 else 0) = 1 := if_pos z2
        have e4 : (if 8 * p + q < n + 1 then 1 else 0) = 1 := if_pos (by omega)
        rw [e3, e4]; omega
      · have e3 : (if 8 * p + q < n then 1 else 0) = 0 := if_neg z2
        have e4 : (if 8 * p + q < n + 1 then 1 else 0) = 0 := if_neg (by omega)
        rw [e3, e4]; omega
/-- the table and the list of what was made -/
def GI_ (h : Hp_) (o : Nat) (T : Tb_) (ml : List (Nat → Nat)) : Prop := Tok_ T ∧ GT_ h o T ∧ hp_I h o 2 = nI ml.length ∧ (∀ (i : Nat) (u : Nat → Nat), ml[i]? = some u → hp_I h (o + 2) i = nI (pq_ u 8)) ∧ (∀ p q t, T p q = some t → t ∈ ml) ∧ (∀ t ∈ ml, ∃ p q, T p q = some t) ∧ ml.length = fc_ T 64
theorem GI_fr {P : Nat → Prop} {h h' : Hp_} {o : Nat} {T : Tb_} {ml : List (Nat → Nat)} (hf : fr_ P h h') (h0 : ¬ P o) (h1 : ¬ P (o + 1)) (h2 : ¬ P (o + 2)) (I : GI_ h o T ml) : GI_ h' o T ml := by
  obtain ⟨i1, i2, i3, i4, i5⟩ := I
  exact ⟨i1, fun p q hp hq => by rw [fr_I hf h1]; exact i2 p q hp hq, by rw [fr_I hf h0]; exact i3, fun i u hu => by rw [fr_I hf h2]; exact i4 i u hu, i5⟩
theorem Group_add_ok {h : Hp_} {o : Nat} {T : Tb_} {ml : List (Nat → Nat)} {u : Nat → Nat} {G : (Nat → Nat) → Prop} (hthen : ∀ u v, G u → G v → G (fun i => v (u i))) (hin : ∀ u, IsP 8 u → G u → G (in_ u)) (S : S_Group h o) (I : GI_ h o T ml) (hG : ∀ t ∈ ml, G t) (hu : IsP 8 u) (hGu : G u) : cV 5 mn_Group_add [.ref o, .int (nI (pq_ u 8))] h (fun h' => ∃ T' ml', GI_ h' o T' ml' ∧ (∀ p q t, T p q = some t → T' p q = some t) ∧ (∀ (i : Nat) (t : Nat → Nat), ml[i]? = some t → ml'[i]? = some t) ∧ (∀ t ∈ ml', G t) ∧ SS_ T' 8 u ∧ fr_ (fun c => o ≤ c ∧ c ≤ o + 2) h h') := by
  obtain ⟨hT, i2, i3, i4, i5, i6, i7⟩ := id I
  obtain ⟨rP, -, rC⟩ := sf_spec hT 8 u (Nat.le_refl _) hu (fun i hi => by omega)
  have hml : ml.length ≤ 28 := by rw [i7, ← fu_64]; exact fc_le hT 64
  refine cq_in (q := mi_Group_add) (L := [some (.ref o), some (.int (nI (pq_ u 8))), none, none]) rfl (Nat.le_of_ble_eq_true rfl) rfl ?_
  show wq _ tb_Group_add none 0 _ _ _ _
  refine wp_aload0 rfl ?_
  refine wp_iload1 rfl ?_
  refine wp_callV1I rfl (Nat.le_of_ble_eq_true rfl) (Group_kd S) (Group_sift_ok S hT i2 hu) (Nat.le_of_ble_eq_true rfl) ?_
  rintro _ hx ⟨rfl, ehx⟩
  rw [ehx]
  refine wp_istore2 rfl rfl ?_
  refine wp_iconst rfl ?_
  refine wp_istore3 rfl rfl ?_
  rcases rC with hid | ⟨p, hp, hfix, hne, hfree⟩
  · have hend : ∃ T' ml', GI_ h o T' ml' ∧ (∀ p q t, T p q = some t → T' p q = some t) ∧ (∀ (i : Nat) (t : Nat → Nat), ml[i]? = some t → ml'[i]? = some t) ∧ (∀ t ∈ ml', G t) ∧ SS_ T' 8 u ∧ fr_ (fun c => o ≤ c ∧ c ≤ o + 2) h h := ⟨T, ml, I, fun _ _ _ z => z, fun _ _ z => z, hG, (sf_SS hT 8 u (Nat.le_refl _) hu (fun i hi => by omega)).mp hid, fr_refl _ _⟩
    have loop : ∀ k i, i ≤ 8 → 8 - i = k → wq 4 tb_Group_add none 8 [some (.ref o), some (.int (nI (pq_ u 8))), some (.int (nI (pq_ (sf_ T 8 u) 8))), some (.int (nI i))] [] h (fun r h' => r = none ∧ ∃ T' ml', GI_ h' o T' ml' ∧ (∀ p q t, T p q = some t → T' p q = some t) ∧ (∀ (i : Nat) (t : Nat → Nat), ml[i]? = some t → ml'[i]? = some t) ∧ (∀ t ∈ ml', G t) ∧ SS_ T' 8 u ∧ fr_ (fun c => o ≤ c ∧ c ≤ o + 2) h h') := by
      intro k
      induction k with
      | zero =>
        intro i hi hk
        obtain rfl : i = 8 := by omega
        refine wp_iload3 rfl ?_
        refine wp_bipush rfl ?_
        refine wp_icmp_geN (8) (8) (by omega) (by omega) rfl (fun c1 => ?_) (fun c1 => ?_)
        · skip
          exact wp_vret rfl ⟨rfl, hend⟩
        · exact absurd c1 (by omega)
      | succ k ih =>
        intro i hi hk
        refine wp_iload3 rfl ?_
        refine wp_bipush rfl ?_
        refine wp_icmp_geN (i) (8) (by omega) (by omega) rfl (fun c1 => ?_) (fun c1 => ?_)
        · exact absurd c1 (by omega)
        · skip
          refine wp_aload0 rfl ?_
          refine wp_getI rfl (Group_kd S) ?_
          refine wp_bipush rfl ?_
          rw [i3]
          refine wp_icmp_geN (ml.length) (28) (by omega) (by omega) rfl (fun c2 => ?_) (fun c2 => ?_)
          · skip
            exact wp_vret rfl ⟨rfl, hend⟩
          · skip
            refine wp_iload2 rfl ?_
            refine wp_iload3 rfl ?_
            refine wp_callS2I rfl (Nat.le_of_ble_eq_true rfl) (Maps_toP_ok rP.1 (show i < 8 by omega)) (Nat.le_of_ble_eq_true rfl) ?_
            rintro _ _ ⟨rfl, rfl⟩
            rw [hid i]
            refine wp_iload3 rfl ?_
            refine wp_icmp_eqN (i) (i) (by omega) (by omega) rfl (fun c3 => ?_) (fun c3 => ?_)
            · skip
              refine wp_iinc3N rfl rfl ?_
              refine wp_goto rfl ?_
              exact ih (i + 1) (by omega) (by omega)
            · exact absurd rfl c3
    exact loop 8 0 (by omega) rfl
  · -- the first place that moves
    have hq := rP.1 p hp
    have hpq : p < sf_ T 8 u p := by
      rcases Nat.lt_or_ge (sf_ T 8 u p) p with z | z
      · have := hfix _ z
        exact absurd (rP.inj8 _ _ this) hne
      · omega
    have hlt : ml.length < 28 := by rw [i7, ← fu_64]; exact fc_lt hT hpq hq hfree 64 (by omega)
    have loop : ∀ k i, i ≤ p → p - i = k → wq 4 tb_Group_add none 8 [some (.ref o), some (.int (nI (pq_ u 8))), some (.int (nI (pq_ (sf_ T 8 u) 8))), some (.int (nI i))] [] h (fun r h' => r = none ∧ ∃ T' ml', GI_ h' o T' ml' ∧ (∀ p q t, T p q = some t → T' p q = some t) ∧ (∀ (i : Nat) (t : Nat → Nat), ml[i]? = some t → ml'[i]? = some t) ∧ (∀ t ∈ ml', G t) ∧ SS_ T' 8 u ∧ fr_ (fun c => o ≤ c ∧ c ≤ o + 2) h h') := by
      intro k
      induction k with
      | zero =>
        intro i hi hk
        obtain rfl : i = p := by omega
        refine wp_iload3 rfl ?_
        refine wp_bipush rfl ?_
        refine wp_icmp_geN (i) (8) (by omega) (by omega) rfl (fun c1 => ?_) (fun c1 => ?_)
        · exact absurd c1 (by omega)
        · skip
          refine wp_aload0 rfl ?_
          refine wp_getI rfl (Group_kd S) ?_
          refine wp_bipush rfl ?_
          rw [i3]
          refine wp_icmp_geN (ml.length) (28) (by omega) (by omega) rfl (fun c2 => ?_) (fun c2 => ?_)
          · exact absurd c2 (by omega)
          · skip
            refine wp_iload2 rfl ?_
            refine wp_iload3 rfl ?_
            refine wp_callS2I rfl (Nat.le_of_ble_eq_true rfl) (Maps_toP_ok rP.1 hp) (Nat.le_of_ble_eq_true rfl) ?_
            rintro _ _ ⟨rfl, rfl⟩
            refine wp_iload3 rfl ?_
            refine wp_icmp_eqN (sf_ T 8 u i) (i) (by omega) (by omega) rfl (fun c3 => ?_) (fun c3 => ?_)
            · exact absurd c3 hne
            · skip
              refine wp_aload0 rfl ?_
              refine wp_getR rfl (Group_kd S) (Group_R0 S) (by first | decide | omega) ?_
              refine wp_bipush rfl ?_
              refine wp_iload3 rfl ?_
              refine wp_imulE (nI (8 * i)) (pk_mul 8 i) rfl ?_
              refine wp_iload2 rfl ?_
              refine wp_iload3 rfl ?_
              refine wp_callS2I rfl (Nat.le_of_ble_eq_true rfl) (Maps_toP_ok rP.1 hp) (Nat.le_of_ble_eq_true rfl) ?_
              rintro _ _ ⟨rfl, rfl⟩
              refine wp_iaddE (nI (8 * i + sf_ T 8 u i)) (nI_add _ _) rfl ?_
              refine wp_iload2 rfl ?_
              refine wp_callS3V rfl (Nat.le_of_ble_eq_true rfl) (Cells_put_ok (Group_k0 S) (by omega) (by rw [Group_n0 S]; decide)) (Nat.le_of_ble_eq_true rfl) ?_
              rintro _ rfl
              rw [Group_n0 S, cp_in (show 8 * i + sf_ T 8 u i < 64 by omega) (by omega)]
              refine wp_aload0 rfl ?_
              refine wp_getR rfl (Group_kd S) (Group_R1 S) (by first | decide | omega) ?_
              refine wp_aload0 rfl ?_
              refine wp_getI rfl (Group_kd S) ?_
              rw [sd_rI_ne (show o ≠ o + 1 by omega), i3]
              refine wp_iload2 rfl ?_
              refine wp_callS3V rfl (Nat.le_of_ble_eq_true rfl) (Cells_putN_ok (Group_k1 S) (by omega) (Group_n1 S) hlt (by decide)) (Nat.le_of_ble_eq_true rfl) ?_
              rintro _ rfl
              rw [sd_rI_ne (show o + 2 ≠ o + 1 by omega)]
              refine wp_aload0 rfl ?_
              refine wp_dup rfl ?_
              refine wp_getI rfl (Group_kd S) ?_
              rw [sd_rI_ne (show o ≠ o + 2 by omega), sd_rI_ne (show o ≠ o + 1 by omega), i3]
              refine wp_iconst rfl ?_
              refine wp_iaddE (nI (ml.length + 1)) (nI_add _ 1) rfl ?_
              refine wp_putI rfl (Group_kd S) ?_
              rw [sd_rI_ne (show o ≠ o + 2 by omega), sd_rI_ne (show o ≠ o + 1 by omega)]
              refine wp_vret rfl ?_
              have hGr : G (sf_ T 8 u) := sf_GG hT hthen hin (fun a b t z => hG t (i5 a b t z)) 8 u hGu
              have hT' : Tok_ (tu_ T i (sf_ T 8 u i) (sf_ T 8 u)) := by
                intro a b t z
                unfold tu_ at z
                split at z
                · rename_i e
                  cases z
                  rw [e.1, e.2]
                  exact ⟨⟨hpq, hq⟩, rP, hfix, rfl⟩
                · exact hT a b t z
              have hTT : ∀ a b t, T a b = some t → tu_ T i (sf_ T 8 u i) (sf_ T 8 u) a b = some t := by
                intro a b t z
                unfold tu_
                rw [if_neg]
                · exact z
                · rintro ⟨e1, e2⟩
                  rw [e1, e2, hfree] at z
                  cases z
              refine ⟨rfl, tu_ T i (sf_ T 8 u i) (sf_ T 8 u), ml ++ [sf_ T 8 u], ⟨hT', fun a b ha hb => ?_, ?_, fun j v hj => ?_, fun a b t z => ?_, fun t ht => ?_, ?_⟩, hTT, fun j t z => ?_, fun t ht => ?_, ?_, ?_⟩
              · rw [sd_rI_ne (by omega), sd_rI_ne (by omega), sd_rI_eq]
                unfold va_up tu_
                by_cases e : a = i ∧ b = sf_ T 8 u i
                · rw [if_pos e, if_pos (by rw [e.1, e.2])]; rfl
                · rw [if_neg e, if_neg (fun z => e ⟨by omega, by omega⟩)]
                  exact i2 a b ha hb
              · rw [sd_rI_eq, sd_up_eq, List.length_append]; rfl
              · rw [sd_rI_ne (by omega), sd_rI_eq]
                unfold va_up
                rcases Nat.lt_or_ge j ml.length with z | z
                · rw [if_neg (by omega)]
                  rw [List.getElem?_append_left z] at hj
                  exact i4 j v hj
                · rw [List.getElem?_append_right z] at hj
                  have : j - ml.length = 0 := by
                    have := (List.getElem?_eq_some_iff.mp hj).1
                    simp at this
                    omega
                  rw [this] at hj
                  cases hj
                  rw [if_pos (by omega)]
              · unfold tu_ at z
                split at z
                · cases z
                  exact List.mem_append_right _ (List.mem_singleton.mpr rfl)
                · exact List.mem_append_left _ (i5 a b t z)
              · rcases List.mem_append.mp ht with z | z
                · obtain ⟨a, b, e⟩ := i6 t z
                  exact ⟨a, b, hTT a b t e⟩
                · rw [List.mem_singleton.mp z]
                  exact ⟨i, sf_ T 8 u i, if_pos ⟨rfl, rfl⟩⟩
              · rw [fc_tu hq hfree, if_pos (by omega), List.length_append, i7]; rfl
              · rw [List.getElem?_append_left (List.getElem?_eq_some_iff.mp z).1]; exact z
              · rcases List.mem_append.mp ht with z | z
                · exact hG t z
                · rw [List.mem_singleton.mp z]; exact hGr
              · refine sf_add hT hT' hTT 8 u (Nat.le_refl _) hu (fun i hi => by omega) ?_
                exact SS_entry hT' (show tu_ T i (sf_ T 8 u i) (sf_ T 8 u) i (sf_ T 8 u i) = _ from if_pos ⟨rfl, rfl⟩)
              · exact fr_row (by omega) (fr_row (by omega) (fr_row (by omega) (fr_refl _ _)))
      | succ k ih =>
        intro i hi hk
        refine wp_iload3 rfl ?_
        refine wp_bipush rfl ?_
        refine wp_icmp_geN (i) (8) (by omega) (by omega) rfl (fun c1 => ?_) (fun c1 => ?_)
        · exact absurd c1 (by omega)
        · skip
          refine wp_aload0 rfl ?_
          refine wp_getI rfl (Group_kd S) ?_
          refine wp_bipush rfl ?_
          rw [i3]
          refine wp_icmp_geN (ml.length) (28) (by omega) (by omega) rfl (fun c2 => ?_) (fun c2 => ?_)
          · exact absurd c2 (by omega)
          · skip
            refine wp_iload2 rfl ?_
            refine wp_iload3 rfl ?_
            refine wp_callS2I rfl (Nat.le_of_ble_eq_true rfl) (Maps_toP_ok rP.1 (show i < 8 by omega)) (Nat.le_of_ble_eq_true rfl) ?_
            rintro _ _ ⟨rfl, rfl⟩
            rw [hfix i (by omega)]
            refine wp_iload3 rfl ?_
            refine wp_icmp_eqN (i) (i) (by omega) (by omega) rfl (fun c3 => ?_) (fun c3 => ?_)
            · skip
              refine wp_iinc3N rfl rfl ?_
              refine wp_goto rfl ?_
              exact ih (i + 1) (by omega) (by omega)
            · exact absurd rfl c3
    exact loop p 0 (by omega) rfl
theorem Group_has_ok {h : Hp_} {o : Nat} {T : Tb_} {u : Nat → Nat} {b : Bool} (S : S_Group h o) (hT : Tok_ T) (hG : GT_ h o T) (hu : IsP 8 u) (hb : b = true ↔ SS_ T 8 u) : cI 5 mn_Group_has [.ref o, .int (nI (pq_ u 8))] h (fun x h' => x = bo_ b ∧ h' = h) := by
  refine cq_in (q := mi_Group_has) (L := [some (.ref o), some (.int (nI (pq_ u 8)))]) rfl (Nat.le_of_ble_eq_true rfl) rfl ?_
  show wq _ tb_Group_has none 0 _ _ _ _
  have hS := sf_SS hT 8 u (Nat.le_refl _) hu (fun i hi => by omega)
  have hP := (sf_spec hT 8 u (Nat.le_refl _) hu (fun i hi => by omega)).1
  have hlt := pq_lt24 hP.1
  refine wp_aload0 rfl ?_
  refine wp_iload1 rfl ?_
  refine wp_callV1I rfl (Nat.le_of_ble_eq_true rfl) (Group_kd S) (Group_sift_ok S hT hG hu) (Nat.le_of_ble_eq_true rfl) ?_
  rintro _ _ ⟨rfl, rfl⟩
  refine wp_ldc rfl ?_
  refine wp_icmp_neN (pq_ (sf_ T 8 u) 8) (16434824) (by omega) (by omega) rfl (fun c1 => ?_) (fun c1 => ?_)
  · skip
    refine wp_iconst rfl ?_
    have : b = false := by
      cases b with
      | false => rfl
      | true =>
        exfalso
        refine c1 ?_
        rw [stays_]
        exact pq_cong 8 (fun i hi => hS.mpr (hb.mp rfl) i)
    exact wp_zret rfl (by first | exact Or.inl rfl | exact Or.inr rfl) ⟨_, rfl, by rw [this]; rfl, rfl⟩
  · skip
    refine wp_iconst rfl ?_
    refine wp_goto rfl ?_
    have : b = true := by
      refine hb.mpr (hS.mp fun i => ?_)
      rcases Nat.lt_or_ge i 8 with z | z
      · rw [stays_] at c1
        exact pq_inj hP.1 (fun i hi => hi) c1 i z
      · exact hP.2.2 i z
    exact wp_zret rfl (by first | exact Or.inl rfl | exact Or.inr rfl) ⟨_, rfl, by rw [this]; rfl, rfl⟩
theorem CH_len_step (T : Tb_) (p j : Nat) : (((List.range' (p + 1) (j + 1)).filterMap (T p)).length) = ((List.range' (p + 1) j).filterMap (T p)).length + if (T p (p + 1 + j)).isSome then 1 else 0 := by
  rw [List.range'_concat, List.filterMap_append, List.length_append]
  congr 1
  rw [Nat.one_mul]
  cases h : T p (p + 1 + j) with
  | none => simp [h]
  | some t => simp [h]
theorem CH_len_le (T : Tb_) (p j : Nat) : ((List.range' (p + 1) j).filterMap (T p)).length ≤ j := by
  have := List.length_filterMap_le (T p) (List.range' (p + 1) j)
  rw [List.length_range'] at this
  exact this
theorem pr_le (T : Tb_) : ∀ p, p ≤ 8 → pr_ T p ≤ 8 ^ p
  | 0, _ => Nat.le_refl _
  | p + 1, hp => by
    have h1 := pr_le T p (by omega)
    have h2 := CH_len_le T p (7 - p)
    have h3 : (CH_ T p).length ≤ 8 := by unfold CH_; rw [List.length_cons]; omega
    rw [Nat.pow_succ]
    exact Nat.mul_le_mul h1 h3
theorem Group_members_ok {h : Hp_} {o : Nat} {T : Tb_} (S : S_Group h o) (hT : Tok_ T) (hG : GT_ h o T) : cI 2 mn_Group_members [.ref o] h (fun x h' => x = nI (pr_ T 8) ∧ h' = h) := by
  refine cq_in (q := mi_Group_members) (L := [some (.ref o), none, none, none, none]) rfl (Nat.le_of_ble_eq_true rfl) rfl ?_
  show wq _ tb_Group_members none 0 _ _ _ _
  have loop : ∀ k p (a3 a4 : Option Value), nl_ a3 = true → p ≤ 8 → 8 - p = k → wq 1 tb_Group_members none 4 [some (.ref o), some (.int (nI (pr_ T p))), some (.int (nI p)), a3, a4] [] h (fun r h' => ∃ x, r = some (.int x) ∧ x = nI (pr_ T 8) ∧ h' = h) := by
    intro k
    induction k with
    | zero =>
      intro p a3 a4 hn hp hk
      obtain rfl : p = 8 := by omega
      refine wp_iload2 rfl ?_
      refine wp_bipush rfl ?_
      refine wp_icmp_geN (8) (8) (by omega) (by omega) rfl (fun c1 => ?_) (fun c1 => ?_)
      · skip
        refine wp_iload1 rfl ?_
        exact wp_iret rfl ⟨_, rfl, rfl, rfl⟩
      · exact absurd c1 (by omega)
    | succ k ih =>
      intro p a3 a4 hn hp hk
      have inner : ∀ k2 j, p + 1 + j ≤ 8 → 7 - p - j = k2 → wq 1 tb_Group_members none 17 [some (.ref o), some (.int (nI (pr_ T p))), some (.int (nI p)), some (.int (nI (1 + ((List.range' (p + 1) j).filterMap (T p)).length))), some (.int (nI (p + 1 + j)))] [] h (fun r h' => ∃ x, r = some (.int x) ∧ x = nI (pr_ T 8) ∧ h' = h) := by
        intro k2
        induction k2 with
        | zero =>
          intro j hj hk2
          obtain rfl : j = 7 - p := by omega
          refine wp_iload4 rfl ?_
          refine wp_bipush rfl ?_
          refine wp_icmp_geN (p + 1 + (7 - p)) (8) (by omega) (by omega) rfl (fun c1 => ?_) (fun c1 => ?_)
          · skip
            refine wp_iload1 rfl ?_
            refine wp_iload3 rfl ?_
            refine wp_imulE (nI (pr_ T (p + 1))) (by rw [pk_mul]; refine congrArg nI ?_; show _ = pr_ T p * (CH_ T p).length; rw [CH_, List.length_cons, Nat.add_comm 1]) rfl ?_
            refine wp_istore1 rfl rfl ?_
            refine wp_iinc2N rfl rfl ?_
            refine wp_goto rfl ?_
            exact ih (p + 1) _ _ rfl (by omega) (by omega)
          · exact absurd c1 (by omega)
        | succ k2 ih2 =>
          intro j hj hk2
          refine wp_iload4 rfl ?_
          refine wp_bipush rfl ?_
          refine wp_icmp_geN (p + 1 + j) (8) (by omega) (by omega) rfl (fun c1 => ?_) (fun c1 => ?_)
          · exact absurd c1 (by omega)
          · skip
            refine wp_aload0 rfl ?_
            refine wp_getR rfl (Group_kd S) (Group_R0 S) (by first | decide | omega) ?_
            refine wp_bipush rfl ?_
            refine wp_iload2 rfl ?_
            refine wp_imulE (nI (8 * p)) (pk_mul 8 _) rfl ?_
            refine wp_iload4 rfl ?_
            refine wp_iaddE (nI (8 * p + (p + 1 + j))) (nI_add _ _) rfl ?_
            refine wp_callS2I rfl (Nat.le_of_ble_eq_true rfl) (Cells_atN_ok (Group_k0 S) (by omega) (Group_n0 S) (show 8 * p + (p + 1 + j) < 64 by omega) (by decide)) (Nat.le_of_ble_eq_true rfl) ?_
            rintro _ _ ⟨rfl, rfl⟩
            rw [hG p _ (by omega) c1]
            refine wp_iconst rfl ?_
            have hst := CH_len_step T p j
            have := ih2 (j + 1) (by omega) (by omega)
            rw [hst] at this
            cases hTv : T p (p + 1 + j) with
            | none =>
              rw [hTv] at this
              refine wp_icmp_eq rfl (fun c2 => ?_) (fun c2 => ?_)
              · skip
                refine wp_iinc4N rfl rfl ?_
                refine wp_goto rfl ?_
                exact this
              · exact absurd rfl c2
            | some t =>
              rw [hTv] at this
              refine wp_icmp_eq rfl (fun c2 => ?_) (fun c2 => ?_)
              · exact absurd c2 (te_some (hT _ _ _ hTv).2.1)
              · skip
                refine wp_iinc3N rfl rfl ?_
                refine wp_iinc4N rfl rfl ?_
                refine wp_goto rfl ?_
                exact this
      refine wp_iload2 rfl ?_
      refine wp_bipush rfl ?_
      refine wp_icmp_geN (p) (8) (by omega) (by omega) rfl (fun c1 => ?_) (fun c1 => ?_)
      · exact absurd c1 (by omega)
      · skip
        refine wp_iconst rfl ?_
        refine wp_istore3 rfl rfl ?_
        refine wp_iload2 rfl ?_
        refine wp_iconst rfl ?_
        refine wp_iaddE (nI (p + 1)) (nI_add _ 1) rfl ?_
        refine wp_istore4 rfl rfl ?_
        exact inner (7 - p) 0 (by omega) rfl
  refine wp_iconst rfl ?_
  refine wp_istore1 rfl rfl ?_
  refine wp_iconst rfl ?_
  refine wp_istore2 rfl rfl ?_
  exact loop 8 0 none none rfl (by omega) rfl
