-- ===== a frame that lets the heap grow; Orbit =====
/-- what stood in h stands in h', rows of P aside -/
def ag_ (P : Nat → Prop) (h h' : Hp_) : Prop := hp_nx h ≤ hp_nx h' ∧ hp_sl h ≤ hp_sl h' ∧ ∀ c, c ≤ hp_nx h → hp_kd h' c = hp_kd h c ∧ hp_ln h' c = hp_ln h c ∧ (¬ P c → hp_I h' c = hp_I h c ∧ hp_J h' c = hp_J h c ∧ hp_R h' c = hp_R h c)
theorem ag_refl (P : Nat → Prop) (h : Hp_) : ag_ P h h := ⟨Nat.le_refl _, Nat.le_refl _, fun _ _ => ⟨rfl, rfl, fun _ => ⟨rfl, rfl, rfl⟩⟩⟩
theorem ag_trans {P Q : Nat → Prop} {h h1 h2 : Hp_} (a : ag_ P h h1) (b : ag_ Q h1 h2) (hQ : ∀ c, c ≤ hp_nx h → Q c → P c) : ag_ P h h2 := by
  refine ⟨Nat.le_trans a.1 b.1, Nat.le_trans a.2.1 b.2.1, fun c hc => ?_⟩
  have x := a.2.2 c hc
  have y := b.2.2 c (Nat.le_trans hc a.1)
  refine ⟨y.1.trans x.1, y.2.1.trans x.2.1, fun hP => ?_⟩
  have x2 := x.2.2 hP
  have y2 := y.2.2 (fun z => hP (hQ c hc z))
  exact ⟨y2.1.trans x2.1, y2.2.1.trans x2.2.1, y2.2.2.trans x2.2.2⟩
theorem ag_mono {P Q : Nat → Prop} {h h' : Hp_} (hPQ : ∀ c, c ≤ hp_nx h → P c → Q c) (a : ag_ P h h') : ag_ Q h h' := ag_trans (ag_refl Q h) a hPQ
theorem ag_fr {P : Nat → Prop} {h h' : Hp_} (f : fr_ P h h') : ag_ P h h' := by
  obtain ⟨e1, e2, e3, e4, e5, e6⟩ := fr_S f
  refine ⟨Nat.le_of_eq e1.symm, Nat.le_of_eq e2.symm, fun c _ => ⟨by rw [e3], by rw [e4], fun hP => ⟨fr_I f hP, by rw [e5], by rw [e6]⟩⟩⟩
theorem ag_al {P : Nat → Prop} {h h' : Hp_} (a : ag_ P h h') (t n z : Nat) : ag_ P h (hp_al h' t n z) := by
  have hn := a.1
  refine ⟨Nat.le_succ_of_le a.1, Nat.le_trans a.2.1 (Nat.le_add_right _ _), fun c hc => ?_⟩
  have x := a.2.2 c hc
  have ne : c ≠ hp_nx h' + 1 := by omega
  have e : ∀ {α : Type} (g : Nat → α) (v : α), va_up g (hp_nx h' + 1) v c = g c := fun g v => sd_up_ne ne
  refine ⟨(e (hp_kd h') t).trans x.1, (e (hp_ln h') n).trans x.2.1, fun hP => ?_⟩
  have x2 := x.2.2 hP
  exact ⟨(e (hp_I h') _).trans x2.1, (e (hp_J h') _).trans x2.2.1, (e (hp_R h') _).trans x2.2.2⟩
theorem ag_rI {P : Nat → Prop} {h h' : Hp_} (a : ag_ P h h') {c : Nat} (hc : c ≤ hp_nx h → P c) (f : Nat → Int32) : ag_ P h (hp_rI h' c f) := by
  refine ⟨a.1, a.2.1, fun d hd => ⟨(a.2.2 d hd).1, (a.2.2 d hd).2.1, fun hP => ?_⟩⟩
  have x := (a.2.2 d hd).2.2 hP
  exact ⟨(sd_up_ne (fun z => hP (by rw [z]; exact hc (by omega)))).trans x.1, x.2⟩
theorem ag_rJ {P : Nat → Prop} {h h' : Hp_} (a : ag_ P h h') {c : Nat} (hc : c ≤ hp_nx h → P c) (f : Nat → Int64) : ag_ P h (hp_rJ h' c f) := by
  refine ⟨a.1, a.2.1, fun d hd => ⟨(a.2.2 d hd).1, (a.2.2 d hd).2.1, fun hP => ?_⟩⟩
  have x := (a.2.2 d hd).2.2 hP
  exact ⟨x.1, (sd_up_ne (fun z => hP (by rw [z]; exact hc (by omega)))).trans x.2.1, x.2.2⟩
theorem ag_rR {P : Nat → Prop} {h h' : Hp_} (a : ag_ P h h') {c : Nat} (hc : c ≤ hp_nx h → P c) (f : Nat → Nat) : ag_ P h (hp_rR h' c f) := by
  refine ⟨a.1, a.2.1, fun d hd => ⟨(a.2.2 d hd).1, (a.2.2 d hd).2.1, fun hP => ?_⟩⟩
  have x := (a.2.2 d hd).2.2 hP
  exact ⟨x.1, x.2.1, (sd_up_ne (fun z => hP (by rw [z]; exact hc (by omega)))).trans x.2.2⟩
/-- distinct numbers below N are at most N -/
theorem pig_ : ∀ N (l : List Nat), l.Nodup → (∀ x ∈ l, x < N) → l.length ≤ N := by
  intro N
  induction N with
  | zero =>
    intro l _ h
    cases l with
    | nil => exact Nat.le_refl _
    | cons x l => exact absurd (h x List.mem_cons_self) (Nat.not_lt_zero _)
  | succ N ih =>
    intro l hn h
    have h1 := ih (l.erase N) (hn.erase N) (fun x hx => by
      have h2 := h x (List.mem_of_mem_erase hx)
      have h3 : x ≠ N := fun z => by
        rw [z] at hx
        exact (hn.not_mem_erase) hx
      omega)
    have h4 := @List.length_erase _ _ _ N l
    split at h4 <;> omega
/-- an Orbit and its rows -/
def S_Orbit (h : Hp_) (o a b c e : Nat) : Prop := hp_kd h o = 16 ∧ (hp_R h o 4 = a ∧ hp_R h o 5 = b ∧ hp_R h o 6 = c ∧ hp_R h o 7 = e) ∧ (hp_kd h a = 1 ∧ hp_kd h b = 1 ∧ hp_kd h c = 1 ∧ hp_kd h e = 1) ∧ (a ≠ 0 ∧ b ≠ 0 ∧ c ≠ 0 ∧ e ≠ 0) ∧ (a ≠ b ∧ a ≠ c ∧ a ≠ e ∧ b ≠ c ∧ b ≠ e ∧ c ≠ e) ∧ (o ≠ a ∧ o ≠ b ∧ o ≠ c ∧ o ≠ e) ∧ hp_ln h a ≤ 300000 ∧ hp_ln h b ≤ 300000 ∧ hp_ln h c ≤ 300000 ∧ hp_ln h e ≤ 300000
theorem Orbit_kd {h : Hp_} {o a b c e : Nat} (S : S_Orbit h o a b c e) : hp_kd h o = 16 := S.1
theorem Orbit_R4 {h : Hp_} {o a b c e : Nat} (S : S_Orbit h o a b c e) : hp_R h o 4 = a := S.2.1.1
theorem Orbit_R5 {h : Hp_} {o a b c e : Nat} (S : S_Orbit h o a b c e) : hp_R h o 5 = b := S.2.1.2.1
theorem Orbit_R6 {h : Hp_} {o a b c e : Nat} (S : S_Orbit h o a b c e) : hp_R h o 6 = c := S.2.1.2.2.1
theorem Orbit_R7 {h : Hp_} {o a b c e : Nat} (S : S_Orbit h o a b c e) : hp_R h o 7 = e := S.2.1.2.2.2
theorem Orbit_k4 {h : Hp_} {o a b c e : Nat} (S : S_Orbit h o a b c e) : hp_kd h a = 1 := S.2.2.1.1
theorem Orbit_k5 {h : Hp_} {o a b c e : Nat} (S : S_Orbit h o a b c e) : hp_kd h b = 1 := S.2.2.1.2.1
theorem Orbit_k6 {h : Hp_} {o a b c e : Nat} (S : S_Orbit h o a b c e) : hp_kd h c = 1 := S.2.2.1.2.2.1
theorem Orbit_k7 {h : Hp_} {o a b c e : Nat} (S : S_Orbit h o a b c e) : hp_kd h e = 1 := S.2.2.1.2.2.2
theorem Orbit_n4 {h : Hp_} {o a b c e : Nat} (_ : S_Orbit h o a b c e) : hp_ln h a = hp_ln h a := rfl
theorem Orbit_n5 {h : Hp_} {o a b c e : Nat} (_ : S_Orbit h o a b c e) : hp_ln h b = hp_ln h b := rfl
theorem Orbit_n6 {h : Hp_} {o a b c e : Nat} (_ : S_Orbit h o a b c e) : hp_ln h c = hp_ln h c := rfl
theorem Orbit_n7 {h : Hp_} {o a b c e : Nat} (_ : S_Orbit h o a b c e) : hp_ln h e = hp_ln h e := rfl
/-- a lying with naught above its goods -/
def Lz_ (n k : Nat) (w : Nat → Nat) : Prop := Ly_ n k w ∧ ∀ i, k ≤ i → w i = 0
theorem Lz_8 {n k : Nat} {w : Nat → Nat} (hn : n ≤ 8) (h1 : 1 ≤ n) (W : Lz_ n k w) : ∀ i, i < 8 → w i < 8 := by
  intro i _
  rcases Nat.lt_or_ge i k with z | z
  · have := W.1.1 i z; omega
  · rw [W.2 i z]; omega
theorem Lz_ext {n k : Nat} {w v : Nat → Nat} (W : Lz_ n k w) (V : Lz_ n k v) (e : rk_ n w k = rk_ n v k) : w = v := by
  funext j
  rcases Nat.lt_or_ge j k with z | z
  · exact rk_inj W.1 V.1 k (Nat.le_refl _) e j z
  · rw [W.2 j z, V.2 j z]
theorem nI_mul (a b : Nat) : nI a * nI b = nI (a * b) := (Int32.ofNat_mul a b).symm
theorem nI_ne_m1 {a : Nat} (ha : a < 2 ^ 31) : nI a ≠ -1 := fun z => nI_pos ha (by rw [z]; decide)
theorem nI_pow1 {p : Nat} (hp : p < 31) : nI (1 * 2 ^ p) - 1 = nI (2 ^ p - 1) := by
  rw [Nat.one_mul]
  exact ni_sub (a := 2 ^ p) (b := 1) (Nat.two_pow_pos p)
theorem Orbit_rank_ok {h : Hp_} {o a b c e n k : Nat} {w : Nat → Nat} (S : S_Orbit h o a b c e) (h1 : hp_I h o 1 = nI n) (h2 : hp_I h o 2 = nI k) (hn3 : 1 ≤ n) (hn : n ≤ 8) (hk : k ≤ n) (W : Lz_ n k w) : cI 3 mn_Orbit_rank [.ref o, .int (nI (pq_ w 8))] h (fun x h' => x = nI (rk_ n w k) ∧ h' = h) := by
  have W8 := Lz_8 hn hn3 W
  refine cq_in (q := mi_Orbit_rank) (L := [some (.ref o), some (.int (nI (pq_ w 8))), none, none, none, none, none]) rfl (Nat.le_of_ble_eq_true rfl) rfl ?_
  show wq _ tb_Orbit_rank none 0 _ _ _ _
  have loop : ∀ m i (a5 a6 : Option Value), i ≤ k → k - i = m → wq 2 tb_Orbit_rank none 7 [some (.ref o), some (.int (nI (pq_ w 8))), some (.int (nI (rk_ n w i))), some (.int (nI (us_ w i))), some (.int (nI i)), a5, a6] [] h (fun r h' => ∃ x, r = some (.int x) ∧ x = nI (rk_ n w k) ∧ h' = h) := by
    intro m
    induction m with
    | zero =>
      intro i a5 a6 hi hm
      obtain rfl : i = k := by omega
      refine wp_iload4 rfl ?_
      refine wp_aload0 rfl ?_
      refine wp_getI rfl (Orbit_kd S) ?_
      rw [h2]
      refine wp_icmp_geN (i) (i) (by omega) (by omega) rfl (fun c1 => ?_) (fun c1 => ?_)
      · skip
        refine wp_iload2 rfl ?_
        exact wp_iret rfl ⟨_, rfl, rfl, rfl⟩
      · exact absurd c1 (Nat.lt_irrefl _)
    | succ m ih =>
      intro i a5 a6 hi hm
      have hik : i < k := by omega
      have hwi := W.1.1 i hik
      have hus := us_lt W.1 i (by omega)
      have hus8 : us_ w i < 256 := Nat.lt_of_lt_of_le hus (Nat.pow_le_pow_right (by decide) hn)
      have hrk := rk_lt W.1 i (by omega)
      have hce := ce_le hn i
      have hbc := bc_le (us_ w i) (w i)
      refine wp_iload4 rfl ?_
      refine wp_aload0 rfl ?_
      refine wp_getI rfl (Orbit_kd S) ?_
      rw [h2]
      refine wp_icmp_geN (i) (k) (by omega) (by omega) rfl (fun c1 => ?_) (fun c1 => ?_)
      · exact absurd c1 (by omega)
      · skip
        refine wp_iload1 rfl ?_
        refine wp_iload4 rfl ?_
        refine wp_callS2I rfl (Nat.le_of_ble_eq_true rfl) (Maps_toP_ok W8 (show i < 8 by omega)) (Nat.le_of_ble_eq_true rfl) ?_
        rintro _ hx1 ⟨rfl, ehx1⟩
        rw [ehx1]
        refine wp_istore5 rfl rfl ?_
        refine wp_iload3 rfl ?_
        refine wp_iconst rfl ?_
        refine wp_iload5 rfl ?_
        refine wp_ishlE (nI (1 * 2 ^ w i)) (nn_shl 1 _ (by omega)) rfl ?_
        refine wp_iconst rfl ?_
        refine wp_isubE (nI (2 ^ w i - 1)) (nI_pow1 (by omega)) rfl ?_
        refine wp_iandE (nI (us_ w i % 2 ^ w i)) (by rw [nn_and, Nat.and_two_pow_sub_one_eq_mod]) rfl ?_
        refine wp_callS1I rfl (Nat.le_of_ble_eq_true rfl) (Integer_bitCount_ok) (Nat.le_of_ble_eq_true rfl) ?_
        rintro _ hx2 ⟨rfl, ehx2⟩
        have hmod : us_ w i % 2 ^ w i < 256 := Nat.lt_of_le_of_lt (Nat.mod_le _ _) hus8
        rw [ehx2, jb_low ⟨_, hmod⟩]
        dsimp only
        rw [bc_mod, Nat.min_eq_right (show w i ≤ 8 by omega)]
        refine wp_istore6 rfl rfl ?_
        refine wp_iload2 rfl ?_
        refine wp_aload0 rfl ?_
        refine wp_getI rfl (Orbit_kd S) ?_
        rw [h1]
        refine wp_iload4 rfl ?_
        refine wp_isubE (nI (n - i)) (ni_sub (by omega)) rfl ?_
        refine wp_imulE (nI (rk_ n w i * (n - i))) (nI_mul _ _) rfl ?_
        refine wp_iload5 rfl ?_
        refine wp_iaddE (nI (rk_ n w i * (n - i) + w i)) (nI_add _ _) rfl ?_
        refine wp_iload6 rfl ?_
        refine wp_isubE (nI (rk_ n w (i + 1))) (by rw [ni_sub (by omega)]; exact congrArg nI (by show _ = rk_ n w i * (n - i) + (w i - bc_ (us_ w i) (w i)); omega)) rfl ?_
        refine wp_istore2 rfl rfl ?_
        refine wp_iload3 rfl ?_
        refine wp_iconst rfl ?_
        refine wp_iload5 rfl ?_
        refine wp_ishlE (nI (1 * 2 ^ w i)) (nn_shl 1 _ (by omega)) rfl ?_
        refine wp_iorE (nI (us_ w (i + 1))) (by rw [nn_or, Nat.one_mul]; rfl) rfl ?_
        refine wp_istore3 rfl rfl ?_
        refine wp_iinc4N rfl rfl ?_
        refine wp_goto rfl ?_
        exact ih (i + 1) _ _ (by omega) (by omega)
  refine wp_iconst rfl ?_
  refine wp_istore2 rfl rfl ?_
  refine wp_iconst rfl ?_
  refine wp_istore3 rfl rfl ?_
  refine wp_iconst rfl ?_
  refine wp_istore4 rfl rfl ?_
  exact loop k 0 none none (Nat.zero_le _) (by omega)
/-- the orbit's rows hold the lyings ws, met by way of os -/
def OI_ (h : Hp_) (o a b c n k : Nat) (ws : List (Nat → Nat)) (os : List Nat) : Prop := hp_I h o 1 = nI n ∧ hp_I h o 2 = nI k ∧ hp_I h o 3 = nI ws.length ∧ (ce_ n k ≤ hp_ln h a ∧ ce_ n k ≤ hp_ln h b ∧ ce_ n k ≤ hp_ln h c) ∧ ws.Nodup ∧ (∀ w ∈ ws, Lz_ n k w) ∧ (∀ (i : Nat) (w : Nat → Nat), ws[i]? = some w → hp_I h a i = nI (pq_ w 8) ∧ hp_I h c (rk_ n w k) = nI i) ∧ (∀ w, Lz_ n k w → ¬ w ∈ ws → hp_I h c (rk_ n w k) = -1) ∧ os.length = ws.length ∧ ∀ (i x : Nat), os[i]? = some x → hp_I h b i = nI x
theorem Lz_count {n k : Nat} {ws : List (Nat → Nat)} (hd : ws.Nodup) (hL : ∀ w ∈ ws, Lz_ n k w) : ws.length ≤ ce_ n k := by
  have h1 := pig_ (ce_ n k) (ws.map (fun w => rk_ n w k)) (by
    unfold List.Nodup
    rw [List.pairwise_map]
    refine List.Pairwise.imp_of_mem ?_ hd
    intro x y hx hy hne e
    exact hne (Lz_ext (hL x hx) (hL y hy) e)) (by
    intro x hx
    obtain ⟨w, hw, rfl⟩ := List.mem_map.mp hx
    exact rk_lt (hL w hw).1 k (Nat.le_refl _))
  rw [List.length_map] at h1
  exact h1
theorem Lz_more {n k : Nat} {ws : List (Nat → Nat)} {w : Nat → Nat} (hd : ws.Nodup) (hL : ∀ w ∈ ws, Lz_ n k w) (W : Lz_ n k w) (hw : ¬ w ∈ ws) : ws.length < ce_ n k := by
  have h1 := Lz_count (n := n) (k := k) (ws := w :: ws) (List.nodup_cons.mpr ⟨hw, hd⟩) (fun v hv => by
    rcases List.mem_cons.mp hv with z | z
    · rw [z]; exact W
    · exact hL v z)
  exact h1
/-- where a lying stands in a list of them -/
def NW_ (ws : List (Nat → Nat)) (w : Nat → Nat) (x : Int32) : Prop := (∃ j : Nat, ws[j]? = some w ∧ x = nI j) ∨ (¬ w ∈ ws ∧ x = -1)
theorem OI_at {h : Hp_} {o a b c n k : Nat} {ws : List (Nat → Nat)} {os : List Nat} {w : Nat → Nat} (I : OI_ h o a b c n k ws os) (W : Lz_ n k w) : NW_ ws w (hp_I h c (rk_ n w k)) := by
  by_cases q : w ∈ ws
  · obtain ⟨j, hj⟩ := List.getElem?_of_mem q
    exact Or.inl ⟨j, hj, (I.2.2.2.2.2.2.1 j w hj).2⟩
  · exact Or.inr ⟨q, I.2.2.2.2.2.2.2.1 w W q⟩
theorem Orbit_numberOf_ok {h : Hp_} {o a b c e n k : Nat} {w : Nat → Nat} {ws : List (Nat → Nat)} {os : List Nat} (S : S_Orbit h o a b c e) (I : OI_ h o a b c n k ws os) (hn3 : 1 ≤ n) (hn : n ≤ 8) (hk : k ≤ n) (W : Lz_ n k w) : cI 4 mn_Orbit_numberOf [.ref o, .int (nI (pq_ w 8))] h (fun x h' => NW_ ws w x ∧ h' = h) := by
  have W8 := Lz_8 hn hn3 W
  have hp := pq_lt24 W8
  have hrk := rk_lt W.1 k (Nat.le_refl _)
  have hc0 : c ≠ 0 := S.2.2.2.1.2.2.1
  have hln := S.2.2.2.2.2.2.2.2.1
  have hce := I.2.2.2.1.2.2
  refine cq_in (q := mi_Orbit_numberOf) (L := [some (.ref o), some (.int (nI (pq_ w 8)))]) rfl (Nat.le_of_ble_eq_true rfl) rfl ?_
  show wq _ tb_Orbit_numberOf none 0 _ _ _ _
  refine wp_iload1 rfl ?_
  refine wp_iconst rfl ?_
  refine wp_icmp_ne rfl (fun c1 => ?_) (fun c1 => ?_)
  · skip
    refine wp_aload0 rfl ?_
    refine wp_getR rfl (Orbit_kd S) (Orbit_R6 S) (by first | decide | omega) ?_
    refine wp_aload0 rfl ?_
    refine wp_iload1 rfl ?_
    refine wp_callV1I rfl (Nat.le_of_ble_eq_true rfl) (Orbit_kd S) (Orbit_rank_ok S I.1 I.2.1 hn3 hn hk W) (Nat.le_of_ble_eq_true rfl) ?_
    rintro _ hx1 ⟨rfl, ehx1⟩
    rw [ehx1]
    refine wp_callS2I rfl (Nat.le_of_ble_eq_true rfl) (Cells_atN_ok (Orbit_k6 S) hc0 rfl (show rk_ n w k < hp_ln h c by omega) (by omega)) (Nat.le_of_ble_eq_true rfl) ?_
    rintro _ hx2 ⟨rfl, ehx2⟩
    rw [ehx2]
    exact wp_iret rfl ⟨_, rfl, OI_at I W, rfl⟩
  · exact absurd c1 (fun z => nI_ne_m1 (show pq_ w 8 < 2 ^ 31 by omega) (Classical.not_not.mp z))
theorem Orbit_numberOfNo_ok {h : Hp_} {o a b c e : Nat} (S : S_Orbit h o a b c e) : cI 4 mn_Orbit_numberOf [.ref o, .int (-1)] h (fun x h' => x = -1 ∧ h' = h) := by
  refine cq_in (q := mi_Orbit_numberOf) (L := [some (.ref o), some (.int (-1))]) rfl (Nat.le_of_ble_eq_true rfl) rfl ?_
  show wq _ tb_Orbit_numberOf none 0 _ _ _ _
  refine wp_iload1 rfl ?_
  refine wp_iconst rfl ?_
  refine wp_icmp_ne rfl (fun c1 => ?_) (fun c1 => ?_)
  · exact absurd rfl c1
  · skip
    refine wp_iconst rfl ?_
    refine wp_goto rfl ?_
    exact wp_iret rfl ⟨_, rfl, rfl, rfl⟩
theorem S_Orbit_fr {P : Nat → Prop} {h h' : Hp_} {o a b c e : Nat} (hf : fr_ P h h') (S : S_Orbit h o a b c e) : S_Orbit h' o a b c e := by
  obtain ⟨g, rfl, hg⟩ := hf
  exact S
def oc_ (o a b c q : Nat) : Prop := q = o ∨ q = a ∨ q = b ∨ q = c
theorem Orbit_meet_ok {h : Hp_} {o a b c e n k org : Nat} {w : Nat → Nat} {ws : List (Nat → Nat)} {os : List Nat} (S : S_Orbit h o a b c e) (I : OI_ h o a b c n k ws os) (hn3 : 1 ≤ n) (hn : n ≤ 8) (hk : k ≤ n) (W : Lz_ n k w) : cI 4 mn_Orbit_meet [.ref o, .int (nI (pq_ w 8)), .int (nI org)] h (fun x h' => ∃ j ws' os', x = nI j ∧ ws'[j]? = some w ∧ OI_ h' o a b c n k ws' os' ∧ ((w ∈ ws ∧ ws' = ws ∧ os' = os) ∨ (¬ w ∈ ws ∧ j = ws.length ∧ ws' = ws ++ [w] ∧ os' = os ++ [org])) ∧ fr_ (oc_ o a b c) h h' ∧ hp_I h' o 0 = hp_I h o 0) := by
  have W8 := Lz_8 hn hn3 W
  have hp := pq_lt24 W8
  have hrk := rk_lt W.1 k (Nat.le_refl _)
  have ⟨ha0, hb0, hc0, he0⟩ := S.2.2.2.1
  have ⟨hab, hac, hae, hbc, hbe, hce'⟩ := S.2.2.2.2.1
  have ⟨hoa, hob, hoc, hoe⟩ := S.2.2.2.2.2.1
  have ⟨hla, hlb, hlc, hle⟩ := S.2.2.2.2.2.2
  have ⟨I1, I2, I3, ⟨Ia, Ib, Ic⟩, Ind, IL, Iat, Ino, Iol, Ios⟩ := I
  refine cq_in (q := mi_Orbit_meet) (L := [some (.ref o), some (.int (nI (pq_ w 8))), some (.int (nI org)), none, none, none]) rfl (Nat.le_of_ble_eq_true rfl) rfl ?_
  show wq _ tb_Orbit_meet none 0 _ _ _ _
  refine wp_aload0 rfl ?_
  refine wp_iload1 rfl ?_
  refine wp_callV1I rfl (Nat.le_of_ble_eq_true rfl) (Orbit_kd S) (Orbit_rank_ok S I1 I2 hn3 hn hk W) (Nat.le_of_ble_eq_true rfl) ?_
  rintro _ hx1 ⟨rfl, ehx1⟩
  rw [ehx1]
  refine wp_istore3 rfl rfl ?_
  refine wp_aload0 rfl ?_
  refine wp_getR rfl (Orbit_kd S) (Orbit_R6 S) (by first | decide | omega) ?_
  refine wp_iload3 rfl ?_
  refine wp_callS2I rfl (Nat.le_of_ble_eq_true rfl) (Cells_atN_ok (Orbit_k6 S) hc0 rfl (show rk_ n w k < hp_ln h c by omega) (by omega)) (Nat.le_of_ble_eq_true rfl) ?_
  rintro _ hx2 ⟨rfl, ehx2⟩
  rw [ehx2]
  refine wp_istore4 rfl rfl ?_
  refine wp_iload4 rfl ?_
  refine wp_iconst rfl ?_
  rcases OI_at I W with ⟨j, hj, ej⟩ | ⟨hw, ej⟩
  · have hjl := (List.getElem?_eq_some_iff.mp hj).1
    have hwc := Lz_count Ind IL
    rw [ej]
    refine wp_icmp_eq rfl (fun c1 => ?_) (fun c1 => ?_)
    · exact absurd c1 (nI_ne_m1 (by omega))
    · skip
      refine wp_iload4 rfl ?_
      exact wp_iret rfl ⟨_, rfl, j, ws, os, rfl, hj, I, Or.inl ⟨List.mem_of_getElem? hj, rfl, rfl⟩, fr_refl _ _, rfl⟩
  · have hlt := Lz_more Ind IL W hw
    rw [ej]
    refine wp_icmp_eq rfl (fun _ => ?_) (fun z => absurd rfl z)
    · skip
      refine wp_aload0 rfl ?_
      refine wp_getI rfl (Orbit_kd S) ?_
      refine wp_istore5 rfl rfl ?_
      refine wp_aload0 rfl ?_
      refine wp_getR rfl (Orbit_kd S) (Orbit_R6 S) (by first | decide | omega) ?_
      refine wp_iload3 rfl ?_
      refine wp_iload5 rfl ?_
      rw [I3]
      refine wp_callS3V rfl (Nat.le_of_ble_eq_true rfl) (Cells_putN_ok (Orbit_k6 S) hc0 rfl (show rk_ n w k < hp_ln h c by omega) (by omega)) (Nat.le_of_ble_eq_true rfl) ?_
      rintro h1 e1
      have f1 : fr_ (oc_ o a b c) h h1 := by rw [e1]; exact fr_row (Or.inr (Or.inr (Or.inr rfl))) (fr_refl _ _)
      have S1 := S_Orbit_fr f1 S
      have l1 := (fr_S f1).2.2.2.1
      refine wp_aload0 rfl ?_
      refine wp_getR rfl (Orbit_kd S1) (Orbit_R4 S1) (by first | decide | omega) ?_
      refine wp_iload5 rfl ?_
      refine wp_iload1 rfl ?_
      refine wp_callS3V rfl (Nat.le_of_ble_eq_true rfl) (Cells_putN_ok (Orbit_k4 S1) ha0 (show hp_ln h1 a = hp_ln h a by rw [l1]) (show ws.length < hp_ln h a by omega) (by omega)) (Nat.le_of_ble_eq_true rfl) ?_
      rintro h2 e2
      have f2 : fr_ (oc_ o a b c) h1 h2 := by rw [e2]; exact fr_row (Or.inr (Or.inl rfl)) (fr_refl _ _)
      have S2 := S_Orbit_fr f2 S1
      have l2 := (fr_S f2).2.2.2.1
      refine wp_aload0 rfl ?_
      refine wp_getR rfl (Orbit_kd S2) (Orbit_R5 S2) (by first | decide | omega) ?_
      refine wp_iload5 rfl ?_
      refine wp_iload2 rfl ?_
      refine wp_callS3V rfl (Nat.le_of_ble_eq_true rfl) (Cells_putN_ok (Orbit_k5 S2) hb0 (show hp_ln h2 b = hp_ln h b by rw [l2, l1]) (show ws.length < hp_ln h b by omega) (by omega)) (Nat.le_of_ble_eq_true rfl) ?_
      rintro h3 e3
      have f3 : fr_ (oc_ o a b c) h2 h3 := by rw [e3]; exact fr_row (Or.inr (Or.inr (Or.inl rfl))) (fr_refl _ _)
      have S3 := S_Orbit_fr f3 S2
      refine wp_aload0 rfl ?_
      refine wp_dup rfl ?_
      refine wp_getI rfl (Orbit_kd S3) ?_
      have o3 : hp_I h3 o = hp_I h o := by rw [e3, sd_rI_ne hob, e2, sd_rI_ne hoa, e1, sd_rI_ne hoc]
      rw [o3, I3]
      refine wp_iconst rfl ?_
      refine wp_iaddE (nI (ws.length + 1)) (nI_add _ 1) rfl ?_
      refine wp_putI rfl (Orbit_kd S3) ?_
      refine wp_iload5 rfl ?_
      refine wq_gen (fun h4 e4 => ?_)
      have f4 : fr_ (oc_ o a b c) h3 h4 := by rw [e4]; exact fr_row (Or.inl rfl) (fr_refl _ _)
      have f := fr_trans (fr_trans (fr_trans f1 f2) f3) f4
      have l4 := (fr_S f).2.2.2.1
      have o4 : hp_I h4 o = va_up (hp_I h o) 3 (nI (ws.length + 1)) := by rw [e4, sd_rI_eq, o3]
      have a4 : hp_I h4 a = va_up (hp_I h a) ws.length (nI (pq_ w 8)) := by rw [e4, sd_rI_ne (Ne.symm hoa), e3, sd_rI_ne hab, e2, sd_rI_eq, e1, sd_rI_ne hac]
      have b4 : hp_I h4 b = va_up (hp_I h b) ws.length (nI org) := by rw [e4, sd_rI_ne (Ne.symm hob), e3, sd_rI_eq, e2, sd_rI_ne (Ne.symm hab), e1, sd_rI_ne hbc]
      have c4 : hp_I h4 c = va_up (hp_I h c) (rk_ n w k) (nI ws.length) := by rw [e4, sd_rI_ne (Ne.symm hoc), e3, sd_rI_ne (Ne.symm hbc), e2, sd_rI_ne (Ne.symm hac), e1, sd_rI_eq]
      refine wp_iret rfl ?_
      refine ⟨_, rfl, ws.length, ws ++ [w], os ++ [org], rfl, List.getElem?_concat_length, ⟨?_, ?_, ?_, ?_, ?_, ?_, ?_, ?_, ?_, ?_⟩, Or.inr ⟨hw, rfl, rfl, rfl⟩, f, by rw [o4, sd_up_ne (by decide)]⟩
      · rw [o4, sd_up_ne (by decide)]; exact I1
      · rw [o4, sd_up_ne (by decide)]; exact I2
      · rw [o4, sd_up_eq, List.length_append]; rfl
      · rw [l4]; exact ⟨Ia, Ib, Ic⟩
      · exact List.nodup_append.mpr ⟨Ind, List.pairwise_singleton _ _, fun x hx y hy z => hw (by rw [List.mem_singleton] at hy; rw [← hy, ← z]; exact hx)⟩
      · intro v hv
        rcases List.mem_append.mp hv with z | z
        · exact IL v z
        · rw [List.mem_singleton.mp z]; exact W
      · intro i v hv
        rcases Nat.lt_or_ge i ws.length with z | z
        · rw [List.getElem?_append_left z] at hv
          have hm := List.mem_of_getElem? hv
          have hne : rk_ n v k ≠ rk_ n w k := fun y => hw (by rw [← Lz_ext (IL v hm) W y]; exact hm)
          rw [a4, c4, sd_up_ne (by omega), sd_up_ne hne]
          exact Iat i v hv
        · have hi : i < (ws ++ [w]).length := (List.getElem?_eq_some_iff.mp hv).1
          rw [List.length_append] at hi
          have hi2 : i < ws.length + 1 := hi
          obtain rfl : i = ws.length := by omega
          rw [List.getElem?_concat_length] at hv
          cases hv
          rw [a4, c4, sd_up_eq, sd_up_eq]
          exact ⟨rfl, rfl⟩
      · intro v V hv
        have hv1 : ¬ v ∈ ws := fun z => hv (List.mem_append.mpr (Or.inl z))
        have hne : rk_ n v k ≠ rk_ n w k := fun y => hv (List.mem_append.mpr (Or.inr (by rw [Lz_ext V W y]; exact List.mem_singleton.mpr rfl)))
        rw [c4, sd_up_ne hne]
        exact Ino v V hv1
      · rw [List.length_append, List.length_append, Iol]; rfl
      · intro i x hx
        rcases Nat.lt_or_ge i os.length with z | z
        · rw [List.getElem?_append_left z] at hx
          rw [b4, sd_up_ne (by omega)]
          exact Ios i x hx
        · have hi : i < (os ++ [org]).length := (List.getElem?_eq_some_iff.mp hx).1
          rw [List.length_append] at hi
          have hi2 : i < os.length + 1 := hi
          obtain rfl : i = os.length := by omega
          rw [List.getElem?_concat_length] at hx
          cases hx
          rw [b4, Iol, sd_up_eq]
