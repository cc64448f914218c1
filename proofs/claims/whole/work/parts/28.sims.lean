-- ===== a table as of Sims: what sifts through it, when it is whole, how many there are =====
abbrev Tb_ : Type := Nat → Nat → Option (Nat → Nat)
/-- k levels are left: the next one is 8 - k -/
def sf_ (T : Tb_) : Nat → (Nat → Nat) → (Nat → Nat)
  | 0, u => u
  | k + 1, u => if u (7 - k) = 7 - k then sf_ T k u else match T (7 - k) (u (7 - k)) with
    | none => u
    | some v => sf_ T k (fun i => in_ v (u i))
def TT_ (T : Tb_) (p : Nat) (t : Nat → Nat) : Prop := t = (fun i => i) ∨ ∃ q, T p q = some t
def SS_ (T : Tb_) : Nat → (Nat → Nat) → Prop
  | 0, u => u = fun i => i
  | k + 1, u => ∃ t v, TT_ T (7 - k) t ∧ SS_ T k v ∧ u = fun i => t (v i)
def Tok_ (T : Tb_) : Prop := ∀ p q t, T p q = some t → (p < q ∧ q < 8) ∧ IsP 8 t ∧ (∀ i, i < p → t i = i) ∧ t p = q
theorem TT_P {T : Tb_} (hT : Tok_ T) {p : Nat} {t : Nat → Nat} (h : TT_ T p t) : IsP 8 t ∧ (∀ i, i < p → t i = i) ∧ (t p = p → t = fun i => i) := by
  rcases h with rfl | ⟨q, hq⟩
  · exact ⟨IsP.id 8, fun i _ => rfl, fun _ => rfl⟩
  · obtain ⟨h1, h2, h3, h4⟩ := hT p q t hq
    exact ⟨h2, h3, fun z => by omega⟩
theorem SS_P {T : Tb_} (hT : Tok_ T) : ∀ k u, k ≤ 8 → SS_ T k u → IsP 8 u ∧ ∀ i, i < 8 - k → u i = i
  | 0, u, _, h => by rw [show u = fun i => i from h]; exact ⟨IsP.id 8, fun i _ => rfl⟩
  | k + 1, u, hk, h => by
    obtain ⟨t, v, ht, hv, rfl⟩ := h
    obtain ⟨h1, h2⟩ := SS_P hT k v (by omega) hv
    obtain ⟨h3, h4, -⟩ := TT_P hT ht
    exact ⟨h1.then h3, fun i hi => by dsimp only; rw [h2 i (by omega), h4 i (by omega)]⟩
theorem SS_id (T : Tb_) : ∀ k, SS_ T k (fun i => i)
  | 0 => rfl
  | k + 1 => ⟨fun i => i, fun i => i, Or.inl rfl, SS_id T k, rfl⟩
theorem SS_up {T : Tb_} {k : Nat} {u : Nat → Nat} (h : SS_ T k u) : ∀ j, SS_ T (k + j) u
  | 0 => h
  | j + 1 => ⟨fun i => i, u, Or.inl rfl, SS_up h j, rfl⟩
theorem SS_entry {T : Tb_} (hT : Tok_ T) {p q : Nat} {a : Nat → Nat} (h : T p q = some a) : SS_ T 8 a := by
  obtain ⟨⟨h1, h2⟩, -⟩ := hT p q a h
  have : SS_ T (7 - p + 1) a := ⟨a, fun i => i, Or.inr ⟨q, by rw [show 7 - (7 - p) = p by omega]; exact h⟩, SS_id T _, rfl⟩
  have := SS_up this p
  rw [show 7 - p + 1 + p = 8 by omega] at this
  exact this
theorem SS_down1 {T : Tb_} (hT : Tok_ T) {k : Nat} {u : Nat → Nat} (hk : k + 1 ≤ 8) (h : SS_ T (k + 1) u) (hf : u (7 - k) = 7 - k) : SS_ T k u := by
  obtain ⟨t, v, ht, hv, rfl⟩ := h
  obtain ⟨h1, h2⟩ := SS_P hT k v (by omega) hv
  obtain ⟨-, -, h5⟩ := TT_P hT ht
  dsimp only at hf
  rw [h2 _ (by omega)] at hf
  rw [h5 hf]
  exact hv
theorem SS_down {T : Tb_} (hT : Tok_ T) {u : Nat → Nat} : ∀ j k, k + j ≤ 8 → SS_ T (k + j) u → (∀ i, i < 8 - k → u i = i) → SS_ T k u
  | 0, k, _, h, _ => h
  | j + 1, k, hk, h, hf => SS_down hT j k (by omega) (SS_down1 hT (k := k + j) (by omega) h (hf _ (by omega))) hf
theorem SS_mono {T T' : Tb_} (hTT : ∀ p q t, T p q = some t → T' p q = some t) : ∀ k u, SS_ T k u → SS_ T' k u
  | 0, u, h => h
  | k + 1, u, h => by
    obtain ⟨t, v, ht, hv, rfl⟩ := h
    refine ⟨t, v, ?_, SS_mono hTT k v hv, rfl⟩
    rcases ht with z | ⟨q, z⟩
    · exact Or.inl z
    · exact Or.inr ⟨q, hTT _ _ _ z⟩
/-- what a sift comes to -/
theorem sf_spec {T : Tb_} (hT : Tok_ T) : ∀ k u, k ≤ 8 → IsP 8 u → (∀ i, i < 8 - k → u i = i) → IsP 8 (sf_ T k u) ∧ (∀ i, i < 8 - k → sf_ T k u i = i) ∧ ((∀ i, sf_ T k u i = i) ∨ ∃ p, p < 8 ∧ (∀ i, i < p → sf_ T k u i = i) ∧ sf_ T k u p ≠ p ∧ T p (sf_ T k u p) = none)
  | 0, u, _, hu, hf => ⟨hu, hf, Or.inl (fun i => by
      rcases Nat.lt_or_ge i 8 with q | q
      · exact hf i q
      · exact hu.2.2 i q)⟩
  | k + 1, u, hk, hu, hf => by
    rw [sf_]
    by_cases h1 : u (7 - k) = 7 - k
    · rw [if_pos h1]
      have hf2 : ∀ i, i < 8 - k → u i = i := fun i hi => by
        rcases Nat.lt_or_ge i (8 - (k + 1)) with q | q
        · exact hf i q
        · rw [show i = 7 - k by omega]; exact h1
      obtain ⟨a1, a2, a3⟩ := sf_spec hT k u (by omega) hu hf2
      exact ⟨a1, fun i hi => a2 i (by omega), a3⟩
    · rw [if_neg h1]
      cases hv : T (7 - k) (u (7 - k)) with
      | none => exact ⟨hu, hf, Or.inr ⟨7 - k, by omega, fun i hi => hf i (by omega), h1, hv⟩⟩
      | some v =>
        dsimp only
        obtain ⟨-, hv2, hv3, hv4⟩ := hT _ _ _ hv
        have hin := in_P hv2
        have hfix : ∀ i, i < 8 - k → in_ v (u i) = i := fun i hi => by
          rcases Nat.lt_or_ge i (7 - k) with q | q
          · rw [hf i (by omega)]
            have := in_left hv2 i
            rw [hv3 i q] at this
            exact this
          · obtain rfl : i = 7 - k := by omega
            rw [← hv4, in_left hv2]
        obtain ⟨a1, a2, a3⟩ := sf_spec hT k (fun i => in_ v (u i)) (by omega) (hu.then hin) hfix
        exact ⟨a1, fun i hi => a2 i (by omega), a3⟩
theorem sf_SS {T : Tb_} (hT : Tok_ T) : ∀ k u, k ≤ 8 → IsP 8 u → (∀ i, i < 8 - k → u i = i) → ((∀ i, sf_ T k u i = i) ↔ SS_ T k u)
  | 0, u, _, hu, hf => ⟨fun h => funext h, fun h i => by rw [show u = fun i => i from h]; rfl⟩
  | k + 1, u, hk, hu, hf => by
    rw [sf_]
    by_cases h1 : u (7 - k) = 7 - k
    · rw [if_pos h1]
      have hf2 : ∀ i, i < 8 - k → u i = i := fun i hi => by
        rcases Nat.lt_or_ge i (8 - (k + 1)) with q | q
        · exact hf i q
        · rw [show i = 7 - k by omega]; exact h1
      rw [sf_SS hT k u (by omega) hu hf2]
      exact ⟨fun h => SS_up h 1, fun h => SS_down1 hT hk h h1⟩
    · rw [if_neg h1]
      cases hv : T (7 - k) (u (7 - k)) with
      | none =>
        refine ⟨fun h => absurd (h _) h1, fun h => ?_⟩
        obtain ⟨t, v, ht, hv3, rfl⟩ := h
        obtain ⟨a1, a2⟩ := SS_P hT k v (by omega) hv3
        dsimp only at h1 hv
        rw [a2 _ (by omega)] at h1 hv
        rcases ht with rfl | ⟨q, z⟩
        · exact absurd rfl h1
        · have := (hT _ _ _ z).2.2.2
          rw [this, z] at hv
          cases hv
      | some v =>
        dsimp only
        obtain ⟨-, hv2, hv3, hv4⟩ := hT _ _ _ hv
        have hin := in_P hv2
        have hfix : ∀ i, i < 8 - k → in_ v (u i) = i := fun i hi => by
          rcases Nat.lt_or_ge i (7 - k) with q | q
          · rw [hf i (by omega)]
            have := in_left hv2 i
            rw [hv3 i q] at this
            exact this
          · obtain rfl : i = 7 - k := by omega
            rw [← hv4, in_left hv2]
        rw [sf_SS hT k (fun i => in_ v (u i)) (by omega) (hu.then hin) hfix]
        refine ⟨fun h => ⟨v, _, Or.inr ⟨_, hv⟩, h, funext fun i => (in_right hv2 (u i)).symm⟩, fun h => ?_⟩
        obtain ⟨t, x, ht, hx, e⟩ := h
        obtain ⟨a1, a2⟩ := SS_P hT k x (by omega) hx
        have hup : u (7 - k) = t (7 - k) := by rw [e]; dsimp only; rw [a2 _ (by omega)]
        have htv : t = v := by
          rcases ht with rfl | ⟨q, z⟩
          · exact absurd hup h1
          · have := (hT _ _ _ z).2.2.2
            rw [hup, this, z] at hv
            exact Option.some.inj hv
        subst htv
        rw [e]
        have : (fun i => in_ t ((fun i => t (x i)) i)) = x := funext fun i => in_left hv2 (x i)
        rw [this]
        exact hx
/-- with the rest of a sift in the table, it sifts -/
theorem sf_add {T T' : Tb_} (hT : Tok_ T) (hT' : Tok_ T') (hTT : ∀ p q t, T p q = some t → T' p q = some t) : ∀ k u, k ≤ 8 → IsP 8 u → (∀ i, i < 8 - k → u i = i) → SS_ T' k (sf_ T k u) → SS_ T' k u
  | 0, u, _, hu, hf, h => h
  | k + 1, u, hk, hu, hf, h => by
    rw [sf_] at h
    by_cases h1 : u (7 - k) = 7 - k
    · rw [if_pos h1] at h
      have hf2 : ∀ i, i < 8 - k → u i = i := fun i hi => by
        rcases Nat.lt_or_ge i (8 - (k + 1)) with q | q
        · exact hf i q
        · rw [show i = 7 - k by omega]; exact h1
      have hr := (sf_spec hT k u (by omega) hu hf2).2.1
      exact SS_up (sf_add hT hT' hTT k u (by omega) hu hf2 (SS_down1 hT' hk h (hr _ (by omega)))) 1
    · rw [if_neg h1] at h
      cases hv : T (7 - k) (u (7 - k)) with
      | none => rw [hv] at h; exact h
      | some v =>
        rw [hv] at h
        dsimp only at h
        obtain ⟨-, hv2, hv3, hv4⟩ := hT _ _ _ hv
        have hin := in_P hv2
        have hfix : ∀ i, i < 8 - k → in_ v (u i) = i := fun i hi => by
          rcases Nat.lt_or_ge i (7 - k) with q | q
          · rw [hf i (by omega)]
            have := in_left hv2 i
            rw [hv3 i q] at this
            exact this
          · obtain rfl : i = 7 - k := by omega
            rw [← hv4, in_left hv2]
        have hr := (sf_spec hT k (fun i => in_ v (u i)) (by omega) (hu.then hin) hfix).2.1
        have := sf_add hT hT' hTT k (fun i => in_ v (u i)) (by omega) (hu.then hin) hfix (SS_down1 hT' hk h (hr _ (by omega)))
        exact ⟨v, _, Or.inr ⟨_, hTT _ _ _ hv⟩, this, funext fun i => (in_right hv2 (u i)).symm⟩
theorem sf_GG {T : Tb_} (hT : Tok_ T) {G : (Nat → Nat) → Prop} (hthen : ∀ u v, G u → G v → G (fun i => v (u i))) (hin : ∀ u, IsP 8 u → G u → G (in_ u)) (he : ∀ p q t, T p q = some t → G t) : ∀ k u, G u → G (sf_ T k u)
  | 0, u, h => h
  | k + 1, u, h => by
    rw [sf_]
    split
    · exact sf_GG hT hthen hin he k u h
    · cases hv : T (7 - k) (u (7 - k)) with
      | none => exact h
      | some v => exact sf_GG hT hthen hin he k _ (hthen _ _ h (hin v (hT _ _ _ hv).2.1 (he _ _ _ hv)))
/-- Sims: when the products of two of the table sift, all products do -/
theorem SS_close {T : Tb_} (hT : Tok_ T) (hp : ∀ p q a p2 q2 b, T p q = some a → T p2 q2 = some b → SS_ T 8 (fun i => b (a i))) : ∀ k, k ≤ 8 → ∀ u w, SS_ T k u → SS_ T k w → SS_ T k (fun i => w (u i))
  | 0, _, u, w, hu, hw => by rw [show w = fun i => i from hw]; exact hu
  | k + 1, hk, u, w, hu, hw => by
    have hC := SS_close hT hp k (by omega)
    have hL : ∀ p q a x, 7 - k ≤ p → T p q = some a → SS_ T (k + 1) x → SS_ T (k + 1) (fun i => a (x i)) := by
      intro p q a x hpk ha hx
      obtain ⟨t, v, ht, hv, rfl⟩ := hx
      obtain ⟨-, aP, aF, -⟩ := hT _ _ _ ha
      obtain ⟨tP, tF, -⟩ := TT_P hT ht
      have h8 : SS_ T 8 (fun i => a (t i)) := by
        rcases ht with rfl | ⟨q2, z⟩
        · exact SS_entry hT ha
        · exact hp _ _ _ _ _ _ z ha
      have h9 : SS_ T (k + 1) (fun i => a (t i)) := by
        refine SS_down hT (8 - (k + 1)) (k + 1) (by omega) ?_ (fun i hi => ?_)
        · rw [show k + 1 + (8 - (k + 1)) = 8 by omega]; exact h8
        · rw [tF i (by omega), aF i (by omega)]
      obtain ⟨t2, y, ht2, hy, e⟩ := h9
      refine ⟨t2, fun i => y (v i), ht2, hC v y hv hy, funext fun i => ?_⟩
      exact congrFun e (v i)
    have hJ : ∀ j, j ≤ k + 1 → ∀ w, SS_ T j w → SS_ T (k + 1) (fun i => w (u i)) := by
      intro j
      induction j with
      | zero => intro _ w hw; rw [show w = fun i => i from hw]; exact hu
      | succ j ih =>
        intro hj w hw
        obtain ⟨t, v, ht, hv, rfl⟩ := hw
        have := ih (by omega) v hv
        rcases ht with rfl | ⟨q, z⟩
        · exact this
        · exact hL _ _ t _ (by omega) z this
    exact hJ (k + 1) (Nat.le_refl _) w hw
theorem SS_sub {T : Tb_} {G : (Nat → Nat) → Prop} (hid : G (fun i => i)) (hthen : ∀ u v, G u → G v → G (fun i => v (u i))) (he : ∀ p q t, T p q = some t → G t) : ∀ k u, SS_ T k u → G u
  | 0, u, h => by rw [show u = fun i => i from h]; exact hid
  | k + 1, u, h => by
    obtain ⟨t, v, ht, hv, rfl⟩ := h
    have h1 := SS_sub hid hthen he k v hv
    rcases ht with rfl | ⟨q, z⟩
    · exact h1
    · exact hthen _ _ h1 (he _ _ _ z)
/-- the table is whole: what sifts is what can be made -/
theorem SS_whole {T : Tb_} (hT : Tok_ T) {mv : Nat → Nat → Nat} {ok : Nat → Bool} (hp : ∀ p q a p2 q2 b, T p q = some a → T p2 q2 = some b → SS_ T 8 (fun i => b (a i))) (he : ∀ p q t, T p q = some t → GG_ mv ok t) (hg : ∀ f, f < 6 → ok f = true → SS_ T 8 (mv f)) (u : Nat → Nat) : SS_ T 8 u ↔ GG_ mv ok u := by
  refine ⟨SS_sub (GG_id mv ok) (fun u v hu hv => GG_then hu hv) he 8 u, ?_⟩
  rintro ⟨w, hw, rfl⟩
  induction w with
  | nil => exact SS_id T 8
  | cons f w ih =>
    have h1 := hw f List.mem_cons_self
    exact SS_close hT hp 8 (Nat.le_refl _) (mv f) (ac_ mv w) (hg f h1.1 h1.2) (ih (fun g hg => hw g (List.mem_cons_of_mem _ hg)))
-- how many there are
def CH_ (T : Tb_) (p : Nat) : List (Nat → Nat) := (fun i => i) :: (List.range' (p + 1) (7 - p)).filterMap (T p)
def LL_ (T : Tb_) : Nat → List (Nat → Nat)
  | 0 => [fun i => i]
  | k + 1 => (CH_ T (7 - k)).flatMap (fun t => (LL_ T k).map (fun v => fun i => t (v i)))
theorem CH_mem {T : Tb_} (hT : Tok_ T) (p : Nat) (t : Nat → Nat) : t ∈ CH_ T p ↔ TT_ T p t := by
  unfold CH_ TT_
  rw [List.mem_cons, List.mem_filterMap]
  refine or_congr Iff.rfl ⟨fun ⟨q, _, h⟩ => ⟨q, h⟩, fun ⟨q, h⟩ => ⟨q, ?_, h⟩⟩
  have := (hT _ _ _ h).1
  rw [List.mem_range'_1]
  omega
theorem LL_mem {T : Tb_} (hT : Tok_ T) : ∀ k u, u ∈ LL_ T k ↔ SS_ T k u
  | 0, u => by unfold LL_ SS_; rw [List.mem_singleton]
  | k + 1, u => by
    unfold LL_ SS_
    rw [List.mem_flatMap]
    constructor
    · rintro ⟨t, ht, hu⟩
      obtain ⟨v, hv, e⟩ := List.mem_map.mp hu
      exact ⟨t, v, (CH_mem hT _ _).mp ht, (LL_mem hT k v).mp hv, e.symm⟩
    · rintro ⟨t, v, ht, hv, e⟩
      exact ⟨t, (CH_mem hT _ _).mpr ht, List.mem_map.mpr ⟨v, (LL_mem hT k v).mpr hv, e.symm⟩⟩
theorem CH_apart {T : Tb_} (hT : Tok_ T) (p : Nat) : (CH_ T p).Pairwise (fun t t2 => t p ≠ t2 p) := by
  unfold CH_
  refine List.pairwise_cons.mpr ⟨fun t ht => ?_, ?_⟩
  · obtain ⟨q, hq, h⟩ := List.mem_filterMap.mp ht
    obtain ⟨⟨h1, -⟩, -, -, h4⟩ := hT _ _ _ h
    rw [h4]
    exact Nat.ne_of_lt h1
  · refine List.pairwise_filterMap.mpr (List.Pairwise.imp ?_ (List.pairwise_lt_range' (s := p + 1) (n := 7 - p) (step := 1)))
    intro a b hab t ht t2 ht2
    rw [(hT _ _ _ ht).2.2.2, (hT _ _ _ ht2).2.2.2]
    exact Nat.ne_of_lt hab
theorem LL_nodup {T : Tb_} (hT : Tok_ T) : ∀ k, k ≤ 8 → (LL_ T k).Nodup
  | 0, _ => List.nodup_cons.mpr ⟨List.not_mem_nil, List.nodup_nil⟩
  | k + 1, hk => by
    unfold LL_
    refine List.pairwise_flatMap.mpr ⟨fun t ht => ?_, ?_⟩
    · have htP := (TT_P hT ((CH_mem hT _ _).mp ht)).1
      refine List.pairwise_map.mpr (List.Pairwise.imp ?_ (LL_nodup hT k (by omega)))
      intro v v2 hne e
      exact hne (funext fun i => htP.inj8 _ _ (congrFun e i))
    · refine List.Pairwise.imp ?_ (CH_apart hT (7 - k))
      intro t t2 hne x hx y hy e
      obtain ⟨v, hv, rfl⟩ := List.mem_map.mp hx
      obtain ⟨v2, hv2, rfl⟩ := List.mem_map.mp hy
      have a1 := (SS_P hT k v (by omega) ((LL_mem hT k v).mp hv)).2 (7 - k) (by omega)
      have a2 := (SS_P hT k v2 (by omega) ((LL_mem hT k v2).mp hv2)).2 (7 - k) (by omega)
      have := congrFun e (7 - k)
      rw [a1, a2] at this
      exact hne this
/-- the choices of the levels ahead of p -/
def pr_ (T : Tb_) : Nat → Nat
  | 0 => 1
  | p + 1 => pr_ T p * (CH_ T p).length
theorem LL_len (T : Tb_) : ∀ k, k ≤ 8 → (LL_ T k).length * pr_ T (8 - k) = pr_ T 8
  | 0, _ => by unfold LL_; rw [List.length_singleton, Nat.one_mul]
  | k + 1, hk => by
    have ih := LL_len T k (by omega)
    have e : 8 - k = 8 - (k + 1) + 1 := by omega
    rw [e] at ih
    have hl : (LL_ T (k + 1)).length = (CH_ T (7 - k)).length * (LL_ T k).length := by
      rw [show LL_ T (k + 1) = (CH_ T (7 - k)).flatMap (fun t => (LL_ T k).map (fun v => fun i => t (v i))) from rfl, List.length_flatMap]
      simp only [List.length_map]
      generalize (LL_ T k).length = m
      induction CH_ T (7 - k) with
      | nil => simp
      | cons a l ih2 => simp only [List.map_cons, List.sum_cons, ih2, List.length_cons]; rw [Nat.succ_mul, Nat.add_comm]
    rw [hl, ← ih]
    show _ = (LL_ T k).length * (pr_ T (8 - (k + 1)) * (CH_ T (8 - (k + 1))).length)
    rw [show 8 - (k + 1) = 7 - k by omega, Nat.mul_comm (pr_ T (7 - k)), ← Nat.mul_assoc, Nat.mul_comm (LL_ T k).length]
theorem LL_len8 (T : Tb_) : (LL_ T 8).length = pr_ T 8 := by
  have := LL_len T 8 (Nat.le_refl _)
  rw [Nat.sub_self, show pr_ T 0 = 1 from rfl, Nat.mul_one] at this
  exact this
