-- ===== where a good can come to; the two callers' game =====
theorem ac_snoc (mv : Nat → Nat → Nat) (v : List Nat) (f p : Nat) : ac_ mv (v ++ [f]) p = mv f (ac_ mv v p) := by rw [ac_app]; rfl
theorem wok_nil (ok : Nat → Bool) : wok_ ok [] := fun f hf => absurd hf List.not_mem_nil
theorem wok_snoc {ok : Nat → Bool} {v : List Nat} {f : Nat} : wok_ ok (v ++ [f]) ↔ wok_ ok v ∧ f < 6 ∧ ok f = true := by
  constructor
  · intro h
    exact ⟨fun g hg => h g (List.mem_append.mpr (Or.inl hg)), h f (List.mem_append.mpr (Or.inr (List.mem_singleton.mpr rfl)))⟩
  · rintro ⟨h1, h2⟩ g hg
    rcases List.mem_append.mp hg with z | z
    · exact h1 g z
    · rw [List.mem_singleton.mp z]; exact h2
/-- a word to a place can be had with at most eight letters -/
theorem ac_short {mv : Nat → Nat → Nat} {ok : Nat → Bool} (hmv : ∀ f, IsP 8 (mv f)) {p : Nat} (hp : p < 8) : ∀ (k : Nat) (w : List Nat), w.length = k → wok_ ok w → ∃ v, wok_ ok v ∧ v.length ≤ 8 ∧ ac_ mv v p = ac_ mv w p := by
  intro k
  induction k using Nat.strongRecOn with
  | ind k ih =>
    intro w hk hw
    rcases Nat.lt_or_ge 8 w.length with q | q
    · -- two prefixes alike
      have : ∃ i j, i < j ∧ j ≤ 8 ∧ ac_ mv (w.take i) p = ac_ mv (w.take j) p := by
        refine Classical.byContradiction fun z => ?_
        have h := pig_ 8 ((List.range 9).map (fun i => ac_ mv (w.take i) p)) (by
          unfold List.Nodup
          rw [List.pairwise_map]
          refine List.Pairwise.imp_of_mem (R := fun a b => a < b) (fun {a b} ha hb hab e => z ⟨a, b, hab, by have := List.mem_range.mp hb; omega, e⟩) List.pairwise_lt_range) (fun x hx => by
          obtain ⟨j, hj, rfl⟩ := List.mem_map.mp hx
          exact (ac_P hmv _).1 p hp)
        rw [List.length_map, List.length_range] at h
        omega
      obtain ⟨i, j, hij, hj, e⟩ := this
      have hl : (w.take i ++ w.drop j).length < k := by
        rw [List.length_append, List.length_take, List.length_drop]
        omega
      obtain ⟨v, h1, h2, h3⟩ := ih _ hl (w.take i ++ w.drop j) rfl (wok_app (fun f hf => hw f (List.mem_of_mem_take hf)) (fun f hf => hw f (List.mem_of_mem_drop hf)))
      refine ⟨v, h1, h2, ?_⟩
      rw [h3, ac_app, e, ← ac_app, List.take_append_drop]
    · exact ⟨w, hw, q, rfl⟩
/-- the places a good can come to, as bits -/
def SU_ (s : Sg_) (g u : Nat) : Prop := u < 256 ∧ ∀ p, u.testBit p = true ↔ ∃ w, wok_ (may_ s) w ∧ ac_ (mv_ s) w (sg_pos s g) = p
theorem SU_uniq {s : Sg_} {g u v : Nat} (a : SU_ s g u) (b : SU_ s g v) : u = v := Nat.eq_of_testBit_eq fun i => by
  have h := (a.2 i).trans (b.2 i).symm
  cases e : u.testBit i with
  | true => exact (h.mp e).symm
  | false =>
    cases e2 : v.testBit i with
    | false => rfl
    | true => rw [h.mpr e2] at e; cases e
/-- so far: nothing else, and all words of so many letters -/
def SI_ (s : Sg_) (g i u : Nat) : Prop := (∀ p, u.testBit p = true → ∃ w, wok_ (may_ s) w ∧ ac_ (mv_ s) w (sg_pos s g) = p) ∧ ∀ w, wok_ (may_ s) w → w.length ≤ i → u.testBit (ac_ (mv_ s) w (sg_pos s g)) = true
theorem SI_lt {s : Sg_} {g i u : Nat} (w : sg_wf s) (hg : g < sg_n s) (h : SI_ s g i u) : u < 2 ^ sg_n s := bits_lt (fun q hq => by
  obtain ⟨v, h1, h2⟩ := h.1 q hq
  rw [← h2]
  exact (ac_P (mv_P w) v).1 _ (w.2.1.1 g hg))
theorem SI_0 {s : Sg_} {g : Nat} : SI_ s g 0 (2 ^ sg_pos s g) := by
  refine ⟨fun p hp => ?_, fun w _ hl => ?_⟩
  · rw [Nat.testBit_two_pow, decide_eq_true_eq] at hp
    exact ⟨[], wok_nil _, hp⟩
  · have : w = [] := List.length_eq_zero_iff.mp (by omega)
    rw [this, Nat.testBit_two_pow]
    exact decide_eq_true rfl
theorem SI_8 {s : Sg_} {g u : Nat} (w : sg_wf s) (hg : g < sg_n s) (h : SI_ s g 8 u) : SU_ s g u := by
  have n8 := w.1.2
  refine ⟨Nat.lt_of_lt_of_le (SI_lt w hg h) (Nat.pow_le_pow_right (by decide) n8), fun p => ⟨h.1 p, ?_⟩⟩
  rintro ⟨v, h1, rfl⟩
  obtain ⟨v2, h2, h3, h4⟩ := ac_short (ok := may_ s) (mv_P8 w) (sg_pos8 w g (by omega)) _ v rfl h1
  rw [← h4]
  exact h.2 v2 h2 h3
/-- one round more -/
theorem SI_next {s : Sg_} {g i u v : Nat} (h : SI_ s g i u) (hs : ∀ p, v.testBit p = true → ∃ w, wok_ (may_ s) w ∧ ac_ (mv_ s) w (sg_pos s g) = p) (hu : ∀ p, u.testBit p = true → v.testBit p = true) (hn : ∀ f p, f < 6 → may_ s f = true → u.testBit p = true → v.testBit (mv_ s f p) = true) : SI_ s g (i + 1) v := by
  refine ⟨hs, ?_⟩
  refine snoc_ind ?_ ?_
  · intro hw _
    exact hu _ (h.2 [] hw (Nat.zero_le _))
  · intro w f _ hw hl
    rw [List.length_append] at hl
    have hl2 : w.length + 1 ≤ i + 1 := hl
    obtain ⟨h1, h2, h3⟩ := wok_snoc.mp hw
    rw [ac_snoc]
    exact hn f _ h2 h3 (h.2 w h1 (by omega))
theorem SI_step {s : Sg_} {g f p : Nat} (hf : f < 6) (hm : may_ s f = true) (h : ∃ w, wok_ (may_ s) w ∧ ac_ (mv_ s) w (sg_pos s g) = p) : ∃ w, wok_ (may_ s) w ∧ ac_ (mv_ s) w (sg_pos s g) = mv_ s f p := by
  obtain ⟨w, h1, rfl⟩ := h
  exact ⟨w ++ [f], wok_snoc.mpr ⟨h1, hf, hm⟩, ac_snoc _ _ _ _⟩
-- the game
def el_ (s : Sg_) (t f : Nat) : Prop := (sg_ca s t).testBit f = true ∧ may_ s f = true
/-- what a caller can make of a place -/
def nx_ (s : Sg_) (t p q : Nat) : Prop := (∃ f, f < 6 ∧ el_ s t f ∧ mv_ s f p = q) ∨ ((∀ f, f < 6 → ¬ el_ s t f) ∧ q = p)
theorem nx_lt {s : Sg_} {t p q : Nat} (w : sg_wf s) (hp : p < sg_n s) (h : nx_ s t p q) : q < sg_n s := by
  rcases h with ⟨f, _, _, e⟩ | ⟨_, e⟩
  · rw [← e]; exact (mv_P w f).1 p hp
  · rw [e]; exact hp
theorem nx_ex (s : Sg_) (t p : Nat) : ∃ q, nx_ s t p q := by
  by_cases z : ∃ f, f < 6 ∧ el_ s t f
  · obtain ⟨f, h1, h2⟩ := z
    exact ⟨_, Or.inl ⟨f, h1, h2, rfl⟩⟩
  · exact ⟨p, Or.inr ⟨fun f h1 h2 => z ⟨f, h1, h2⟩, rfl⟩⟩
/-- won within c calls, by the one whose turn is t -/
def WN_ (s : Sg_) (a : Nat) : Nat → Nat → Nat → Prop
  | 0, _, p => p = a
  | c + 1, t, p => p = a ∨ (t = 0 ∧ ∃ q, nx_ s 0 p q ∧ WN_ s a c 1 q) ∨ (t = 1 ∧ ∀ q, nx_ s 1 p q → WN_ s a c 0 q)
theorem WN_a (s : Sg_) (a : Nat) : ∀ c t, WN_ s a c t a
  | 0, _ => rfl
  | c + 1, _ => Or.inl rfl
theorem WN_up {s : Sg_} {a : Nat} : ∀ c t p, WN_ s a c t p → WN_ s a (c + 1) t p
  | 0, t, p, h => by rw [show p = a from h]; exact WN_a s a 1 t
  | c + 1, t, p, h => by
    rcases h with h | ⟨h, q, h1, h2⟩ | ⟨h, h1⟩
    · exact Or.inl h
    · exact Or.inr (Or.inl ⟨h, q, h1, WN_up c 1 q h2⟩)
    · exact Or.inr (Or.inr ⟨h, fun q hq => WN_up c 0 q (h1 q hq)⟩)
theorem WN_mono {s : Sg_} {a c t p : Nat} (h : WN_ s a c t p) : ∀ d, c ≤ d → WN_ s a d t p := by
  intro d
  induction d with
  | zero => intro hd; obtain rfl : c = 0 := by omega
            exact h
  | succ d ih =>
    intro hd
    rcases Nat.lt_or_ge d c with q | q
    · obtain rfl : c = d + 1 := by omega
      exact h
    · exact WN_up d t p (ih q)
theorem pig_rel {R : Nat → Nat → Prop} {m N : Nat} (h : ∀ i, i < m → ∃ x, x < N ∧ R i x) (inj : ∀ i j x, R i x → R j x → i = j) : m ≤ N := by
  have hf : ∃ f : Nat → Nat, ∀ i, i < m → f i < N ∧ R i (f i) := by
    refine ⟨fun i => if hi : i < m then Classical.choose (h i hi) else 0, fun i hi => ?_⟩
    dsimp only
    rw [dif_pos hi]
    exact Classical.choose_spec (h i hi)
  obtain ⟨f, hf⟩ := hf
  have := pig_ N ((List.range m).map f) (by
    unfold List.Nodup
    rw [List.pairwise_map]
    refine List.Pairwise.imp_of_mem (R := fun a b => a < b) (fun {a b} ha hb hab e => ?_) List.pairwise_lt_range
    have h1 := (hf a (List.mem_range.mp ha)).2
    have h2 := (hf b (List.mem_range.mp hb)).2
    rw [e] at h1
    have := inj a b _ h1 h2
    omega) (fun x hx => by
    obtain ⟨j, hj, rfl⟩ := List.mem_map.mp hx
    exact (hf j (List.mem_range.mp hj)).1)
  rw [List.length_map, List.length_range] at this
  exact this
/-- just c calls -/
def WL_ (s : Sg_) (a c t p : Nat) : Prop := WN_ s a c t p ∧ ∀ d, d < c → ¬ WN_ s a d t p
theorem WL_ex {s : Sg_} {a c t p : Nat} (h : WN_ s a c t p) : ∃ d, d ≤ c ∧ WL_ s a d t p := by
  obtain ⟨d, h1, h2⟩ := pk_least (fun d => WN_ s a d t p) ⟨c, h⟩
  refine ⟨d, ?_, h1, h2⟩
  rcases Nat.lt_or_ge c d with q | q
  · exact absurd h (h2 c q)
  · exact q
theorem WL_pred {s : Sg_} {a c t p : Nat} (w : sg_wf s) (hp : p < sg_n s) (h : WL_ s a (c + 1) t p) : ∃ t2 p2, t2 < 2 ∧ p2 < sg_n s ∧ WL_ s a c t2 p2 := by
  obtain ⟨h1, h2⟩ := h
  rcases h1 with h | ⟨h, q, hq, hw⟩ | ⟨h, hall⟩
  · exact absurd (show WN_ s a 0 t p from h) (h2 0 (by omega))
  · refine ⟨1, q, by omega, nx_lt w hp hq, hw, fun d hd hd2 => ?_⟩
    exact h2 (d + 1) (by omega) (Or.inr (Or.inl ⟨h, q, hq, hd2⟩))
  · refine Classical.byContradiction fun z => ?_
    have hq : ∀ q, nx_ s 1 p q → ∃ d, d < c ∧ WN_ s a d 0 q := fun q hq => Classical.byContradiction fun y => z ⟨0, q, by omega, nx_lt w hp hq, hall q hq, fun d hd hd2 => y ⟨d, hd, hd2⟩⟩
    cases c with
    | zero =>
      obtain ⟨q, hq2⟩ := nx_ex s 1 p
      obtain ⟨d, hd, _⟩ := hq q hq2
      omega
    | succ c =>
      refine h2 (c + 1) (by omega) (Or.inr (Or.inr ⟨h, fun q hq2 => ?_⟩))
      obtain ⟨d, hd, hd2⟩ := hq q hq2
      exact WN_mono hd2 c (by omega)
theorem WL_all {s : Sg_} {a : Nat} (w : sg_wf s) : ∀ c t p, t < 2 → p < sg_n s → WL_ s a c t p → ∀ i, i ≤ c → ∃ x, x < 16 ∧ WL_ s a i (x % 2) (x / 2) := by
  have n8 := w.1.2
  intro c
  induction c with
  | zero =>
    intro t p ht hp h i hi
    obtain rfl : i = 0 := by omega
    exact ⟨2 * p + t, by omega, by rw [show (2 * p + t) % 2 = t by omega, show (2 * p + t) / 2 = p by omega]; exact h⟩
  | succ c ih =>
    intro t p ht hp h i hi
    rcases Nat.lt_or_ge c i with q | q
    · obtain rfl : i = c + 1 := by omega
      exact ⟨2 * p + t, by omega, by rw [show (2 * p + t) % 2 = t by omega, show (2 * p + t) / 2 = p by omega]; exact h⟩
    · obtain ⟨t2, p2, h1, h2, h3⟩ := WL_pred w hp h
      exact ih t2 p2 h1 h2 h3 i q
/-- what can be won is won within fifteen calls -/
theorem WN_15 {s : Sg_} {a c t p : Nat} (w : sg_wf s) (ht : t < 2) (hp : p < sg_n s) (h : WN_ s a c t p) : WN_ s a 15 t p := by
  obtain ⟨d, hd, hL⟩ := WL_ex h
  have := pig_rel (m := d + 1) (N := 16) (R := fun i x => WL_ s a i (x % 2) (x / 2)) (fun i hi => WL_all w d t p ht hp hL i (by omega)) (fun i j x h1 h2 => by
    rcases Nat.lt_trichotomy i j with q | q | q
    · exact absurd h1.1 (h2.2 i q)
    · exact q
    · exact absurd h2.1 (h1.2 j q))
  exact WN_mono hL.1 15 (by omega)
/-- the answer of forced -/
def FO_ (s : Sg_) (a p : Nat) (o : Option Nat) : Prop := match o with
  | some c => WL_ s a c 0 p
  | none => ∀ c, ¬ WN_ s a c 0 p
theorem FO_uniq {s : Sg_} {a p : Nat} {o o2 : Option Nat} (h : FO_ s a p o) (h2 : FO_ s a p o2) : o = o2 := by
  cases o with
  | none =>
    cases o2 with
    | none => rfl
    | some c => exact absurd h2.1 (h c)
  | some c =>
    cases o2 with
    | none => exact absurd h.1 (h2 c)
    | some d =>
      rcases Nat.lt_trichotomy c d with q | q | q
      · exact absurd h.1 (h2.2 c q)
      · rw [q]
      · exact absurd h2.1 (h.2 d q)
def vo_ (o : Option Nat) : Int32 := match o with
  | some c => nI c
  | none => -6
/-- figures that may be, by numbers -/
def MA_ (s : Sg_) : List Nat := (List.range 6).filter (may_ s)
theorem MA_mem {s : Sg_} {f : Nat} : f ∈ MA_ s ↔ f < 6 ∧ may_ s f = true := by
  unfold MA_
  rw [List.mem_filter, List.mem_range]
theorem MA_len (s : Sg_) : (MA_ s).length ≤ 6 := by
  have := List.length_filter_le (may_ s) (List.range 6)
  rw [List.length_range] at this
  exact this
/-- a night: x, the place, the bits -/
def nt_ (s : Sg_) (seed p : Nat) : Nat → Nat × Nat × Nat
  | 0 => (seed, p, 2 ^ p)
  | k + 1 => if (MA_ s).length = 0 then nt_ s seed p k else ((75 * (nt_ s seed p k).1 + 74) % 65537, mv_ s ((MA_ s).getD ((75 * (nt_ s seed p k).1 + 74) % 65537 % (MA_ s).length) 0) (nt_ s seed p k).2.1, (nt_ s seed p k).2.2 ||| 2 ^ mv_ s ((MA_ s).getD ((75 * (nt_ s seed p k).1 + 74) % 65537 % (MA_ s).length) 0) (nt_ s seed p k).2.1)
