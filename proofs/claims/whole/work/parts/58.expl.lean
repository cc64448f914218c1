-- ===== Orbit: stepBy, explore =====
theorem wq_joinA {A : Type} {d pc : Nat} {tab : Tab_} {sc : Sc_} {L : Lc_} {st : List Value} {h : Hp_} {Q : Option Value → Hp_ → Prop} (P : A → Prop) (pc2 : Nat) (L2 : A → Lc_) (h2 : A → Hp_) (a : ∀ x, P x → wq d tab sc pc2 (L2 x) [] (h2 x) Q) (b : (∀ x, P x → wq d tab sc pc2 (L2 x) [] (h2 x) Q) → wq d tab sc pc L st h Q) : wq d tab sc pc L st h Q := b a
theorem pq_0 (F : Nat → Nat) (k : Nat) : ∀ d, pq_ (fun i => if i < k then F i else 0) (k + d) = pq_ F k
  | 0 => pq_cong k (fun i hi => if_pos hi)
  | d + 1 => by
    show pq_ (fun i => if i < k then F i else 0) (k + d) + (if k + d < k then F (k + d) else 0) * 8 ^ (k + d) = _
    rw [pq_0 F k d, if_neg (by omega), Nat.zero_mul, Nat.add_zero]
theorem pq_cut {F : Nat → Nat} {k n : Nat} (hk : k ≤ n) : pq_ (fun i => if i < k then F i else 0) n = pq_ F k := by
  have := pq_0 F k (n - k)
  rw [show k + (n - k) = n by omega] at this
  exact this
/-- a lying danced on -/
def nx2_ (k : Nat) (mv : Nat → Nat → Nat) (w : Nat → Nat) (f : Nat) : Nat → Nat := fun i => if i < k then mv f (w i) else 0
theorem nx2_Lz {n k : Nat} {mv : Nat → Nat → Nat} {w : Nat → Nat} {f : Nat} (hm : IsP n (mv f)) (W : Lz_ n k w) : Lz_ n k (nx2_ k mv w f) := by
  refine ⟨⟨fun i hi => ?_, fun i j hi hj e => ?_⟩, fun i hi => if_neg (by omega)⟩
  · unfold nx2_
    rw [if_pos hi]
    exact hm.1 _ (W.1.1 i hi)
  · unfold nx2_ at e
    rw [if_pos hi, if_pos hj] at e
    exact W.1.2 i j hi hj (hm.2.1 _ _ (W.1.1 i hi) (W.1.1 j hj) e)
theorem Orbit_stepNo_ok {h : Hp_} {o i org : Nat} : cI 5 mn_Orbit_stepBy [.ref o, .int (-1), .int (nI i), .int (nI org)] h (fun x h' => x = -1 ∧ h' = h) := by
  refine cq_in (q := mi_Orbit_stepBy) (L := [some (.ref o), some (.int (-1)), some (.int (nI i)), some (.int (nI org))]) rfl (Nat.le_of_ble_eq_true rfl) rfl ?_
  show wq _ tb_Orbit_stepBy none 0 _ _ _ _
  refine wp_iload1 rfl ?_
  refine wp_iconst rfl ?_
  refine wp_icmp_ne rfl (fun z => absurd z (fun z => z rfl)) (fun _ => ?_)
  refine wp_iconst rfl ?_
  exact wp_iret rfl ⟨_, rfl, rfl, rfl⟩
theorem Orbit_stepBy_ok {h : Hp_} {o a b c e n k i org f : Nat} {w : Nat → Nat} {mv : Nat → Nat → Nat} {ws : List (Nat → Nat)} {os : List Nat} (S : S_Orbit h o a b c e) (I : OI_ h o a b c n k ws os) (hn3 : 1 ≤ n) (hn : n ≤ 8) (hk : k ≤ n) (hm : IsP n (mv f)) (hw : ws[i]? = some w) : cI 5 mn_Orbit_stepBy [.ref o, .int (nI (pq_ (mv f) 8)), .int (nI i), .int (nI org)] h (fun x h' => ∃ j ws' os', x = nI j ∧ ws'[j]? = some (nx2_ k mv w f) ∧ OI_ h' o a b c n k ws' os' ∧ ((nx2_ k mv w f ∈ ws ∧ ws' = ws ∧ os' = os) ∨ (¬ nx2_ k mv w f ∈ ws ∧ j = ws.length ∧ ws' = ws ++ [nx2_ k mv w f] ∧ os' = os ++ [org])) ∧ fr_ (oc_ o a b c) h h' ∧ hp_I h' o 0 = hp_I h o 0) := by
  have ⟨I1, I2, I3, ⟨Ia, Ib, Ic⟩, Ind, IL, Iat, Ino, Iol, Ios⟩ := I
  have W := IL w (List.mem_of_getElem? hw)
  have W8 := Lz_8 hn hn3 W
  have m8 := hm.lt8 hn
  have hil := (List.getElem?_eq_some_iff.mp hw).1
  have hcnt := Lz_count Ind IL
  have hp24 := pq_lt24 m8
  refine cq_in (q := mi_Orbit_stepBy) (L := [some (.ref o), some (.int (nI (pq_ (mv f) 8))), some (.int (nI i)), some (.int (nI org))]) rfl (Nat.le_of_ble_eq_true rfl) rfl ?_
  show wq _ tb_Orbit_stepBy none 0 _ _ _ _
  refine wp_iload1 rfl ?_
  refine wp_iconst rfl ?_
  refine wp_icmp_ne rfl (fun _ => ?_) (fun z => absurd z (fun z => z (nI_ne_m1 (by omega))))
  refine wp_aload0 rfl ?_
  refine wp_aload0 rfl ?_
  refine wp_iload2 rfl ?_
  refine wp_callV1I rfl (Nat.le_of_ble_eq_true rfl) (Orbit_kd S) (Orbit_lying_ok S (by omega) (Iat i w hw).1) (Nat.le_of_ble_eq_true rfl) ?_
  refine pure_ ?_
  refine wp_iload1 rfl ?_
  refine wp_aload0 rfl ?_
  refine wp_getIE rfl (Orbit_kd S) (show _ = nI k from I2) ?_
  refine wp_callS3I rfl (Nat.le_of_ble_eq_true rfl) (Maps_thenOf_ok W8 m8 (by omega)) (Nat.le_of_ble_eq_true rfl) ?_
  refine pure_ ?_
  rw [show pq_ (fun p => mv f (w p)) k = pq_ (nx2_ k mv w f) 8 from (pq_cut (by omega)).symm]
  refine wp_iload3 rfl ?_
  refine wp_callV2I rfl (Nat.le_of_ble_eq_true rfl) (Orbit_kd S) (Orbit_meet_ok S I hn3 hn hk (nx2_Lz hm W)) (Nat.le_of_ble_eq_true rfl) ?_
  intro x h1 hx
  exact wp_iret rfl ⟨_, rfl, hx⟩
/-- a goal, or none -/
def gv_ (g : Option (Nat → Nat)) : Int32 := match g with
  | none => -1
  | some w => nI (pq_ w 8)
def NG_ (ws : List (Nat → Nat)) (g : Option (Nat → Nat)) (x : Int32) : Prop := match g with
  | none => x = -1
  | some w => NW_ ws w x
theorem NG_neg {ws : List (Nat → Nat)} {g : Option (Nat → Nat)} {x y : Int32} (hl : ws.length < 2 ^ 31) (hx : NG_ ws g x) (hy : NG_ ws g y) (e : y = -1) : x = -1 := by
  cases g with
  | none => exact hx
  | some w =>
    rcases hx with ⟨j, hj, ej⟩ | ⟨_, ej⟩
    · rcases hy with ⟨j2, hj2, ej2⟩ | ⟨hn, _⟩
      · have := (List.getElem?_eq_some_iff.mp hj2).1
        rw [ej2] at e
        exact absurd e (nI_ne_m1 (by omega))
      · exact absurd (List.mem_of_getElem? hj) hn
    · exact ej
theorem Orbit_numberOfG_ok {h : Hp_} {o a b c e n k : Nat} {g : Option (Nat → Nat)} {ws : List (Nat → Nat)} {os : List Nat} (S : S_Orbit h o a b c e) (I : OI_ h o a b c n k ws os) (hn3 : 1 ≤ n) (hn : n ≤ 8) (hk : k ≤ n) (W : ∀ w, g = some w → Lz_ n k w) : cI 4 mn_Orbit_numberOf [.ref o, .int (gv_ g)] h (fun x h' => NG_ ws g x ∧ h' = h) := by
  cases g with
  | none => exact Orbit_numberOfNo_ok S
  | some w => exact Orbit_numberOf_ok S I hn3 hn hk (W w rfl)
/-- the steps that have been kept -/
def SP_ (h : Hp_) (e k : Nat) (mv : Nat → Nat → Nat) (ok : Nat → Bool) (q : Bq_ (Nat → Nat)) (t : Nat) : Prop := ∀ (i f : Nat) (x : (Nat → Nat) × Nat × List Nat), 6 * i + f < t → f < 6 → q[i]? = some x → if ok f = true then ∃ j : Nat, (q.map (·.1))[j]? = some (nx2_ k mv x.1 f) ∧ hp_I h e (6 * i + f) = nI j else hp_I h e (6 * i + f) = -1
theorem SP_next {h h1 : Hp_} {e k i f : Nat} {mv : Nat → Nat → Nat} {ok : Nat → Bool} {q q2 : Bq_ (Nat → Nat)} {x0 : (Nat → Nat) × Nat × List Nat} {v : Int32} (S : SP_ h e k mv ok q (6 * i + f)) (hf : f < 6) (hx0 : q[i]? = some x0) (hq : ∃ l, q2 = q ++ l) (he : hp_I h1 e = va_up (hp_I h e) (6 * i + f) v) (hv : if ok f = true then ∃ j : Nat, (q2.map (·.1))[j]? = some (nx2_ k mv x0.1 f) ∧ v = nI j else v = -1) : SP_ h1 e k mv ok q2 (6 * i + f + 1) := by
  obtain ⟨l, rfl⟩ := hq
  intro i2 f2 x hlt hf2 hx
  have hil := (List.getElem?_eq_some_iff.mp hx0).1
  have hi2 : i2 < q.length := by omega
  rw [List.getElem?_append_left hi2] at hx
  rw [he, vu_at]
  by_cases z : 6 * i2 + f2 = 6 * i + f
  · obtain rfl : i2 = i := by omega
    obtain rfl : f2 = f := by omega
    rw [hx0] at hx
    cases hx
    rw [if_pos rfl]
    exact hv
  · rw [if_neg z]
    have := S i2 f2 x (by omega) hf2 hx
    by_cases y : ok f2 = true
    · rw [if_pos y] at this ⊢
      obtain ⟨j, h1, h2⟩ := this
      refine ⟨j, ?_, h2⟩
      rw [List.map_append, List.getElem?_append_left (List.getElem?_eq_some_iff.mp h1).1]
      exact h1
    · rw [if_neg y] at this ⊢
      exact this
/-- an orbit's rows hold what is met in t tries -/
def EX_ (h : Hp_) (o a b c e n k : Nat) (mv : Nat → Nat → Nat) (ok : Nat → Bool) (kp : Bool) (w0 : Nat → Nat) (t : Nat) : Prop := OI_ h o a b c n k ((bf_ (nx2_ k mv) ok w0 t).map (·.1)) ((bf_ (nx2_ k mv) ok w0 t).map (fun x => x.2.1)) ∧ (kp = true → SP_ h e k mv ok (bf_ (nx2_ k mv) ok w0 t) t)
def oc5_ (o a b c e q : Nat) : Prop := q = o ∨ q = a ∨ q = b ∨ q = c ∨ q = e
theorem oc5_back {h : Hp_} {o a b c e a2 b2 c2 e2 q : Nat} (hq : q ≤ hp_nx h) (w1 : nw2_ h a a2) (w2 : nw2_ h b b2) (w3 : nw2_ h c c2) (w4 : nw2_ h e e2) (y : oc5_ o a2 b2 c2 e2 q) : oc5_ o a b c e q := by
  rcases y with y | y | y | y | y
  · exact Or.inl y
  · rcases w1 with z | z
    · exact Or.inr (Or.inl (by omega))
    · omega
  · rcases w2 with z | z
    · exact Or.inr (Or.inr (Or.inl (by omega)))
    · omega
  · rcases w3 with z | z
    · exact Or.inr (Or.inr (Or.inr (Or.inl (by omega))))
    · omega
  · rcases w4 with z | z
    · exact Or.inr (Or.inr (Or.inr (Or.inr (by omega))))
    · omega
theorem OI_rI {h : Hp_} {o a b c e n k : Nat} {ws : List (Nat → Nat)} {os : List Nat} {r : Nat → Int32} (ho : o ≠ e) (ha : a ≠ e) (hb : b ≠ e) (hc : c ≠ e) (I : OI_ h o a b c n k ws os) : OI_ (hp_rI h e r) o a b c n k ws os := by
  unfold OI_ at I ⊢
  rw [sd_rI_ne ho, sd_rI_ne ha, sd_rI_ne hb, sd_rI_ne hc]
  exact I
theorem S_Orbit_fz {P : Nat → Prop} {h h' : Hp_} {o a b c e : Nat} (z : fz_ P h h') (S : S_Orbit h o a b c e) : S_Orbit h' o a b c e := by
  unfold S_Orbit at S ⊢
  rw [fz_kd z, fz_ln z, fz_R z]
  exact S
set_option maxRecDepth 4000 in
set_option maxHeartbeats 4000000 in
theorem Orbit_explore_ok {h : Hp_} {o a b c e n k M : Nat} {kp : Bool} {w0 : Nat → Nat} {g : Option (Nat → Nat)} {mv : Nat → Nat → Nat} {ok : Nat → Bool} (S : S_Orbit h o a b c e) (N : on_ h o a b c e) (hn3 : 3 ≤ n) (hn : n ≤ 8) (hk : k ≤ n) (hkp : hp_I h o 0 = bo_ kp) (W0 : Lz_ n k w0) (Wg : ∀ w, g = some w → Lz_ n k w) (hM : hp_kd h M = 1 ∧ hp_ln h M = 6 ∧ M ≠ 0 ∧ M ≤ hp_nx h ∧ ¬ oc5_ o a b c e M) (hrow : ∀ f, f < 6 → hp_I h M f = if ok f then nI (pq_ (mv f) 8) else -1) (hmv : ∀ f, IsP n (mv f)) : cI 8 mn_Orbit_explore [.ref o, .int (nI n), .int (nI k), .int (nI (pq_ w0 8)), .int (gv_ g), .ref M] h (fun x h' => ∃ a2 b2 c2 e2 t, S_Orbit h' o a2 b2 c2 e2 ∧ on_ h' o a2 b2 c2 e2 ∧ EX_ h' o a2 b2 c2 e2 n k mv ok kp w0 t ∧ (kp = true → 6 * ce_ n k ≤ hp_ln h' e2) ∧ NG_ ((bf_ (nx2_ k mv) ok w0 t).map (·.1)) g x ∧ (x = -1 → 6 * (bf_ (nx2_ k mv) ok w0 t).length ≤ t) ∧ hp_I h' o 0 = bo_ kp ∧ ag_ (oc5_ o a b c e) h h' ∧ (nw2_ h a a2 ∧ nw2_ h b b2 ∧ nw2_ h c c2 ∧ nw2_ h e e2) ∧ hp_nx h' ≤ hp_nx h + 4 ∧ hp_sl h' + oc2_ h a b c e ≤ hp_sl h + oc2_ h' a2 b2 c2 e2 ∧ (hp_ln h' a2 ≤ max (hp_ln h a) (ce_ n k) ∧ hp_ln h' b2 ≤ max (hp_ln h b) (ce_ n k) ∧ hp_ln h' c2 ≤ max (hp_ln h c) (ce_ n k) ∧ hp_ln h' e2 ≤ max (hp_ln h e) (6 * ce_ n k))) := by
  have hce := ce_le hn k
  obtain ⟨M1, M2, M3, M4, M5⟩ := hM
  refine cq_in (q := mi_Orbit_explore) (L := [some (.ref o), some (.int (nI n)), some (.int (nI k)), some (.int (nI (pq_ w0 8))), some (.int (gv_ g)), some (.ref M), none, none, none]) rfl (Nat.le_of_ble_eq_true rfl) rfl ?_
  show wq _ tb_Orbit_explore none 0 _ _ _ _
  refine wp_aload0 rfl ?_
  refine wp_iload1 rfl ?_
  refine wp_iload2 rfl ?_
  refine wp_callV2V rfl (Nat.le_of_ble_eq_true rfl) (Orbit_kd S) (Orbit_clear_ok S N hn3 hn hk hkp) (Nat.le_of_ble_eq_true rfl) ?_
  rintro h1 ⟨a2, b2, c2, e2, S1, N1, OI1, K1, kp1, A1, ⟨w1, w2, w3, w4⟩, nx1, sl1, ln1⟩
  refine wp_aload0 rfl ?_
  refine wp_iload3 rfl ?_
  refine wp_iconst rfl ?_
  refine wp_callV2I rfl (Nat.le_of_ble_eq_true rfl) (Orbit_kd S1) (Orbit_meet_ok (org := 0) S1 OI1 (by omega) hn hk W0) (Nat.le_of_ble_eq_true rfl) ?_
  rintro x1 h2 ⟨j, ws', os', rfl, hj, OI2, hcase, f2, kk2⟩
  have hws : ws' = [w0] ∧ os' = [0] := by
    rcases hcase with ⟨y, _⟩ | ⟨_, _, y1, y2⟩
    · exact absurd y List.not_mem_nil
    · exact ⟨y1, y2⟩
  obtain ⟨rfl, rfl⟩ := hws
  have hq0 : bf_ (nx2_ k mv) ok w0 0 = [(w0, 0, [])] := rfl
  have z2 : fz_ (oc5_ o a2 b2 c2 e2) h1 h2 := fz_fr (fr_mono (fun q hq => (by rcases hq with y | y | y | y; exact Or.inl y; exact Or.inr (Or.inl y); exact Or.inr (Or.inr (Or.inl y)); exact Or.inr (Or.inr (Or.inr (Or.inl y))) : oc5_ o a2 b2 c2 e2 q)) f2)
  have E2 : EX_ h2 o a2 b2 c2 e2 n k mv ok kp w0 0 := ⟨by rw [hq0]; exact OI2, fun _ i f x hlt => absurd hlt (Nat.not_lt_zero _)⟩
  have hM2 : ¬ oc5_ o a2 b2 c2 e2 M := fun y => M5 (oc5_back M4 w1 w2 w3 w4 y)
  have M1' : hp_kd h1 M = 1 := (A1.2.2 M M4).1.trans M1
  have M2' : hp_ln h1 M = 6 := (A1.2.2 M M4).2.1.trans M2
  have hrow1 : ∀ f, f < 6 → hp_I h1 M f = if ok f then nI (pq_ (mv f) 8) else -1 := fun f hf => by
    rw [((A1.2.2 M M4).2.2 (by unfold oc5_ at M5; omega)).1]
    exact hrow f hf
  have fin : ∀ (h3 : Hp_) (t : Nat) (x : Int32), fz_ (oc5_ o a2 b2 c2 e2) h1 h3 → EX_ h3 o a2 b2 c2 e2 n k mv ok kp w0 t → hp_I h3 o 0 = bo_ kp → NG_ ((bf_ (nx2_ k mv) ok w0 t).map (·.1)) g x → (x = -1 → 6 * (bf_ (nx2_ k mv) ok w0 t).length ≤ t) → (∃ a2 b2 c2 e2 t, S_Orbit h3 o a2 b2 c2 e2 ∧ on_ h3 o a2 b2 c2 e2 ∧ EX_ h3 o a2 b2 c2 e2 n k mv ok kp w0 t ∧ (kp = true → 6 * ce_ n k ≤ hp_ln h3 e2) ∧ NG_ ((bf_ (nx2_ k mv) ok w0 t).map (·.1)) g x ∧ (x = -1 → 6 * (bf_ (nx2_ k mv) ok w0 t).length ≤ t) ∧ hp_I h3 o 0 = bo_ kp ∧ ag_ (oc5_ o a b c e) h h3 ∧ (nw2_ h a a2 ∧ nw2_ h b b2 ∧ nw2_ h c c2 ∧ nw2_ h e e2) ∧ hp_nx h3 ≤ hp_nx h + 4 ∧ hp_sl h3 + oc2_ h a b c e ≤ hp_sl h + oc2_ h3 a2 b2 c2 e2 ∧ (hp_ln h3 a2 ≤ max (hp_ln h a) (ce_ n k) ∧ hp_ln h3 b2 ≤ max (hp_ln h b) (ce_ n k) ∧ hp_ln h3 c2 ≤ max (hp_ln h c) (ce_ n k) ∧ hp_ln h3 e2 ≤ max (hp_ln h e) (6 * ce_ n k))) := by
    intro h3 t x z3 E3 k3 n3 m3
    have el := fz_ln z3
    refine ⟨a2, b2, c2, e2, t, ?_, ?_, E3, by rw [el]; exact K1, n3, m3, k3, ag_trans (ag_mono (fun q _ y => (y.elim Or.inl (fun z => Or.inr (Or.inr (Or.inr (Or.inl z)))) : oc5_ o a b c e q)) A1) (ag_fz z3) (fun q hq y => oc5_back hq w1 w2 w3 w4 y), ⟨w1, w2, w3, w4⟩, by rw [z3.1.1]; exact nx1, ?_, by rw [el]; exact ln1⟩
    · exact S_Orbit_fz z3 S1
    · unfold on_ at N1 ⊢
      rw [z3.1.1]
      exact N1
    · unfold oc2_ at sl1 ⊢
      rw [z3.1.2.1, el]
      exact sl1
  have k2 : hp_I h2 o 0 = bo_ kp := kk2.trans kp1
  refine wp_popI rfl ?_
  refine wp_iconst rfl ?_
  refine wp_istore6 rfl rfl ?_
  refine wq_while (X := Option Value × Option Value) (fun i x => [some (.ref o), some (.int (nI n)), some (.int (nI k)), some (.int (nI (pq_ w0 8))), some (.int (gv_ g)), some (.ref M), some (.int (nI i)), x.1, x.2]) (fun i x h3 => fz_ (oc5_ o a2 b2 c2 e2) h1 h3 ∧ EX_ h3 o a2 b2 c2 e2 n k mv ok kp w0 (6 * i) ∧ hp_I h3 o 0 = bo_ kp ∧ i ≤ (bf_ (nx2_ k mv) ok w0 (6 * i)).length) (40321) (0) ((none, none)) ?_ ?_ ?_
  · exact ⟨z2, E2, k2, Nat.zero_le _⟩
  · rintro i x h3 ⟨_, E3, _, h5⟩
    have := Lz_count E3.1.2.2.2.2.1 E3.1.2.2.2.2.2.1
    rw [List.length_map] at this
    omega
  · intro i x h3 J go
    show wq _ tb_Orbit_explore _ 16 [some (.ref o), some (.int (nI n)), some (.int (nI k)), some (.int (nI (pq_ w0 8))), some (.int (gv_ g)), some (.ref M), some (.int (nI i)), x.1, x.2] [] h3 _
    obtain ⟨z3, E3, k3, i3⟩ := J
    have S3 := S_Orbit_fz z3 S1
    have OI3 := E3.1
    have hcnt := Lz_count OI3.2.2.2.2.1 OI3.2.2.2.2.2.1
    rw [List.length_map] at hcnt
    have hlen : hp_I h3 o 3 = nI (bf_ (nx2_ k mv) ok w0 (6 * i)).length := by rw [OI3.2.2.1, List.length_map]
    have hla := OI3.2.2.2.1.1
    have hl3 := S3.2.2.2.2.2.2
    have ⟨ha0, hb0, hc0, he0⟩ := S3.2.2.2.1
    have ⟨d1, d2, d3, d4, d5, d6⟩ := S3.2.2.2.2.1
    have ⟨q1, q2, q3, q4⟩ := S3.2.2.2.2.2.1
    refine wq_joinA (A := Unit) (fun _ => 6 * (bf_ (nx2_ k mv) ok w0 (6 * i)).length ≤ 6 * i ∨ ∃ y, NG_ ((bf_ (nx2_ k mv) ok w0 (6 * i)).map (·.1)) g y ∧ y ≠ -1) 114 (fun _ => [some (.ref o), some (.int (nI n)), some (.int (nI k)), some (.int (nI (pq_ w0 8))), some (.int (gv_ g)), some (.ref M), some (.int (nI i)), x.1, x.2]) (fun _ => h3) (fun _ hP => ?_) (fun tail => ?_)
    · show wq _ tb_Orbit_explore _ 114 [some (.ref o), some (.int (nI n)), some (.int (nI k)), some (.int (nI (pq_ w0 8))), some (.int (gv_ g)), some (.ref M), some (.int (nI i)), x.1, x.2] [] h3 _
      refine wp_aload0 rfl ?_
      refine wp_iload4 rfl ?_
      refine wp_callV1I rfl (Nat.le_of_ble_eq_true rfl) (Orbit_kd S3) (Orbit_numberOfG_ok S3 OI3 (by omega) hn hk Wg) (Nat.le_of_ble_eq_true rfl) ?_
      rintro y h4 ⟨hy, rfl⟩
      exact wp_iret rfl ⟨_, rfl, fin h4 (6 * i) y z3 E3 k3 hy (fun e => by
        rcases hP with z | ⟨y2, hy2, hne⟩
        · exact z
        · exact absurd (NG_neg (by rw [List.length_map]; omega) hy2 hy e) hne)⟩
    · skip
      refine wp_iload6 rfl ?_
      refine wp_aload0 rfl ?_
      refine wp_getR rfl (Orbit_kd S3) (Orbit_R4 S3) (by first | decide | omega) ?_
      refine wp_alenE rfl (by first | decide | omega) (Or.inl (Orbit_k4 S3)) (Orbit_n4 S3) ?_
      refine wp_icmp_geN i (hp_ln h3 a2) (by omega) (by omega) rfl (fun u1 => ?_) (fun u1 => ?_)
      · exact tail () (Or.inl (by omega))
      · skip
        refine wp_iload6 rfl ?_
        refine wp_aload0 rfl ?_
        refine wp_getIE rfl (Orbit_kd S3) (show _ = nI ((bf_ (nx2_ k mv) ok w0 (6 * i)).length) from hlen) ?_
        refine wp_icmp_geN i ((bf_ (nx2_ k mv) ok w0 (6 * i)).length) (by omega) (by omega) rfl (fun u2 => ?_) (fun u2 => ?_)
        · exact tail () (Or.inl (by omega))
        · skip
          refine wp_aload0 rfl ?_
          refine wp_iload4 rfl ?_
          refine wp_callV1I rfl (Nat.le_of_ble_eq_true rfl) (Orbit_kd S3) (Orbit_numberOfG_ok S3 OI3 (by omega) hn hk Wg) (Nat.le_of_ble_eq_true rfl) ?_
          rintro y h3' ⟨hy, e3⟩
          subst e3
          refine wp_iconst rfl ?_
          refine wp_icmp_ne rfl (fun u3 => ?_) (fun u3 => ?_)
          · exact tail () (Or.inr ⟨y, hy, u3⟩)
          · skip
            obtain ⟨w, hw⟩ : ∃ w, (bf_ (nx2_ k mv) ok w0 (6 * i))[i]? = some w := ⟨_, List.getElem?_eq_getElem u2⟩
            have goS := go
            refine wp_iconst rfl ?_
            refine wp_istore7 rfl rfl ?_
            refine wq_loop (X := Option Value) (fun f x => [some (.ref o), some (.int (nI n)), some (.int (nI k)), some (.int (nI (pq_ w0 8))), some (.int (gv_ g)), some (.ref M), some (.int (nI i)), some (.int (nI f)), x]) (fun f x h4 => fz_ (oc5_ o a2 b2 c2 e2) h1 h4 ∧ EX_ h4 o a2 b2 c2 e2 n k mv ok kp w0 (6 * i + f) ∧ hp_I h4 o 0 = bo_ kp) (6) (0) (x.2) ?_ ?_ ?_ ?_
            · omega
            · exact ⟨z3, E3, k3⟩
            · intro f x h4 hi K go
              show wq _ tb_Orbit_explore _ 48 [some (.ref o), some (.int (nI n)), some (.int (nI k)), some (.int (nI (pq_ w0 8))), some (.int (gv_ g)), some (.ref M), some (.int (nI i)), some (.int (nI f)), x] [] h4 _
              obtain ⟨z4, E4, k4⟩ := K
              have hf6 : f < 6 := by assumption
              have S4 := S_Orbit_fz z4 S1
              have OI4 := E4.1
              have hwf : (bf_ (nx2_ k mv) ok w0 (6 * i + f))[i]? = some w := bf_get (6 * i) f i w hw
              have hwf6 : (bf_ (nx2_ k mv) ok w0 (6 * i + f))[(6 * i + f) / 6]? = some w := by rw [show (6 * i + f) / 6 = i by omega]; exact hwf
              have hmod : (6 * i + f) % 6 = f := by omega
              have hcnt4 := Lz_count OI4.2.2.2.2.1 OI4.2.2.2.2.2.1
              rw [List.length_map] at hcnt4
              have hil4 := (List.getElem?_eq_some_iff.mp hwf).1
              have hrow4 : hp_I h4 M f = if ok f then nI (pq_ (mv f) 8) else -1 := by rw [fz_I z4 hM2]; exact hrow1 f hf6
              have kM : hp_kd h4 M = 1 := by rw [fz_kd z4]; exact M1'
              have lM : hp_ln h4 M = 6 := by rw [fz_ln z4]; exact M2'
              refine wq_joinA (A := Int32 × Hp_) (fun y => fz_ (oc5_ o a2 b2 c2 e2) h1 y.2 ∧ OI_ y.2 o a2 b2 c2 n k ((bf_ (nx2_ k mv) ok w0 (6 * i + f + 1)).map (·.1)) ((bf_ (nx2_ k mv) ok w0 (6 * i + f + 1)).map (fun x => x.2.1)) ∧ hp_I y.2 o 0 = bo_ kp ∧ hp_I y.2 e2 = hp_I h4 e2 ∧ (∃ l, bf_ (nx2_ k mv) ok w0 (6 * i + f + 1) = bf_ (nx2_ k mv) ok w0 (6 * i + f) ++ l) ∧ if ok f = true then ∃ j : Nat, ((bf_ (nx2_ k mv) ok w0 (6 * i + f + 1)).map (·.1))[j]? = some (nx2_ k mv w.1 f) ∧ y.1 = nI j else y.1 = -1) 78 (fun y => [some (.ref o), some (.int (nI n)), some (.int (nI k)), some (.int (nI (pq_ w0 8))), some (.int (gv_ g)), some (.ref M), some (.int (nI i)), some (.int (nI f)), some (.int y.1)]) (fun y => y.2) (fun y hP => ?_) (fun tail => ?_)
              · obtain ⟨v, h5⟩ := y
                obtain ⟨z5, OI5, k5, e5, l5, v5⟩ := hP
                dsimp only at z5 OI5 k5 e5 l5 v5
                have S5 := S_Orbit_fz z5 S1
                have ⟨x0, x1, x2, x3⟩ := S5.2.2.2.1
                have hle5 := S5.2.2.2.2.2.2.2.2.2
                have lne : hp_ln h5 e2 = hp_ln h1 e2 := by rw [fz_ln z5]
                show wq _ tb_Orbit_explore _ 78 [some (.ref o), some (.int (nI n)), some (.int (nI k)), some (.int (nI (pq_ w0 8))), some (.int (gv_ g)), some (.ref M), some (.int (nI i)), some (.int (nI f)), some (.int v)] [] h5 _
                refine wp_aload0 rfl ?_
                refine wp_getZE rfl (Orbit_kd S5) (show _ = bo_ kp from k5) ?_
                refine wp_if_eqB rfl (fun u5 => ?_) (fun u5 => ?_)
                · skip
                  refine wp_iinc7N rfl rfl ?_
                  refine wp_goto rfl ?_
                  exact go _ _ ⟨z5, ⟨OI5, fun y => (by rw [u5] at y; cases y)⟩, k5⟩
                · skip
                  refine wp_aload0 rfl ?_
                  refine wp_getR rfl (Orbit_kd S5) (Orbit_R7 S5) (by first | decide | omega) ?_
                  refine wp_bipush rfl ?_
                  refine wp_iload6 rfl ?_
                  refine wp_imulE (nI (6 * i)) (pk_mul _ _) rfl ?_
                  refine wp_iload7 rfl ?_
                  refine wp_iaddE (nI ((6 * i) + f)) (nI_add _ _) rfl ?_
                  refine wp_iload8 rfl ?_
                  have hK := K1 u5
                  refine wp_callS3V rfl (Nat.le_of_ble_eq_true rfl) (Cells_putN_ok (Orbit_k7 S5) x3 rfl (show 6 * i + f < hp_ln h5 e2 by omega) (by omega)) (Nat.le_of_ble_eq_true rfl) ?_
                  rintro h6 e6
                  refine wp_iinc7N rfl rfl ?_
                  refine wp_goto rfl ?_
                  refine go (some (.int v)) _ ⟨?_, ⟨?_, fun _ => ?_⟩, ?_⟩
                  · rw [e6]; exact fz_rI (P := oc5_ o a2 b2 c2 e2) z5 (Or.inr (Or.inr (Or.inr (Or.inr rfl)))) _
                  · rw [e6]; exact OI_rI q4 d3 d5 d6 OI5
                  · exact SP_next (E4.2 u5) hf6 hwf l5 (by rw [e6, sd_rI_eq, e5]) v5
                  · rw [e6, sd_rI_ne q4]; exact k5
              · skip
                refine wp_iload7 rfl ?_
                refine wp_bipush rfl ?_
                refine wp_icmp_geN f 6 (by omega) (by omega) rfl (fun z => absurd z (by omega)) (fun _ => ?_)
                refine wp_aload0 rfl ?_
                refine wp_aload5 rfl ?_
                refine wp_iload7 rfl ?_
                cases hok : ok f with
                | false =>
                  rw [hok, if_neg Bool.false_ne_true] at hrow4
                  have hq : bf_ (nx2_ k mv) ok w0 (6 * i + f + 1) = bf_ (nx2_ k mv) ok w0 (6 * i + f) := by
                    rcases bs_cases (st := nx2_ k mv) (ok := ok) (6 * i + f) (bf_ (nx2_ k mv) ok w0 (6 * i + f)) with ⟨z, _⟩ | ⟨e3, _, z, _⟩
                    · exact z
                    · rw [hmod, hok] at z; cases z
                  refine wp_callS2I rfl (Nat.le_of_ble_eq_true rfl) (Cells_atV_ok kM M3 (show f < hp_ln h4 M by omega) (by omega) hrow4) (Nat.le_of_ble_eq_true rfl) ?_
                  refine pure_ ?_
                  refine wp_iload6 rfl ?_
                  refine wp_bipush rfl ?_
                  refine wp_iload6 rfl ?_
                  refine wp_imulE (nI (6 * i)) (pk_mul _ _) rfl ?_
                  refine wp_iload7 rfl ?_
                  refine wp_iaddE (nI ((6 * i) + f)) (nI_add _ _) rfl ?_
                  refine wp_callV3I rfl (Nat.le_of_ble_eq_true rfl) (Orbit_kd S4) (Orbit_stepNo_ok) (Nat.le_of_ble_eq_true rfl) ?_
                  refine pure_ ?_
                  refine wp_istore8 rfl rfl ?_
                  exact tail (-1, h4) ⟨z4, by rw [hq]; exact OI4, k4, rfl, ⟨[], by rw [hq, List.append_nil]⟩, by rw [hok, if_neg Bool.false_ne_true]⟩
                | true =>
                  rw [hok, if_pos rfl] at hrow4
                  have hwm : ((bf_ (nx2_ k mv) ok w0 (6 * i + f)).map (·.1))[i]? = some w.1 := by rw [List.getElem?_map, hwf]; rfl
                  refine wp_callS2I rfl (Nat.le_of_ble_eq_true rfl) (Cells_atV_ok kM M3 (show f < hp_ln h4 M by omega) (by omega) hrow4) (Nat.le_of_ble_eq_true rfl) ?_
                  refine pure_ ?_
                  refine wp_iload6 rfl ?_
                  refine wp_bipush rfl ?_
                  refine wp_iload6 rfl ?_
                  refine wp_imulE (nI (6 * i)) (pk_mul _ _) rfl ?_
                  refine wp_iload7 rfl ?_
                  refine wp_iaddE (nI ((6 * i) + f)) (nI_add _ _) rfl ?_
                  refine wp_callV3I rfl (Nat.le_of_ble_eq_true rfl) (Orbit_kd S4) (Orbit_stepBy_ok (mv := mv) (f := f) S4 OI4 (by omega) hn hk (hmv f) hwm) (Nat.le_of_ble_eq_true rfl) ?_
                  rintro _ h5 ⟨j, ws', os', rfl, hj, OI5, hcase, f5, kk5⟩
                  have z5 : fz_ (oc5_ o a2 b2 c2 e2) h4 h5 := fz_fr (fr_mono (fun q hq => (by rcases hq with y | y | y | y; exact Or.inl y; exact Or.inr (Or.inl y); exact Or.inr (Or.inr (Or.inl y)); exact Or.inr (Or.inr (Or.inr (Or.inl y))) : oc5_ o a2 b2 c2 e2 q)) f5)
                  have e5 : hp_I h5 e2 = hp_I h4 e2 := fr_I f5 (by rintro (y | y | y | y); exact q4 y.symm; exact d3 y.symm; exact d5 y.symm; exact d6 y.symm)
                  refine wp_istore8 rfl rfl ?_
                  rcases hcase with ⟨hin, rfl, rfl⟩ | ⟨hnin, _, rfl, rfl⟩
                  · have hq : bf_ (nx2_ k mv) ok w0 (6 * i + f + 1) = bf_ (nx2_ k mv) ok w0 (6 * i + f) := by
                      rcases bs_cases (st := nx2_ k mv) (ok := ok) (6 * i + f) (bf_ (nx2_ k mv) ok w0 (6 * i + f)) with ⟨z, _⟩ | ⟨e3, z1, _, z, _⟩
                      · exact z
                      · rw [hwf6] at z1; cases z1; rw [hmod] at z; exact absurd hin z
                    exact tail (nI j, h5) ⟨fz_trans z4 z5, by rw [hq]; exact OI5, kk5.trans k4, e5, ⟨[], by rw [hq, List.append_nil]⟩, by rw [if_pos hok]; exact ⟨j, by rw [hq]; exact hj, rfl⟩⟩
                  · have hq : bf_ (nx2_ k mv) ok w0 (6 * i + f + 1) = bf_ (nx2_ k mv) ok w0 (6 * i + f) ++ [(nx2_ k mv w.1 f, 6 * i + f, w.2.2 ++ [f])] := by
                      rcases bs_cases (st := nx2_ k mv) (ok := ok) (6 * i + f) (bf_ (nx2_ k mv) ok w0 (6 * i + f)) with ⟨_, z⟩ | ⟨e3, z1, _, z, z2⟩
                      · have := z w hwf6 (by rw [hmod]; exact hok)
                        rw [hmod] at this
                        exact absurd this hnin
                      · rw [hwf6] at z1; cases z1; rw [hmod] at z2; exact z2
                    exact tail (nI j, h5) ⟨fz_trans z4 z5, by rw [hq, List.map_append, List.map_append]; exact OI5, kk5.trans k4, e5, ⟨_, hq⟩, by rw [if_pos hok]; exact ⟨j, by rw [hq, List.map_append]; exact hj, rfl⟩⟩
            · intro x h4 K
              show wq _ tb_Orbit_explore _ 48 [some (.ref o), some (.int (nI n)), some (.int (nI k)), some (.int (nI (pq_ w0 8))), some (.int (gv_ g)), some (.ref M), some (.int (nI i)), some (.int (nI 6)), x] [] h4 _
              obtain ⟨z4, E4, k4⟩ := K
              have h6 : (bf_ (nx2_ k mv) ok w0 (6 * i + 6))[i]? = some w := bf_get (6 * i) 6 i w hw
              refine wp_iload7 rfl ?_
              refine wp_bipush rfl ?_
              refine wp_icmp_geN 6 6 (by omega) (by omega) rfl (fun _ => ?_) (fun z => absurd z (by omega))
              refine wp_iinc6N rfl rfl ?_
              refine wp_goto rfl ?_
              exact goS (by omega) (_, _) _ ⟨z4, E4, k4, (List.getElem?_eq_some_iff.mp h6).1⟩
