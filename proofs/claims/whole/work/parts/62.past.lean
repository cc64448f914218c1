-- ===== Past: its rows; slotOf, fits, takeSights =====
/-- the rows of the Past that grow: none of them is a row of the orbit -/
def ex_ (a b c e r y : Nat) : Prop := r ≠ y ∧ (r ≠ a ∧ r ≠ b ∧ r ≠ c ∧ r ≠ e) ∧ (y ≠ a ∧ y ≠ b ∧ y ≠ c ∧ y ≠ e)
def rx_ (p q r y : Nat) : Prop := (p = 55 ∨ p = 56 ∨ 93 < p) ∧ (q = 55 ∨ q = 56 ∨ 93 < q) ∧ (r = 57 ∨ 93 < r) ∧ (y = 58 ∨ 93 < y)
def S_Past (h : Hp_) (a b c e p q r y : Nat) : Prop := hp_kd h 43 = 18 ∧ ((hp_R h 43 0 = 44 ∧ hp_R h 43 1 = 49 ∧ hp_R h 43 2 = 51 ∧ hp_R h 43 3 = 53 ∧ hp_R h 43 4 = 54) ∧ hp_R h 43 8 = p ∧ hp_R h 43 9 = q ∧ hp_R h 43 10 = r ∧ hp_R h 43 11 = y) ∧ (S_Orbit h 44 a b c e ∧ S_Memo h 49 ∧ S_Notes h 51) ∧ ((hp_kd h 53 = 1 ∧ hp_ln h 53 = 12) ∧ hp_kd h 54 = 1 ∧ hp_ln h 54 = 12) ∧ ((hp_kd h p = 2 ∧ hp_kd h q = 2 ∧ hp_kd h r = 1 ∧ hp_kd h y = 1) ∧ hp_ln h p ≤ 300000 ∧ hp_ln h q ≤ 300000 ∧ hp_ln h r ≤ 300000 ∧ hp_ln h y ≤ 300000) ∧ (p ≠ q ∧ ex_ a b c e r y) ∧ (rw4_ 45 a b c e ∧ rx_ p q r y) ∧ 93 ≤ hp_nx h ∧ (on_ h 44 a b c e ∧ p ≤ hp_nx h ∧ q ≤ hp_nx h ∧ r ≤ hp_nx h ∧ y ≤ hp_nx h) ∧ hp_I h 44 0 = bo_ true
theorem Past_kd {h : Hp_} {a b c e p q r y : Nat} (S : S_Past h a b c e p q r y) : hp_kd h 43 = 18 := S.1
theorem Past_R0 {h : Hp_} {a b c e p q r y : Nat} (S : S_Past h a b c e p q r y) : hp_R h 43 0 = 44 := S.2.1.1.1
theorem Past_R1 {h : Hp_} {a b c e p q r y : Nat} (S : S_Past h a b c e p q r y) : hp_R h 43 1 = 49 := S.2.1.1.2.1
theorem Past_R2 {h : Hp_} {a b c e p q r y : Nat} (S : S_Past h a b c e p q r y) : hp_R h 43 2 = 51 := S.2.1.1.2.2.1
theorem Past_R3 {h : Hp_} {a b c e p q r y : Nat} (S : S_Past h a b c e p q r y) : hp_R h 43 3 = 53 := S.2.1.1.2.2.2.1
theorem Past_R4 {h : Hp_} {a b c e p q r y : Nat} (S : S_Past h a b c e p q r y) : hp_R h 43 4 = 54 := S.2.1.1.2.2.2.2
theorem Past_R8 {h : Hp_} {a b c e p q r y : Nat} (S : S_Past h a b c e p q r y) : hp_R h 43 8 = p := S.2.1.2.1
theorem Past_R9 {h : Hp_} {a b c e p q r y : Nat} (S : S_Past h a b c e p q r y) : hp_R h 43 9 = q := S.2.1.2.2.1
theorem Past_R10 {h : Hp_} {a b c e p q r y : Nat} (S : S_Past h a b c e p q r y) : hp_R h 43 10 = r := S.2.1.2.2.2.1
theorem Past_R11 {h : Hp_} {a b c e p q r y : Nat} (S : S_Past h a b c e p q r y) : hp_R h 43 11 = y := S.2.1.2.2.2.2
theorem Past_s0 {h : Hp_} {a b c e p q r y : Nat} (S : S_Past h a b c e p q r y) : S_Orbit h 44 a b c e := S.2.2.1.1
theorem Past_s1 {h : Hp_} {a b c e p q r y : Nat} (S : S_Past h a b c e p q r y) : S_Memo h 49 := S.2.2.1.2.1
theorem Past_s2 {h : Hp_} {a b c e p q r y : Nat} (S : S_Past h a b c e p q r y) : S_Notes h 51 := S.2.2.1.2.2
theorem Past_k3 {h : Hp_} {a b c e p q r y : Nat} (S : S_Past h a b c e p q r y) : hp_kd h 53 = 1 := S.2.2.2.1.1.1
theorem Past_n3 {h : Hp_} {a b c e p q r y : Nat} (S : S_Past h a b c e p q r y) : hp_ln h 53 = 12 := S.2.2.2.1.1.2
theorem Past_k4 {h : Hp_} {a b c e p q r y : Nat} (S : S_Past h a b c e p q r y) : hp_kd h 54 = 1 := S.2.2.2.1.2.1
theorem Past_n4 {h : Hp_} {a b c e p q r y : Nat} (S : S_Past h a b c e p q r y) : hp_ln h 54 = 12 := S.2.2.2.1.2.2
theorem Past_k8 {h : Hp_} {a b c e p q r y : Nat} (S : S_Past h a b c e p q r y) : hp_kd h p = 2 := S.2.2.2.2.1.1.1
theorem Past_k9 {h : Hp_} {a b c e p q r y : Nat} (S : S_Past h a b c e p q r y) : hp_kd h q = 2 := S.2.2.2.2.1.1.2.1
theorem Past_k10 {h : Hp_} {a b c e p q r y : Nat} (S : S_Past h a b c e p q r y) : hp_kd h r = 1 := S.2.2.2.2.1.1.2.2.1
theorem Past_k11 {h : Hp_} {a b c e p q r y : Nat} (S : S_Past h a b c e p q r y) : hp_kd h y = 1 := S.2.2.2.2.1.1.2.2.2
theorem Past_ln {h : Hp_} {a b c e p q r y : Nat} (S : S_Past h a b c e p q r y) : hp_ln h p ≤ 300000 ∧ hp_ln h q ≤ 300000 ∧ hp_ln h r ≤ 300000 ∧ hp_ln h y ≤ 300000 := S.2.2.2.2.1.2
theorem Past_pq {h : Hp_} {a b c e p q r y : Nat} (S : S_Past h a b c e p q r y) : p ≠ q := S.2.2.2.2.2.1.1
theorem Past_ex {h : Hp_} {a b c e p q r y : Nat} (S : S_Past h a b c e p q r y) : ex_ a b c e r y := S.2.2.2.2.2.1.2
theorem Past_rw {h : Hp_} {a b c e p q r y : Nat} (S : S_Past h a b c e p q r y) : rw4_ 45 a b c e := S.2.2.2.2.2.2.1.1
theorem Past_rx {h : Hp_} {a b c e p q r y : Nat} (S : S_Past h a b c e p q r y) : rx_ p q r y := S.2.2.2.2.2.2.1.2
theorem Past_nx {h : Hp_} {a b c e p q r y : Nat} (S : S_Past h a b c e p q r y) : 93 ≤ hp_nx h := S.2.2.2.2.2.2.2.1
theorem Past_on {h : Hp_} {a b c e p q r y : Nat} (S : S_Past h a b c e p q r y) : on_ h 44 a b c e := S.2.2.2.2.2.2.2.2.1.1
theorem Past_in {h : Hp_} {a b c e p q r y : Nat} (S : S_Past h a b c e p q r y) : p ≤ hp_nx h ∧ q ≤ hp_nx h ∧ r ≤ hp_nx h ∧ y ≤ hp_nx h := S.2.2.2.2.2.2.2.2.1.2
theorem Past_kp {h : Hp_} {a b c e p q r y : Nat} (S : S_Past h a b c e p q r y) : hp_I h 44 0 = bo_ true := S.2.2.2.2.2.2.2.2.2
theorem Past_fz {h h2 : Hp_} {a b c e p q r y : Nat} {P : Nat → Prop} (S : S_Past h a b c e p q r y) (z : fz_ P h h2) (k0 : hp_I h2 44 0 = hp_I h 44 0) : S_Past h2 a b c e p q r y := by
  unfold S_Past S_Orbit S_Memo S_Notes on_ at S ⊢
  rw [fz_kd z, fz_ln z, fz_R z, z.1.1, k0]
  exact S
/-- the sights of at most m figures -/
def ls_ (s : Sg_) (m : Nat) : List (Nat × Nat × Nat) := (sg_si s).filter (fun q => decide (q.1 ≤ m))
theorem ls_mem {s : Sg_} {m : Nat} {x : Nat × Nat × Nat} : x ∈ ls_ s m ↔ x ∈ sg_si s ∧ x.1 ≤ m := by
  unfold ls_
  rw [List.mem_filter, decide_eq_true_iff]
theorem ls_len {s : Sg_} (w : sg_wf s) (m : Nat) : (ls_ s m).length ≤ 6 := Nat.le_trans (List.length_filter_le _ _) w.2.2.2.2.2.2.2.2.2.1
theorem ls_in {s : Sg_} (w : sg_wf s) {m : Nat} {x : Nat × Nat × Nat} (hx : x ∈ ls_ s m) : x.1 ≤ 12 ∧ x.2.1 < sg_n s ∧ x.2.2 < sg_n s := w.2.2.2.2.2.2.2.2.2.2.1 x (ls_mem.mp hx).1
/-- the sights have been taken: G the goods, T the times -/
def PF_ (h : Hp_) (s : Sg_) (m G T : Nat) : Prop := NS_ h 51 (ls_ s m) ∧ hp_I h 43 6 = nI G ∧ hp_I h 43 7 = nI T ∧ (G < 256 ∧ T < 8192) ∧ (∀ g, G.testBit g = true ↔ ∃ x ∈ ls_ s m, x.2.1 = g) ∧ ∀ b, T.testBit b = true ↔ ∃ x ∈ ls_ s m, x.1 = b
theorem PF_cg {h h' : Hp_} {s : Sg_} {m G T : Nat} (F : PF_ h s m G T) (h1 : hp_I h' 43 6 = hp_I h 43 6 ∧ hp_I h' 43 7 = hp_I h 43 7) (h2 : hp_I h' 51 = hp_I h 51) (h3 : hp_I h' 52 = hp_I h 52) : PF_ h' s m G T := by
  unfold PF_ NS_ at F ⊢
  rw [h1.1, h1.2, h2, show 51 + 1 = 52 from rfl, h3]
  exact F
theorem PF_see {h : Hp_} {s : Sg_} {m G T : Nat} (F : PF_ h s m G T) (g : Nat) : G.testBit g = true ↔ sg_wa (sn_ s m) g ≠ 8 := by
  rw [F.2.2.2.2.1 g, sn_see]
  constructor
  · rintro ⟨x, h1, h2⟩
    exact ⟨x, (ls_mem.mp h1).1, (ls_mem.mp h1).2, h2⟩
  · rintro ⟨x, h1, h2, h3⟩
    exact ⟨x, ls_mem.mpr ⟨h1, h2⟩, h3⟩
theorem wl_bc {s : Sg_} {G : Nat} (hG : ∀ g, G.testBit g = true ↔ sg_wa s g ≠ 8) : ∀ n, bc_ G n = (wl_ s n).length
  | 0 => rfl
  | n + 1 => by
    show bc_ G n + (if G.testBit n then 1 else 0) = _
    rw [wl_bc hG n, wl_succ]
    by_cases z : sg_wa s n ≠ 8
    · rw [if_pos ((hG n).mpr z), if_pos z, List.length_append]; rfl
    · rw [if_neg (fun y => z ((hG n).mp y)), if_neg z, List.append_nil]; rfl
theorem wl_slot {s : Sg_} {g : Nat} (h8 : sg_wa s g ≠ 8) : ∀ d, (wl_ s (g + 1 + d))[(wl_ s g).length]? = some g
  | 0 => by
    show (wl_ s (g + 1))[(wl_ s g).length]? = some g
    rw [wl_succ, if_pos h8, List.getElem?_concat_length]
  | d + 1 => by
    show (wl_ s (g + 1 + d + 1))[(wl_ s g).length]? = some g
    have ih := wl_slot h8 d
    rw [wl_succ, List.getElem?_append_left (List.getElem?_eq_some_iff.mp ih).1]
    exact ih
theorem lw2_slot {s : Sg_} {n g : Nat} {u : Nat → Nat} (hg : g < n) (h8 : sg_wa s g ≠ 8) : (wl_ s g).length < (wl_ s n).length ∧ lw2_ s u n (wl_ s g).length = u g := by
  have h := wl_slot h8 (n - (g + 1))
  rw [show g + 1 + (n - (g + 1)) = n by omega] at h
  have hl := (List.getElem?_eq_some_iff.mp h).1
  refine ⟨hl, ?_⟩
  unfold lw2_
  rw [if_pos hl, List.getD_eq_getElem?_getD, h]
  rfl
theorem Past_slotOf_ok {h : Hp_} {a b c e p q r y G g : Nat} (S : S_Past h a b c e p q r y) (hG : hp_I h 43 6 = nI G) (h256 : G < 256) (hg : g < 8) : cI 2 mn_Past_slotOf [.ref 43, .int (nI g)] h (fun x h' => x = nI (bc_ G g) ∧ h' = h) := by
  have h2 := Nat.two_pow_pos g
  refine cq_in (q := mi_Past_slotOf) (L := [some (.ref 43), some (.int (nI g))]) rfl (Nat.le_of_ble_eq_true rfl) rfl ?_
  show wq _ tb_Past_slotOf none 0 _ _ _ _
  refine wp_aload0 rfl ?_
  refine wp_getIE rfl (Past_kd S) (show _ = nI G from hG) ?_
  refine wp_iconst rfl ?_
  refine wp_iload1 rfl ?_
  refine wp_ishlE (nI (2 ^ g)) (nn_shl1 _ (by omega)) rfl ?_
  refine wp_iconst rfl ?_
  refine wp_isubE (nI (2 ^ g - 1)) (pk_sub (by omega)) rfl ?_
  refine wp_iandE (nI (G % 2 ^ g)) (by rw [nn_and, Nat.and_two_pow_sub_one_eq_mod]) rfl ?_
  refine wp_callS1I rfl (Nat.le_of_ble_eq_true rfl) (Integer_bitCount_ok) (Nat.le_of_ble_eq_true rfl) ?_
  refine pure_ ?_
  have hm : G % 2 ^ g < 256 := Nat.lt_of_le_of_lt (Nat.mod_le _ _) h256
  rw [jb_low ⟨G % 2 ^ g, hm⟩, show bc_ (⟨G % 2 ^ g, hm⟩ : Fin 256).1 8 = bc_ G g by rw [show (⟨G % 2 ^ g, hm⟩ : Fin 256).1 = G % 2 ^ g from rfl, bc_mod, Nat.min_eq_right (by omega : g ≤ 8)]]
  exact wp_iret rfl ⟨_, rfl, rfl, rfl⟩
set_option maxRecDepth 4000 in
theorem Past_fits_ok {h : Hp_} {a b c e p q r y m t G T : Nat} {s : Sg_} {u : Nat → Nat} (S : S_Past h a b c e p q r y) (w : sg_wf s) (F : PF_ h s m G T) (hu : IsP (sg_n s) u) (hm : m ≤ 12) (ht : t ≤ m) : cI 4 mn_Past_fits [.ref 43, .int (nI t), .int (nI (pq_ (ry_ s m u) 8))] h (fun x h' => x = bo_ (ft_ s t u) ∧ h' = h) := by
  have n8 := w.1.2
  have ⟨F1, F2, F3, ⟨F4, F5⟩, F6, F7⟩ := F
  have hl := ls_len w m
  have hsee := PF_see F
  have R8 : ∀ i, i < 8 → ry_ s m u i < 8 := Lz_8 n8 (by have := w.1.1; omega) (ry_Lz hu)
  have l24 := pq_lt24 R8
  have hft : ft_ s t u = true ↔ ∀ x ∈ ls_ s m, x.1 = t → u x.2.1 = x.2.2 := by
    unfold ft_
    rw [List.all_eq_true]
    constructor
    · intro z x hx e1
      have := z x (ls_mem.mp hx).1
      rw [Bool.or_eq_true, decide_eq_true_iff, decide_eq_true_iff] at this
      rcases this with y1 | y1
      · exact absurd e1 y1
      · exact y1
    · intro z x hx
      rw [Bool.or_eq_true, decide_eq_true_iff, decide_eq_true_iff]
      by_cases e1 : x.1 = t
      · exact Or.inr (z x (ls_mem.mpr ⟨hx, by omega⟩) e1)
      · exact Or.inl e1
  refine cq_in (q := mi_Past_fits) (L := [some (.ref 43), some (.int (nI t)), some (.int (nI (pq_ (ry_ s m u) 8))), none]) rfl (Nat.le_of_ble_eq_true rfl) rfl ?_
  show wq _ tb_Past_fits none 0 _ _ _ _
  refine wp_aload0 rfl ?_
  refine wp_getIE rfl (Past_kd S) (show _ = nI T from F3) ?_
  refine wp_iload1 rfl ?_
  refine wp_callS2I rfl (Nat.le_of_ble_eq_true rfl) (Cells_isIn_ok (by omega) (by omega)) (Nat.le_of_ble_eq_true rfl) ?_
  refine pure_ ?_
  refine wp_if_neB rfl (fun c1 => ?_) (fun c1 => ?_)
  · skip
    refine wp_iconst rfl ?_
    refine wp_istore3 rfl rfl ?_
    refine wq_loop (X := Unit) (fun i x => [some (.ref 43), some (.int (nI t)), some (.int (nI (pq_ (ry_ s m u) 8))), some (.int (nI i))]) (fun i x h1 => h1 = h ∧ ∀ (j : Nat) (x : Nat × Nat × Nat), j < i → (ls_ s m)[j]? = some x → x.1 = t → u x.2.1 = x.2.2) ((ls_ s m).length) (0) (()) ?_ ?_ ?_ ?_
    · omega
    · exact ⟨rfl, fun j x hj => absurd hj (Nat.not_lt_zero j)⟩
    · intro i x h1 hi I go
      show wq _ tb_Past_fits _ 15 [some (.ref 43), some (.int (nI t)), some (.int (nI (pq_ (ry_ s m u) 8))), some (.int (nI i))] [] h1 _
      obtain ⟨rfl, J⟩ := I
      have hil : i < (ls_ s m).length := hi
      have hx := List.getElem?_eq_getElem hil
      have hxm := List.getElem_mem hil
      generalize (ls_ s m)[i] = x0 at hx hxm
      obtain ⟨b1, b2, b3⟩ := ls_in w hxm
      have hmk := F1.2 i x0 hx
      have nxt : (x0.1 = t → u x0.2.1 = x0.2.2) → ∀ (j : Nat) (x : Nat × Nat × Nat), j < i + 1 → (ls_ s m)[j]? = some x → x.1 = t → u x.2.1 = x.2.2 := by
        intro h0 j x hj hx2
        by_cases z : j = i
        · rw [z, hx] at hx2
          cases hx2
          exact h0
        · exact J j x (by omega) hx2
      refine wp_iload3 rfl ?_
      refine wp_aload0 rfl ?_
      refine wp_getR rfl (Past_kd S) (Past_R2 S) (by first | decide | omega) ?_
      refine wp_getIE rfl (Notes_kd (Past_s2 S)) (show _ = nI ((ls_ s m).length) from F1.1) ?_
      refine wp_icmp_geN i ((ls_ s m).length) (by omega) (by omega) rfl (fun z => absurd z (by omega)) (fun _ => ?_)
      refine wp_aload0 rfl ?_
      refine wp_getR rfl (Past_kd S) (Past_R2 S) (by first | decide | omega) ?_
      refine wp_iload3 rfl ?_
      refine wp_callV1I rfl (Nat.le_of_ble_eq_true rfl) (Notes_kd (Past_s2 S)) (Notes_amount_ok (Past_s2 S) (show i < 6 by omega) hmk (by omega) (by omega) (by omega)) (Nat.le_of_ble_eq_true rfl) ?_
      refine pure_ ?_
      refine wp_iload1 rfl ?_
      refine wp_icmp_neN (x0.1) t (by omega) (by omega) rfl (fun c2 => ?_) (fun c2 => ?_)
      · skip
        refine wp_iinc3N rfl rfl ?_
        refine wp_goto rfl ?_
        exact go () h1 ⟨rfl, nxt (fun z => absurd z c2)⟩
      · skip
        refine wp_iload2 rfl ?_
        refine wp_aload0 rfl ?_
        refine wp_aload0 rfl ?_
        refine wp_getR rfl (Past_kd S) (Past_R2 S) (by first | decide | omega) ?_
        refine wp_iload3 rfl ?_
        refine wp_callV1I rfl (Nat.le_of_ble_eq_true rfl) (Notes_kd (Past_s2 S)) (Notes_good_ok (Past_s2 S) (show i < 6 by omega) hmk (by omega) (by omega) (by omega)) (Nat.le_of_ble_eq_true rfl) ?_
        refine pure_ ?_
        refine wp_callV1I rfl (Nat.le_of_ble_eq_true rfl) (Past_kd S) (Past_slotOf_ok S F2 F4 (by omega)) (Nat.le_of_ble_eq_true rfl) ?_
        refine pure_ ?_
        have h8 : sg_wa (sn_ s m) x0.2.1 ≠ 8 := (hsee _).mp ((F6 _).mpr ⟨x0, hxm, rfl⟩)
        obtain ⟨s1, s2⟩ := lw2_slot (u := u) b2 h8
        rw [wl_bc hsee x0.2.1]
        have hwl := wl_len (sn_ s m) x0.2.1
        refine wp_callS2I rfl (Nat.le_of_ble_eq_true rfl) (Maps_to_ok (by omega) (by omega)) (Nat.le_of_ble_eq_true rfl) ?_
        refine pure_ ?_
        rw [pq_get 8 (wl_ (sn_ s m) x0.2.1).length R8 (by omega), show ry_ s m u (wl_ (sn_ s m) x0.2.1).length = u x0.2.1 from s2]
        have hul := hu.1 _ b2
        refine wp_aload0 rfl ?_
        refine wp_getR rfl (Past_kd S) (Past_R2 S) (by first | decide | omega) ?_
        refine wp_iload3 rfl ?_
        refine wp_callV1I rfl (Nat.le_of_ble_eq_true rfl) (Notes_kd (Past_s2 S)) (Notes_place_ok (Past_s2 S) (show i < 6 by omega) hmk (by omega)) (Nat.le_of_ble_eq_true rfl) ?_
        refine pure_ ?_
        refine wp_icmp_eqN (u x0.2.1) (x0.2.2) (by omega) (by omega) rfl (fun c3 => ?_) (fun c3 => ?_)
        · skip
          refine wp_iinc3N rfl rfl ?_
          refine wp_goto rfl ?_
          exact go () h1 ⟨rfl, nxt (fun _ => c3)⟩
        · skip
          refine wp_iconst rfl ?_
          exact wp_zret rfl (by first | exact bo_01 _ | exact Or.inl rfl | exact Or.inr rfl) ⟨_, rfl, (by rw [show ft_ s t u = false by cases z : ft_ s t u; rfl; exact absurd (hft.mp z x0 hxm c2) c3]; rfl), rfl⟩
    · intro x h1 I
      show wq _ tb_Past_fits _ 15 [some (.ref 43), some (.int (nI t)), some (.int (nI (pq_ (ry_ s m u) 8))), some (.int (nI ((ls_ s m).length)))] [] h1 _
      obtain ⟨rfl, J⟩ := I
      refine wp_iload3 rfl ?_
      refine wp_aload0 rfl ?_
      refine wp_getR rfl (Past_kd S) (Past_R2 S) (by first | decide | omega) ?_
      refine wp_getIE rfl (Notes_kd (Past_s2 S)) (show _ = nI ((ls_ s m).length) from F1.1) ?_
      refine wp_icmp_geN ((ls_ s m).length) ((ls_ s m).length) (by omega) (by omega) rfl (fun _ => ?_) (fun z => absurd z (by omega))
      refine wp_iconst rfl ?_
      exact wp_zret rfl (by first | exact bo_01 _ | exact Or.inl rfl | exact Or.inr rfl) ⟨_, rfl, (by rw [hft.mpr (fun x hx => by obtain ⟨j, hj⟩ := List.getElem?_of_mem hx; exact J j x (List.getElem?_eq_some_iff.mp hj).1 hj)]; rfl), rfl⟩
  · skip
    refine wp_iconst rfl ?_
    exact wp_zret rfl (by first | exact bo_01 _ | exact Or.inl rfl | exact Or.inr rfl) ⟨_, rfl, (by rw [hft.mpr (fun x hx e1 => by rw [(F7 t).mpr ⟨x, hx, e1⟩] at c1; cases c1)]; rfl), rfl⟩
/-- a list of sights has been taken -/
def PT_ (h : Hp_) (l : List (Nat × Nat × Nat)) (G T : Nat) : Prop := NS_ h 51 l ∧ hp_I h 43 6 = nI G ∧ hp_I h 43 7 = nI T ∧ (G < 256 ∧ T < 8192) ∧ (∀ g, G.testBit g = true ↔ ∃ x ∈ l, x.2.1 = g) ∧ ∀ b, T.testBit b = true ↔ ∃ x ∈ l, x.1 = b
theorem tb_add {l : List (Nat × Nat × Nat)} {G : Nat} {f : Nat × Nat × Nat → Nat} (h : ∀ g, G.testBit g = true ↔ ∃ x ∈ l, f x = g) (x0 : Nat × Nat × Nat) (g : Nat) : (G ||| 2 ^ f x0).testBit g = true ↔ ∃ x ∈ l ++ [x0], f x = g := by
  rw [Nat.testBit_or, Bool.or_eq_true, h g, Nat.testBit_two_pow, decide_eq_true_iff]
  constructor
  · rintro (⟨x, h1, h2⟩ | z)
    · exact ⟨x, List.mem_append_left _ h1, h2⟩
    · exact ⟨x0, List.mem_append_right _ List.mem_cons_self, z⟩
  · rintro ⟨x, h1, h2⟩
    rcases List.mem_append.mp h1 with y | y
    · exact Or.inl ⟨x, y, h2⟩
    · rw [List.mem_singleton] at y
      exact Or.inr (by rw [← y]; exact h2)
theorem PT_add {h h2 : Hp_} {l : List (Nat × Nat × Nat)} {G T : Nat} {x0 : Nat × Nat × Nat} (F : PT_ h l G T) (b : x0.1 ≤ 12 ∧ x0.2.1 < 8) (h1 : hp_I h2 51 1 = nI (l.length + 1)) (h3 : hp_I h2 52 = va_up (hp_I h 52) l.length (nI (mk_ x0.1 x0.2.1 x0.2.2))) (h4 : hp_I h2 43 6 = nI (G ||| 2 ^ x0.2.1)) (h5 : hp_I h2 43 7 = nI (T ||| 2 ^ x0.1)) : PT_ h2 (l ++ [x0]) (G ||| 2 ^ x0.2.1) (T ||| 2 ^ x0.1) := by
  obtain ⟨⟨F1, F2⟩, F3, F4, ⟨F5, F6⟩, F7, F8⟩ := F
  refine ⟨⟨by rw [List.length_append]; exact h1, fun i x hi => ?_⟩, h4, h5, ⟨Nat.or_lt_two_pow (n := 8) F5 (Nat.pow_lt_pow_right (by decide) b.2), Nat.or_lt_two_pow (n := 13) F6 (Nat.pow_lt_pow_right (by decide) (by omega))⟩, fun g => tb_add (f := fun x => x.2.1) F7 x0 g, fun g => tb_add (f := fun x => x.1) F8 x0 g⟩
  show hp_I h2 52 i = _
  rw [h3, vu_at]
  by_cases z : i = l.length
  · rw [z, List.getElem?_concat_length] at hi
    cases hi
    rw [if_pos z]
  · have hil := (List.getElem?_eq_some_iff.mp hi).1
    rw [List.length_append] at hil
    have hil2 : i < l.length + 1 := hil
    rw [List.getElem?_append_left (by omega)] at hi
    rw [if_neg z]
    exact F2 i x hi
def li_ (s : Sg_) (m i : Nat) : List (Nat × Nat × Nat) := ((sg_si s).take i).filter (fun q => decide (q.1 ≤ m))
theorem li_succ {s : Sg_} {m i : Nat} {x : Nat × Nat × Nat} (hx : (sg_si s)[i]? = some x) : li_ s m (i + 1) = li_ s m i ++ (if x.1 ≤ m then [x] else []) := by
  unfold li_
  rw [List.take_add_one, hx, List.filter_append]
  show _ ++ List.filter (fun q => decide (q.1 ≤ m)) [x] = _
  by_cases z : x.1 ≤ m
  · rw [if_pos z, List.filter_cons_of_pos (p := fun q : Nat × Nat × Nat => decide (q.1 ≤ m)) (show (fun q : Nat × Nat × Nat => decide (q.1 ≤ m)) x = true from decide_eq_true z), List.filter_nil]
  · rw [if_neg z, List.filter_cons_of_neg (p := fun q : Nat × Nat × Nat => decide (q.1 ≤ m)) (show ¬ (fun q : Nat × Nat × Nat => decide (q.1 ≤ m)) x = true from fun y => z (of_decide_eq_true y)), List.filter_nil]
theorem li_all (s : Sg_) (m : Nat) : li_ s m (sg_si s).length = ls_ s m := by
  unfold li_ ls_
  rw [List.take_length]
theorem li_len {s : Sg_} (m i : Nat) : (li_ s m i).length ≤ i := Nat.le_trans (List.length_filter_le _ _) (by rw [List.length_take]; exact Nat.min_le_left _ _)
def p3_ (q : Nat) : Prop := q = 43 ∨ q = 51 ∨ q = 52
set_option maxRecDepth 4000 in
theorem Past_takeSights_ok {h : Hp_} {a b c e p q r y m : Nat} {s : Sg_} (S : S_Past h a b c e p q r y) (w : sg_wf s) (Mk : S_Market h 4) (M : MK_ h 4 s) (hm : m ≤ 12) : cV 5 mn_Past_takeSights [.ref 43, .ref 9, .int (nI m)] h (fun h' => fr_ p3_ h h' ∧ ∃ G T, PF_ h' s m G T) := by
  have n8 := w.1.2
  have hl6 := w.2.2.2.2.2.2.2.2.2.1
  have MS := M.2.2.2.2.2.1
  have S9 := Market_s9 Mk
  have nt : ∀ {h1 : Hp_}, fr_ p3_ h h1 → S_Past h1 a b c e p q r y ∧ S_Notes h1 9 ∧ NS_ h1 9 (sg_si s) := by
    intro h1 f
    refine ⟨Past_fz S (fz_fr f) (by rw [fr_I f (by unfold p3_; omega)]), ?_, ?_⟩
    · unfold S_Notes at S9 ⊢
      rw [fz_kd (fz_fr f), fz_ln (fz_fr f), fz_R (fz_fr f)]
      exact S9
    · unfold NS_ at MS ⊢
      rw [fr_I f (by unfold p3_; omega), fr_I f (show ¬ p3_ (9 + 1) by unfold p3_; omega)]
      exact MS
  refine cq_in (q := mi_Past_takeSights) (L := [some (.ref 43), some (.ref 9), some (.int (nI m)), none]) rfl (Nat.le_of_ble_eq_true rfl) rfl ?_
  show wq _ tb_Past_takeSights none 0 _ _ _ _
  refine wp_aload0 rfl ?_
  refine wp_getR rfl (Past_kd S) (Past_R2 S) (by first | decide | omega) ?_
  refine wp_iconst rfl ?_
  refine wp_putI rfl (Notes_kd (Past_s2 S)) ?_
  refine wp_aload0 rfl ?_
  refine wp_iconst rfl ?_
  refine wp_putI rfl (Past_kd S) ?_
  refine wp_aload0 rfl ?_
  refine wp_iconst rfl ?_
  refine wp_putI rfl (Past_kd S) ?_
  refine wp_iconst rfl ?_
  refine wp_istore3 rfl rfl ?_
  generalize hh : hp_rI (hp_rI (hp_rI h 51 (va_up (hp_I h 51) 1 (nI 0))) 43 (va_up (hp_I (hp_rI h 51 (va_up (hp_I h 51) 1 (nI 0))) 43) 6 (nI 0))) 43 (va_up (hp_I (hp_rI (hp_rI h 51 (va_up (hp_I h 51) 1 (nI 0))) 43 (va_up (hp_I (hp_rI h 51 (va_up (hp_I h 51) 1 (nI 0))) 43) 6 (nI 0))) 43) 7 (nI 0)) = h0
  have f0 : fr_ p3_ h h0 := by
    rw [← hh]
    exact fr_row (Or.inl rfl) (fr_row (Or.inl rfl) (fr_row (Or.inr (Or.inl rfl)) (fr_refl _ _)))
  have P0 : PT_ h0 [] 0 0 := by
    rw [← hh]
    refine ⟨⟨?_, fun i x hi => by cases hi⟩, ?_, ?_, ⟨by decide, by decide⟩, fun g => ?_, fun g => ?_⟩
    · rw [sd_rI_ne (by decide), sd_rI_ne (by decide), sd_rI_eq, vu_at, if_pos rfl]; rfl
    · rw [sd_rI_eq, vu_at, if_neg (by decide), sd_rI_eq, vu_at, if_pos rfl]
    · rw [sd_rI_eq, vu_at, if_pos rfl]
    · rw [Nat.zero_testBit]
      exact ⟨fun z => (by cases z), fun ⟨x, z, _⟩ => absurd z List.not_mem_nil⟩
    · rw [Nat.zero_testBit]
      exact ⟨fun z => (by cases z), fun ⟨x, z, _⟩ => absurd z List.not_mem_nil⟩
  refine wq_loop (X := Unit) (fun i x => [some (.ref 43), some (.ref 9), some (.int (nI m)), some (.int (nI i))]) (fun i x h1 => fr_ p3_ h h1 ∧ ∃ G T, PT_ h1 (li_ s m i) G T) ((sg_si s).length) (0) (()) ?_ ?_ ?_ ?_
  · omega
  · exact ⟨f0, 0, 0, P0⟩
  · intro i x h1 hi I go
    show wq _ tb_Past_takeSights _ 20 [some (.ref 43), some (.ref 9), some (.int (nI m)), some (.int (nI i))] [] h1 _
    obtain ⟨f1, G, T, P1⟩ := I
    obtain ⟨S1, S91, MS1⟩ := nt f1
    have hil : i < (sg_si s).length := hi
    have hx := List.getElem?_eq_getElem hil
    have hxm := List.getElem_mem hil
    generalize (sg_si s)[i] = x0 at hx hxm
    obtain ⟨b1, b2, b3⟩ := w.2.2.2.2.2.2.2.2.2.2.1 x0 hxm
    have hmk := MS1.2 i x0 hx
    have hli := li_len (s := s) m i
    refine wp_iload3 rfl ?_
    refine wp_aload1 rfl ?_
    refine wp_getIE rfl (Notes_kd S91) (show _ = nI ((sg_si s).length) from MS1.1) ?_
    refine wp_icmp_geN i ((sg_si s).length) (by omega) (by omega) rfl (fun z => absurd z (by omega)) (fun _ => ?_)
    refine wp_aload1 rfl ?_
    refine wp_iload3 rfl ?_
    refine wp_callV1I rfl (Nat.le_of_ble_eq_true rfl) (Notes_kd S91) (Notes_amount_ok S91 (show i < 6 by omega) hmk (by omega) (by omega) (by omega)) (Nat.le_of_ble_eq_true rfl) ?_
    refine pure_ ?_
    refine wp_iload2 rfl ?_
    refine wp_icmp_gtN (x0.1) m (by omega) (by omega) rfl (fun c1 => ?_) (fun c1 => ?_)
    · skip
      refine wp_iinc3N rfl rfl ?_
      refine wp_goto rfl ?_
      exact go () h1 ⟨f1, G, T, by rw [li_succ hx, if_neg (by omega), List.append_nil]; exact P1⟩
    · skip
      refine wp_aload0 rfl ?_
      refine wp_getR rfl (Past_kd S1) (Past_R2 S1) (by first | decide | omega) ?_
      refine wp_aload1 rfl ?_
      refine wp_iload3 rfl ?_
      refine wp_callV1I rfl (Nat.le_of_ble_eq_true rfl) (Notes_kd S91) (Notes_amount_ok S91 (show i < 6 by omega) hmk (by omega) (by omega) (by omega)) (Nat.le_of_ble_eq_true rfl) ?_
      refine pure_ ?_
      refine wp_aload1 rfl ?_
      refine wp_iload3 rfl ?_
      refine wp_callV1I rfl (Nat.le_of_ble_eq_true rfl) (Notes_kd S91) (Notes_good_ok S91 (show i < 6 by omega) hmk (by omega) (by omega) (by omega)) (Nat.le_of_ble_eq_true rfl) ?_
      refine pure_ ?_
      refine wp_aload1 rfl ?_
      refine wp_iload3 rfl ?_
      refine wp_callV1I rfl (Nat.le_of_ble_eq_true rfl) (Notes_kd S91) (Notes_place_ok S91 (show i < 6 by omega) hmk (by omega)) (Nat.le_of_ble_eq_true rfl) ?_
      refine pure_ ?_
      refine wp_callV3V rfl (Nat.le_of_ble_eq_true rfl) (Notes_kd (Past_s2 S1)) (Notes_add_ok (Past_s2 S1) P1.1.1 (by omega) (by omega) (by omega)) (Nat.le_of_ble_eq_true rfl) ?_
      intro h2 e2
      have f2 : fr_ p3_ h h2 := by
        rw [e2]
        exact fr_row (Or.inr (Or.inl rfl)) (fr_row (Or.inr (Or.inr rfl)) f1)
      have k6 : hp_I h2 43 = hp_I h1 43 := by rw [e2, sd_rI_ne (by decide), sd_rI_ne (by decide)]
      have k51 : hp_I h2 51 1 = nI ((li_ s m i).length + 1) := by rw [e2, sd_rI_eq, vu_at, if_pos rfl]
      have k52 : hp_I h2 52 = va_up (hp_I h1 52) (li_ s m i).length (nI (mk_ x0.1 x0.2.1 x0.2.2)) := by rw [e2, sd_rI_ne (by decide)]; exact sd_rI_eq
      clear e2
      obtain ⟨S2, S92, MS2⟩ := nt f2
      have hmk2 := MS2.2 i x0 hx
      refine wp_aload0 rfl ?_
      refine wp_dup rfl ?_
      refine wp_getIE rfl (Past_kd S2) (show _ = nI G from by rw [k6]; exact P1.2.1) ?_
      refine wp_iconst rfl ?_
      refine wp_aload1 rfl ?_
      refine wp_iload3 rfl ?_
      refine wp_callV1I rfl (Nat.le_of_ble_eq_true rfl) (Notes_kd S92) (Notes_good_ok S92 (show i < 6 by omega) hmk2 (by omega) (by omega) (by omega)) (Nat.le_of_ble_eq_true rfl) ?_
      refine pure_ ?_
      refine wp_ishlE (nI (2 ^ (x0.2.1))) (nn_shl1 _ (by omega)) rfl ?_
      refine wp_iorE (nI (G ||| (2 ^ (x0.2.1)))) (nn_or _ _) rfl ?_
      refine wp_putI rfl (Past_kd S2) ?_
      generalize hh3 : hp_rI h2 43 (va_up (hp_I h2 43) 6 (nI (G ||| 2 ^ x0.2.1))) = h3
      have f3 : fr_ p3_ h h3 := by
        rw [← hh3]
        exact fr_row (Or.inl rfl) f2
      have j6 : hp_I h3 43 6 = nI (G ||| 2 ^ x0.2.1) := by rw [← hh3, sd_rI_eq, vu_at, if_pos rfl]
      have j7 : hp_I h3 43 7 = nI T := by rw [← hh3, sd_rI_eq, vu_at, if_neg (by decide), k6]; exact P1.2.2.1
      have j51 : hp_I h3 51 1 = nI ((li_ s m i).length + 1) := by rw [← hh3, sd_rI_ne (by decide)]; exact k51
      have j52 : hp_I h3 52 = va_up (hp_I h1 52) (li_ s m i).length (nI (mk_ x0.1 x0.2.1 x0.2.2)) := by rw [← hh3, sd_rI_ne (by decide)]; exact k52
      clear hh3
      obtain ⟨S3, S93, MS3⟩ := nt f3
      have hmk3 := MS3.2 i x0 hx
      refine wp_aload0 rfl ?_
      refine wp_dup rfl ?_
      refine wp_getIE rfl (Past_kd S3) (show _ = nI T from j7) ?_
      refine wp_iconst rfl ?_
      refine wp_aload1 rfl ?_
      refine wp_iload3 rfl ?_
      refine wp_callV1I rfl (Nat.le_of_ble_eq_true rfl) (Notes_kd S93) (Notes_amount_ok S93 (show i < 6 by omega) hmk3 (by omega) (by omega) (by omega)) (Nat.le_of_ble_eq_true rfl) ?_
      refine pure_ ?_
      refine wp_ishlE (nI (2 ^ (x0.1))) (nn_shl1 _ (by omega)) rfl ?_
      refine wp_iorE (nI (T ||| (2 ^ (x0.1)))) (nn_or _ _) rfl ?_
      refine wp_putI rfl (Past_kd S3) ?_
      refine wp_iinc3N rfl rfl ?_
      refine wp_goto rfl ?_
      refine go () _ ⟨fr_row (Or.inl rfl) f3, G ||| 2 ^ x0.2.1, T ||| 2 ^ x0.1, ?_⟩
      rw [li_succ hx, if_pos (by omega)]
      exact PT_add P1 ⟨b1, by omega⟩ (by rw [sd_rI_ne (by decide)]; exact j51) (by rw [sd_rI_ne (by decide)]; exact j52) (by rw [sd_rI_eq, vu_at, if_neg (by decide)]; exact j6) (by rw [sd_rI_eq, vu_at, if_pos rfl])
  · intro x h1 I
    show wq _ tb_Past_takeSights _ 20 [some (.ref 43), some (.ref 9), some (.int (nI m)), some (.int (nI ((sg_si s).length)))] [] h1 _
    obtain ⟨f1, G, T, P1⟩ := I
    obtain ⟨S1, S91, MS1⟩ := nt f1
    rw [li_all] at P1
    refine wp_iload3 rfl ?_
    refine wp_aload1 rfl ?_
    refine wp_getIE rfl (Notes_kd S91) (show _ = nI ((sg_si s).length) from MS1.1) ?_
    refine wp_icmp_geN ((sg_si s).length) ((sg_si s).length) (by omega) (by omega) rfl (fun _ => ?_) (fun z => absurd z (by omega))
    exact wp_vret rfl ⟨rfl, f1, G, T, P1⟩
