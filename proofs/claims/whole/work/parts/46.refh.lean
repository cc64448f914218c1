-- ===== the reference: sure, forced, night =====
def an_sure_ (t : Rt_) (g : Int32) (x : Int32) : Prop := if hs_ t.1 g then ∃ u, SU_ t.1 g.toNatClampNeg u ∧ x = nI u else x = -1
theorem Ref_sure_ok {h0 h : Hp_} {t : Rt_} {g : Int32} (B : RB_ h0 h t) : cI 3 mn_Ref_sure [.ref 65, .int g] h (fun y h' => an_sure_ t g y ∧ RB_ h0 h' t) := by
  have n8 := B.n8
  have n3 := B.n3
  have p8 : 2 ^ sg_n t.1 ≤ 256 := Nat.pow_le_pow_right (by decide) n8
  refine cq_in (q := mi_Ref_sure) (L := [some (.ref 65), some (.int g), none, none, none, none]) rfl (Nat.le_of_ble_eq_true rfl) rfl ?_
  show wq _ tb_Ref_sure none 0 _ _ _ _
  refine wp_aload0 rfl ?_
  refine wp_iload1 rfl ?_
  refine wp_callV1I rfl (Nat.le_of_ble_eq_true rfl) (Ref_kd B.S) (Ref_isPlace_ok B) (Nat.le_of_ble_eq_true rfl) ?_
  refine pure_ ?_
  refine wp_if_neB rfl (fun c1 => ?_) (fun c1 => ?_)
  · skip
    obtain ⟨g, hg, rfl⟩ := hs_of c1 n8
    have hpg := B.w.2.1.1 g hg
    refine wp_aload0 rfl ?_
    refine wp_callV0V rfl (Nat.le_of_ble_eq_true rfl) (Ref_kd B.S) (Ref_findGoes_ok B) (Nat.le_of_ble_eq_true rfl) ?_
    rintro h1 ⟨G, z1⟩
    have B1 : RB_ h0 h1 t := RB_fz B (fz_mono (fun c hc => by omega) z1)
    refine wp_iconst rfl ?_
    refine wp_aload0 rfl ?_
    refine wp_iload1 rfl ?_
    refine wp_callV1I rfl (Nat.le_of_ble_eq_true rfl) (Ref_kd B1.S) (Ref_placeOf_ok B1 (by omega)) (Nat.le_of_ble_eq_true rfl) ?_
    refine pure_ ?_
    refine wp_ishlE (nI (2 ^ (sg_pos t.1 g))) (nn_shl1 _ (by omega)) rfl ?_
    refine wp_istore2 rfl rfl ?_
    refine wp_iconst rfl ?_
    refine wp_istore3 rfl rfl ?_
    refine wq_loop (X := Nat × Option Value × Option Value) (fun i x => [some (.ref 65), some (.int (nI g)), some (.int (nI x.1)), some (.int (nI i)), x.2.1, x.2.2]) (fun i x h2 => h2 = h1 ∧ SI_ t.1 g i x.1) (8) (0) ((2 ^ sg_pos t.1 g, none, none)) ?_ ?_ ?_ ?_
    · omega
    · exact ⟨rfl, SI_0⟩
    · intro i x h2 hi I k
      show wq _ tb_Ref_sure _ 24 [some (.ref 65), some (.int (nI g)), some (.int (nI x.1)), some (.int (nI i)), x.2.1, x.2.2] [] h2 _
      obtain ⟨rfl, I1⟩ := I
      have u0 := SI_lt B.w hg I1
      obtain ⟨y, hy⟩ : ∃ y, y = x.1 := ⟨_, rfl⟩
      rw [← hy] at u0 I1
      refine wp_iload3 rfl ?_
      refine wp_bipush rfl ?_
      refine wp_icmp_geN i 8 (by omega) (by omega) rfl (fun z => absurd z (by omega)) (fun _ => ?_)
      refine wp_iconst rfl ?_
      refine wp_istore4 rfl rfl ?_
      refine wq_loop (X := Nat × Option Value) (fun f x => [some (.ref 65), some (.int (nI g)), some (.int (nI x.1)), some (.int (nI i)), some (.int (nI f)), x.2]) (fun f x h3 => h3 = h2 ∧ (∀ p, x.1.testBit p = true → ∃ w, wok_ (may_ t.1) w ∧ ac_ (mv_ t.1) w (sg_pos t.1 g) = p) ∧ (∀ p, y.testBit p = true → x.1.testBit p = true) ∧ ∀ f2 p, f2 < f → may_ t.1 f2 = true → y.testBit p = true → x.1.testBit (mv_ t.1 f2 p) = true) (6) (0) ((x.1, x.2.2)) ?_ ?_ ?_ ?_
      · omega
      · exact ⟨rfl, by rw [← hy]; exact I1.1, fun p hp => by rw [← hy]; exact hp, fun f2 p hf => absurd hf (Nat.not_lt_zero f2)⟩
      · intro f x h3 hi J k
        show wq _ tb_Ref_sure _ 33 [some (.ref 65), some (.int (nI g)), some (.int (nI x.1)), some (.int (nI i)), some (.int (nI f)), x.2] [] h3 _
        obtain ⟨rfl, J1, J2, J3⟩ := J
        have hf6 := hi
        refine wp_iload4 rfl ?_
        refine wp_bipush rfl ?_
        refine wp_icmp_geN f 6 (by omega) (by omega) rfl (fun z => absurd z (by omega)) (fun _ => ?_)
        refine wp_iconst rfl ?_
        refine wp_istore5 rfl rfl ?_
        refine wq_loop (X := Nat) (fun p x => [some (.ref 65), some (.int (nI g)), some (.int (nI x)), some (.int (nI i)), some (.int (nI f)), some (.int (nI p))]) (fun p x h4 => h4 = h3 ∧ (∀ p, x.testBit p = true → ∃ w, wok_ (may_ t.1) w ∧ ac_ (mv_ t.1) w (sg_pos t.1 g) = p) ∧ (∀ p, y.testBit p = true → x.testBit p = true) ∧ (∀ f2 p, f2 < f → may_ t.1 f2 = true → y.testBit p = true → x.testBit (mv_ t.1 f2 p) = true) ∧ ∀ p2, p2 < p → may_ t.1 f = true → y.testBit p2 = true → x.testBit (mv_ t.1 f p2) = true) (sg_n t.1) (0) (x.1) ?_ ?_ ?_ ?_
        · omega
        · exact ⟨rfl, J1, J2, J3, fun p2 hp => absurd hp (Nat.not_lt_zero p2)⟩
        · intro p x h4 hi K k
          show wq _ tb_Ref_sure _ 43 [some (.ref 65), some (.int (nI g)), some (.int (nI x)), some (.int (nI i)), some (.int (nI f)), some (.int (nI p))] [] h4 _
          obtain ⟨rfl, K1, K2, K3, K4⟩ := K
          have u1 : x < 2 ^ sg_n t.1 := bits_lt (fun q hq => by
            obtain ⟨v, a1, a2⟩ := K1 q hq
            rw [← a2]
            exact (ac_P (mv_P B.w) v).1 _ hpg)
          have hmp := (mv_P B.w f).1 p hi
          refine wp_iload5 rfl ?_
          refine wp_aload0 rfl ?_
          refine wp_getIE rfl (Ref_kd B1.S) (show _ = nI (sg_n t.1) from B1.n) ?_
          refine wp_icmp_geN p (sg_n t.1) (by omega) (by omega) rfl (fun z => absurd z (by omega)) (fun _ => ?_)
          refine wp_iload2 rfl ?_
          refine wp_aload0 rfl ?_
          refine wp_iload4 rfl ?_
          refine wp_callV1I rfl (Nat.le_of_ble_eq_true rfl) (Ref_kd B1.S) (Ref_may_ok B1 hf6) (Nat.le_of_ble_eq_true rfl) ?_
          refine pure_ ?_
          refine wp_if_eqB rfl (fun c2 => ?_) (fun c2 => ?_)
          · skip
            refine wp_iconst rfl ?_
            refine wp_iorE (nI (x ||| 0)) (nn_or _ _) rfl ?_
            refine wp_istore2 rfl rfl ?_
            refine wp_iinc5N rfl rfl ?_
            refine wp_goto rfl ?_
            rw [show x ||| 0 = x from Nat.or_zero x]
            exact k x _ ⟨rfl, K1, K2, K3, fun p2 hp hm hy => by rw [c2] at hm; cases hm⟩
          · skip
            refine wp_iload2 rfl ?_
            refine wp_iload5 rfl ?_
            refine wp_ishrE (nI (x / 2 ^ p)) (nn_sshr _ _ (by omega) (by omega)) rfl ?_
            refine wp_iconst rfl ?_
            refine wp_iandE (nI ((x / 2 ^ p) % 2)) (nn_1 _) rfl ?_
            refine wp_iconst rfl ?_
            refine wp_icmp_neN ((x / 2 ^ p) % 2) 1 (by omega) (by omega) rfl (fun c3 => ?_) (fun c3 => ?_)
            · skip
              refine wp_iconst rfl ?_
              refine wp_iorE (nI (x ||| 0)) (nn_or _ _) rfl ?_
              refine wp_istore2 rfl rfl ?_
              refine wp_iinc5N rfl rfl ?_
              refine wp_goto rfl ?_
              rw [show x ||| 0 = x from Nat.or_zero x]
              have c4 := (tb_mod0 _ _).mp c3
              refine k x _ ⟨rfl, K1, K2, K3, fun p2 hp hm hy => ?_⟩
              rcases Nat.lt_or_ge p2 p with q | q
              · exact K4 p2 q hm hy
              · obtain rfl : p2 = p := by omega
                rw [K2 _ hy] at c4
                cases c4
            · skip
              have c4 := (tb_mod _ _).mp c3
              refine wp_iconst rfl ?_
              refine wp_aload0 rfl ?_
              refine wp_getR rfl (Ref_kd B1.S) (Ref_R19 B1.S) (by first | decide | omega) ?_
              refine wp_bipush rfl ?_
              refine wp_iload4 rfl ?_
              refine wp_imulE (nI (8 * f)) (pk_mul _ _) rfl ?_
              refine wp_iload5 rfl ?_
              refine wp_iaddE (nI ((8 * f) + p)) (nI_add _ _) rfl ?_
              refine wp_ialdE ((8 * f) + p) rfl (Ref_k19 B1.S) (by first | decide | omega) (Nat.lt_of_lt_of_eq (show ((8 * f) + p) < _ by omega) (Eq.symm (Ref_n19 B1.S))) (by omega) (show _ = nI (mv_ t.1 f p) from G f p hf6 hi) rfl ?_
              refine wp_ishlE (nI (2 ^ (mv_ t.1 f p))) (nn_shl1 _ (by omega)) rfl ?_
              refine wp_goto rfl ?_
              refine wp_iorE (nI (x ||| (2 ^ (mv_ t.1 f p)))) (nn_or _ _) rfl ?_
              refine wp_istore2 rfl rfl ?_
              refine wp_iinc5N rfl rfl ?_
              refine wp_goto rfl ?_
              refine k (x ||| 2 ^ mv_ t.1 f p) _ ⟨rfl, fun q hq => ?_, fun q hq => (or_bit _ _ _).mpr (Or.inl (K2 q hq)), fun f2 q a1 a2 a3 => (or_bit _ _ _).mpr (Or.inl (K3 f2 q a1 a2 a3)), fun p2 hp hm hy => ?_⟩
              · rcases (or_bit _ _ _).mp hq with z | z
                · exact K1 q z
                · rw [z]; exact SI_step hf6 c2 (K1 p c4)
              · rcases Nat.lt_or_ge p2 p with q | q
                · exact (or_bit _ _ _).mpr (Or.inl (K4 p2 q hm hy))
                · obtain rfl : p2 = p := by omega
                  exact (or_bit _ _ _).mpr (Or.inr rfl)
        · intro x h4 K
          show wq _ tb_Ref_sure _ 43 [some (.ref 65), some (.int (nI g)), some (.int (nI x)), some (.int (nI i)), some (.int (nI f)), some (.int (nI (sg_n t.1)))] [] h4 _
          obtain ⟨rfl, K1, K2, K3, K4⟩ := K
          refine wp_iload5 rfl ?_
          refine wp_aload0 rfl ?_
          refine wp_getIE rfl (Ref_kd B1.S) (show _ = nI (sg_n t.1) from B1.n) ?_
          refine wp_icmp_geN (sg_n t.1) (sg_n t.1) (by omega) (by omega) rfl (fun _ => ?_) (fun z => absurd z (by omega))
          refine wp_iinc4N rfl rfl ?_
          refine wp_goto rfl ?_
          refine k (x, _) _ ⟨rfl, K1, K2, fun f2 p a1 a2 a3 => ?_⟩
          rcases Nat.lt_or_ge f2 f with q | q
          · exact K3 f2 p q a2 a3
          · obtain rfl : f2 = f := by omega
            refine K4 p ?_ a2 a3
            rcases Nat.lt_or_ge p (sg_n t.1) with z | z
            · exact z
            · have := Nat.testBit_lt_two_pow (Nat.lt_of_lt_of_le u0 (Nat.pow_le_pow_right (by decide) z))
              rw [this] at a3
              cases a3
      · intro x h3 J
        show wq _ tb_Ref_sure _ 33 [some (.ref 65), some (.int (nI g)), some (.int (nI x.1)), some (.int (nI i)), some (.int (nI 6)), x.2] [] h3 _
        obtain ⟨rfl, J1, J2, J3⟩ := J
        refine wp_iload4 rfl ?_
        refine wp_bipush rfl ?_
        refine wp_icmp_geN 6 6 (by omega) (by omega) rfl (fun _ => ?_) (fun z => absurd z (by omega))
        refine wp_iinc3N rfl rfl ?_
        refine wp_goto rfl ?_
        exact k (x.1, _, _) _ ⟨rfl, SI_next I1 J1 J2 (fun f p a1 a2 a3 => J3 f p a1 a2 a3)⟩
    · intro x h2 I
      show wq _ tb_Ref_sure _ 24 [some (.ref 65), some (.int (nI g)), some (.int (nI x.1)), some (.int (nI 8)), x.2.1, x.2.2] [] h2 _
      obtain ⟨rfl, I1⟩ := I
      refine wp_iload3 rfl ?_
      refine wp_bipush rfl ?_
      refine wp_icmp_geN 8 8 (by omega) (by omega) rfl (fun _ => ?_) (fun z => absurd z (by omega))
      refine wp_iload2 rfl ?_
      exact wp_iret rfl ⟨_, rfl, by unfold an_sure_; rw [show hs_ t.1 (nI g) = true from c1, if_pos rfl, nI_clamp (show g < 2 ^ 31 by omega)]; exact ⟨_, SI_8 B.w hg I1, rfl⟩, B1⟩
  · skip
    refine wp_iconst rfl ?_
    exact wp_iret rfl ⟨_, rfl, by unfold an_sure_; rw [c1, if_neg Bool.false_ne_true], B⟩
/-- needs: what a turn at a place needs, out of what the next ones need -/
def ND_ (s : Sg_) (nd : Nat → Nat) (tn p v : Nat) : Prop := v ≤ 1000 ∧ (tn = 0 → (∃ q, nx_ s 0 p q ∧ (v < 1000 → v = nd (2 * q + 1) + 1)) ∧ ∀ q, nx_ s 0 p q → v ≤ nd (2 * q + 1) + 1) ∧ (tn = 1 → (v < 1000 → ∀ q, nx_ s 1 p q → nd (2 * q) + 1 ≤ v) ∧ ∃ q, nx_ s 1 p q ∧ v ≤ nd (2 * q) + 1)
def bst_ (s : Sg_) (nd : Nat → Nat) (tn p f : Nat) (x : Int32) : Prop := (x = -6 ∧ ∀ f2, f2 < f → ¬ el_ s tn f2) ∨ ∃ b, x = nI b ∧ b ≤ 1000 ∧ (∃ f2, f2 < f ∧ el_ s tn f2 ∧ b = nd (2 * mv_ s f2 p + 1 - tn)) ∧ ∀ f2, f2 < f → el_ s tn f2 → if tn = 0 then b ≤ nd (2 * mv_ s f2 p + 1 - tn) else nd (2 * mv_ s f2 p + 1 - tn) ≤ b
theorem bst_skip {s : Sg_} {nd : Nat → Nat} {tn p f : Nat} {x : Int32} (h : bst_ s nd tn p f x) (hn : ¬ el_ s tn f) : bst_ s nd tn p (f + 1) x := by
  rcases h with ⟨e, h⟩ | ⟨b, e, h1, ⟨f2, h2, h3, h4⟩, h5⟩
  · refine Or.inl ⟨e, fun f2 hf => ?_⟩
    rcases Nat.lt_or_ge f2 f with q | q
    · exact h f2 q
    · obtain rfl : f2 = f := by omega
      exact hn
  · refine Or.inr ⟨b, e, h1, ⟨f2, by omega, h3, h4⟩, fun f3 hf hel => ?_⟩
    rcases Nat.lt_or_ge f3 f with q | q
    · exact h5 f3 q hel
    · obtain rfl : f3 = f := by omega
      exact absurd hel hn
theorem bst_new {s : Sg_} {nd : Nat → Nat} {tn p f b : Nat} (hel : el_ s tn f) (e : b = nd (2 * mv_ s f p + 1 - tn)) (hb : b ≤ 1000) (h : ∀ f2, f2 < f → el_ s tn f2 → if tn = 0 then b ≤ nd (2 * mv_ s f2 p + 1 - tn) else nd (2 * mv_ s f2 p + 1 - tn) ≤ b) : bst_ s nd tn p (f + 1) (nI b) := by
  refine Or.inr ⟨b, rfl, hb, ⟨f, by omega, hel, e⟩, fun f2 hf hel2 => ?_⟩
  rcases Nat.lt_or_ge f2 f with q | q
  · exact h f2 q hel2
  · obtain rfl : f2 = f := by omega
    split <;> omega
theorem bst_keep {s : Sg_} {nd : Nat → Nat} {tn p f b : Nat} (hb : b ≤ 1000) (hex : ∃ f2, f2 < f ∧ el_ s tn f2 ∧ b = nd (2 * mv_ s f2 p + 1 - tn)) (h : ∀ f2, f2 < f → el_ s tn f2 → if tn = 0 then b ≤ nd (2 * mv_ s f2 p + 1 - tn) else nd (2 * mv_ s f2 p + 1 - tn) ≤ b) (hn : if tn = 0 then b ≤ nd (2 * mv_ s f p + 1 - tn) else nd (2 * mv_ s f p + 1 - tn) ≤ b) : bst_ s nd tn p (f + 1) (nI b) := by
  obtain ⟨f2, h2, h3, h4⟩ := hex
  refine Or.inr ⟨b, rfl, hb, ⟨f2, by omega, h3, h4⟩, fun f3 hf hel2 => ?_⟩
  rcases Nat.lt_or_ge f3 f with q | q
  · exact h f3 q hel2
  · obtain rfl : f3 = f := by omega
    exact hn
theorem Ref_needsOf_ok {h0 h : Hp_} {t : Rt_} {nd : Nat → Nat} {p tn : Nat} (B : RB_ h0 h t) (G : GO_ h t.1) (hnd : ∀ k, k < 16 → nd k ≤ 1000 ∧ hp_I h 87 k = nI (nd k)) (hp : p < sg_n t.1) (htn : tn < 2) : cI 2 mn_Ref_needsOf [.ref 65, .int (nI p), .int (nI tn)] h (fun y h' => (∃ v, y = nI v ∧ ND_ t.1 nd tn p v) ∧ h' = h) := by
  have n8 := B.n8
  have hca := B.w.2.2.2.2.2.2.2.2.1 tn
  refine cq_in (q := mi_Ref_needsOf) (L := [some (.ref 65), some (.int (nI p)), some (.int (nI tn)), none, none, none, none]) rfl (Nat.le_of_ble_eq_true rfl) rfl ?_
  show wq _ tb_Ref_needsOf none 0 _ _ _ _
  refine wp_bipush rfl ?_
  refine wp_istore3 rfl rfl ?_
  refine wp_iconst rfl ?_
  refine wp_istore4 rfl rfl ?_
  refine wq_loop (X := Int32 × Option Value × Option Value) (fun f x => [some (.ref 65), some (.int (nI p)), some (.int (nI tn)), some (.int x.1), some (.int (nI f)), x.2.1, x.2.2]) (fun f x h1 => h1 = h ∧ bst_ t.1 nd tn p f x.1) (6) (0) ((-6, none, none)) ?_ ?_ ?_ ?_
  · omega
  · exact ⟨rfl, Or.inl ⟨rfl, fun f2 hf => absurd hf (Nat.not_lt_zero f2)⟩⟩
  · intro f x h1 hi I k
    show wq _ tb_Ref_needsOf _ 6 [some (.ref 65), some (.int (nI p)), some (.int (nI tn)), some (.int x.1), some (.int (nI f)), x.2.1, x.2.2] [] h1 _
    obtain ⟨rfl, I1⟩ := I
    have hf6 := hi
    have hmp := (mv_P B.w f).1 p hp
    have hn1 := hnd (2 * mv_ t.1 f p + 1 - tn) (by omega)
    refine wp_iload4 rfl ?_
    refine wp_bipush rfl ?_
    refine wp_icmp_geN f 6 (by omega) (by omega) rfl (fun z => absurd z (by omega)) (fun _ => ?_)
    refine wp_aload0 rfl ?_
    refine wp_getR rfl (Ref_kd B.S) (Ref_R8 B.S) (by first | decide | omega) ?_
    refine wp_iload2 rfl ?_
    refine wp_ialdE tn rfl (Ref_k8 B.S) (by first | decide | omega) (Nat.lt_of_lt_of_eq (show tn < _ by omega) (Eq.symm (Ref_n8 B.S))) (by omega) (show _ = nI (sg_ca t.1 tn) from B.ca htn) rfl ?_
    refine wp_iload4 rfl ?_
    refine wp_ishrE (nI ((sg_ca t.1 tn) / 2 ^ f)) (nn_sshr _ _ (by omega) (by omega)) rfl ?_
    refine wp_iconst rfl ?_
    refine wp_iandE (nI (((sg_ca t.1 tn) / 2 ^ f) % 2)) (nn_1 _) rfl ?_
    refine wp_iconst rfl ?_
    refine wp_icmp_neN (((sg_ca t.1 tn) / 2 ^ f) % 2) 1 (by omega) (by omega) rfl (fun c1 => ?_) (fun c1 => ?_)
    · skip
      refine wp_iinc4N rfl rfl ?_
      refine wp_goto rfl ?_
      have c2 := (tb_mod0 _ _).mp c1
      exact k x _ ⟨rfl, bst_skip I1 (fun z => by rw [z.1] at c2; cases c2)⟩
    · skip
      refine wp_aload0 rfl ?_
      refine wp_iload4 rfl ?_
      have c2 := (tb_mod _ _).mp c1
      refine wp_callV1I rfl (Nat.le_of_ble_eq_true rfl) (Ref_kd B.S) (Ref_may_ok B hf6) (Nat.le_of_ble_eq_true rfl) ?_
      refine pure_ ?_
      refine wp_if_eqB rfl (fun c3 => ?_) (fun c3 => ?_)
      · skip
        refine wp_iinc4N rfl rfl ?_
        refine wp_goto rfl ?_
        exact k x _ ⟨rfl, bst_skip I1 (fun z => by rw [z.2] at c3; cases c3)⟩
      · skip
        refine wp_aload0 rfl ?_
        refine wp_getR rfl (Ref_kd B.S) (Ref_R31 B.S) (by first | decide | omega) ?_
        refine wp_iconst rfl ?_
        refine wp_aload0 rfl ?_
        refine wp_getR rfl (Ref_kd B.S) (Ref_R19 B.S) (by first | decide | omega) ?_
        refine wp_bipush rfl ?_
        refine wp_iload4 rfl ?_
        refine wp_imulE (nI (8 * f)) (pk_mul _ _) rfl ?_
        refine wp_iload1 rfl ?_
        refine wp_iaddE (nI ((8 * f) + p)) (nI_add _ _) rfl ?_
        refine wp_ialdE ((8 * f) + p) rfl (Ref_k19 B.S) (by first | decide | omega) (Nat.lt_of_lt_of_eq (show ((8 * f) + p) < _ by omega) (Eq.symm (Ref_n19 B.S))) (by omega) (show _ = nI (mv_ t.1 f p) from G f p hf6 hp) rfl ?_
        refine wp_imulE (nI (2 * (mv_ t.1 f p))) (pk_mul _ _) rfl ?_
        refine wp_iconst rfl ?_
        refine wp_iaddE (nI ((2 * (mv_ t.1 f p)) + 1)) (nI_add _ _) rfl ?_
        refine wp_iload2 rfl ?_
        refine wp_isubE (nI (((2 * (mv_ t.1 f p)) + 1) - tn)) (pk_sub (by omega)) rfl ?_
        refine wp_ialdE (((2 * (mv_ t.1 f p)) + 1) - tn) rfl (Ref_k31 B.S) (by first | decide | omega) (Nat.lt_of_lt_of_eq (show (((2 * (mv_ t.1 f p)) + 1) - tn) < _ by omega) (Eq.symm (Ref_n31 B.S))) (by omega) (show _ = nI (nd (2 * mv_ t.1 f p + 1 - tn)) from hn1.2) rfl ?_
        have hel : el_ t.1 tn f := ⟨c2, c3⟩
        obtain ⟨x0, x1, x2⟩ := x
        dsimp only at I1
        show wq _ tb_Ref_needsOf _ 60 [some (.ref 65), some (.int (nI p)), some (.int (nI tn)), some (.int x0), some (.int (nI f)), x1, x2] [.int (nI (nd (2 * mv_ t.1 f p + 1 - tn)))] h1 _
        rcases I1 with ⟨rfl, I2⟩ | ⟨b, rfl, I2, I3, I4⟩
        · skip
          refine wp_istore5 rfl rfl ?_
          refine wp_iload3 rfl ?_
          refine wp_if_lt rfl (fun _ => ?_) (fun z => absurd z (by decide))
          refine wp_iconst rfl ?_
          refine wp_goto rfl ?_
          refine wp_istore6 rfl rfl ?_
          refine wp_iload6 rfl ?_
          refine wp_if_eqN 1 0 (by omega) (by decide) rfl (fun z => absurd z (by decide)) (fun _ => ?_)
          refine wp_iload5 rfl ?_
          refine wp_goto rfl ?_
          refine wp_istore3 rfl rfl ?_
          refine wp_iinc4N rfl rfl ?_
          refine wp_goto rfl ?_
          exact k (_, _, _) _ ⟨rfl, bst_new hel rfl hn1.1 (fun f2 hf h => absurd h (I2 f2 hf))⟩
        · skip
          refine wp_istore5 rfl rfl ?_
          refine wp_iload3 rfl ?_
          refine wp_if_ltN b 0 (by omega) (by decide) rfl ?_
          refine wp_iload2 rfl ?_
          refine wp_if_neN tn 0 (by omega) (by decide) rfl (fun c5 => ?_) (fun c5 => ?_)
          · skip
            refine wp_iload5 rfl ?_
            refine wp_iload3 rfl ?_
            refine wp_icmp_leN (nd (2 * mv_ t.1 f p + 1 - tn)) b (by omega) (by omega) rfl (fun c6 => ?_) (fun c6 => ?_)
            · skip
              refine wp_iconst rfl ?_
              refine wp_istore6 rfl rfl ?_
              refine wp_iload6 rfl ?_
              refine wp_if_eqN 0 0 (by omega) (by decide) rfl (fun _ => ?_) (fun z => absurd z (fun z => z rfl))
              refine wp_iload3 rfl ?_
              refine wp_istore3 rfl rfl ?_
              refine wp_iinc4N rfl rfl ?_
              refine wp_goto rfl ?_
              exact k (_, _, _) _ ⟨rfl, bst_keep I2 I3 I4 (by rw [if_neg (by omega)]; omega)⟩
            · skip
              refine wp_iconst rfl ?_
              refine wp_goto rfl ?_
              refine wp_istore6 rfl rfl ?_
              refine wp_iload6 rfl ?_
              refine wp_if_eqN 1 0 (by omega) (by decide) rfl (fun z => absurd z (by decide)) (fun _ => ?_)
              refine wp_iload5 rfl ?_
              refine wp_goto rfl ?_
              refine wp_istore3 rfl rfl ?_
              refine wp_iinc4N rfl rfl ?_
              refine wp_goto rfl ?_
              exact k (_, _, _) _ ⟨rfl, bst_new hel rfl hn1.1 (fun f2 hf h => by have := I4 f2 hf h; rw [if_neg (by omega)] at this ⊢; omega)⟩
          · skip
            refine wp_iload5 rfl ?_
            refine wp_iload3 rfl ?_
            refine wp_icmp_geN (nd (2 * mv_ t.1 f p + 1 - tn)) b (by omega) (by omega) rfl (fun c6 => ?_) (fun c6 => ?_)
            · skip
              refine wp_iconst rfl ?_
              refine wp_istore6 rfl rfl ?_
              refine wp_iload6 rfl ?_
              refine wp_if_eqN 0 0 (by omega) (by decide) rfl (fun _ => ?_) (fun z => absurd z (fun z => z rfl))
              refine wp_iload3 rfl ?_
              refine wp_istore3 rfl rfl ?_
              refine wp_iinc4N rfl rfl ?_
              refine wp_goto rfl ?_
              exact k (_, _, _) _ ⟨rfl, bst_keep I2 I3 I4 (by rw [if_pos (by omega)]; omega)⟩
            · skip
              refine wp_goto rfl ?_
              refine wp_iconst rfl ?_
              refine wp_goto rfl ?_
              refine wp_istore6 rfl rfl ?_
              refine wp_iload6 rfl ?_
              refine wp_if_eqN 1 0 (by omega) (by decide) rfl (fun z => absurd z (by decide)) (fun _ => ?_)
              refine wp_iload5 rfl ?_
              refine wp_goto rfl ?_
              refine wp_istore3 rfl rfl ?_
              refine wp_iinc4N rfl rfl ?_
              refine wp_goto rfl ?_
              exact k (_, _, _) _ ⟨rfl, bst_new hel rfl hn1.1 (fun f2 hf h => by have := I4 f2 hf h; rw [if_pos (by omega)] at this ⊢; omega)⟩
  · intro x h1 I
    show wq _ tb_Ref_needsOf _ 6 [some (.ref 65), some (.int (nI p)), some (.int (nI tn)), some (.int x.1), some (.int (nI 6)), x.2.1, x.2.2] [] h1 _
    obtain ⟨rfl, I1⟩ := I
    obtain ⟨x0, x1, x2⟩ := x
    dsimp only at I1
    show wq _ tb_Ref_needsOf _ 6 [some (.ref 65), some (.int (nI p)), some (.int (nI tn)), some (.int x0), some (.int (nI 6)), x1, x2] [] h1 _
    have fin : ∀ b, b ≤ 1000 → (∃ q, nx_ t.1 tn p q ∧ b = nd (2 * q + 1 - tn)) → (∀ q, nx_ t.1 tn p q → if tn = 0 then b ≤ nd (2 * q + 1 - tn) else nd (2 * q + 1 - tn) ≤ b) → ∀ v, v ≤ 1000 → (b < 1000 → v = b + 1) → (1000 ≤ b → v = 1000) → ND_ t.1 nd tn p v := by
      intro b hb ⟨q, hq, eq⟩ hall v hv h1 h2
      refine ⟨hv, fun e => ?_, fun e => ?_⟩
      · subst e
        have eq2 : b = nd (2 * q + 1) := eq
        have hall2 : ∀ q, nx_ t.1 0 p q → b ≤ nd (2 * q + 1) := fun q hq => by have := hall q hq; rw [if_pos rfl] at this; exact this
        refine ⟨⟨q, hq, fun hv2 => ?_⟩, fun q2 hq2 => ?_⟩
        · have : b < 1000 := by omega
          have := h1 this
          omega
        · have := hall2 q2 hq2
          rcases Nat.lt_or_ge b 1000 with z | z
          · have := h1 z
            omega
          · have := h2 z
            omega
      · subst e
        have eq2 : b = nd (2 * q) := eq
        have hall2 : ∀ q, nx_ t.1 1 p q → nd (2 * q) ≤ b := fun q hq => by have := hall q hq; rw [if_neg (by decide)] at this; exact this
        refine ⟨fun hv2 q2 hq2 => ?_, q, hq, ?_⟩
        · have := hall2 q2 hq2
          have : b < 1000 := by omega
          have := h1 this
          omega
        · rcases Nat.lt_or_ge b 1000 with z | z
          · have := h1 z
            omega
          · omega
    refine wp_iload4 rfl ?_
    refine wp_bipush rfl ?_
    refine wp_icmp_geN 6 6 (by omega) (by omega) rfl (fun _ => ?_) (fun z => absurd z (by omega))
    rcases I1 with ⟨rfl, I2⟩ | ⟨b, rfl, I2, ⟨f2, I3, I4, I5⟩, I6⟩
    · skip
      refine wp_iload3 rfl ?_
      refine wp_if_ge rfl (fun z => absurd z (by decide)) (fun _ => ?_)
      have hn1 := hnd (2 * p + 1 - tn) (by omega)
      refine wp_aload0 rfl ?_
      refine wp_getR rfl (Ref_kd B.S) (Ref_R31 B.S) (by first | decide | omega) ?_
      refine wp_iconst rfl ?_
      refine wp_iload1 rfl ?_
      refine wp_imulE (nI (2 * p)) (pk_mul _ _) rfl ?_
      refine wp_iconst rfl ?_
      refine wp_iaddE (nI ((2 * p) + 1)) (nI_add _ _) rfl ?_
      refine wp_iload2 rfl ?_
      refine wp_isubE (nI (((2 * p) + 1) - tn)) (pk_sub (by omega)) rfl ?_
      refine wp_ialdE (((2 * p) + 1) - tn) rfl (Ref_k31 B.S) (by first | decide | omega) (Nat.lt_of_lt_of_eq (show (((2 * p) + 1) - tn) < _ by omega) (Eq.symm (Ref_n31 B.S))) (by omega) (show _ = nI (nd (2 * p + 1 - tn)) from hn1.2) rfl ?_
      refine wp_goto rfl ?_
      refine wp_istore3 rfl rfl ?_
      refine wp_iload3 rfl ?_
      refine wp_sipush rfl ?_
      have hone : ∀ q, nx_ t.1 tn p q → q = p := by
        rintro q (⟨f, a1, a2, _⟩ | ⟨_, a2⟩)
        · exact absurd a2 (I2 f a1)
        · exact a2
      have hnx : nx_ t.1 tn p p := Or.inr ⟨I2, rfl⟩
      have F := fin (nd (2 * p + 1 - tn)) hn1.1 ⟨p, hnx, rfl⟩ (fun q hq => by rw [hone q hq]; split <;> omega)
      refine wp_icmp_geN (nd (2 * p + 1 - tn)) 1000 (by omega) (by omega) rfl (fun c1 => ?_) (fun c1 => ?_)
      · skip
        refine wp_sipush rfl ?_
        exact wp_iret rfl ⟨_, rfl, ⟨1000, rfl, F 1000 (by omega) (fun z => by omega) (fun _ => rfl)⟩, rfl⟩
      · skip
        refine wp_iload3 rfl ?_
        refine wp_iconst rfl ?_
        refine wp_iaddE (nI ((nd (2 * p + 1 - tn)) + 1)) (nI_add _ _) rfl ?_
        refine wp_goto rfl ?_
        exact wp_iret rfl ⟨_, rfl, ⟨nd (2 * p + 1 - tn) + 1, rfl, F _ (by omega) (fun _ => rfl) (fun z => by omega)⟩, rfl⟩
    · skip
      refine wp_iload3 rfl ?_
      refine wp_if_geN b 0 (by omega) (by decide) rfl ?_
      refine wp_iload3 rfl ?_
      refine wp_istore3 rfl rfl ?_
      refine wp_iload3 rfl ?_
      refine wp_sipush rfl ?_
      have F := fin b I2 ⟨_, Or.inl ⟨f2, I3, I4, rfl⟩, I5⟩ (fun q hq => by
        rcases hq with ⟨f, a1, a2, rfl⟩ | ⟨a1, _⟩
        · exact I6 f a1 a2
        · exact absurd I4 (a1 f2 I3))
      refine wp_icmp_geN b 1000 (by omega) (by omega) rfl (fun c2 => ?_) (fun c2 => ?_)
      · skip
        refine wp_sipush rfl ?_
        exact wp_iret rfl ⟨_, rfl, ⟨1000, rfl, F 1000 (by omega) (fun z => by omega) (fun _ => rfl)⟩, rfl⟩
      · skip
        refine wp_iload3 rfl ?_
        refine wp_iconst rfl ?_
        refine wp_iaddE (nI (b + 1)) (nI_add _ _) rfl ?_
        refine wp_goto rfl ?_
        exact wp_iret rfl ⟨_, rfl, ⟨b + 1, rfl, F _ (by omega) (fun _ => rfl) (fun z => by omega)⟩, rfl⟩
/-- what the needs tell, r rounds on -/
def NI_ (s : Sg_) (a r : Nat) (nd : Nat → Nat) : Prop := (∀ k, k < 16 → nd k ≤ 1000) ∧ (∀ k, k < 16 → k / 2 = a → nd k = 0) ∧ (∀ k, k < 2 * sg_n s → nd k < 1000 → WN_ s a (nd k) (k % 2) (k / 2)) ∧ ∀ k, k < 2 * sg_n s → ∀ c, c ≤ r → WN_ s a c (k % 2) (k / 2) → nd k ≤ c
theorem NI_put {s : Sg_} {a r k v : Nat} {nd : Nat → Nat} (w : sg_wf s) (ha : a < sg_n s) (I : NI_ s a r nd) (hk : k < 2 * sg_n s) (hka : k / 2 ≠ a) (D : ND_ s nd (k % 2) (k / 2) v) : NI_ s a r (va_up nd k v) ∧ ∀ c, c ≤ r + 1 → WN_ s a c (k % 2) (k / 2) → v ≤ c := by
  have n8 := w.1.2
  obtain ⟨I1, I2, I3, I4⟩ := I
  obtain ⟨D0, D1, D2⟩ := D
  have nxt : ∀ t q, nx_ s t (k / 2) q → q < sg_n s := fun t q h => nx_lt w (by omega) h
  have snd : v < 1000 → WN_ s a v (k % 2) (k / 2) := by
    intro hv
    rcases (show k % 2 = 0 ∨ k % 2 = 1 by omega) with e | e
    · obtain ⟨⟨q, hq, hv2⟩, _⟩ := D1 e
      have hq2 := nxt _ _ hq
      have h1 := hv2 hv
      have h2 := I3 (2 * q + 1) (by omega) (by omega)
      rw [show (2 * q + 1) % 2 = 1 by omega, show (2 * q + 1) / 2 = q by omega] at h2
      rw [h1, e]
      exact Or.inr (Or.inl ⟨rfl, q, hq, h2⟩)
    · obtain ⟨hall, q0, hq0, _⟩ := D2 e
      have hpos : 1 ≤ v := by have := hall hv q0 hq0; omega
      obtain ⟨v, rfl⟩ : ∃ z, v = z + 1 := ⟨v - 1, by omega⟩
      rw [e]
      refine Or.inr (Or.inr ⟨rfl, fun q hq => ?_⟩)
      have hq2 := nxt _ _ hq
      have h1 := hall hv q hq
      have h2 := I3 (2 * q) (by omega) (by omega)
      rw [show (2 * q) % 2 = 0 by omega, show (2 * q) / 2 = q by omega] at h2
      exact WN_mono h2 v (by omega)
  have cmp : ∀ c, c ≤ r + 1 → WN_ s a c (k % 2) (k / 2) → v ≤ c := by
    intro c hc h
    cases c with
    | zero => exact absurd h hka
    | succ c =>
      rcases h with h | ⟨e, q, hq, h⟩ | ⟨e, h⟩
      · exact absurd h hka
      · have hq2 := nxt _ _ hq
        have h1 := (D1 e).2 q hq
        have h2 := I4 (2 * q + 1) (by omega) c (by omega) (by rw [show (2 * q + 1) % 2 = 1 by omega, show (2 * q + 1) / 2 = q by omega]; exact h)
        omega
      · obtain ⟨_, q, hq, hv⟩ := D2 e
        have hq2 := nxt _ _ hq
        have h2 := I4 (2 * q) (by omega) c (by omega) (by rw [show (2 * q) % 2 = 0 by omega, show (2 * q) / 2 = q by omega]; exact h q hq)
        omega
  refine ⟨⟨fun j hj => ?_, fun j hj e => ?_, fun j hj hv => ?_, fun j hj c hc h => ?_⟩, cmp⟩
  · rw [vu_at]
    split
    · exact D0
    · exact I1 j hj
  · rw [vu_at, if_neg (fun z => hka (by rw [← z]; exact e))]
    exact I2 j hj e
  · rw [vu_at] at hv ⊢
    by_cases z : j = k
    · rw [if_pos z] at hv ⊢
      rw [z]
      exact snd hv
    · rw [if_neg z] at hv ⊢
      exact I3 j hj hv
  · rw [vu_at]
    by_cases z : j = k
    · rw [if_pos z]
      rw [z] at h
      exact cmp c (by omega) h
    · rw [if_neg z]
      exact I4 j hj c hc h
theorem NI_end {s : Sg_} {a p : Nat} {nd : Nat → Nat} (w : sg_wf s) (hp : p < sg_n s) (I : NI_ s a 40 nd) : (nd (2 * p) < 1000 → FO_ s a p (some (nd (2 * p)))) ∧ (¬ nd (2 * p) < 1000 → FO_ s a p none) := by
  obtain ⟨I1, I2, I3, I4⟩ := I
  have e1 : (2 * p) % 2 = 0 := by omega
  have e2 : (2 * p) / 2 = p := by omega
  have low : ∀ c, WN_ s a c 0 p → nd (2 * p) ≤ c ∧ nd (2 * p) ≤ 15 := by
    intro c h
    obtain ⟨d, hd, hL⟩ := WL_ex h
    have h15 := WN_15 w (by omega) hp h
    have hd15 : d ≤ 15 := by
      rcases Nat.lt_or_ge 15 d with q | q
      · exact absurd h15 (hL.2 15 q)
      · exact q
    have := I4 (2 * p) (by omega) d (by omega) (by rw [e1, e2]; exact hL.1)
    exact ⟨by omega, by omega⟩
  constructor
  · intro h
    have h1 := I3 (2 * p) (by omega) h
    rw [e1, e2] at h1
    exact ⟨h1, fun d hd h2 => by have := (low d h2).1; omega⟩
  · intro h c hc
    have := (low c hc).2
    omega
def an_forced_ (t : Rt_) (g p : Int32) (x : Int32) : Prop := if hs_ t.1 g && hs_ t.1 p then ∃ o, FO_ t.1 p.toNatClampNeg (sg_pos t.1 g.toNatClampNeg) o ∧ x = vo_ o else x = -1
theorem Ref_forced_ok {h0 h : Hp_} {t : Rt_} {g p : Int32} (B : RB_ h0 h t) : cI 3 mn_Ref_forced [.ref 65, .int g, .int p] h (fun y h' => an_forced_ t g p y ∧ RB_ h0 h' t) := by
  have n8 := B.n8
  refine cq_in (q := mi_Ref_forced) (L := [some (.ref 65), some (.int g), some (.int p), none, none]) rfl (Nat.le_of_ble_eq_true rfl) rfl ?_
  show wq _ tb_Ref_forced none 0 _ _ _ _
  refine wp_aload0 rfl ?_
  refine wp_iload1 rfl ?_
  refine wp_callV1I rfl (Nat.le_of_ble_eq_true rfl) (Ref_kd B.S) (Ref_isPlace_ok B) (Nat.le_of_ble_eq_true rfl) ?_
  refine pure_ ?_
  refine wp_if_eqB rfl (fun c1 => ?_) (fun c1 => ?_)
  · skip
    refine wp_iconst rfl ?_
    exact wp_iret rfl ⟨_, rfl, by unfold an_forced_; rw [c1]; rfl, B⟩
  · skip
    refine wp_aload0 rfl ?_
    refine wp_iload2 rfl ?_
    refine wp_callV1I rfl (Nat.le_of_ble_eq_true rfl) (Ref_kd B.S) (Ref_isPlace_ok B) (Nat.le_of_ble_eq_true rfl) ?_
    refine pure_ ?_
    refine wp_if_neB rfl (fun c2 => ?_) (fun c2 => ?_)
    · skip
      obtain ⟨g, hg, rfl⟩ := hs_of c1 n8
      obtain ⟨p, hp, rfl⟩ := hs_of c2 n8
      have hpg := B.w.2.1.1 g hg
      refine wp_aload0 rfl ?_
      refine wp_callV0V rfl (Nat.le_of_ble_eq_true rfl) (Ref_kd B.S) (Ref_findGoes_ok B) (Nat.le_of_ble_eq_true rfl) ?_
      rintro h1 ⟨G, z1⟩
      have B1 : RB_ h0 h1 t := RB_fz B (fz_mono (fun c hc => by omega) z1)
      refine wp_iconst rfl ?_
      refine wp_istore3 rfl rfl ?_
      refine wq_loop (X := Option Value) (fun i x => [some (.ref 65), some (.int (nI g)), some (.int (nI p)), some (.int (nI i)), x]) (fun i x h2 => fz_ (fun c => c = 87) h1 h2 ∧ ∀ k, k < i → hp_I h2 87 k = nI (if k / 2 = p then 0 else 1000)) (16) (0) (none) ?_ ?_ ?_ ?_
      · omega
      · exact ⟨fz_refl _ _, fun k hk => by omega⟩
      · intro i x h2 hi I k
        show wq _ tb_Ref_forced _ 24 [some (.ref 65), some (.int (nI g)), some (.int (nI p)), some (.int (nI i)), x] [] h2 _
        obtain ⟨z2, a2⟩ := I
        have B2 : RB_ h0 h2 t := RB_fz B1 (fz_mono (fun c hc => by omega) z2)
        have nxt : ∀ v, v = (if i / 2 = p then 0 else 1000) → ∀ k, k < i + 1 → hp_I (hp_rI h2 87 (va_up (hp_I h2 87) i (nI v))) 87 k = nI (if k / 2 = p then 0 else 1000) := by
          intro v hv k hk
          rw [sd_rI_eq, vu_at]
          by_cases y : k = i
          · rw [if_pos y, hv, y]
          · rw [if_neg y]; exact a2 k (by omega)
        refine wp_iload3 rfl ?_
        refine wp_bipush rfl ?_
        refine wp_icmp_geN i 16 (by omega) (by omega) rfl (fun z => absurd z (by omega)) (fun _ => ?_)
        refine wp_aload0 rfl ?_
        refine wp_getR rfl (Ref_kd B2.S) (Ref_R31 B2.S) (by first | decide | omega) ?_
        refine wp_iload3 rfl ?_
        refine wp_iload3 rfl ?_
        refine wp_iconst rfl ?_
        refine wp_idivE (nI (i / 2)) (nI_ne0 (by omega) (by omega)) (pk_div (by omega) (by omega) (by omega)) rfl ?_
        refine wp_iload2 rfl ?_
        refine wp_icmp_neN (i / 2) p (by omega) (by omega) rfl (fun c3 => ?_) (fun c3 => ?_)
        · skip
          refine wp_sipush rfl ?_
          refine wp_iast i rfl (Ref_k31 B2.S) (Nat.lt_of_lt_of_eq (show i < _ by omega) (Eq.symm (Ref_n31 B2.S))) (by omega) rfl ?_
          refine wp_iinc3N rfl rfl ?_
          refine wp_goto rfl ?_
          exact k x _ ⟨fz_rI z2 rfl _, nxt 1000 (by rw [if_neg c3])⟩
        · skip
          refine wp_iconst rfl ?_
          refine wp_goto rfl ?_
          refine wp_iast i rfl (Ref_k31 B2.S) (Nat.lt_of_lt_of_eq (show i < _ by omega) (Eq.symm (Ref_n31 B2.S))) (by omega) rfl ?_
          refine wp_iinc3N rfl rfl ?_
          refine wp_goto rfl ?_
          exact k x _ ⟨fz_rI z2 rfl _, nxt 0 (by rw [if_pos c3])⟩
      · intro x h2 I
        show wq _ tb_Ref_forced _ 24 [some (.ref 65), some (.int (nI g)), some (.int (nI p)), some (.int (nI 16)), x] [] h2 _
        obtain ⟨z2, a2⟩ := I
        have B2 : RB_ h0 h2 t := RB_fz B1 (fz_mono (fun c hc => by omega) z2)
        refine wp_iload3 rfl ?_
        refine wp_bipush rfl ?_
        refine wp_icmp_geN 16 16 (by omega) (by omega) rfl (fun _ => ?_) (fun z => absurd z (by omega))
        refine wp_iconst rfl ?_
        refine wp_istore3 rfl rfl ?_
        refine wq_loop (X := Option Value) (fun r x => [some (.ref 65), some (.int (nI g)), some (.int (nI p)), some (.int (nI r)), x]) (fun r x h3 => fz_ (fun c => c = 87) h1 h3 ∧ ∃ nd, (∀ k, k < 16 → hp_I h3 87 k = nI (nd k)) ∧ NI_ t.1 p r nd) (40) (0) (x) ?_ ?_ ?_ ?_
        · omega
        · refine ⟨z2, fun k => if k / 2 = p then 0 else 1000, a2, fun k hk => (by dsimp only; split <;> omega), fun k hk e => if_pos e, fun k hk hv => ?_, fun k hk c hc h => ?_⟩
          · dsimp only at hv
            by_cases y : k / 2 = p
            · rw [y]; exact WN_a _ _ _ _
            · rw [if_neg y] at hv; omega
          · obtain rfl : c = 0 := by omega
            have : k / 2 = p := h
            dsimp only
            rw [if_pos this]
            omega
        · intro r x h3 hi J k
          show wq _ tb_Ref_forced _ 58 [some (.ref 65), some (.int (nI g)), some (.int (nI p)), some (.int (nI r)), x] [] h3 _
          obtain ⟨z3, nd, a3, NI⟩ := J
          have B3 : RB_ h0 h3 t := RB_fz B1 (fz_mono (fun c hc => by omega) z3)
          refine wp_iload3 rfl ?_
          refine wp_bipush rfl ?_
          refine wp_icmp_geN r 40 (by omega) (by omega) rfl (fun z => absurd z (by omega)) (fun _ => ?_)
          refine wp_iconst rfl ?_
          refine wp_istore4 rfl rfl ?_
          refine wq_loop (X := Unit) (fun i x => [some (.ref 65), some (.int (nI g)), some (.int (nI p)), some (.int (nI r)), some (.int (nI i))]) (fun i x h4 => fz_ (fun c => c = 87) h1 h4 ∧ ∃ nd, (∀ k, k < 16 → hp_I h4 87 k = nI (nd k)) ∧ NI_ t.1 p r nd ∧ ∀ k, k < i → ∀ c, c ≤ r + 1 → WN_ t.1 p c (k % 2) (k / 2) → nd k ≤ c) (2 * sg_n t.1) (0) (()) ?_ ?_ ?_ ?_
          · omega
          · exact ⟨z3, nd, a3, NI, fun k hk => by omega⟩
          · intro i x h4 hi K k
            show wq _ tb_Ref_forced _ 67 [some (.ref 65), some (.int (nI g)), some (.int (nI p)), some (.int (nI r)), some (.int (nI i))] [] h4 _
            obtain ⟨z4, nd4, a4, NI4, C4⟩ := K
            have B4 : RB_ h0 h4 t := RB_fz B1 (fz_mono (fun c hc => by omega) z4)
            have G4 : GO_ h4 t.1 := fun f p hf hp => by rw [fz_I z4 (by decide)]; exact G f p hf hp
            have hin := hi
            refine wp_iload4 rfl ?_
            refine wp_iconst rfl ?_
            refine wp_aload0 rfl ?_
            refine wp_getIE rfl (Ref_kd B4.S) (show _ = nI (sg_n t.1) from B4.n) ?_
            refine wp_imulE (nI (2 * (sg_n t.1))) (pk_mul _ _) rfl ?_
            refine wp_icmp_geN i (2 * (sg_n t.1)) (by omega) (by omega) rfl (fun z => absurd z (by omega)) (fun _ => ?_)
            refine wp_iload4 rfl ?_
            refine wp_iconst rfl ?_
            refine wp_idivE (nI (i / 2)) (nI_ne0 (by omega) (by omega)) (pk_div (by omega) (by omega) (by omega)) rfl ?_
            refine wp_iload2 rfl ?_
            refine wp_icmp_eqN (i / 2) p (by omega) (by omega) rfl (fun c3 => ?_) (fun c3 => ?_)
            · skip
              refine wp_iinc4N rfl rfl ?_
              refine wp_goto rfl ?_
              refine k () _ ⟨z4, nd4, a4, NI4, fun j hk c hc h => ?_⟩
              rcases Nat.lt_or_ge j i with q | q
              · exact C4 j q c hc h
              · have e : j = i := by omega
                rw [e, NI4.2.1 i (by omega) c3]
                omega
            · skip
              refine wp_aload0 rfl ?_
              refine wp_getR rfl (Ref_kd B4.S) (Ref_R31 B4.S) (by first | decide | omega) ?_
              refine wp_iload4 rfl ?_
              refine wp_aload0 rfl ?_
              refine wp_iload4 rfl ?_
              refine wp_iconst rfl ?_
              refine wp_idivE (nI (i / 2)) (nI_ne0 (by omega) (by omega)) (pk_div (by omega) (by omega) (by omega)) rfl ?_
              refine wp_iload4 rfl ?_
              refine wp_iconst rfl ?_
              refine wp_iremE (nI (i % 2)) (nI_ne0 (by omega) (by omega)) (pk_rem (by omega) (by omega) (by omega)) rfl ?_
              refine wp_callV2I rfl (Nat.le_of_ble_eq_true rfl) (Ref_kd B4.S) (Ref_needsOf_ok (nd := nd4) B4 G4 (fun k hk => ⟨NI4.1 k hk, a4 k hk⟩) (by omega) (by omega)) (Nat.le_of_ble_eq_true rfl) ?_
              rintro _ h5 ⟨⟨v, rfl, D⟩, rfl⟩
              refine wp_iast i rfl (Ref_k31 B4.S) (Nat.lt_of_lt_of_eq (show i < _ by omega) (Eq.symm (Ref_n31 B4.S))) (by omega) rfl ?_
              refine wp_iinc4N rfl rfl ?_
              refine wp_goto rfl ?_
              obtain ⟨N5, C5⟩ := NI_put B.w hp NI4 hin c3 D
              refine k () _ ⟨fz_rI z4 rfl _, va_up nd4 i v, fun k hk => ?_, N5, fun k hk c hc h => ?_⟩
              · rw [sd_rI_eq, vu_at, vu_at]
                split
                · rfl
                · exact a4 k hk
              · rw [vu_at]
                by_cases y : k = i
                · rw [if_pos y]; rw [y] at h; exact C5 c hc h
                · rw [if_neg y]; exact C4 k (by omega) c hc h
          · intro x h4 K
            show wq _ tb_Ref_forced _ 67 [some (.ref 65), some (.int (nI g)), some (.int (nI p)), some (.int (nI r)), some (.int (nI (2 * sg_n t.1)))] [] h4 _
            obtain ⟨z4, nd4, a4, NI4, C4⟩ := K
            have B4 : RB_ h0 h4 t := RB_fz B1 (fz_mono (fun c hc => by omega) z4)
            refine wp_iload4 rfl ?_
            refine wp_iconst rfl ?_
            refine wp_aload0 rfl ?_
            refine wp_getIE rfl (Ref_kd B4.S) (show _ = nI (sg_n t.1) from B4.n) ?_
            refine wp_imulE (nI (2 * (sg_n t.1))) (pk_mul _ _) rfl ?_
            refine wp_icmp_geN (2 * sg_n t.1) (2 * (sg_n t.1)) (by omega) (by omega) rfl (fun _ => ?_) (fun z => absurd z (by omega))
            refine wp_iinc3N rfl rfl ?_
            refine wp_goto rfl ?_
            exact k _ _ ⟨z4, nd4, a4, NI4.1, NI4.2.1, NI4.2.2.1, fun k hk c hc h => C4 k hk c hc h⟩
        · intro x h3 J
          show wq _ tb_Ref_forced _ 58 [some (.ref 65), some (.int (nI g)), some (.int (nI p)), some (.int (nI 40)), x] [] h3 _
          obtain ⟨z3, nd, a3, NI⟩ := J
          have B3 : RB_ h0 h3 t := RB_fz B1 (fz_mono (fun c hc => by omega) z3)
          obtain ⟨E1, E2⟩ := NI_end B.w hpg NI
          have n1 := NI.1 (2 * sg_pos t.1 g) (by omega)
          have e0 : ∀ y, an_forced_ t (nI g) (nI p) y = ∃ o, FO_ t.1 p (sg_pos t.1 g) o ∧ y = vo_ o := fun y => by unfold an_forced_; rw [c1, c2, nI_clamp (show g < 2 ^ 31 by omega), nI_clamp (show p < 2 ^ 31 by omega)]; rfl
          refine wp_iload3 rfl ?_
          refine wp_bipush rfl ?_
          refine wp_icmp_geN 40 40 (by omega) (by omega) rfl (fun _ => ?_) (fun z => absurd z (by omega))
          refine wp_aload0 rfl ?_
          refine wp_getR rfl (Ref_kd B3.S) (Ref_R31 B3.S) (by first | decide | omega) ?_
          refine wp_iconst rfl ?_
          refine wp_aload0 rfl ?_
          refine wp_iload1 rfl ?_
          refine wp_callV1I rfl (Nat.le_of_ble_eq_true rfl) (Ref_kd B3.S) (Ref_placeOf_ok B3 (by omega)) (Nat.le_of_ble_eq_true rfl) ?_
          refine pure_ ?_
          refine wp_imulE (nI (2 * (sg_pos t.1 g))) (pk_mul _ _) rfl ?_
          refine wp_ialdE (2 * (sg_pos t.1 g)) rfl (Ref_k31 B3.S) (by first | decide | omega) (Nat.lt_of_lt_of_eq (show (2 * (sg_pos t.1 g)) < _ by omega) (Eq.symm (Ref_n31 B3.S))) (by omega) (show _ = nI (nd (2 * sg_pos t.1 g)) from a3 _ (by omega)) rfl ?_
          refine wp_istore3 rfl rfl ?_
          refine wp_iload3 rfl ?_
          refine wp_sipush rfl ?_
          refine wp_icmp_geN (nd (2 * sg_pos t.1 g)) 1000 (by omega) (by omega) rfl (fun c3 => ?_) (fun c3 => ?_)
          · skip
            refine wp_bipush rfl ?_
            exact wp_iret rfl ⟨_, rfl, by rw [e0]; exact ⟨none, E2 (by omega), rfl⟩, B3⟩
          · skip
            refine wp_iload3 rfl ?_
            refine wp_goto rfl ?_
            exact wp_iret rfl ⟨_, rfl, by rw [e0]; exact ⟨some _, E1 (by omega), rfl⟩, B3⟩
    · skip
      refine wp_iconst rfl ?_
      exact wp_iret rfl ⟨_, rfl, by unfold an_forced_; rw [c1, c2]; rfl, B⟩
theorem Ref_findMay_ok {h0 h : Hp_} {t : Rt_} (B : RB_ h0 h t) : cV 2 mn_Ref_findMay [.ref 65] h (fun h' => RB_ h0 h' t ∧ hp_I h' 65 36 = nI (MA_ t.1).length ∧ (∀ (i f : Nat), (MA_ t.1)[i]? = some f → hp_I h' 91 i = nI f) ∧ fz_ (fun c => c = 65 ∨ c = 91) h h') := by
  refine cq_in (q := mi_Ref_findMay) (L := [some (.ref 65), none]) rfl (Nat.le_of_ble_eq_true rfl) rfl ?_
  show wq _ tb_Ref_findMay none 0 _ _ _ _
  refine wp_aload0 rfl ?_
  refine wp_iconst rfl ?_
  refine wp_putI rfl (Ref_kd B.S) ?_
  refine wp_iconst rfl ?_
  refine wp_istore1 rfl rfl ?_
  refine wq_loop (X := Unit) (fun i x => [some (.ref 65), some (.int (nI i))]) (fun i x h1 => RB_ h0 h1 t ∧ hp_I h1 65 36 = nI ((List.range i).filter (may_ t.1)).length ∧ (∀ (j f : Nat), ((List.range i).filter (may_ t.1))[j]? = some f → hp_I h1 91 j = nI f) ∧ fz_ (fun c => c = 65 ∨ c = 91) h h1) (6) (0) (()) ?_ ?_ ?_ ?_
  · omega
  · exact ⟨RB_fl B (by omega) _, by rw [sd_rI_eq]; rfl, fun j f hf => absurd (show ([] : List Nat)[j]? = some f from hf) (by rw [List.getElem?_nil]; exact fun z => by cases z), fz_rI (fz_refl _ _) (Or.inl rfl) _⟩
  · intro i x h1 hi I k
    show wq _ tb_Ref_findMay _ 7 [some (.ref 65), some (.int (nI i))] [] h1 _
    obtain ⟨B1, e1, a1, z1⟩ := I
    have hl : ((List.range i).filter (may_ t.1)).length ≤ i := by
      have := List.length_filter_le (may_ t.1) (List.range i)
      rw [List.length_range] at this
      exact this
    have hi6 := hi
    refine wp_iload1 rfl ?_
    refine wp_bipush rfl ?_
    refine wp_icmp_geN i 6 (by omega) (by omega) rfl (fun z => absurd z (by omega)) (fun _ => ?_)
    refine wp_aload0 rfl ?_
    refine wp_iload1 rfl ?_
    refine wp_callV1I rfl (Nat.le_of_ble_eq_true rfl) (Ref_kd B1.S) (Ref_may_ok B1 hi6) (Nat.le_of_ble_eq_true rfl) ?_
    refine pure_ ?_
    refine wp_if_eqB rfl (fun c1 => ?_) (fun c1 => ?_)
    · skip
      refine wp_iinc1N rfl rfl ?_
      refine wp_goto rfl ?_
      have e : (List.range (i + 1)).filter (may_ t.1) = (List.range i).filter (may_ t.1) := by rw [List.range_succ, List.filter_append, List.filter_cons_of_neg (by rw [c1]; decide), List.filter_nil, List.append_nil]
      exact k () _ ⟨B1, by rw [e]; exact e1, by rw [e]; exact a1, z1⟩
    · skip
      refine wp_aload0 rfl ?_
      refine wp_getR rfl (Ref_kd B1.S) (Ref_R35 B1.S) (by first | decide | omega) ?_
      refine wp_aload0 rfl ?_
      refine wp_getIE rfl (Ref_kd B1.S) (show _ = nI (((List.range i).filter (may_ t.1)).length) from e1) ?_
      refine wp_iload1 rfl ?_
      refine wp_iast (((List.range i).filter (may_ t.1)).length) rfl (Ref_k35 B1.S) (Nat.lt_of_lt_of_eq (show (((List.range i).filter (may_ t.1)).length) < _ by omega) (Eq.symm (Ref_n35 B1.S))) (by omega) rfl ?_
      refine wp_aload0 rfl ?_
      refine wp_dup rfl ?_
      refine wp_getIE rfl (Ref_kd B1.S) (show _ = nI (((List.range i).filter (may_ t.1)).length) from by rw [sd_rI_ne (by decide)]; exact e1) ?_
      refine wp_iconst rfl ?_
      refine wp_iaddE (nI ((((List.range i).filter (may_ t.1)).length) + 1)) (nI_add _ _) rfl ?_
      refine wp_putI rfl (Ref_kd B1.S) ?_
      refine wp_iinc1N rfl rfl ?_
      refine wp_goto rfl ?_
      have e : (List.range (i + 1)).filter (may_ t.1) = (List.range i).filter (may_ t.1) ++ [i] := by rw [List.range_succ, List.filter_append, List.filter_cons_of_pos c1, List.filter_nil]
      refine k () _ ⟨RB_fl (RB_sc B1 (by omega) (by omega) _) (by omega) _, ?_, fun j f hf => ?_, fz_rI (fz_rI z1 (Or.inr rfl) _) (Or.inl rfl) _⟩
      · rw [e, sd_rI_eq, sd_up_eq, List.length_append]
        rfl
      · rw [e] at hf
        rw [sd_rI_ne (by decide), sd_rI_eq]
        rcases get_snoc hf with ⟨y1, y2⟩ | ⟨y1, y2⟩
        · rw [sd_up_ne (by omega)]; exact a1 j f y2
        · rw [y1, sd_up_eq, y2]
  · intro x h1 I
    show wq _ tb_Ref_findMay _ 7 [some (.ref 65), some (.int (nI 6))] [] h1 _
    obtain ⟨B1, e1, a1, z1⟩ := I
    refine wp_iload1 rfl ?_
    refine wp_bipush rfl ?_
    refine wp_icmp_geN 6 6 (by omega) (by omega) rfl (fun _ => ?_) (fun z => absurd z (by omega))
    exact wp_vret rfl ⟨rfl, B1, e1, a1, z1⟩
def an_night (t : Rt_) (sd m g w : Int32) : Int32 := if hs_ t.1 g then (if rg_ 0 9999 sd && (rg_ 0 99 m && rg_ 0 1 w) then (if w = 0 then nI (nt_ t.1 sd.toNatClampNeg (sg_pos t.1 g.toNatClampNeg) m.toNatClampNeg).2.2 else nI (nt_ t.1 sd.toNatClampNeg (sg_pos t.1 g.toNatClampNeg) m.toNatClampNeg).2.1) else -2) else -1
theorem nt_ok {s : Sg_} {sd p : Nat} (w : sg_wf s) (hs : sd < 65537) (hp : p < sg_n s) : ∀ k, (nt_ s sd p k).1 < 65537 ∧ (nt_ s sd p k).2.1 < sg_n s ∧ (nt_ s sd p k).2.2 < 2 ^ sg_n s
  | 0 => ⟨hs, hp, Nat.pow_lt_pow_right (by decide) hp⟩
  | k + 1 => by
    have ih := nt_ok w hs hp k
    unfold nt_
    split
    · exact ih
    · have h2 := (mv_P w ((MA_ s).getD ((75 * (nt_ s sd p k).1 + 74) % 65537 % (MA_ s).length) 0)).1 _ ih.2.1
      exact ⟨Nat.mod_lt _ (by decide), h2, Nat.or_lt_two_pow ih.2.2 (Nat.pow_lt_pow_right (by decide) h2)⟩
theorem Ref_night_ok {h0 h : Hp_} {t : Rt_} {sd m g w : Int32} (B : RB_ h0 h t) : cI 3 mn_Ref_night [.ref 65, .int sd, .int m, .int g, .int w] h (fun y h' => y = an_night t sd m g w ∧ RB_ h0 h' t) := by
  have n8 := B.n8
  have p8 : 2 ^ sg_n t.1 ≤ 256 := Nat.pow_le_pow_right (by decide) n8
  refine cq_in (q := mi_Ref_night) (L := [some (.ref 65), some (.int sd), some (.int m), some (.int g), some (.int w), none, none, none, none]) rfl (Nat.le_of_ble_eq_true rfl) rfl ?_
  show wq _ tb_Ref_night none 0 _ _ _ _
  refine wp_aload0 rfl ?_
  refine wp_iload3 rfl ?_
  refine wp_callV1I rfl (Nat.le_of_ble_eq_true rfl) (Ref_kd B.S) (Ref_isPlace_ok B) (Nat.le_of_ble_eq_true rfl) ?_
  refine pure_ ?_
  refine wp_if_neB rfl (fun c1 => ?_) (fun c1 => ?_)
  · skip
    have e1 : an_night t sd m g w = if rg_ 0 9999 sd && (rg_ 0 99 m && rg_ 0 1 w) then (if w = 0 then nI (nt_ t.1 sd.toNatClampNeg (sg_pos t.1 g.toNatClampNeg) m.toNatClampNeg).2.2 else nI (nt_ t.1 sd.toNatClampNeg (sg_pos t.1 g.toNatClampNeg) m.toNatClampNeg).2.1) else -2 := by unfold an_night; rw [c1, if_pos rfl]
    refine wp_iload1 rfl ?_
    refine wp_i2l rfl ?_
    refine wp_lconst rfl ?_
    refine wp_ldc2_w rfl ?_
    refine wp_callS3I rfl (Nat.le_of_ble_eq_true rfl) (Ref_inN_ok (a := 0) (b := 9999) (by omega) (by omega)) (Nat.le_of_ble_eq_true rfl) ?_
    refine pure_ ?_
    refine wp_if_eqB rfl (fun c2 => ?_) (fun c2 => ?_)
    · skip
      refine wp_bipush rfl ?_
      exact wp_iret rfl ⟨_, rfl, by rw [e1, show rg_ 0 9999 sd = false from c2]; rfl, B⟩
    · skip
      refine wp_iload2 rfl ?_
      refine wp_i2l rfl ?_
      refine wp_lconst rfl ?_
      refine wp_ldc2_w rfl ?_
      refine wp_callS3I rfl (Nat.le_of_ble_eq_true rfl) (Ref_inN_ok (a := 0) (b := 99) (by omega) (by omega)) (Nat.le_of_ble_eq_true rfl) ?_
      refine pure_ ?_
      refine wp_if_eqB rfl (fun c3 => ?_) (fun c3 => ?_)
      · skip
        refine wp_bipush rfl ?_
        exact wp_iret rfl ⟨_, rfl, by rw [e1, show rg_ 0 99 m = false from c3, Bool.false_and, Bool.and_false]; rfl, B⟩
      · skip
        refine wp_iload4 rfl ?_
        refine wp_i2l rfl ?_
        refine wp_lconst rfl ?_
        refine wp_lconst rfl ?_
        refine wp_callS3I rfl (Nat.le_of_ble_eq_true rfl) (Ref_inN_ok (a := 0) (b := 1) (by omega) (by omega)) (Nat.le_of_ble_eq_true rfl) ?_
        refine pure_ ?_
        refine wp_if_neB rfl (fun c4 => ?_) (fun c4 => ?_)
        · skip
          have e2 : an_night t sd m g w = if w = 0 then nI (nt_ t.1 sd.toNatClampNeg (sg_pos t.1 g.toNatClampNeg) m.toNatClampNeg).2.2 else nI (nt_ t.1 sd.toNatClampNeg (sg_pos t.1 g.toNatClampNeg) m.toNatClampNeg).2.1 := by rw [e1, show rg_ 0 9999 sd = true from c2, show rg_ 0 99 m = true from c3, show rg_ 0 1 w = true from c4]; rfl
          obtain ⟨g, hg, rfl⟩ := hs_of c1 n8
          obtain ⟨sd, _, hsd, hsb, rfl⟩ := rg_of (a := 0) (b := 9999) c2
          obtain ⟨m, _, hm, hmb, rfl⟩ := rg_of (a := 0) (b := 99) c3
          rw [nI_clamp hsb, nI_clamp hmb, nI_clamp (show g < 2 ^ 31 by omega)] at e2
          have hpg := B.w.2.1.1 g hg
          have N := nt_ok B.w (show sd < 65537 by omega) hpg
          refine wp_aload0 rfl ?_
          refine wp_callV0V rfl (Nat.le_of_ble_eq_true rfl) (Ref_kd B.S) (Ref_findGoes_ok B) (Nat.le_of_ble_eq_true rfl) ?_
          rintro h1 ⟨G, z1⟩
          have B1 : RB_ h0 h1 t := RB_fz B (fz_mono (fun c hc => by omega) z1)
          refine wp_aload0 rfl ?_
          refine wp_callV0V rfl (Nat.le_of_ble_eq_true rfl) (Ref_kd B1.S) (Ref_findMay_ok B1) (Nat.le_of_ble_eq_true rfl) ?_
          rintro h2 ⟨B2, e3, a2, z2⟩
          have G2 : GO_ h2 t.1 := fun f p hf hp => by rw [fz_I z2 (by decide)]; exact G f p hf hp
          have ml := MA_len t.1
          refine wp_aload0 rfl ?_
          refine wp_iload3 rfl ?_
          refine wp_callV1I rfl (Nat.le_of_ble_eq_true rfl) (Ref_kd B2.S) (Ref_placeOf_ok B2 (by omega)) (Nat.le_of_ble_eq_true rfl) ?_
          refine pure_ ?_
          refine wp_istore5 rfl rfl ?_
          refine wp_iconst rfl ?_
          refine wp_iload5 rfl ?_
          refine wp_ishlE (nI (2 ^ (sg_pos t.1 g))) (nn_shl1 _ (by omega)) rfl ?_
          refine wp_istore6 rfl rfl ?_
          refine wp_iload1 rfl ?_
          refine wp_istore7 rfl rfl ?_
          refine wp_iconst rfl ?_
          refine wp_istore8 rfl rfl ?_
          refine wq_loop (X := Unit) (fun i x => [some (.ref 65), some (.int (nI sd)), some (.int (nI m)), some (.int (nI g)), some (.int w), some (.int (nI (nt_ t.1 sd (sg_pos t.1 g) i).2.1)), some (.int (nI (nt_ t.1 sd (sg_pos t.1 g) i).2.2)), some (.int (nI (nt_ t.1 sd (sg_pos t.1 g) i).1)), some (.int (nI i))]) (fun i x h3 => h3 = h2) (m) (0) (()) ?_ ?_ ?_ ?_
          · omega
          · rfl
          · intro i x h3 hi I k
            show wq _ tb_Ref_night _ 75 [some (.ref 65), some (.int (nI sd)), some (.int (nI m)), some (.int (nI g)), some (.int w), some (.int (nI (nt_ t.1 sd (sg_pos t.1 g) i).2.1)), some (.int (nI (nt_ t.1 sd (sg_pos t.1 g) i).2.2)), some (.int (nI (nt_ t.1 sd (sg_pos t.1 g) i).1)), some (.int (nI i))] [] h3 _
            obtain rfl := I
            obtain ⟨N1, N2, N3⟩ := N i
            refine wp_iload8 rfl ?_
            refine wp_iload2 rfl ?_
            refine wp_icmp_geN i m (by omega) (by omega) rfl (fun z => absurd z (by omega)) (fun _ => ?_)
            refine wp_aload0 rfl ?_
            refine wp_getIE rfl (Ref_kd B2.S) (show _ = nI ((MA_ t.1).length) from e3) ?_
            refine wp_if_leN ((MA_ t.1).length) 0 (by omega) (by decide) rfl (fun c5 => ?_) (fun c5 => ?_)
            · skip
              have stay : ∀ j, nt_ t.1 sd (sg_pos t.1 g) (i + j) = nt_ t.1 sd (sg_pos t.1 g) i := by
                intro j
                induction j with
                | zero => rfl
                | succ j ihj =>
                  show (if (MA_ t.1).length = 0 then nt_ t.1 sd (sg_pos t.1 g) (i + j) else _) = _
                  rw [if_pos c5, ihj]
              have em := stay (m - i)
              rw [show i + (m - i) = m by omega] at em
              rw [em] at e2
              refine wp_iload4 rfl ?_
              refine wp_if_ne rfl (fun c6 => ?_) (fun c6 => ?_)
              · skip
                refine wp_iload5 rfl ?_
                exact wp_iret rfl ⟨_, rfl, by rw [e2, if_neg c6], B2⟩
              · skip
                refine wp_iload6 rfl ?_
                refine wp_goto rfl ?_
                exact wp_iret rfl ⟨_, rfl, by rw [e2, if_pos (Classical.not_not.mp c6)], B2⟩
            · skip
              refine wp_ldc2_w rfl ?_
              refine wp_iload7 rfl ?_
              refine wp_i2lE (lN ((nt_ t.1 sd (sg_pos t.1 g) i).1)) (nI_l (by omega)) rfl ?_
              refine wp_lmulE (lN (75 * ((nt_ t.1 sd (sg_pos t.1 g) i).1))) (lN_mul _ _) rfl ?_
              refine wp_ldc2_w rfl ?_
              refine wp_laddE (lN ((75 * ((nt_ t.1 sd (sg_pos t.1 g) i).1)) + 74)) (lN_add _ _) rfl ?_
              refine wp_ldc2_w rfl ?_
              refine wp_lremE (lN ((75 * (nt_ t.1 sd (sg_pos t.1 g) i).1 + 74) % 65537)) (by decide) (pk_lRem (by omega) (by decide) (by decide)) rfl ?_
              have hx := Nat.mod_lt (75 * (nt_ t.1 sd (sg_pos t.1 g) i).1 + 74) (show 65537 > 0 by decide)
              have hj := Nat.mod_lt ((75 * (nt_ t.1 sd (sg_pos t.1 g) i).1 + 74) % 65537) (show (MA_ t.1).length > 0 by omega)
              have hget : (MA_ t.1)[(75 * (nt_ t.1 sd (sg_pos t.1 g) i).1 + 74) % 65537 % (MA_ t.1).length]? = some ((MA_ t.1).getD ((75 * (nt_ t.1 sd (sg_pos t.1 g) i).1 + 74) % 65537 % (MA_ t.1).length) 0) := by rw [List.getD_eq_getElem?_getD, List.getElem?_eq_getElem hj]; rfl
              have hmem := MA_mem.mp (List.mem_of_getElem? hget)
              have hstep : nt_ t.1 sd (sg_pos t.1 g) (i + 1) = ((75 * (nt_ t.1 sd (sg_pos t.1 g) i).1 + 74) % 65537, mv_ t.1 ((MA_ t.1).getD ((75 * (nt_ t.1 sd (sg_pos t.1 g) i).1 + 74) % 65537 % (MA_ t.1).length) 0) (nt_ t.1 sd (sg_pos t.1 g) i).2.1, (nt_ t.1 sd (sg_pos t.1 g) i).2.2 ||| 2 ^ mv_ t.1 ((MA_ t.1).getD ((75 * (nt_ t.1 sd (sg_pos t.1 g) i).1 + 74) % 65537 % (MA_ t.1).length) 0) (nt_ t.1 sd (sg_pos t.1 g) i).2.1) := by
                show (if (MA_ t.1).length = 0 then _ else _) = _
                rw [if_neg (by omega)]
              have hmv := (mv_P B.w ((MA_ t.1).getD ((75 * (nt_ t.1 sd (sg_pos t.1 g) i).1 + 74) % 65537 % (MA_ t.1).length) 0)).1 _ N2
              refine wp_l2iE (nI ((75 * (nt_ t.1 sd (sg_pos t.1 g) i).1 + 74) % 65537)) (lN_i _) rfl ?_
              refine wp_istore7 rfl rfl ?_
              refine wp_aload0 rfl ?_
              refine wp_getR rfl (Ref_kd B2.S) (Ref_R19 B2.S) (by first | decide | omega) ?_
              refine wp_bipush rfl ?_
              refine wp_aload0 rfl ?_
              refine wp_getR rfl (Ref_kd B2.S) (Ref_R35 B2.S) (by first | decide | omega) ?_
              refine wp_iload7 rfl ?_
              refine wp_aload0 rfl ?_
              refine wp_getIE rfl (Ref_kd B2.S) (show _ = nI ((MA_ t.1).length) from e3) ?_
              refine wp_iremE (nI (((75 * (nt_ t.1 sd (sg_pos t.1 g) i).1 + 74) % 65537) % ((MA_ t.1).length))) (nI_ne0 (by omega) (by omega)) (pk_rem (by omega) (by omega) (by omega)) rfl ?_
              refine wp_ialdE (((75 * (nt_ t.1 sd (sg_pos t.1 g) i).1 + 74) % 65537) % ((MA_ t.1).length)) rfl (Ref_k35 B2.S) (by first | decide | omega) (Nat.lt_of_lt_of_eq (show (((75 * (nt_ t.1 sd (sg_pos t.1 g) i).1 + 74) % 65537) % ((MA_ t.1).length)) < _ by omega) (Eq.symm (Ref_n35 B2.S))) (by omega) (show _ = nI ((MA_ t.1).getD ((75 * (nt_ t.1 sd (sg_pos t.1 g) i).1 + 74) % 65537 % (MA_ t.1).length) 0) from a2 _ _ hget) rfl ?_
              refine wp_imulE (nI (8 * ((MA_ t.1).getD ((75 * (nt_ t.1 sd (sg_pos t.1 g) i).1 + 74) % 65537 % (MA_ t.1).length) 0))) (pk_mul _ _) rfl ?_
              refine wp_iload5 rfl ?_
              refine wp_iaddE (nI ((8 * ((MA_ t.1).getD ((75 * (nt_ t.1 sd (sg_pos t.1 g) i).1 + 74) % 65537 % (MA_ t.1).length) 0)) + ((nt_ t.1 sd (sg_pos t.1 g) i).2.1))) (nI_add _ _) rfl ?_
              refine wp_ialdE ((8 * ((MA_ t.1).getD ((75 * (nt_ t.1 sd (sg_pos t.1 g) i).1 + 74) % 65537 % (MA_ t.1).length) 0)) + ((nt_ t.1 sd (sg_pos t.1 g) i).2.1)) rfl (Ref_k19 B2.S) (by first | decide | omega) (Nat.lt_of_lt_of_eq (show ((8 * ((MA_ t.1).getD ((75 * (nt_ t.1 sd (sg_pos t.1 g) i).1 + 74) % 65537 % (MA_ t.1).length) 0)) + ((nt_ t.1 sd (sg_pos t.1 g) i).2.1)) < _ by omega) (Eq.symm (Ref_n19 B2.S))) (by omega) (show _ = nI (mv_ t.1 ((MA_ t.1).getD ((75 * (nt_ t.1 sd (sg_pos t.1 g) i).1 + 74) % 65537 % (MA_ t.1).length) 0) (nt_ t.1 sd (sg_pos t.1 g) i).2.1) from G2 _ _ hmem.1 N2) rfl ?_
              refine wp_istore5 rfl rfl ?_
              refine wp_iload6 rfl ?_
              refine wp_iconst rfl ?_
              refine wp_iload5 rfl ?_
              refine wp_ishlE (nI (2 ^ (mv_ t.1 ((MA_ t.1).getD ((75 * (nt_ t.1 sd (sg_pos t.1 g) i).1 + 74) % 65537 % (MA_ t.1).length) 0) (nt_ t.1 sd (sg_pos t.1 g) i).2.1))) (nn_shl1 _ (by omega)) rfl ?_
              refine wp_iorE (nI (((nt_ t.1 sd (sg_pos t.1 g) i).2.2) ||| (2 ^ (mv_ t.1 ((MA_ t.1).getD ((75 * (nt_ t.1 sd (sg_pos t.1 g) i).1 + 74) % 65537 % (MA_ t.1).length) 0) (nt_ t.1 sd (sg_pos t.1 g) i).2.1)))) (nn_or _ _) rfl ?_
              refine wp_istore6 rfl rfl ?_
              refine wp_iinc8N rfl rfl ?_
              refine wp_goto rfl ?_
              have := k () _ rfl
              rw [hstep] at this
              exact this
          · intro x h3 I
            show wq _ tb_Ref_night _ 75 [some (.ref 65), some (.int (nI sd)), some (.int (nI m)), some (.int (nI g)), some (.int w), some (.int (nI (nt_ t.1 sd (sg_pos t.1 g) m).2.1)), some (.int (nI (nt_ t.1 sd (sg_pos t.1 g) m).2.2)), some (.int (nI (nt_ t.1 sd (sg_pos t.1 g) m).1)), some (.int (nI m))] [] h3 _
            obtain rfl := I
            refine wp_iload8 rfl ?_
            refine wp_iload2 rfl ?_
            refine wp_icmp_geN m m (by omega) (by omega) rfl (fun _ => ?_) (fun z => absurd z (by omega))
            refine wp_iload4 rfl ?_
            refine wp_if_ne rfl (fun c6 => ?_) (fun c6 => ?_)
            · skip
              refine wp_iload5 rfl ?_
              exact wp_iret rfl ⟨_, rfl, by rw [e2, if_neg c6], B2⟩
            · skip
              refine wp_iload6 rfl ?_
              refine wp_goto rfl ?_
              exact wp_iret rfl ⟨_, rfl, by rw [e2, if_pos (Classical.not_not.mp c6)], B2⟩
        · skip
          refine wp_bipush rfl ?_
          exact wp_iret rfl ⟨_, rfl, by rw [e1, show rg_ 0 1 w = false from c4, Bool.and_false, Bool.and_false]; rfl, B⟩
  · skip
    refine wp_iconst rfl ?_
    exact wp_iret rfl ⟨_, rfl, by unfold an_night; rw [c1]; rfl, B⟩
