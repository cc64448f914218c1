-- ===== Group.gather =====
theorem ms_may {s : Sg_} (w : sg_wf s) (f : Nat) : ms_ s f = -1 ↔ may_ s f = false := by
  unfold ms_
  cases h : may_ s f with
  | true =>
    rw [if_pos rfl]
    exact ⟨fun z => absurd z (te_some (mv_P8 w f)), fun z => by cases z⟩
  | false => rw [if_neg Bool.false_ne_true]; exact ⟨fun _ => rfl, fun _ => rfl⟩
/-- the pairs below i sift, both ways round -/
def pi_ (T : Tb_) (ml : List (Nat → Nat)) (i : Nat) : Prop := ∀ x y a b, x < i → y < i → ml[x]? = some a → ml[y]? = some b → SS_ T 8 (fun p => b (a p))
theorem Group_gather_ok {h : Hp_} {o a : Nat} {s : Sg_} (S : S_Group h o) (w : sg_wf s) (hk : hp_kd h a = 1) (hl : hp_ln h a = 6) (h0 : a ≠ 0) (ha : a < o ∨ o + 2 < a) (hrow : ∀ f, f < 6 → hp_I h a f = ms_ s f) : cV 6 mn_Group_gather [.ref o, .ref a] h (fun h' => ∃ T, Tok_ T ∧ GT_ h' o T ∧ (∀ u, SS_ T 8 u ↔ GG_ (mv_ s) (may_ s) u) ∧ fr_ (fun c => o ≤ c ∧ c ≤ o + 2) h h') := by
  have hthen : ∀ u v, GG_ (mv_ s) (may_ s) u → GG_ (mv_ s) (may_ s) v → GG_ (mv_ s) (may_ s) (fun i => v (u i)) := fun u v hu hv => GG_then hu hv
  have hin : ∀ u, IsP 8 u → GG_ (mv_ s) (may_ s) u → GG_ (mv_ s) (may_ s) (in_ u) := fun u hP hu => GG_in hP hu
  refine cq_in (q := mi_Group_gather) (L := [some (.ref o), some (.ref a), none, none, none, none]) rfl (Nat.le_of_ble_eq_true rfl) rfl ?_
  show wq _ tb_Group_gather none 0 _ _ _ _
  -- the products
  have loop2 : ∀ k i (a3 a4 a5 : Option Value) (hc : Hp_) (T : Tb_) (ml : List (Nat → Nat)), nl_ a3 = true → nl_ a4 = true → i ≤ 28 → 28 - i = k → fr_ (fun c => o ≤ c ∧ c ≤ o + 2) h hc → GI_ hc o T ml → (∀ t ∈ ml, GG_ (mv_ s) (may_ s) t) → (∀ f, f < 6 → may_ s f = true → SS_ T 8 (mv_ s f)) → pi_ T ml i → wq 5 tb_Group_gather none 43 [some (.ref o), some (.ref a), some (.int (nI i)), a3, a4, a5] [] hc (fun r h' => r = none ∧ ∃ T, Tok_ T ∧ GT_ h' o T ∧ (∀ u, SS_ T 8 u ↔ GG_ (mv_ s) (may_ s) u) ∧ fr_ (fun c => o ≤ c ∧ c ≤ o + 2) h h') := by
    intro k
    have hend : ∀ (i : Nat) (hc : Hp_) (T : Tb_) (ml : List (Nat → Nat)), fr_ (fun c => o ≤ c ∧ c ≤ o + 2) h hc → GI_ hc o T ml → (∀ t ∈ ml, GG_ (mv_ s) (may_ s) t) → (∀ f, f < 6 → may_ s f = true → SS_ T 8 (mv_ s f)) → pi_ T ml i → ml.length ≤ i → ∃ T, Tok_ T ∧ GT_ hc o T ∧ (∀ u, SS_ T 8 u ↔ GG_ (mv_ s) (may_ s) u) ∧ fr_ (fun c => o ≤ c ∧ c ≤ o + 2) h hc := by
      intro i hc T ml hfr I hG hg hpi hli
      refine ⟨T, I.1, I.2.1, fun u => SS_whole I.1 (fun p q a p2 q2 b h1 h2 => ?_) (fun p q t z => hG t (I.2.2.2.2.1 p q t z)) hg u, hfr⟩
      obtain ⟨x, hx⟩ := List.getElem?_of_mem (I.2.2.2.2.1 p q a h1)
      obtain ⟨y, hy⟩ := List.getElem?_of_mem (I.2.2.2.2.1 p2 q2 b h2)
      exact hpi x y a b (Nat.lt_of_lt_of_le (List.getElem?_eq_some_iff.mp hx).1 hli) (Nat.lt_of_lt_of_le (List.getElem?_eq_some_iff.mp hy).1 hli) hx hy
    induction k with
    | zero =>
      intro i a3 a4 a5 hc T ml n3 n4 hi hk2 hfr I hG hg hpi
      obtain rfl : i = 28 := by omega
      have hml : ml.length ≤ 28 := by rw [I.2.2.2.2.2.2, ← fu_64]; exact fc_le I.1 64
      refine wp_iload2 rfl ?_
      refine wp_bipush rfl ?_
      refine wp_icmp_geN (28) (28) (by omega) (by omega) rfl (fun c1 => ?_) (fun c1 => ?_)
      · skip
        exact wp_vret rfl ⟨rfl, hend 28 hc T ml hfr I hG hg hpi hml⟩
      · exact absurd c1 (by omega)
    | succ k ih =>
      intro i a3 a4 a5 hc T ml n3 n4 hi hk2 hfr I hG hg hpi
      have hml : ml.length ≤ 28 := by rw [I.2.2.2.2.2.2, ← fu_64]; exact fc_le I.1 64
      have Sc := S_Group_fr hfr S
      refine wp_iload2 rfl ?_
      refine wp_bipush rfl ?_
      refine wp_icmp_geN (i) (28) (by omega) (by omega) rfl (fun c1 => ?_) (fun c1 => ?_)
      · exact absurd c1 (by omega)
      · skip
        refine wp_iload2 rfl ?_
        refine wp_aload0 rfl ?_
        refine wp_getI rfl (Group_kd Sc) ?_
        rw [I.2.2.1]
        refine wp_icmp_geN (i) (ml.length) (by omega) (by omega) rfl (fun c2 => ?_) (fun c2 => ?_)
        · skip
          exact wp_vret rfl ⟨rfl, hend i hc T ml hfr I hG hg hpi c2⟩
        · skip
          refine wp_iconst rfl ?_
          refine wp_istore3 rfl rfl ?_
          have inner : ∀ k2 j (a4 a5 : Option Value) (hc : Hp_) (T : Tb_) (ml : List (Nat → Nat)), nl_ a4 = true → j ≤ i + 1 → i + 1 - j = k2 → i < ml.length → fr_ (fun c => o ≤ c ∧ c ≤ o + 2) h hc → GI_ hc o T ml → (∀ t ∈ ml, GG_ (mv_ s) (may_ s) t) → (∀ f, f < 6 → may_ s f = true → SS_ T 8 (mv_ s f)) → pi_ T ml i → (∀ y a b, y < j → ml[i]? = some a → ml[y]? = some b → SS_ T 8 (fun p => b (a p)) ∧ SS_ T 8 (fun p => a (b p))) → wq 5 tb_Group_gather none 59 [some (.ref o), some (.ref a), some (.int (nI i)), some (.int (nI j)), a4, a5] [] hc (fun r h' => r = none ∧ ∃ T, Tok_ T ∧ GT_ h' o T ∧ (∀ u, SS_ T 8 u ↔ GG_ (mv_ s) (may_ s) u) ∧ fr_ (fun c => o ≤ c ∧ c ≤ o + 2) h h') := by
            intro k2
            induction k2 with
            | zero =>
              intro j a4 a5 hc T ml n4 hj hk3 hil hfr I hG hg hpi hpj
              obtain rfl : j = i + 1 := by omega
              refine wp_iload3 rfl ?_
              refine wp_iload2 rfl ?_
              refine wp_icmp_gtN (i + 1) (i) (by omega) (by omega) rfl (fun c3 => ?_) (fun c3 => ?_)
              · skip
                refine wp_iinc2N rfl rfl ?_
                refine wp_goto rfl ?_
                refine ih (i + 1) _ _ _ hc T ml rfl n4 (by omega) (by omega) hfr I hG hg ?_
                intro x y a1 b1 hx hy h1 h2
                rcases Nat.lt_or_ge x i with q1 | q1
                · rcases Nat.lt_or_ge y i with q2 | q2
                  · exact hpi x y a1 b1 q1 q2 h1 h2
                  · obtain rfl : y = i := by omega
                    exact (hpj x b1 a1 (by omega) h2 h1).2
                · obtain rfl : x = i := by omega
                  exact (hpj y a1 b1 hy h1 h2).1
              · exact absurd c3 (by omega)
            | succ k2 ih2 =>
              intro j a4 a5 hc T ml n4 hj hk3 hil hfr I hG hg hpi hpj
              have hml : ml.length ≤ 28 := by rw [I.2.2.2.2.2.2, ← fu_64]; exact fc_le I.1 64
              have Sc := S_Group_fr hfr S
              obtain ⟨u1, hu1⟩ : ∃ u1, ml[i]? = some u1 := ⟨_, List.getElem?_eq_getElem hil⟩
              obtain ⟨v1, hv1⟩ : ∃ v1, ml[j]? = some v1 := ⟨_, List.getElem?_eq_getElem (show j < ml.length by omega)⟩
              have hGu := hG u1 (List.mem_of_getElem? hu1)
              have hGv := hG v1 (List.mem_of_getElem? hv1)
              have hPu := GG_P (fun f => mv_P8 w f) hGu
              have hPv := GG_P (fun f => mv_P8 w f) hGv
              refine wp_iload3 rfl ?_
              refine wp_iload2 rfl ?_
              refine wp_icmp_gtN (j) (i) (by omega) (by omega) rfl (fun c3 => ?_) (fun c3 => ?_)
              · exact absurd c3 (by omega)
              · skip
                refine wp_aload0 rfl ?_
                refine wp_getR rfl (Group_kd Sc) (Group_R1 Sc) (by first | decide | omega) ?_
                refine wp_iload2 rfl ?_
                refine wp_callS2I rfl (Nat.le_of_ble_eq_true rfl) (Cells_atN_ok (Group_k1 Sc) (by omega) (Group_n1 Sc) (show i < 28 by omega) (by decide)) (Nat.le_of_ble_eq_true rfl) ?_
                rintro _ hx1 ⟨rfl, ehx1⟩
                rw [ehx1, I.2.2.2.1 i u1 hu1]
                refine wp_istore4 rfl rfl ?_
                refine wp_aload0 rfl ?_
                refine wp_getR rfl (Group_kd Sc) (Group_R1 Sc) (by first | decide | omega) ?_
                refine wp_iload3 rfl ?_
                refine wp_callS2I rfl (Nat.le_of_ble_eq_true rfl) (Cells_atN_ok (Group_k1 Sc) (by omega) (Group_n1 Sc) (show j < 28 by omega) (by decide)) (Nat.le_of_ble_eq_true rfl) ?_
                rintro _ hx2 ⟨rfl, ehx2⟩
                rw [ehx2, I.2.2.2.1 j v1 hv1]
                refine wp_istore5 rfl rfl ?_
                refine wp_aload0 rfl ?_
                refine wp_iload4 rfl ?_
                refine wp_iload5 rfl ?_
                refine wp_callS2I rfl (Nat.le_of_ble_eq_true rfl) (Maps_then_ok hPu.1 hPv.1) (Nat.le_of_ble_eq_true rfl) ?_
                rintro _ hx3 ⟨rfl, ehx3⟩
                rw [ehx3]
                refine wp_callV1V rfl (Nat.le_of_ble_eq_true rfl) (Group_kd Sc) (Group_add_ok hthen hin Sc I hG (hPu.then hPv) (hthen _ _ hGu hGv)) (Nat.le_of_ble_eq_true rfl) ?_
                rintro h5 ⟨T5, m5, I5, t5, l5, g5, s5, f5⟩
                have fr5 := fr_trans hfr f5
                have S5 := S_Group_fr fr5 S
                refine wp_aload0 rfl ?_
                refine wp_iload5 rfl ?_
                refine wp_iload4 rfl ?_
                refine wp_callS2I rfl (Nat.le_of_ble_eq_true rfl) (Maps_then_ok hPv.1 hPu.1) (Nat.le_of_ble_eq_true rfl) ?_
                rintro _ hx4 ⟨rfl, ehx4⟩
                rw [ehx4]
                refine wp_callV1V rfl (Nat.le_of_ble_eq_true rfl) (Group_kd S5) (Group_add_ok hthen hin S5 I5 g5 (hPv.then hPu) (hthen _ _ hGv hGu)) (Nat.le_of_ble_eq_true rfl) ?_
                rintro h6 ⟨T6, m6, I6, t6, l6, g6, s6, f6⟩
                refine wp_iinc3N rfl rfl ?_
                refine wp_goto rfl ?_
                have hmono : ∀ u, SS_ T 8 u → SS_ T6 8 u := fun u z => SS_mono t6 8 u (SS_mono t5 8 u z)
                have hlm : ∀ (x : Nat) (t : Nat → Nat), ml[x]? = some t → m6[x]? = some t := fun x t z => l6 x t (l5 x t z)
                have hback : ∀ (x : Nat) (t : Nat → Nat), x < ml.length → m6[x]? = some t → ml[x]? = some t := by
                  intro x t hx z
                  have e := hlm x ml[x] (List.getElem?_eq_getElem hx)
                  rw [e] at z
                  rw [List.getElem?_eq_getElem hx]
                  exact z
                have hil6 : i < m6.length := (List.getElem?_eq_some_iff.mp (hlm i u1 hu1)).1
                refine ih2 (j + 1) _ _ h6 T6 m6 rfl (by omega) (by omega) hil6 (fr_trans fr5 f6) I6 g6 (fun f hf ho => hmono _ (hg f hf ho)) ?_ ?_
                · intro x y a1 b1 hx hy h1 h2
                  exact hmono _ (hpi x y a1 b1 hx hy (hback x a1 (by omega) h1) (hback y b1 (by omega) h2))
                · intro y a1 b1 hy h1 h2
                  have e1 := hback i a1 hil h1
                  have e2 := hback y b1 (by omega) h2
                  rcases Nat.lt_or_ge y j with q | q
                  · exact ⟨hmono _ (hpj y a1 b1 q e1 e2).1, hmono _ (hpj y a1 b1 q e1 e2).2⟩
                  · obtain rfl : y = j := by omega
                    rw [hu1] at e1
                    rw [hv1] at e2
                    cases e1
                    cases e2
                    exact ⟨SS_mono t6 8 _ s5, s6⟩
          exact inner (i + 1) 0 a4 a5 hc T ml n4 (by omega) rfl c2 hfr I hG hg hpi (fun y a1 b1 hy => absurd hy (Nat.not_lt_zero _))
  -- the figures
  have loop1 : ∀ k i (a3 a4 a5 : Option Value) (hc : Hp_) (T : Tb_) (ml : List (Nat → Nat)), nl_ a3 = true → nl_ a4 = true → i ≤ 6 → 6 - i = k → fr_ (fun c => o ≤ c ∧ c ≤ o + 2) h hc → GI_ hc o T ml → (∀ t ∈ ml, GG_ (mv_ s) (may_ s) t) → (∀ f, f < i → may_ s f = true → SS_ T 8 (mv_ s f)) → wq 5 tb_Group_gather none 15 [some (.ref o), some (.ref a), some (.int (nI i)), a3, a4, a5] [] hc (fun r h' => r = none ∧ ∃ T, Tok_ T ∧ GT_ h' o T ∧ (∀ u, SS_ T 8 u ↔ GG_ (mv_ s) (may_ s) u) ∧ fr_ (fun c => o ≤ c ∧ c ≤ o + 2) h h') := by
    intro k
    induction k with
    | zero =>
      intro i a3 a4 a5 hc T ml n3 n4 hi hk2 hfr I hG hg
      obtain rfl : i = 6 := by omega
      have Sc := S_Group_fr hfr S
      have hkc : hp_kd hc a = 1 := by rw [(fr_S hfr).2.2.1]; exact hk
      have hlc : hp_ln hc a = 6 := by rw [(fr_S hfr).2.2.2.1]; exact hl
      refine wp_iload2 rfl ?_
      refine wp_aload1 rfl ?_
      refine wp_alenE rfl h0 (Or.inl hkc) hlc ?_
      refine wp_icmp_geN (6) (6) (by omega) (by omega) rfl (fun c1 => ?_) (fun c1 => ?_)
      · skip
        refine wp_iconst rfl ?_
        refine wp_istore2 rfl rfl ?_
        exact loop2 28 0 a3 a4 a5 hc T ml n3 n4 (by omega) rfl hfr I hG hg (fun x y a b hx => absurd hx (Nat.not_lt_zero _))
      · exact absurd c1 (by omega)
    | succ k ih =>
      intro i a3 a4 a5 hc T ml n3 n4 hi hk2 hfr I hG hg
      have Sc := S_Group_fr hfr S
      have hkc : hp_kd hc a = 1 := by rw [(fr_S hfr).2.2.1]; exact hk
      have hlc : hp_ln hc a = 6 := by rw [(fr_S hfr).2.2.2.1]; exact hl
      have hrc : hp_I hc a i = ms_ s i := by rw [fr_I hfr (by omega)]; exact hrow i (by omega)
      have hm := ms_may w i
      refine wp_iload2 rfl ?_
      refine wp_aload1 rfl ?_
      refine wp_alenE rfl h0 (Or.inl hkc) hlc ?_
      refine wp_icmp_geN (i) (6) (by omega) (by omega) rfl (fun c1 => ?_) (fun c1 => ?_)
      · exact absurd c1 (by omega)
      · skip
        refine wp_aload1 rfl ?_
        refine wp_iload2 rfl ?_
        refine wp_iald i rfl hkc h0 (by omega) (by omega) rfl ?_
        rw [hrc]
        refine wp_iconst rfl ?_
        refine wp_icmp_eq rfl (fun c2 => ?_) (fun c2 => ?_)
        · skip
          refine wp_iinc2N rfl rfl ?_
          refine wp_goto rfl ?_
          refine ih (i + 1) a3 a4 a5 hc T ml n3 n4 (by omega) (by omega) hfr I hG (fun f hf ho => ?_)
          rcases Nat.lt_or_ge f i with q | q
          · exact hg f q ho
          · obtain rfl : f = i := by omega
            rw [hm.mp c2] at ho
            cases ho
        · skip
          refine wp_aload0 rfl ?_
          refine wp_aload1 rfl ?_
          refine wp_iload2 rfl ?_
          refine wp_iald i rfl hkc h0 (by omega) (by omega) rfl ?_
          rw [hrc]
          have hmay : may_ s i = true := by
            cases z : may_ s i with
            | true => rfl
            | false => exact absurd (hm.mpr z) c2
          rw [show ms_ s i = nI (pq_ (mv_ s i) 8) from if_pos hmay]
          refine wp_callV1V rfl (Nat.le_of_ble_eq_true rfl) (Group_kd Sc) (Group_add_ok hthen hin Sc I hG (mv_P8 w i) (GG_gen (by omega) hmay)) (Nat.le_of_ble_eq_true rfl) ?_
          rintro h5 ⟨T5, m5, I5, t5, l5, g5, s5, f5⟩
          refine wp_iinc2N rfl rfl ?_
          refine wp_goto rfl ?_
          refine ih (i + 1) a3 a4 a5 h5 T5 m5 n3 n4 (by omega) (by omega) (fr_trans hfr f5) I5 g5 (fun f hf ho => ?_)
          rcases Nat.lt_or_ge f i with q | q
          · exact SS_mono t5 8 _ (hg f q ho)
          · obtain rfl : f = i := by omega
            exact s5
  refine wp_aload0 rfl ?_
  refine wp_getR rfl (Group_kd S) (Group_R0 S) (by first | decide | omega) ?_
  refine wp_iconst rfl ?_
  refine wp_callS2V rfl (Nat.le_of_ble_eq_true rfl) (Cells_fill_ok (Group_k0 S) (by omega) (Group_n0 S) (by decide)) (Nat.le_of_ble_eq_true rfl) ?_
  rintro h1 e1
  have S1 : S_Group h1 o := by rw [e1]; exact S
  refine wp_aload0 rfl ?_
  refine wp_iconst rfl ?_
  refine wp_putI rfl (Group_kd S1) ?_
  refine wp_iconst rfl ?_
  refine wp_istore2 rfl rfl ?_
  refine wq_gen (fun h2 e2 => ?_)
  refine loop1 6 0 none none none h2 (fun _ _ => none) [] rfl rfl (by omega) rfl ?_ ⟨fun p q t z => (by cases z), fun p q hp hq => ?_, ?_, fun i u z => (by cases z), fun p q t z => (by cases z), fun t ht => (by cases ht), ?_⟩ (fun t ht => (by cases ht)) (fun f hf => absurd hf (Nat.not_lt_zero _))
  · rw [e2, e1]
    exact fr_row (by omega) (fr_row (by omega) (fr_refl _ _))
  · rw [e2, sd_rI_ne (by omega), e1, sd_rI_eq]
    exact if_pos (by omega)
  · rw [e2, sd_rI_eq, sd_up_eq]
    rfl
  · decide
