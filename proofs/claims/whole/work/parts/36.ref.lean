-- ===== the reference: its shape, what it holds =====
/-- the reference object, its rows: every one at its place -/
def S_Ref (h : Hp_) : Prop := hp_kd h 65 = 20 ∧ (hp_R h 65 1 = 66 ∧ hp_kd h 66 = 1 ∧ hp_ln h 66 = 48) ∧ (hp_R h 65 2 = 67 ∧ hp_kd h 67 = 1 ∧ hp_ln h 67 = 8) ∧ (hp_R h 65 3 = 68 ∧ hp_kd h 68 = 1 ∧ hp_ln h 68 = 8) ∧ (hp_R h 65 7 = 69 ∧ hp_kd h 69 = 1 ∧ hp_ln h 69 = 6) ∧ (hp_R h 65 8 = 70 ∧ hp_kd h 70 = 1 ∧ hp_ln h 70 = 2) ∧ (hp_R h 65 9 = 71 ∧ hp_kd h 71 = 1 ∧ hp_ln h 71 = 6) ∧ (hp_R h 65 10 = 72 ∧ hp_kd h 72 = 1 ∧ hp_ln h 72 = 6) ∧ (hp_R h 65 11 = 73 ∧ hp_kd h 73 = 1 ∧ hp_ln h 73 = 6) ∧ (hp_R h 65 13 = 74 ∧ hp_kd h 74 = 1 ∧ hp_ln h 74 = 6) ∧ (hp_R h 65 14 = 75 ∧ hp_kd h 75 = 1 ∧ hp_ln h 75 = 6) ∧ (hp_R h 65 15 = 76 ∧ hp_kd h 76 = 1 ∧ hp_ln h 76 = 6) ∧ (hp_R h 65 17 = 77 ∧ hp_kd h 77 = 1 ∧ hp_ln h 77 = 30) ∧ (hp_R h 65 19 = 78 ∧ hp_kd h 78 = 1 ∧ hp_ln h 78 = 48) ∧ (hp_R h 65 20 = 79 ∧ hp_kd h 79 = 1 ∧ hp_ln h 79 = 8) ∧ (hp_R h 65 22 = 80 ∧ hp_kd h 80 = 1 ∧ hp_ln h 80 = 40320) ∧ (hp_R h 65 23 = 81 ∧ hp_kd h 81 = 1 ∧ hp_ln h 81 = 241920) ∧ (hp_R h 65 24 = 82 ∧ hp_kd h 82 = 1 ∧ hp_ln h 82 = 8) ∧ (hp_R h 65 26 = 83 ∧ hp_kd h 83 = 1 ∧ hp_ln h 83 = 40320) ∧ (hp_R h 65 27 = 84 ∧ hp_kd h 84 = 1 ∧ hp_ln h 84 = 40320) ∧ (hp_R h 65 28 = 85 ∧ hp_kd h 85 = 1 ∧ hp_ln h 85 = 40320) ∧ (hp_R h 65 29 = 86 ∧ hp_kd h 86 = 1 ∧ hp_ln h 86 = 40320) ∧ (hp_R h 65 31 = 87 ∧ hp_kd h 87 = 1 ∧ hp_ln h 87 = 16) ∧ (hp_R h 65 32 = 88 ∧ hp_kd h 88 = 2 ∧ hp_ln h 88 = 524160) ∧ (hp_R h 65 33 = 89 ∧ hp_kd h 89 = 3 ∧ hp_ln h 89 = 40320) ∧ (hp_R h 65 34 = 90 ∧ hp_kd h 90 = 3 ∧ hp_ln h 90 = 40320) ∧ (hp_R h 65 35 = 91 ∧ hp_kd h 91 = 1 ∧ hp_ln h 91 = 6) ∧ (hp_R h 65 37 = 92 ∧ hp_kd h 92 = 1 ∧ hp_ln h 92 = 320) ∧ (hp_R h 65 38 = 93 ∧ hp_kd h 93 = 3 ∧ hp_ln h 93 = 2)
theorem Ref_kd {h : Hp_} (S : S_Ref h) : hp_kd h 65 = 20 := S.1
theorem Ref_R1 {h : Hp_} (S : S_Ref h) : hp_R h 65 1 = 66 := S.2.1.1
theorem Ref_k1 {h : Hp_} (S : S_Ref h) : hp_kd h 66 = 1 := S.2.1.2.1
theorem Ref_n1 {h : Hp_} (S : S_Ref h) : hp_ln h 66 = 48 := S.2.1.2.2
theorem Ref_R2 {h : Hp_} (S : S_Ref h) : hp_R h 65 2 = 67 := S.2.2.1.1
theorem Ref_k2 {h : Hp_} (S : S_Ref h) : hp_kd h 67 = 1 := S.2.2.1.2.1
theorem Ref_n2 {h : Hp_} (S : S_Ref h) : hp_ln h 67 = 8 := S.2.2.1.2.2
theorem Ref_R3 {h : Hp_} (S : S_Ref h) : hp_R h 65 3 = 68 := S.2.2.2.1.1
theorem Ref_k3 {h : Hp_} (S : S_Ref h) : hp_kd h 68 = 1 := S.2.2.2.1.2.1
theorem Ref_n3 {h : Hp_} (S : S_Ref h) : hp_ln h 68 = 8 := S.2.2.2.1.2.2
theorem Ref_R7 {h : Hp_} (S : S_Ref h) : hp_R h 65 7 = 69 := S.2.2.2.2.1.1
theorem Ref_k7 {h : Hp_} (S : S_Ref h) : hp_kd h 69 = 1 := S.2.2.2.2.1.2.1
theorem Ref_n7 {h : Hp_} (S : S_Ref h) : hp_ln h 69 = 6 := S.2.2.2.2.1.2.2
theorem Ref_R8 {h : Hp_} (S : S_Ref h) : hp_R h 65 8 = 70 := S.2.2.2.2.2.1.1
theorem Ref_k8 {h : Hp_} (S : S_Ref h) : hp_kd h 70 = 1 := S.2.2.2.2.2.1.2.1
theorem Ref_n8 {h : Hp_} (S : S_Ref h) : hp_ln h 70 = 2 := S.2.2.2.2.2.1.2.2
theorem Ref_R9 {h : Hp_} (S : S_Ref h) : hp_R h 65 9 = 71 := S.2.2.2.2.2.2.1.1
theorem Ref_k9 {h : Hp_} (S : S_Ref h) : hp_kd h 71 = 1 := S.2.2.2.2.2.2.1.2.1
theorem Ref_n9 {h : Hp_} (S : S_Ref h) : hp_ln h 71 = 6 := S.2.2.2.2.2.2.1.2.2
theorem Ref_R10 {h : Hp_} (S : S_Ref h) : hp_R h 65 10 = 72 := S.2.2.2.2.2.2.2.1.1
theorem Ref_k10 {h : Hp_} (S : S_Ref h) : hp_kd h 72 = 1 := S.2.2.2.2.2.2.2.1.2.1
theorem Ref_n10 {h : Hp_} (S : S_Ref h) : hp_ln h 72 = 6 := S.2.2.2.2.2.2.2.1.2.2
theorem Ref_R11 {h : Hp_} (S : S_Ref h) : hp_R h 65 11 = 73 := S.2.2.2.2.2.2.2.2.1.1
theorem Ref_k11 {h : Hp_} (S : S_Ref h) : hp_kd h 73 = 1 := S.2.2.2.2.2.2.2.2.1.2.1
theorem Ref_n11 {h : Hp_} (S : S_Ref h) : hp_ln h 73 = 6 := S.2.2.2.2.2.2.2.2.1.2.2
theorem Ref_R13 {h : Hp_} (S : S_Ref h) : hp_R h 65 13 = 74 := S.2.2.2.2.2.2.2.2.2.1.1
theorem Ref_k13 {h : Hp_} (S : S_Ref h) : hp_kd h 74 = 1 := S.2.2.2.2.2.2.2.2.2.1.2.1
theorem Ref_n13 {h : Hp_} (S : S_Ref h) : hp_ln h 74 = 6 := S.2.2.2.2.2.2.2.2.2.1.2.2
theorem Ref_R14 {h : Hp_} (S : S_Ref h) : hp_R h 65 14 = 75 := S.2.2.2.2.2.2.2.2.2.2.1.1
theorem Ref_k14 {h : Hp_} (S : S_Ref h) : hp_kd h 75 = 1 := S.2.2.2.2.2.2.2.2.2.2.1.2.1
theorem Ref_n14 {h : Hp_} (S : S_Ref h) : hp_ln h 75 = 6 := S.2.2.2.2.2.2.2.2.2.2.1.2.2
theorem Ref_R15 {h : Hp_} (S : S_Ref h) : hp_R h 65 15 = 76 := S.2.2.2.2.2.2.2.2.2.2.2.1.1
theorem Ref_k15 {h : Hp_} (S : S_Ref h) : hp_kd h 76 = 1 := S.2.2.2.2.2.2.2.2.2.2.2.1.2.1
theorem Ref_n15 {h : Hp_} (S : S_Ref h) : hp_ln h 76 = 6 := S.2.2.2.2.2.2.2.2.2.2.2.1.2.2
theorem Ref_R17 {h : Hp_} (S : S_Ref h) : hp_R h 65 17 = 77 := S.2.2.2.2.2.2.2.2.2.2.2.2.1.1
theorem Ref_k17 {h : Hp_} (S : S_Ref h) : hp_kd h 77 = 1 := S.2.2.2.2.2.2.2.2.2.2.2.2.1.2.1
theorem Ref_n17 {h : Hp_} (S : S_Ref h) : hp_ln h 77 = 30 := S.2.2.2.2.2.2.2.2.2.2.2.2.1.2.2
theorem Ref_R19 {h : Hp_} (S : S_Ref h) : hp_R h 65 19 = 78 := S.2.2.2.2.2.2.2.2.2.2.2.2.2.1.1
theorem Ref_k19 {h : Hp_} (S : S_Ref h) : hp_kd h 78 = 1 := S.2.2.2.2.2.2.2.2.2.2.2.2.2.1.2.1
theorem Ref_n19 {h : Hp_} (S : S_Ref h) : hp_ln h 78 = 48 := S.2.2.2.2.2.2.2.2.2.2.2.2.2.1.2.2
theorem Ref_R20 {h : Hp_} (S : S_Ref h) : hp_R h 65 20 = 79 := S.2.2.2.2.2.2.2.2.2.2.2.2.2.2.1.1
theorem Ref_k20 {h : Hp_} (S : S_Ref h) : hp_kd h 79 = 1 := S.2.2.2.2.2.2.2.2.2.2.2.2.2.2.1.2.1
theorem Ref_n20 {h : Hp_} (S : S_Ref h) : hp_ln h 79 = 8 := S.2.2.2.2.2.2.2.2.2.2.2.2.2.2.1.2.2
theorem Ref_R22 {h : Hp_} (S : S_Ref h) : hp_R h 65 22 = 80 := S.2.2.2.2.2.2.2.2.2.2.2.2.2.2.2.1.1
theorem Ref_k22 {h : Hp_} (S : S_Ref h) : hp_kd h 80 = 1 := S.2.2.2.2.2.2.2.2.2.2.2.2.2.2.2.1.2.1
theorem Ref_n22 {h : Hp_} (S : S_Ref h) : hp_ln h 80 = 40320 := S.2.2.2.2.2.2.2.2.2.2.2.2.2.2.2.1.2.2
theorem Ref_R23 {h : Hp_} (S : S_Ref h) : hp_R h 65 23 = 81 := S.2.2.2.2.2.2.2.2.2.2.2.2.2.2.2.2.1.1
theorem Ref_k23 {h : Hp_} (S : S_Ref h) : hp_kd h 81 = 1 := S.2.2.2.2.2.2.2.2.2.2.2.2.2.2.2.2.1.2.1
theorem Ref_n23 {h : Hp_} (S : S_Ref h) : hp_ln h 81 = 241920 := S.2.2.2.2.2.2.2.2.2.2.2.2.2.2.2.2.1.2.2
theorem Ref_R24 {h : Hp_} (S : S_Ref h) : hp_R h 65 24 = 82 := S.2.2.2.2.2.2.2.2.2.2.2.2.2.2.2.2.2.1.1
theorem Ref_k24 {h : Hp_} (S : S_Ref h) : hp_kd h 82 = 1 := S.2.2.2.2.2.2.2.2.2.2.2.2.2.2.2.2.2.1.2.1
theorem Ref_n24 {h : Hp_} (S : S_Ref h) : hp_ln h 82 = 8 := S.2.2.2.2.2.2.2.2.2.2.2.2.2.2.2.2.2.1.2.2
theorem Ref_R26 {h : Hp_} (S : S_Ref h) : hp_R h 65 26 = 83 := S.2.2.2.2.2.2.2.2.2.2.2.2.2.2.2.2.2.2.1.1
theorem Ref_k26 {h : Hp_} (S : S_Ref h) : hp_kd h 83 = 1 := S.2.2.2.2.2.2.2.2.2.2.2.2.2.2.2.2.2.2.1.2.1
theorem Ref_n26 {h : Hp_} (S : S_Ref h) : hp_ln h 83 = 40320 := S.2.2.2.2.2.2.2.2.2.2.2.2.2.2.2.2.2.2.1.2.2
theorem Ref_R27 {h : Hp_} (S : S_Ref h) : hp_R h 65 27 = 84 := S.2.2.2.2.2.2.2.2.2.2.2.2.2.2.2.2.2.2.2.1.1
theorem Ref_k27 {h : Hp_} (S : S_Ref h) : hp_kd h 84 = 1 := S.2.2.2.2.2.2.2.2.2.2.2.2.2.2.2.2.2.2.2.1.2.1
theorem Ref_n27 {h : Hp_} (S : S_Ref h) : hp_ln h 84 = 40320 := S.2.2.2.2.2.2.2.2.2.2.2.2.2.2.2.2.2.2.2.1.2.2
theorem Ref_R28 {h : Hp_} (S : S_Ref h) : hp_R h 65 28 = 85 := S.2.2.2.2.2.2.2.2.2.2.2.2.2.2.2.2.2.2.2.2.1.1
theorem Ref_k28 {h : Hp_} (S : S_Ref h) : hp_kd h 85 = 1 := S.2.2.2.2.2.2.2.2.2.2.2.2.2.2.2.2.2.2.2.2.1.2.1
theorem Ref_n28 {h : Hp_} (S : S_Ref h) : hp_ln h 85 = 40320 := S.2.2.2.2.2.2.2.2.2.2.2.2.2.2.2.2.2.2.2.2.1.2.2
theorem Ref_R29 {h : Hp_} (S : S_Ref h) : hp_R h 65 29 = 86 := S.2.2.2.2.2.2.2.2.2.2.2.2.2.2.2.2.2.2.2.2.2.1.1
theorem Ref_k29 {h : Hp_} (S : S_Ref h) : hp_kd h 86 = 1 := S.2.2.2.2.2.2.2.2.2.2.2.2.2.2.2.2.2.2.2.2.2.1.2.1
theorem Ref_n29 {h : Hp_} (S : S_Ref h) : hp_ln h 86 = 40320 := S.2.2.2.2.2.2.2.2.2.2.2.2.2.2.2.2.2.2.2.2.2.1.2.2
theorem Ref_R31 {h : Hp_} (S : S_Ref h) : hp_R h 65 31 = 87 := S.2.2.2.2.2.2.2.2.2.2.2.2.2.2.2.2.2.2.2.2.2.2.1.1
theorem Ref_k31 {h : Hp_} (S : S_Ref h) : hp_kd h 87 = 1 := S.2.2.2.2.2.2.2.2.2.2.2.2.2.2.2.2.2.2.2.2.2.2.1.2.1
theorem Ref_n31 {h : Hp_} (S : S_Ref h) : hp_ln h 87 = 16 := S.2.2.2.2.2.2.2.2.2.2.2.2.2.2.2.2.2.2.2.2.2.2.1.2.2
theorem Ref_R32 {h : Hp_} (S : S_Ref h) : hp_R h 65 32 = 88 := S.2.2.2.2.2.2.2.2.2.2.2.2.2.2.2.2.2.2.2.2.2.2.2.1.1
theorem Ref_k32 {h : Hp_} (S : S_Ref h) : hp_kd h 88 = 2 := S.2.2.2.2.2.2.2.2.2.2.2.2.2.2.2.2.2.2.2.2.2.2.2.1.2.1
theorem Ref_n32 {h : Hp_} (S : S_Ref h) : hp_ln h 88 = 524160 := S.2.2.2.2.2.2.2.2.2.2.2.2.2.2.2.2.2.2.2.2.2.2.2.1.2.2
theorem Ref_R33 {h : Hp_} (S : S_Ref h) : hp_R h 65 33 = 89 := S.2.2.2.2.2.2.2.2.2.2.2.2.2.2.2.2.2.2.2.2.2.2.2.2.1.1
theorem Ref_k33 {h : Hp_} (S : S_Ref h) : hp_kd h 89 = 3 := S.2.2.2.2.2.2.2.2.2.2.2.2.2.2.2.2.2.2.2.2.2.2.2.2.1.2.1
theorem Ref_n33 {h : Hp_} (S : S_Ref h) : hp_ln h 89 = 40320 := S.2.2.2.2.2.2.2.2.2.2.2.2.2.2.2.2.2.2.2.2.2.2.2.2.1.2.2
theorem Ref_R34 {h : Hp_} (S : S_Ref h) : hp_R h 65 34 = 90 := S.2.2.2.2.2.2.2.2.2.2.2.2.2.2.2.2.2.2.2.2.2.2.2.2.2.1.1
theorem Ref_k34 {h : Hp_} (S : S_Ref h) : hp_kd h 90 = 3 := S.2.2.2.2.2.2.2.2.2.2.2.2.2.2.2.2.2.2.2.2.2.2.2.2.2.1.2.1
theorem Ref_n34 {h : Hp_} (S : S_Ref h) : hp_ln h 90 = 40320 := S.2.2.2.2.2.2.2.2.2.2.2.2.2.2.2.2.2.2.2.2.2.2.2.2.2.1.2.2
theorem Ref_R35 {h : Hp_} (S : S_Ref h) : hp_R h 65 35 = 91 := S.2.2.2.2.2.2.2.2.2.2.2.2.2.2.2.2.2.2.2.2.2.2.2.2.2.2.1.1
theorem Ref_k35 {h : Hp_} (S : S_Ref h) : hp_kd h 91 = 1 := S.2.2.2.2.2.2.2.2.2.2.2.2.2.2.2.2.2.2.2.2.2.2.2.2.2.2.1.2.1
theorem Ref_n35 {h : Hp_} (S : S_Ref h) : hp_ln h 91 = 6 := S.2.2.2.2.2.2.2.2.2.2.2.2.2.2.2.2.2.2.2.2.2.2.2.2.2.2.1.2.2
theorem Ref_R37 {h : Hp_} (S : S_Ref h) : hp_R h 65 37 = 92 := S.2.2.2.2.2.2.2.2.2.2.2.2.2.2.2.2.2.2.2.2.2.2.2.2.2.2.2.1.1
theorem Ref_k37 {h : Hp_} (S : S_Ref h) : hp_kd h 92 = 1 := S.2.2.2.2.2.2.2.2.2.2.2.2.2.2.2.2.2.2.2.2.2.2.2.2.2.2.2.1.2.1
theorem Ref_n37 {h : Hp_} (S : S_Ref h) : hp_ln h 92 = 320 := S.2.2.2.2.2.2.2.2.2.2.2.2.2.2.2.2.2.2.2.2.2.2.2.2.2.2.2.1.2.2
theorem Ref_R38 {h : Hp_} (S : S_Ref h) : hp_R h 65 38 = 93 := S.2.2.2.2.2.2.2.2.2.2.2.2.2.2.2.2.2.2.2.2.2.2.2.2.2.2.2.2.1
theorem Ref_k38 {h : Hp_} (S : S_Ref h) : hp_kd h 93 = 3 := S.2.2.2.2.2.2.2.2.2.2.2.2.2.2.2.2.2.2.2.2.2.2.2.2.2.2.2.2.2.1
theorem Ref_n38 {h : Hp_} (S : S_Ref h) : hp_ln h 93 = 2 := S.2.2.2.2.2.2.2.2.2.2.2.2.2.2.2.2.2.2.2.2.2.2.2.2.2.2.2.2.2.2
/-- where a good is wanted, as the reference keeps it -/
def wr_ (w : Nat) : Int32 := if w = 8 then -6 else nI w
def MR_ (h : Hp_) (s : Sg_) : Prop := (hp_I h 65 0 = nI (sg_n s) ∧ hp_I h 65 4 = nI (sg_lm s) ∧ hp_I h 65 5 = nI (sg_pl s) ∧ hp_I h 65 6 = nI (sg_le s) ∧ hp_I h 65 12 = nI (sg_si s).length ∧ hp_I h 65 16 = nI (sg_wi s).length) ∧ (∀ f p, f < 6 → p < 8 → hp_I h 66 (8 * f + p) = nI (sg_fig s f p)) ∧ (∀ p, p < 8 → hp_I h 67 p = nI (in_ (sg_pos s) p)) ∧ (∀ g, g < 8 → hp_I h 68 g = wr_ (sg_wa s g)) ∧ (∀ f, f < 6 → hp_I h 69 f = nI (sg_mu s f)) ∧ (∀ c, c < 2 → hp_I h 70 c = nI (sg_ca s c)) ∧ (∀ (i : Nat) (q : Nat × Nat × Nat), (sg_si s)[i]? = some q → hp_I h 71 i = nI q.1 ∧ hp_I h 72 i = nI q.2.1 ∧ hp_I h 73 i = nI q.2.2) ∧ (∀ (i : Nat) (q : Nat × Nat × Nat), (sg_wi s)[i]? = some q → hp_I h 76 i = nI q.1 ∧ hp_I h 74 i = nI q.2.1 ∧ hp_I h 75 i = nI q.2.2)
/-- the same out of a row of 114 numbers -/
def MV_ (v : Nat → Int32) (s : Sg_) : Prop := (v 0 = nI (sg_n s) ∧ v 1 = nI (sg_lm s) ∧ v 2 = nI (sg_pl s) ∧ v 3 = nI (sg_le s) ∧ v 4 = nI (sg_si s).length ∧ v 5 = nI (sg_wi s).length) ∧ (∀ f p, f < 6 → p < 8 → v (8 + (8 * f + p)) = nI (sg_fig s f p)) ∧ (∀ p, p < 8 → v (56 + 2 * p) = nI (in_ (sg_pos s) p)) ∧ (∀ g, g < 8 → v (57 + 2 * g) = wr_ (sg_wa s g)) ∧ (∀ f, f < 6 → v (72 + 7 * f) = nI (sg_mu s f)) ∧ (∀ c, c < 2 → v (6 + c) = nI (sg_ca s c)) ∧ (∀ (i : Nat) (q : Nat × Nat × Nat), (sg_si s)[i]? = some q → v (73 + 7 * i) = nI q.1 ∧ v (74 + 7 * i) = nI q.2.1 ∧ v (75 + 7 * i) = nI q.2.2) ∧ (∀ (i : Nat) (q : Nat × Nat × Nat), (sg_wi s)[i]? = some q → v (78 + 7 * i) = nI q.1 ∧ v (76 + 7 * i) = nI q.2.1 ∧ v (77 + 7 * i) = nI q.2.2)
/-- the same out of an image, from place b of row 92 on -/
def KS_ (h : Hp_) (b : Nat) (s : Sg_) : Prop := MV_ (fun j => hp_I h 92 (b + j)) s
def PD_ (h : Hp_) (g : Nat → Nat) (c : Nat) : Prop := hp_I h 65 18 = nI c ∧ c ≤ 30 ∧ (∀ i, i < c → hp_I h 77 i = nI (g i)) ∧ ∀ i, g i < 127
def IM_ (h : Hp_) (k : Nat) (o : Option Sg_) : Prop := hp_I h 93 k = bo_ o.isSome ∧ ∀ s, o = some s → sg_wf s ∧ KS_ h (160 * k) s
/-- all that the calls work on: the state, the pad's signs and how many, the images -/
abbrev Rt_ : Type := Sg_ × (Nat → Nat) × Nat × Option Sg_ × Option Sg_
def RB_ (h0 h : Hp_) (t : Rt_) : Prop := S_Ref h ∧ fz_ (fun c => 65 ≤ c ∧ c ≤ 93) h0 h ∧ MR_ h t.1 ∧ sg_wf t.1 ∧ PD_ h t.2.1 t.2.2.1 ∧ IM_ h 0 t.2.2.2.1 ∧ IM_ h 1 t.2.2.2.2
theorem RB_.S {h0 h : Hp_} {t : Rt_} (B : RB_ h0 h t) : S_Ref h := B.1
theorem RB_.z {h0 h : Hp_} {t : Rt_} (B : RB_ h0 h t) : fz_ (fun c => 65 ≤ c ∧ c ≤ 93) h0 h := B.2.1
theorem RB_.M {h0 h : Hp_} {t : Rt_} (B : RB_ h0 h t) : MR_ h t.1 := B.2.2.1
theorem RB_.w {h0 h : Hp_} {t : Rt_} (B : RB_ h0 h t) : sg_wf t.1 := B.2.2.2.1
theorem RB_.P {h0 h : Hp_} {t : Rt_} (B : RB_ h0 h t) : PD_ h t.2.1 t.2.2.1 := B.2.2.2.2.1
theorem RB_.n {h0 h : Hp_} {t : Rt_} (B : RB_ h0 h t) : hp_I h 65 0 = nI (sg_n t.1) := B.M.1.1
theorem RB_.lm {h0 h : Hp_} {t : Rt_} (B : RB_ h0 h t) : hp_I h 65 4 = nI (sg_lm t.1) := B.M.1.2.1
theorem RB_.pl {h0 h : Hp_} {t : Rt_} (B : RB_ h0 h t) : hp_I h 65 5 = nI (sg_pl t.1) := B.M.1.2.2.1
theorem RB_.le {h0 h : Hp_} {t : Rt_} (B : RB_ h0 h t) : hp_I h 65 6 = nI (sg_le t.1) := B.M.1.2.2.2.1
theorem RB_.sn {h0 h : Hp_} {t : Rt_} (B : RB_ h0 h t) : hp_I h 65 12 = nI (sg_si t.1).length := B.M.1.2.2.2.2.1
theorem RB_.wn {h0 h : Hp_} {t : Rt_} (B : RB_ h0 h t) : hp_I h 65 16 = nI (sg_wi t.1).length := B.M.1.2.2.2.2.2
theorem RB_.told {h0 h : Hp_} {t : Rt_} (B : RB_ h0 h t) {f p : Nat} (hf : f < 6) (hp : p < 8) : hp_I h 66 (8 * f + p) = nI (sg_fig t.1 f p) := B.M.2.1 f p hf hp
theorem RB_.good {h0 h : Hp_} {t : Rt_} (B : RB_ h0 h t) {p : Nat} (hp : p < 8) : hp_I h 67 p = nI (in_ (sg_pos t.1) p) := B.M.2.2.1 p hp
theorem RB_.wa {h0 h : Hp_} {t : Rt_} (B : RB_ h0 h t) {p : Nat} (hp : p < 8) : hp_I h 68 p = wr_ (sg_wa t.1 p) := B.M.2.2.2.1 p hp
theorem RB_.mu {h0 h : Hp_} {t : Rt_} (B : RB_ h0 h t) {p : Nat} (hp : p < 6) : hp_I h 69 p = nI (sg_mu t.1 p) := B.M.2.2.2.2.1 p hp
theorem RB_.ca {h0 h : Hp_} {t : Rt_} (B : RB_ h0 h t) {p : Nat} (hp : p < 2) : hp_I h 70 p = nI (sg_ca t.1 p) := B.M.2.2.2.2.2.1 p hp
theorem RB_.si {h0 h : Hp_} {t : Rt_} (B : RB_ h0 h t) {i : Nat} {q : Nat × Nat × Nat} (hq : (sg_si t.1)[i]? = some q) : hp_I h 71 i = nI q.1 ∧ hp_I h 72 i = nI q.2.1 ∧ hp_I h 73 i = nI q.2.2 := B.M.2.2.2.2.2.2.1 i q hq
theorem RB_.wi {h0 h : Hp_} {t : Rt_} (B : RB_ h0 h t) {i : Nat} {q : Nat × Nat × Nat} (hq : (sg_wi t.1)[i]? = some q) : hp_I h 76 i = nI q.1 ∧ hp_I h 74 i = nI q.2.1 ∧ hp_I h 75 i = nI q.2.2 := B.M.2.2.2.2.2.2.2 i q hq
theorem RB_.c {h0 h : Hp_} {t : Rt_} (B : RB_ h0 h t) : hp_I h 65 18 = nI t.2.2.1 := B.P.1
theorem RB_.c30 {h0 h : Hp_} {t : Rt_} (B : RB_ h0 h t) : t.2.2.1 ≤ 30 := B.P.2.1
theorem RB_.pad {h0 h : Hp_} {t : Rt_} (B : RB_ h0 h t) {i : Nat} (hi : i < t.2.2.1) : hp_I h 77 i = nI (t.2.1 i) := B.P.2.2.1 i hi
theorem RB_.g127 {h0 h : Hp_} {t : Rt_} (B : RB_ h0 h t) (i : Nat) : t.2.1 i < 127 := B.P.2.2.2 i
theorem RB_.n8 {h0 h : Hp_} {t : Rt_} (B : RB_ h0 h t) : sg_n t.1 ≤ 8 := B.w.1.2
theorem RB_.n3 {h0 h : Hp_} {t : Rt_} (B : RB_ h0 h t) : 3 ≤ sg_n t.1 := B.w.1.1
theorem MR_cong {h h1 : Hp_} {s : Sg_} (hc : ∀ c, 66 ≤ c → c ≤ 76 → hp_I h1 c = hp_I h c) (hk : ∀ k, k = 0 ∨ k = 4 ∨ k = 5 ∨ k = 6 ∨ k = 12 ∨ k = 16 → hp_I h1 65 k = hp_I h 65 k) (M : MR_ h s) : MR_ h1 s := by
  obtain ⟨⟨a1, a2, a3, a4, a5, a6⟩, b1, b2, b3, b4, b5, b6, b7⟩ := M
  have e := fun c h1 h2 => hc c h1 h2
  refine ⟨⟨by rw [hk 0 (by omega)]; exact a1, by rw [hk 4 (by omega)]; exact a2, by rw [hk 5 (by omega)]; exact a3, by rw [hk 6 (by omega)]; exact a4, by rw [hk 12 (by omega)]; exact a5, by rw [hk 16 (by omega)]; exact a6⟩, ?_, ?_, ?_, ?_, ?_, ?_, ?_⟩
  · rw [hc 66 (by omega) (by omega)]; exact b1
  · rw [hc 67 (by omega) (by omega)]; exact b2
  · rw [hc 68 (by omega) (by omega)]; exact b3
  · rw [hc 69 (by omega) (by omega)]; exact b4
  · rw [hc 70 (by omega) (by omega)]; exact b5
  · rw [hc 71 (by omega) (by omega), hc 72 (by omega) (by omega), hc 73 (by omega) (by omega)]; exact b6
  · rw [hc 74 (by omega) (by omega), hc 75 (by omega) (by omega), hc 76 (by omega) (by omega)]; exact b7
theorem KS_cong {h h1 : Hp_} {b : Nat} {s : Sg_} (e : hp_I h1 92 = hp_I h 92) (K : KS_ h b s) : KS_ h1 b s := by
  unfold KS_ at K ⊢
  rw [e]
  exact K
theorem IM_cong {h h1 : Hp_} {k : Nat} {o : Option Sg_} (e : hp_I h1 92 = hp_I h 92) (e2 : hp_I h1 93 = hp_I h 93) (I : IM_ h k o) : IM_ h1 k o := ⟨by rw [e2]; exact I.1, fun s hs => ⟨(I.2 s hs).1, KS_cong e (I.2 s hs).2⟩⟩
theorem RB_of {h0 h h1 : Hp_} {t : Rt_} (B : RB_ h0 h t) (S : S_Ref h1) (z : fz_ (fun c => 65 ≤ c ∧ c ≤ 93) h0 h1) (hc : ∀ c, 66 ≤ c ∧ c ≤ 77 ∨ c = 92 ∨ c = 93 → hp_I h1 c = hp_I h c) (hk : ∀ k, k = 0 ∨ k = 4 ∨ k = 5 ∨ k = 6 ∨ k = 12 ∨ k = 16 ∨ k = 18 → hp_I h1 65 k = hp_I h 65 k) : RB_ h0 h1 t := by
  obtain ⟨p1, p2, p3, p4⟩ := B.P
  refine ⟨S, z, MR_cong (fun c h1 h2 => hc c (by omega)) (fun k hk1 => hk k (by omega)) B.M, B.w, ⟨by rw [hk 18 (by omega)]; exact p1, p2, by rw [hc 77 (by omega)]; exact p3, p4⟩, IM_cong (hc 92 (by omega)) (hc 93 (by omega)) B.2.2.2.2.2.1, IM_cong (hc 92 (by omega)) (hc 93 (by omega)) B.2.2.2.2.2.2⟩
theorem RB_sc {h0 h : Hp_} {t : Rt_} {c : Nat} (B : RB_ h0 h t) (h1 : 78 ≤ c) (h2 : c ≤ 91) (f : Nat → Int32) : RB_ h0 (hp_rI h c f) t := RB_of B B.1 (fz_rI B.z (by omega) f) (fun q hq => sd_rI_ne (by omega)) (fun k _ => by rw [sd_rI_ne (show 65 ≠ c by omega)])
theorem RB_J {h0 h : Hp_} {t : Rt_} (B : RB_ h0 h t) (f : Nat → Int64) : RB_ h0 (hp_rJ h 88 f) t := RB_of B B.1 (fz_rJ B.z (by omega) f) (fun q hq => rfl) (fun k _ => rfl)
theorem RB_fl {h0 h : Hp_} {t : Rt_} {k : Nat} (B : RB_ h0 h t) (hk : k = 21 ∨ k = 25 ∨ k = 30 ∨ k = 36 ∨ k = 39 ∨ k = 40) (v : Int32) : RB_ h0 (hp_rI h 65 (va_up (hp_I h 65) k v)) t := RB_of B B.1 (fz_rI B.z (by omega) _) (fun q hq => sd_rI_ne (by omega)) (fun j hj => by rw [sd_rI_eq, sd_up_ne (by omega)])
theorem RB_refl {h0 h : Hp_} {t : Rt_} (B : RB_ h0 h t) : RB_ h h t := ⟨B.1, fz_refl _ _, B.2.2⟩
theorem RB_trans {h0 h h1 : Hp_} {t u : Rt_} (B : RB_ h0 h t) (C : RB_ h h1 u) : RB_ h0 h1 u := ⟨C.1, fz_trans B.2.1 C.2.1, C.2.2⟩
/-- in a range; a place there is -/
def rg_ (lo hi : Int) (x : Int32) : Bool := decide (lo ≤ x.toInt ∧ x.toInt ≤ hi)
def hs_ (s : Sg_) (p : Int32) : Bool := decide (0 ≤ p.toInt ∧ p.toInt < sg_n s)
theorem pI_ {d y : Nat} {as : List Value} {h : Hp_} {v v2 : Int32} (e : v = v2) (hc : cI d y as h (fun x h' => x = v ∧ h' = h)) : cI d y as h (fun x h' => x = v2 ∧ h' = h) := by rw [← e]; exact hc
theorem hs_of {s : Sg_} {p : Int32} (h : hs_ s p = true) (hn : sg_n s ≤ 8) : ∃ j : Nat, j < sg_n s ∧ p = nI j := by
  have h1 := of_decide_eq_true h
  obtain ⟨j, hj, rfl⟩ := nI_of (x := p) (by rw [Int32.lt_iff_toInt_lt]; show ¬ p.toInt < 0; omega)
  rw [nI_toInt hj] at h1
  exact ⟨j, by omega, rfl⟩
theorem hs_nI {s : Sg_} {j : Nat} (hj : j < 2 ^ 31) : hs_ s (nI j) = decide (j < sg_n s) := by
  unfold hs_
  rw [nI_toInt hj]
  exact decide_eq_decide.mpr (by omega)
theorem rg_of {a b : Nat} {x : Int32} (h : rg_ a b x = true) : ∃ j : Nat, a ≤ j ∧ j ≤ b ∧ j < 2 ^ 31 ∧ x = nI j := by
  have h1 := of_decide_eq_true h
  obtain ⟨j, hj, rfl⟩ := nI_of (x := x) (by rw [Int32.lt_iff_toInt_lt]; show ¬ x.toInt < 0; omega)
  rw [nI_toInt hj] at h1
  exact ⟨j, by omega, by omega, hj, rfl⟩
theorem rg_nI {a b j : Nat} (hj : j < 2 ^ 31) : rg_ a b (nI j) = decide (a ≤ j ∧ j ≤ b) := by
  unfold rg_
  rw [nI_toInt hj]
  exact decide_eq_decide.mpr (by omega)
theorem Ref_in_ok {h : Hp_} {a b c : Int64} : cI 1 mn_Ref_in [.long a, .long b, .long c] h (fun x h' => x = bo_ (decide (b.toInt ≤ a.toInt ∧ a.toInt ≤ c.toInt)) ∧ h' = h) := by
  refine cq_in (q := mi_Ref_in) (L := [some (.long a), none, some (.long b), none, some (.long c), none]) rfl (Nat.le_of_ble_eq_true rfl) rfl ?_
  show wq _ tb_Ref_in none 0 _ _ _ _
  refine wp_lload0 rfl ?_
  refine wp_lload2 rfl ?_
  refine wp_lcmp rfl ?_
  refine wp_if_lt rfl (fun c1 => ?_) (fun c1 => ?_)
  · skip
    refine wp_iconst rfl ?_
    rw [lg_cmp_lt, Int64.lt_iff_toInt_lt] at c1
    exact wp_zret rfl (by first | exact bo_01 _ | exact Or.inl rfl | exact Or.inr rfl) ⟨_, rfl, by rw [decide_eq_false (by omega)]; rfl, rfl⟩
  · skip
    refine wp_lload0 rfl ?_
    refine wp_lload4 rfl ?_
    refine wp_lcmp rfl ?_
    rw [lg_cmp_lt, Int64.lt_iff_toInt_lt] at c1
    refine wp_if_gt rfl (fun c2 => ?_) (fun c2 => ?_)
    · skip
      refine wp_iconst rfl ?_
      have c3 := (lg_cmp_gt a c).mp c2
      rw [Int64.lt_iff_toInt_lt] at c3
      exact wp_zret rfl (by first | exact bo_01 _ | exact Or.inl rfl | exact Or.inr rfl) ⟨_, rfl, by rw [decide_eq_false (by omega)]; rfl, rfl⟩
    · skip
      refine wp_iconst rfl ?_
      refine wp_goto rfl ?_
      have c3 : ¬ c < a := fun z => c2 ((lg_cmp_gt a c).mpr z)
      rw [Int64.lt_iff_toInt_lt] at c3
      exact wp_zret rfl (by first | exact bo_01 _ | exact Or.inl rfl | exact Or.inr rfl) ⟨_, rfl, by rw [decide_eq_true (by omega)]; rfl, rfl⟩
theorem Ref_inN_ok {h : Hp_} {x : Int32} {a b : Nat} (ha : a < 2 ^ 31) (hb : b < 2 ^ 31) : cI 1 mn_Ref_in [.long x.toInt64, .long (lN a), .long (lN b)] h (fun y h' => y = bo_ (rg_ a b x) ∧ h' = h) := by
  refine pI_ ?_ Ref_in_ok
  rw [lN_toInt ha, lN_toInt hb, Int32.toInt_toInt64]
  rfl
theorem Ref_isPlace_ok {h0 h : Hp_} {t : Rt_} {p : Int32} (B : RB_ h0 h t) : cI 2 mn_Ref_isPlace [.ref 65, .int p] h (fun x h' => x = bo_ (hs_ t.1 p) ∧ h' = h) := by
  have n8 := B.n8
  have n3 := B.n3
  refine cq_in (q := mi_Ref_isPlace) (L := [some (.ref 65), some (.int p)]) rfl (Nat.le_of_ble_eq_true rfl) rfl ?_
  show wq _ tb_Ref_isPlace none 0 _ _ _ _
  refine wp_iload1 rfl ?_
  refine wp_i2l rfl ?_
  refine wp_lconst rfl ?_
  refine wp_aload0 rfl ?_
  refine wp_getIE rfl (Ref_kd B.S) (show _ = nI (sg_n t.1) from B.n) ?_
  refine wp_iconst rfl ?_
  refine wp_isubE (nI ((sg_n t.1) - 1)) (pk_sub (by omega)) rfl ?_
  refine wp_i2lE (lN ((sg_n t.1) - 1)) (nI_l (by omega)) rfl ?_
  refine wp_callS3I rfl (Nat.le_of_ble_eq_true rfl) (Ref_inN_ok (by omega) (by omega)) (Nat.le_of_ble_eq_true rfl) ?_
  refine pure_ ?_
  exact wp_zret rfl (by first | exact bo_01 _ | exact Or.inl rfl | exact Or.inr rfl) ⟨_, rfl, congrArg bo_ (decide_eq_decide.mpr (by omega)), rfl⟩
theorem Ref_isFigure_ok {h : Hp_} {p : Int32} : cI 2 mn_Ref_isFigure [.int p] h (fun x h' => x = bo_ (rg_ 0 5 p) ∧ h' = h) := by
  refine cq_in (q := mi_Ref_isFigure) (L := [some (.int p)]) rfl (Nat.le_of_ble_eq_true rfl) rfl ?_
  show wq _ tb_Ref_isFigure none 0 _ _ _ _
  refine wp_iload0 rfl ?_
  refine wp_i2l rfl ?_
  refine wp_lconst rfl ?_
  refine wp_ldc2_w rfl ?_
  refine wp_callS3I rfl (Nat.le_of_ble_eq_true rfl) (Ref_inN_ok (by omega) (by omega)) (Nat.le_of_ble_eq_true rfl) ?_
  refine pure_ ?_
  exact wp_zret rfl (by first | exact bo_01 _ | exact Or.inl rfl | exact Or.inr rfl) ⟨_, rfl, rfl, rfl⟩
theorem Ref_isLame_ok {h0 h : Hp_} {t : Rt_} {p : Nat} (B : RB_ h0 h t) (hp : p < 8) : cI 1 mn_Ref_isLame [.ref 65, .int (nI p)] h (fun x h' => x = bo_ ((sg_lm t.1).testBit p) ∧ h' = h) := by
  have hl := sg_lm256 B.w
  refine cq_in (q := mi_Ref_isLame) (L := [some (.ref 65), some (.int (nI p))]) rfl (Nat.le_of_ble_eq_true rfl) rfl ?_
  show wq _ tb_Ref_isLame none 0 _ _ _ _
  refine wp_aload0 rfl ?_
  refine wp_getIE rfl (Ref_kd B.S) (show _ = nI (sg_lm t.1) from B.lm) ?_
  refine wp_iload1 rfl ?_
  refine wp_ishrE (nI ((sg_lm t.1) / 2 ^ p)) (nn_sshr _ _ (by omega) (by omega)) rfl ?_
  refine wp_iconst rfl ?_
  refine wp_iandE (nI (((sg_lm t.1) / 2 ^ p) % 2)) (nn_1 _) rfl ?_
  refine wp_iconst rfl ?_
  refine wp_icmp_neN (((sg_lm t.1) / 2 ^ p) % 2) 1 (by omega) (by omega) rfl (fun c1 => ?_) (fun c1 => ?_)
  · skip
    refine wp_iconst rfl ?_
    exact wp_zret rfl (by first | exact bo_01 _ | exact Or.inl rfl | exact Or.inr rfl) ⟨_, rfl, by rw [(tb_mod0 _ _).mp c1]; rfl, rfl⟩
  · skip
    refine wp_iconst rfl ?_
    refine wp_goto rfl ?_
    exact wp_zret rfl (by first | exact bo_01 _ | exact Or.inl rfl | exact Or.inr rfl) ⟨_, rfl, by rw [(tb_mod _ _).mp c1]; rfl, rfl⟩
theorem Ref_may_ok {h0 h : Hp_} {t : Rt_} {f : Nat} (B : RB_ h0 h t) (hf : f < 6) : cI 1 mn_Ref_may [.ref 65, .int (nI f)] h (fun x h' => x = bo_ (may_ t.1 f) ∧ h' = h) := by
  have hmu := (B.w.2.2.2.2.2.2.1 f)
  have hle := B.w.2.2.2.2.1
  have hb : sg_mu t.1 f &&& sg_pl t.1 < 4 := Nat.lt_of_le_of_lt Nat.and_le_left (by omega)
  refine cq_in (q := mi_Ref_may) (L := [some (.ref 65), some (.int (nI f))]) rfl (Nat.le_of_ble_eq_true rfl) rfl ?_
  show wq _ tb_Ref_may none 0 _ _ _ _
  refine wp_aload0 rfl ?_
  refine wp_getR rfl (Ref_kd B.S) (Ref_R7 B.S) (by first | decide | omega) ?_
  refine wp_iload1 rfl ?_
  refine wp_ialdE f rfl (Ref_k7 B.S) (by first | decide | omega) (Nat.lt_of_lt_of_eq (show f < _ by omega) (Eq.symm (Ref_n7 B.S))) (by omega) (show _ = nI (sg_mu t.1 f) from B.mu hf) rfl ?_
  refine wp_aload0 rfl ?_
  refine wp_getIE rfl (Ref_kd B.S) (show _ = nI (sg_pl t.1) from B.pl) ?_
  refine wp_iandE (nI ((sg_mu t.1 f) &&& (sg_pl t.1))) (nn_and _ _) rfl ?_
  refine wp_if_eqN ((sg_mu t.1 f) &&& (sg_pl t.1)) 0 (by omega) (by decide) rfl (fun c1 => ?_) (fun c1 => ?_)
  · skip
    refine wp_iconst rfl ?_
    exact wp_zret rfl (by first | exact bo_01 _ | exact Or.inl rfl | exact Or.inr rfl) ⟨_, rfl, by unfold may_; rw [decide_eq_false (fun z => z c1), Bool.false_and]; rfl, rfl⟩
  · skip
    refine wp_aload0 rfl ?_
    refine wp_getIE rfl (Ref_kd B.S) (show _ = nI (sg_le t.1) from B.le) ?_
    refine wp_iload1 rfl ?_
    refine wp_ishrE (nI ((sg_le t.1) / 2 ^ f)) (nn_sshr _ _ (by omega) (by omega)) rfl ?_
    refine wp_iconst rfl ?_
    refine wp_iandE (nI (((sg_le t.1) / 2 ^ f) % 2)) (nn_1 _) rfl ?_
    refine wp_if_neN (((sg_le t.1) / 2 ^ f) % 2) 0 (by omega) (by decide) rfl (fun c2 => ?_) (fun c2 => ?_)
    · skip
      refine wp_iconst rfl ?_
      have c3 : (sg_le t.1).testBit f = true := by
        rcases Nat.mod_two_eq_zero_or_one (sg_le t.1 / 2 ^ f) with z | z
        · exact absurd z c2
        · exact (tb_mod _ _).mp z
      exact wp_zret rfl (by first | exact bo_01 _ | exact Or.inl rfl | exact Or.inr rfl) ⟨_, rfl, by unfold may_; rw [c3, Bool.not_true, Bool.and_false]; rfl, rfl⟩
    · skip
      refine wp_iconst rfl ?_
      refine wp_goto rfl ?_
      have c3 : (sg_le t.1).testBit f = false := (tb_mod0 _ _).mp (by omega)
      exact wp_zret rfl (by first | exact bo_01 _ | exact Or.inl rfl | exact Or.inr rfl) ⟨_, rfl, by unfold may_; rw [decide_eq_true c1, c3, Bool.not_false, Bool.and_true]; rfl, rfl⟩
