-- ===== shapes; Notes, Pad, Memo =====
def S_Notes (h : Hp_) (o : Nat) : Prop := hp_kd h o = 13 ∧ hp_R h o 0 = o + 1 ∧ hp_kd h (o + 1) = 1 ∧ hp_ln h (o + 1) = 6
def S_Pad (h : Hp_) (o : Nat) : Prop := hp_kd h o = 11 ∧ hp_R h o 0 = o + 1 ∧ hp_kd h (o + 1) = 1 ∧ hp_ln h (o + 1) = 30
def S_Memo (h : Hp_) (o : Nat) : Prop := hp_kd h o = 17 ∧ hp_R h o 0 = o + 1 ∧ hp_kd h (o + 1) = 1 ∧ hp_ln h (o + 1) = 20
theorem Notes_kd {h : Hp_} {o : Nat} (S : S_Notes h o) : hp_kd h o = 13 := S.1
theorem Notes_R0 {h : Hp_} {o : Nat} (S : S_Notes h o) : hp_R h o 0 = o + 1 := S.2.1
theorem Notes_k0 {h : Hp_} {o : Nat} (S : S_Notes h o) : hp_kd h (o + 1) = 1 := S.2.2.1
theorem Notes_n0 {h : Hp_} {o : Nat} (S : S_Notes h o) : hp_ln h (o + 1) = 6 := S.2.2.2
theorem Pad_kd {h : Hp_} {o : Nat} (S : S_Pad h o) : hp_kd h o = 11 := S.1
theorem Pad_R0 {h : Hp_} {o : Nat} (S : S_Pad h o) : hp_R h o 0 = o + 1 := S.2.1
theorem Pad_k0 {h : Hp_} {o : Nat} (S : S_Pad h o) : hp_kd h (o + 1) = 1 := S.2.2.1
theorem Pad_n0 {h : Hp_} {o : Nat} (S : S_Pad h o) : hp_ln h (o + 1) = 30 := S.2.2.2
theorem Memo_kd {h : Hp_} {o : Nat} (S : S_Memo h o) : hp_kd h o = 17 := S.1
theorem Memo_R0 {h : Hp_} {o : Nat} (S : S_Memo h o) : hp_R h o 0 = o + 1 := S.2.1
theorem Memo_k0 {h : Hp_} {o : Nat} (S : S_Memo h o) : hp_kd h (o + 1) = 1 := S.2.2.1
theorem Memo_n0 {h : Hp_} {o : Nat} (S : S_Memo h o) : hp_ln h (o + 1) = 20 := S.2.2.2
-- Notes
/-- a note in one number -/
def mk_ (a g p : Nat) : Nat := 64 * a + 8 * g + p
theorem mk_or {a g p : Nat} (hg : g < 8) (hp : p < 8) : a * 2 ^ 6 ||| g * 2 ^ 3 ||| p = mk_ a g p := by
  have h1 : g * 2 ^ 3 < 2 ^ 6 := by omega
  have e1 : a * 2 ^ 6 ||| g * 2 ^ 3 = 2 ^ 6 * a + g * 2 ^ 3 := by rw [Nat.mul_comm a]; exact (Nat.two_pow_add_eq_or_of_lt h1 a).symm
  have e2 : 2 ^ 6 * a + g * 2 ^ 3 = 2 ^ 3 * (8 * a + g) := by omega
  rw [e1, e2]
  rw [show 2 ^ 3 * (8 * a + g) ||| p = 2 ^ 3 * (8 * a + g) + p from (Nat.two_pow_add_eq_or_of_lt (show p < 2 ^ 3 by omega) _).symm]
  unfold mk_
  omega
theorem Notes_mark_ok {h : Hp_} {o i : Nat} (S : S_Notes h o) (hi : i < 6) : cI 2 mn_Notes_mark [.ref o, .int (nI i)] h (fun x h' => x = hp_I h (o + 1) i ∧ h' = h) := by
  refine cq_in (q := mi_Notes_mark) (L := [some (.ref o), some (.int (nI i))]) rfl (Nat.le_of_ble_eq_true rfl) rfl ?_
  show wq _ tb_Notes_mark none 0 _ _ _ _
  refine wp_aload0 rfl ?_
  refine wp_getR rfl (Notes_kd S) (Notes_R0 S) (by first | decide | omega) ?_
  refine wp_iload1 rfl ?_
  refine wp_callS2I rfl (Nat.le_of_ble_eq_true rfl) (Cells_at_ok (Notes_k0 S) (by omega) (by rw [Notes_n0 S]; decide)) (Nat.le_of_ble_eq_true rfl) ?_
  rintro _ _ ⟨rfl, rfl⟩
  rw [Notes_n0 S, ca_in hi (by omega)]
  exact wp_iret rfl ⟨_, rfl, rfl, rfl⟩
theorem Notes_amount_ok {h : Hp_} {o i a g p : Nat} (S : S_Notes h o) (hi : i < 6) (hm : hp_I h (o + 1) i = nI (mk_ a g p)) (ha : a < 1000) (hg : g < 8) (hp : p < 8) : cI 3 mn_Notes_amount [.ref o, .int (nI i)] h (fun x h' => x = nI a ∧ h' = h) := by
  refine cq_in (q := mi_Notes_amount) (L := [some (.ref o), some (.int (nI i))]) rfl (Nat.le_of_ble_eq_true rfl) rfl ?_
  show wq _ tb_Notes_amount none 0 _ _ _ _
  refine wp_aload0 rfl ?_
  refine wp_iload1 rfl ?_
  refine wp_callV1I rfl (Nat.le_of_ble_eq_true rfl) (Notes_kd S) (Notes_mark_ok S hi) (Nat.le_of_ble_eq_true rfl) ?_
  rintro _ _ ⟨rfl, rfl⟩
  rw [hm]
  refine wp_bipush rfl ?_
  have hb : mk_ a g p < 2 ^ 31 := by unfold mk_; omega
  refine wp_iushrE (nI a) (by rw [nn_ushr _ _ (by omega) (by decide)]; exact congrArg nI (by unfold mk_; omega)) rfl ?_
  exact wp_iret rfl ⟨_, rfl, rfl, rfl⟩
theorem Notes_good_ok {h : Hp_} {o i a g p : Nat} (S : S_Notes h o) (hi : i < 6) (hm : hp_I h (o + 1) i = nI (mk_ a g p)) (ha : a < 1000) (hg : g < 8) (hp : p < 8) : cI 3 mn_Notes_good [.ref o, .int (nI i)] h (fun x h' => x = nI g ∧ h' = h) := by
  refine cq_in (q := mi_Notes_good) (L := [some (.ref o), some (.int (nI i))]) rfl (Nat.le_of_ble_eq_true rfl) rfl ?_
  show wq _ tb_Notes_good none 0 _ _ _ _
  refine wp_aload0 rfl ?_
  refine wp_iload1 rfl ?_
  refine wp_callV1I rfl (Nat.le_of_ble_eq_true rfl) (Notes_kd S) (Notes_mark_ok S hi) (Nat.le_of_ble_eq_true rfl) ?_
  rintro _ _ ⟨rfl, rfl⟩
  rw [hm]
  refine wp_iconst rfl ?_
  have hb : mk_ a g p < 2 ^ 31 := by unfold mk_; omega
  refine wp_iushrE (nI (8 * a + g)) (by rw [nn_ushr _ _ (by omega) (by decide)]; exact congrArg nI (by unfold mk_; omega)) rfl ?_
  refine wp_bipush rfl ?_
  refine wp_iandE (nI g) (by rw [nn_7]; exact congrArg nI (by omega)) rfl ?_
  exact wp_iret rfl ⟨_, rfl, rfl, rfl⟩
theorem Notes_place_ok {h : Hp_} {o i a g p : Nat} (S : S_Notes h o) (hi : i < 6) (hm : hp_I h (o + 1) i = nI (mk_ a g p)) (hp : p < 8) : cI 3 mn_Notes_place [.ref o, .int (nI i)] h (fun x h' => x = nI p ∧ h' = h) := by
  refine cq_in (q := mi_Notes_place) (L := [some (.ref o), some (.int (nI i))]) rfl (Nat.le_of_ble_eq_true rfl) rfl ?_
  show wq _ tb_Notes_place none 0 _ _ _ _
  refine wp_aload0 rfl ?_
  refine wp_iload1 rfl ?_
  refine wp_callV1I rfl (Nat.le_of_ble_eq_true rfl) (Notes_kd S) (Notes_mark_ok S hi) (Nat.le_of_ble_eq_true rfl) ?_
  rintro _ _ ⟨rfl, rfl⟩
  rw [hm]
  refine wp_bipush rfl ?_
  refine wp_iandE (nI p) (by rw [nn_7]; exact congrArg nI (by unfold mk_; omega)) rfl ?_
  exact wp_iret rfl ⟨_, rfl, rfl, rfl⟩
theorem Notes_add_ok {h : Hp_} {o c a g p : Nat} (S : S_Notes h o) (hc : hp_I h o 1 = nI c) (h6 : c < 6) (hg : g < 8) (hp : p < 8) : cV 2 mn_Notes_add [.ref o, .int (nI a), .int (nI g), .int (nI p)] h (fun h' => h' = hp_rI (hp_rI h (o + 1) (va_up (hp_I h (o + 1)) c (nI (mk_ a g p)))) o (va_up (hp_I h o) 1 (nI (c + 1)))) := by
  refine cq_in (q := mi_Notes_add) (L := [some (.ref o), some (.int (nI a)), some (.int (nI g)), some (.int (nI p))]) rfl (Nat.le_of_ble_eq_true rfl) rfl ?_
  show wq _ tb_Notes_add none 0 _ _ _ _
  refine wp_aload0 rfl ?_
  refine wp_getI rfl (Notes_kd S) ?_
  refine wp_bipush rfl ?_
  rw [hc]
  refine wp_icmp_geN (c) (6) (by omega) (by omega) rfl (fun c1 => ?_) (fun c1 => ?_)
  · exact absurd c1 (by omega)
  · skip
    refine wp_aload0 rfl ?_
    refine wp_getR rfl (Notes_kd S) (Notes_R0 S) (by first | decide | omega) ?_
    refine wp_aload0 rfl ?_
    refine wp_getI rfl (Notes_kd S) ?_
    rw [hc]
    refine wp_iload1 rfl ?_
    refine wp_bipush rfl ?_
    refine wp_ishlE (nI (a * 2 ^ 6)) (nn_shl a 6 (by decide)) rfl ?_
    refine wp_iload2 rfl ?_
    refine wp_iconst rfl ?_
    refine wp_ishlE (nI (g * 2 ^ 3)) (nn_shl g 3 (by decide)) rfl ?_
    refine wp_iorE (nI (a * 2 ^ 6 ||| g * 2 ^ 3)) (nn_or _ _) rfl ?_
    refine wp_iload3 rfl ?_
    refine wp_iorE (nI (mk_ a g p)) (by rw [nn_or, mk_or hg hp]) rfl ?_
    refine wp_callS3V rfl (Nat.le_of_ble_eq_true rfl) (Cells_put_ok (Notes_k0 S) (by omega) (by rw [Notes_n0 S]; decide)) (Nat.le_of_ble_eq_true rfl) ?_
    rintro _ rfl
    rw [Notes_n0 S, cp_in h6 (by omega)]
    refine wp_aload0 rfl ?_
    refine wp_dup rfl ?_
    refine wp_getI rfl (Notes_kd S) ?_
    rw [sd_rI_ne (show o ≠ o + 1 by omega), hc]
    refine wp_iconst rfl ?_
    refine wp_iaddE (nI (c + 1)) (nI_add c 1) rfl ?_
    refine wp_putI rfl (Notes_kd S) ?_
    rw [sd_rI_ne (show o ≠ o + 1 by omega)]
    exact wp_vret rfl ⟨rfl, rfl⟩
theorem Notes_take_ok {h : Hp_} {o q : Nat} (S : S_Notes h o) (S2 : S_Notes h q) (hne : o + 1 < q ∨ q + 1 < o) : cV 2 mn_Notes_take [.ref o, .ref q] h (fun h' => h' = hp_rI (hp_rI h (o + 1) (fun k => if k < 6 then hp_I h (q + 1) k else hp_I h (o + 1) k)) o (va_up (hp_I h o) 1 (hp_I h q 1))) := by
  refine cq_in (q := mi_Notes_take) (L := [some (.ref o), some (.ref q)]) rfl (Nat.le_of_ble_eq_true rfl) rfl ?_
  show wq _ tb_Notes_take none 0 _ _ _ _
  refine wp_aload1 rfl ?_
  refine wp_getR rfl (Notes_kd S2) (Notes_R0 S2) (by first | decide | omega) ?_
  refine wp_aload0 rfl ?_
  refine wp_getR rfl (Notes_kd S) (Notes_R0 S) (by first | decide | omega) ?_
  refine wp_callS2V rfl (Nat.le_of_ble_eq_true rfl) (Cells_copy_ok (Notes_k0 S2) (Notes_k0 S) (by omega) (by omega) (by omega) (Notes_n0 S2) (Notes_n0 S) rfl (by decide)) (Nat.le_of_ble_eq_true rfl) ?_
  rintro _ rfl
  refine wp_aload0 rfl ?_
  refine wp_aload1 rfl ?_
  refine wp_getI rfl (Notes_kd S2) ?_
  refine wp_putI rfl (Notes_kd S) ?_
  rw [sd_rI_ne (show o ≠ o + 1 by omega), sd_rI_ne (show q ≠ o + 1 by omega)]
  exact wp_vret rfl ⟨rfl, rfl⟩
-- Pad
theorem Pad_signAt_ok {h : Hp_} {o i : Nat} (S : S_Pad h o) (hi : i < 30) : cI 2 mn_Pad_signAt [.ref o, .int (nI i)] h (fun x h' => x = hp_I h (o + 1) i ∧ h' = h) := by
  refine cq_in (q := mi_Pad_signAt) (L := [some (.ref o), some (.int (nI i))]) rfl (Nat.le_of_ble_eq_true rfl) rfl ?_
  show wq _ tb_Pad_signAt none 0 _ _ _ _
  refine wp_aload0 rfl ?_
  refine wp_getR rfl (Pad_kd S) (Pad_R0 S) (by first | decide | omega) ?_
  refine wp_iload1 rfl ?_
  refine wp_callS2I rfl (Nat.le_of_ble_eq_true rfl) (Cells_at_ok (Pad_k0 S) (by omega) (by rw [Pad_n0 S]; decide)) (Nat.le_of_ble_eq_true rfl) ?_
  rintro _ _ ⟨rfl, rfl⟩
  rw [Pad_n0 S, ca_in hi (by omega)]
  exact wp_iret rfl ⟨_, rfl, rfl, rfl⟩
theorem Pad_clear_ok {h : Hp_} {o : Nat} (S : S_Pad h o) : cV 1 mn_Pad_clear [.ref o] h (fun h' => h' = hp_rI h o (va_up (hp_I h o) 1 (nI 0))) := by
  refine cq_in (q := mi_Pad_clear) (L := [some (.ref o)]) rfl (Nat.le_of_ble_eq_true rfl) rfl ?_
  show wq _ tb_Pad_clear none 0 _ _ _ _
  refine wp_aload0 rfl ?_
  refine wp_iconst rfl ?_
  refine wp_putI rfl (Pad_kd S) ?_
  exact wp_vret rfl ⟨rfl, rfl⟩
theorem Pad_write_ok {h : Hp_} {o c : Nat} {x : Int32} (S : S_Pad h o) (hc : hp_I h o 1 = nI c) (h30 : c < 30) : cV 2 mn_Pad_write [.ref o, .int x] h (fun h' => h' = hp_rI (hp_rI h (o + 1) (va_up (hp_I h (o + 1)) c x)) o (va_up (hp_I h o) 1 (nI (c + 1)))) := by
  refine cq_in (q := mi_Pad_write) (L := [some (.ref o), some (.int x)]) rfl (Nat.le_of_ble_eq_true rfl) rfl ?_
  show wq _ tb_Pad_write none 0 _ _ _ _
  refine wp_aload0 rfl ?_
  refine wp_getI rfl (Pad_kd S) ?_
  refine wp_bipush rfl ?_
  rw [hc]
  refine wp_icmp_geN (c) (30) (by omega) (by omega) rfl (fun c1 => ?_) (fun c1 => ?_)
  · exact absurd c1 (by omega)
  · skip
    refine wp_aload0 rfl ?_
    refine wp_getR rfl (Pad_kd S) (Pad_R0 S) (by first | decide | omega) ?_
    refine wp_aload0 rfl ?_
    refine wp_getI rfl (Pad_kd S) ?_
    refine wp_iload1 rfl ?_
    rw [hc]
    refine wp_callS3V rfl (Nat.le_of_ble_eq_true rfl) (Cells_put_ok (Pad_k0 S) (by omega) (by rw [Pad_n0 S]; decide)) (Nat.le_of_ble_eq_true rfl) ?_
    rintro _ rfl
    rw [Pad_n0 S, cp_in h30 (by omega)]
    refine wp_aload0 rfl ?_
    refine wp_dup rfl ?_
    refine wp_getI rfl (Pad_kd S) ?_
    rw [sd_rI_ne (show o ≠ o + 1 by omega), hc]
    refine wp_iconst rfl ?_
    refine wp_iaddE (nI (c + 1)) (nI_add c 1) rfl ?_
    refine wp_putI rfl (Pad_kd S) ?_
    rw [sd_rI_ne (show o ≠ o + 1 by omega)]
    exact wp_vret rfl ⟨rfl, rfl⟩
-- Memo
theorem Memo_begin_ok {h : Hp_} {o : Nat} (S : S_Memo h o) : cV 1 mn_Memo_begin [.ref o] h (fun h' => h' = hp_rI h o (va_up (hp_I h o) 1 (nI 0))) := by
  refine cq_in (q := mi_Memo_begin) (L := [some (.ref o)]) rfl (Nat.le_of_ble_eq_true rfl) rfl ?_
  show wq _ tb_Memo_begin none 0 _ _ _ _
  refine wp_aload0 rfl ?_
  refine wp_iconst rfl ?_
  refine wp_putI rfl (Memo_kd S) ?_
  exact wp_vret rfl ⟨rfl, rfl⟩
/-- a memo's rows: parts P, count c, does it stand; everything else is h's -/
def mm_ (h : Hp_) (o : Nat) (P : Nat → Int32) (c : Nat) (s : Bool) : Hp_ := hp_rI (hp_rI h (o + 1) P) o (va_up (va_up (hp_I h o) 1 (nI c)) 2 (bo_ s))
theorem mm_I0 (h : Hp_) (o : Nat) (P : Nat → Int32) (c : Nat) (s : Bool) : hp_I (mm_ h o P c s) o = va_up (va_up (hp_I h o) 1 (nI c)) 2 (bo_ s) := sd_rI_eq
theorem mm_I1 (h : Hp_) (o : Nat) (P : Nat → Int32) (c : Nat) (s : Bool) : hp_I (mm_ h o P c s) (o + 1) = P := by
  unfold mm_
  rw [sd_rI_ne (by omega), sd_rI_eq]
theorem mm_S {h : Hp_} {o : Nat} {P : Nat → Int32} {c : Nat} {s : Bool} (S : S_Memo h o) : S_Memo (mm_ h o P c s) o := S
theorem mm_set (h : Hp_) (o : Nat) (P P2 : Nat → Int32) (c c2 : Nat) (s s2 : Bool) : mm_ (mm_ h o P c s) o P2 c2 s2 = mm_ h o P2 c2 s2 := by
  unfold mm_
  rw [sd_rI_eq, hp_rI_comm _ (show o ≠ o + 1 by omega), hp_rI_rI, hp_rI_rI]
  refine congrArg (hp_rI _ o) (funext fun j => ?_)
  unfold va_up
  split
  · rfl
  · rename_i q
    split
    · rfl
    · rfl
theorem mm_eq {h : Hp_} {o c : Nat} {s : Bool} (hc : hp_I h o 1 = nI c) (hs : hp_I h o 2 = bo_ s) : h = mm_ h o (hp_I h (o + 1)) c s := by
  unfold mm_
  rw [hp_rI_self, ← hc, ← hs, vu_self, vu_self, hp_rI_self]
theorem Memo_part_ok {h : Hp_} {o c : Nat} {P : Nat → Int32} {s : Bool} {x : Int32} (S : S_Memo h o) (h20 : c < 20) : cV 2 mn_Memo_part [.ref o, .int x] (mm_ h o P c s) (fun h' => h' = mm_ h o (va_up P c x) (c + 1) (s && decide (P c = x))) := by
  have S : S_Memo (mm_ h o P c s) o := S
  have e1 : hp_I (mm_ h o P c s) o 1 = nI c := by rw [mm_I0, sd_up_ne (by decide), sd_up_eq]
  refine cq_in (q := mi_Memo_part) (L := [some (.ref o), some (.int x)]) rfl (Nat.le_of_ble_eq_true rfl) rfl ?_
  show wq _ tb_Memo_part none 0 _ _ _ _
  have tail : ∀ s2 : Bool, wq 1 tb_Memo_part none 20 [some (.ref o), some (.int x)] [] (mm_ h o P c s2) (fun r h' => r = none ∧ h' = mm_ h o (va_up P c x) (c + 1) s2) := by
    intro s2
    have S : S_Memo (mm_ h o P c s2) o := S
    have e1 : hp_I (mm_ h o P c s2) o 1 = nI c := by rw [mm_I0, sd_up_ne (by decide), sd_up_eq]
    refine wp_aload0 rfl ?_
    refine wp_getR rfl (Memo_kd S) (Memo_R0 S) (by first | decide | omega) ?_
    refine wp_aload0 rfl ?_
    refine wp_getI rfl (Memo_kd S) ?_
    refine wp_iload1 rfl ?_
    rw [e1]
    refine wp_callS3V rfl (Nat.le_of_ble_eq_true rfl) (Cells_put_ok (Memo_k0 S) (by omega) (by rw [Memo_n0 S]; decide)) (Nat.le_of_ble_eq_true rfl) ?_
    rintro _ rfl
    rw [Memo_n0 S, cp_in h20 (by omega)]
    refine wp_aload0 rfl ?_
    refine wp_dup rfl ?_
    refine wp_getI rfl (Memo_kd S) ?_
    rw [sd_rI_ne (show o ≠ o + 1 by omega), e1]
    refine wp_iconst rfl ?_
    refine wp_iaddE (nI (c + 1)) (nI_add c 1) rfl ?_
    refine wp_putI rfl (Memo_kd S) ?_
    rw [sd_rI_ne (show o ≠ o + 1 by omega)]
    refine wp_vret rfl ?_
    refine ⟨rfl, ?_⟩
    rw [mm_I0, mm_I1]
    unfold mm_
    rw [hp_rI_comm _ (show o ≠ o + 1 by omega), hp_rI_rI, hp_rI_rI]
    refine congrArg (hp_rI _ o) (funext fun j => ?_)
    unfold va_up
    by_cases q1 : j = 1
    · rw [if_pos q1, if_neg (by omega), if_pos q1]
    · rw [if_neg q1, if_neg q1, if_neg q1]
  refine wp_aload0 rfl ?_
  refine wp_getR rfl (Memo_kd S) (Memo_R0 S) (by first | decide | omega) ?_
  refine wp_aload0 rfl ?_
  refine wp_getI rfl (Memo_kd S) ?_
  rw [e1]
  refine wp_callS2I rfl (Nat.le_of_ble_eq_true rfl) (Cells_at_ok (Memo_k0 S) (by omega) (by rw [Memo_n0 S]; decide)) (Nat.le_of_ble_eq_true rfl) ?_
  rintro _ _ ⟨rfl, rfl⟩
  rw [Memo_n0 S, ca_in h20 (by omega), mm_I1]
  refine wp_iload1 rfl ?_
  refine wp_icmp_eq rfl (fun c1 => ?_) (fun c1 => ?_)
  · 
    have := tail s
    rw [decide_eq_true c1, Bool.and_true]
    exact this
  · skip
    refine wp_aload0 rfl ?_
    refine wp_iconst rfl ?_
    refine wp_putZ rfl (Memo_kd S) (by first | exact Or.inl rfl | exact Or.inr rfl) ?_
    have := tail false
    rw [decide_eq_false c1, Bool.and_false]
    refine wq_hp ?_ this
    rw [mm_I0]
    unfold mm_
    rw [hp_rI_rI]
    refine congrArg (hp_rI _ o) ?_
    rw [vu_up]
    rfl
theorem Memo_endsStale_ok {h : Hp_} {o c : Nat} {P : Nat → Int32} {s : Bool} (S : S_Memo h o) : cI 1 mn_Memo_endsStale [.ref o] (mm_ h o P c s) (fun x h' => x = bo_ (!s) ∧ h' = mm_ h o P c true) := by
  have S : S_Memo (mm_ h o P c s) o := S
  have e1 : hp_I (mm_ h o P c s) o 2 = bo_ s := by rw [mm_I0, sd_up_eq]
  have e2 : hp_rI (mm_ h o P c s) o (va_up (hp_I (mm_ h o P c s) o) 2 (nI 1)) = mm_ h o P c true := by
    rw [mm_I0]
    unfold mm_
    rw [hp_rI_rI, vu_up]
    rfl
  refine cq_in (q := mi_Memo_endsStale) (L := [some (.ref o), none]) rfl (Nat.le_of_ble_eq_true rfl) rfl ?_
  show wq _ tb_Memo_endsStale none 0 _ _ _ _
  refine wp_aload0 rfl ?_
  refine wp_getZ rfl (Memo_kd S) ?_
  rw [e1]
  refine wp_if_neB rfl (fun c1 => ?_) (fun c1 => ?_)
  · skip
    refine wp_iconst rfl ?_
    refine wp_istore1 rfl rfl ?_
    refine wp_aload0 rfl ?_
    refine wp_iconst rfl ?_
    refine wp_putZ rfl (Memo_kd S) (by first | exact Or.inl rfl | exact Or.inr rfl) ?_
    refine wp_iload1 rfl ?_
    rw [e2]
    exact wp_zret rfl (by first | exact Or.inl rfl | exact Or.inr rfl) ⟨_, rfl, by rw [c1]; rfl, rfl⟩
  · skip
    refine wp_iconst rfl ?_
    refine wp_goto rfl ?_
    refine wp_istore1 rfl rfl ?_
    refine wp_aload0 rfl ?_
    refine wp_iconst rfl ?_
    refine wp_putZ rfl (Memo_kd S) (by first | exact Or.inl rfl | exact Or.inr rfl) ?_
    refine wp_iload1 rfl ?_
    rw [e2]
    exact wp_zret rfl (by first | exact Or.inl rfl | exact Or.inr rfl) ⟨_, rfl, by rw [c1]; rfl, rfl⟩
/-- m parts from c on -/
def mP_ (P : Nat → Int32) (c : Nat) (v : Nat → Int32) (m : Nat) : Nat → Int32 := fun k => if c ≤ k ∧ k < c + m then v (k - c) else P k
def mS_ (P : Nat → Int32) (c : Nat) (v : Nat → Int32) : Nat → Bool
  | 0 => true
  | m + 1 => mS_ P c v m && decide (P (c + m) = v m)
theorem mP_0 (P : Nat → Int32) (c : Nat) (v : Nat → Int32) : mP_ P c v 0 = P := funext fun k => if_neg (by omega)
theorem mP_next (P : Nat → Int32) (c : Nat) (v : Nat → Int32) (m : Nat) : va_up (mP_ P c v m) (c + m) (v m) = mP_ P c v (m + 1) := funext fun k => by
  unfold va_up mP_
  by_cases q : k = c + m
  · rw [if_pos q, if_pos (by omega), q, Nat.add_sub_cancel_left]
  · rw [if_neg q]
    by_cases q2 : c ≤ k ∧ k < c + m
    · rw [if_pos q2, if_pos (by omega)]
    · rw [if_neg q2, if_neg (by omega)]
theorem mP_at (P : Nat → Int32) (c : Nat) (v : Nat → Int32) (m : Nat) : mP_ P c v m (c + m) = P (c + m) := if_neg (by omega)
theorem mm_Ine {h : Hp_} {o c q : Nat} {P : Nat → Int32} {s : Bool} (h1 : q ≠ o) (h2 : q ≠ o + 1) : hp_I (mm_ h o P c s) q = hp_I h q := by
  unfold mm_
  rw [sd_rI_ne h1, sd_rI_ne h2]
theorem Memo_partsOfRow_ok {h : Hp_} {o a c m : Nat} {P : Nat → Int32} {s : Bool} (S : S_Memo h o) (hk : hp_kd h a = 1) (h0 : a ≠ 0) (hm : hp_ln h a = m) (h1 : a ≠ o) (h2 : a ≠ o + 1) (h20 : c + m ≤ 20) : cV 3 mn_Memo_partsOfRow [.ref o, .ref a] (mm_ h o P c s) (fun h' => h' = mm_ h o (mP_ P c (hp_I h a) m) (c + m) (s && mS_ P c (hp_I h a) m)) := by
  refine cq_in (q := mi_Memo_partsOfRow) (L := [some (.ref o), some (.ref a), none]) rfl (Nat.le_of_ble_eq_true rfl) rfl ?_
  show wq _ tb_Memo_partsOfRow none 0 _ _ _ _
  have loop : ∀ k i, i ≤ m → m - i = k → wq 2 tb_Memo_partsOfRow none 2 [some (.ref o), some (.ref a), some (.int (nI i))] [] (mm_ h o (mP_ P c (hp_I h a) i) (c + i) (s && mS_ P c (hp_I h a) i)) (fun r h' => r = none ∧ h' = mm_ h o (mP_ P c (hp_I h a) m) (c + m) (s && mS_ P c (hp_I h a) m)) := by
    intro k
    induction k with
    | zero =>
      intro i hi hk0
      obtain rfl : i = m := by omega
      refine wp_iload2 rfl ?_
      refine wp_aload1 rfl ?_
      refine wp_alenE rfl (by first | decide | omega) (Or.inl hk) hm ?_
      refine wp_icmp_geN (i) (i) (by omega) (by omega) rfl (fun c1 => ?_) (fun c1 => ?_)
      · skip
        exact wp_vret rfl ⟨rfl, rfl⟩
      · exact absurd c1 (Nat.lt_irrefl _)
    | succ k ih =>
      intro i hi hk0
      refine wp_iload2 rfl ?_
      refine wp_aload1 rfl ?_
      refine wp_alenE rfl (by first | decide | omega) (Or.inl hk) hm ?_
      refine wp_icmp_geN (i) (m) (by omega) (by omega) rfl (fun c1 => ?_) (fun c1 => ?_)
      · exact absurd c1 (by omega)
      · skip
        refine wp_aload0 rfl ?_
        refine wp_aload1 rfl ?_
        refine wp_iload2 rfl ?_
        refine wp_iald (i) (rfl) hk (by first | decide | omega) (Nat.lt_of_lt_of_eq (by omega) (Eq.symm hm)) (by omega) rfl ?_
        rw [mm_Ine h1 h2]
        refine wp_callV1V rfl (Nat.le_of_ble_eq_true rfl) (Memo_kd S) (Memo_part_ok S (by omega)) (Nat.le_of_ble_eq_true rfl) ?_
        rintro _ rfl
        refine wp_iinc2N rfl rfl ?_
        refine wp_goto rfl ?_
        have := ih (i + 1) (by omega) (by omega)
        rw [mP_at, mP_next]
        rw [mS_, ← Bool.and_assoc] at this
        exact this
  refine wp_iconst rfl ?_
  refine wp_istore2 rfl rfl ?_
  have := loop m 0 (by omega) rfl
  rw [mP_0, mS_, Bool.and_true] at this
  exact this
theorem Memo_partsOfNotes_ok {h : Hp_} {o a c n : Nat} {P : Nat → Int32} {s : Bool} (S : S_Memo h o) (S2 : S_Notes h a) (hn : hp_I h a 1 = nI n) (hn6 : n ≤ 6) (h1 : a + 1 < o ∨ o + 1 < a) (h20 : c + 6 ≤ 20) : cV 3 mn_Memo_partsOfNotes [.ref o, .ref a] (mm_ h o P c s) (fun h' => h' = mm_ h o (mP_ P c (fun i => if i < n then hp_I h (a + 1) i else -1) 6) (c + 6) (s && mS_ P c (fun i => if i < n then hp_I h (a + 1) i else -1) 6)) := by
  refine cq_in (q := mi_Memo_partsOfNotes) (L := [some (.ref o), some (.ref a), none]) rfl (Nat.le_of_ble_eq_true rfl) rfl ?_
  show wq _ tb_Memo_partsOfNotes none 0 _ _ _ _
  have loop : ∀ k i, i ≤ 6 → 6 - i = k → wq 2 tb_Memo_partsOfNotes none 2 [some (.ref o), some (.ref a), some (.int (nI i))] [] (mm_ h o (mP_ P c (fun i => if i < n then hp_I h (a + 1) i else -1) i) (c + i) (s && mS_ P c (fun i => if i < n then hp_I h (a + 1) i else -1) i)) (fun r h' => r = none ∧ h' = mm_ h o (mP_ P c (fun i => if i < n then hp_I h (a + 1) i else -1) 6) (c + 6) (s && mS_ P c (fun i => if i < n then hp_I h (a + 1) i else -1) 6)) := by
    intro k
    induction k with
    | zero =>
      intro i hi hk0
      obtain rfl : i = 6 := by omega
      refine wp_iload2 rfl ?_
      refine wp_bipush rfl ?_
      refine wp_icmp_geN (6) (6) (by omega) (by omega) rfl (fun c1 => ?_) (fun c1 => ?_)
      · skip
        exact wp_vret rfl ⟨rfl, rfl⟩
      · exact absurd c1 (Nat.lt_irrefl _)
    | succ k ih =>
      intro i hi hk0
      have hn2 : hp_I (mm_ h o (mP_ P c (fun i => if i < n then hp_I h (a + 1) i else -1) i) (c + i) (s && mS_ P c (fun i => if i < n then hp_I h (a + 1) i else -1) i)) a 1 = nI n := by rw [mm_Ine (by omega) (by omega), hn]
      have := ih (i + 1) (by omega) (by omega)
      rw [mS_, ← Bool.and_assoc, ← mP_next] at this
      refine wp_iload2 rfl ?_
      refine wp_bipush rfl ?_
      refine wp_icmp_geN (i) (6) (by omega) (by omega) rfl (fun c1 => ?_) (fun c1 => ?_)
      · exact absurd c1 (by omega)
      · skip
        refine wp_aload0 rfl ?_
        refine wp_iload2 rfl ?_
        refine wp_aload1 rfl ?_
        refine wp_getI rfl (Notes_kd S2) ?_
        rw [hn2]
        refine wp_icmp_geN (i) (n) (by omega) (by omega) rfl (fun c2 => ?_) (fun c2 => ?_)
        · skip
          refine wp_iconst rfl ?_
          rw [show (if i < n then hp_I h (a + 1) i else -1) = -1 from if_neg (by omega)] at this
          refine wp_callV1V rfl (Nat.le_of_ble_eq_true rfl) (Memo_kd S) (Memo_part_ok S (by omega)) (Nat.le_of_ble_eq_true rfl) ?_
          rintro _ rfl
          refine wp_iinc2N rfl rfl ?_
          refine wp_goto rfl ?_
          rw [mP_at]
          exact this
        · skip
          refine wp_aload1 rfl ?_
          refine wp_iload2 rfl ?_
          refine wp_callV1I rfl (Nat.le_of_ble_eq_true rfl) (Notes_kd S2) (Notes_mark_ok (h := mm_ h o (mP_ P c (fun i => if i < n then hp_I h (a + 1) i else -1) i) (c + i) (s && mS_ P c (fun i => if i < n then hp_I h (a + 1) i else -1) i)) S2 (by omega)) (Nat.le_of_ble_eq_true rfl) ?_
          rintro _ _ ⟨rfl, rfl⟩
          rw [mm_Ine (by omega) (by omega)]
          rw [show (if i < n then hp_I h (a + 1) i else -1) = hp_I h (a + 1) i from if_pos c2] at this
          refine wp_goto rfl ?_
          refine wp_callV1V rfl (Nat.le_of_ble_eq_true rfl) (Memo_kd S) (Memo_part_ok S (by omega)) (Nat.le_of_ble_eq_true rfl) ?_
          rintro _ rfl
          refine wp_iinc2N rfl rfl ?_
          refine wp_goto rfl ?_
          rw [mP_at]
          exact this
  refine wp_iconst rfl ?_
  refine wp_istore2 rfl rfl ?_
  have := loop 6 0 (by omega) rfl
  rw [mP_0, mS_, Bool.and_true] at this
  exact this
