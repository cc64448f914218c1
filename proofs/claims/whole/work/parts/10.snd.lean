-- ===== A STEP of the pure machine is a step of the real one =====
section SDS
variable {p : Program} {l : Launch} {e : Env} {R : Room} {s : State} {m : MethodId} {args : Array Value} {below : List Frame} {meth : Method} {c : Code} {Q : State → Prop} {D : va_G} {cy : Nat → ClassId} {ad0 : Nat → Nat} {n0 s0 : Nat} {A : Nat → Prop} {H0 : Heap} {nL o : Nat} {cc : ByteArray} {ini : Bool} {pc pc' n : Nat} {L L' : Lc_} {st st' : List Value} {h h' : Hp_}
theorem sdi_iload_n {k : Fin 4} (F : sd_Fix p s m args meth c cc nL o ini D cy) (hd : decode cc pc = .ok (.iload_n k, 1)) (hn : n = pc + 1) (hs : pm_ldI k n L st h = some (.inl (pc', L', st', h'))) (kk : sd_G p l e R s m args below meth c Q D cy ad0 n0 s0 A H0 nL pc' L' st' h') : sd_G p l e R s m args below meth c Q D cy ad0 n0 s0 A H0 nL pc L st h := by
  unfold pm_ldI at hs
  split at hs
  · rename_i x hx
    cases hs
    intro ad H locs ls ⟨r1, r2, r3, r4, r5, r6, r7, r8, r9, r10, r11⟩
    subst hn
    exact lv_iload_n F.1 F.2.1 hd rfl (sd_at r11 hx) (kk ad H locs ls ⟨r1, r2, fun v hv => by
      rcases List.mem_cons.mp hv with rfl | hv
      · trivial
      · exact r3 v hv, r4, r5, r6, r7, r8, r9, r10, r11⟩)
  · cases hs
theorem sdi_iload {k : Nat} (F : sd_Fix p s m args meth c cc nL o ini D cy) (hd : decode cc pc = .ok (.iload k, 2)) (hn : n = pc + 2) (hs : pm_ldI k n L st h = some (.inl (pc', L', st', h'))) (kk : sd_G p l e R s m args below meth c Q D cy ad0 n0 s0 A H0 nL pc' L' st' h') : sd_G p l e R s m args below meth c Q D cy ad0 n0 s0 A H0 nL pc L st h := by
  unfold pm_ldI at hs
  split at hs
  · rename_i x hx
    cases hs
    intro ad H locs ls ⟨r1, r2, r3, r4, r5, r6, r7, r8, r9, r10, r11⟩
    subst hn
    exact lv_iload F.1 F.2.1 hd (sd_at r11 hx) (kk ad H locs ls ⟨r1, r2, fun v hv => by
      rcases List.mem_cons.mp hv with rfl | hv
      · trivial
      · exact r3 v hv, r4, r5, r6, r7, r8, r9, r10, r11⟩)
  · cases hs
theorem sdi_lload_n {k : Fin 4} (F : sd_Fix p s m args meth c cc nL o ini D cy) (hd : decode cc pc = .ok (.lload_n k, 1)) (hn : n = pc + 1) (hs : pm_ldJ k n L st h = some (.inl (pc', L', st', h'))) (kk : sd_G p l e R s m args below meth c Q D cy ad0 n0 s0 A H0 nL pc' L' st' h') : sd_G p l e R s m args below meth c Q D cy ad0 n0 s0 A H0 nL pc L st h := by
  unfold pm_ldJ at hs
  split at hs
  · rename_i x hx
    cases hs
    intro ad H locs ls ⟨r1, r2, r3, r4, r5, r6, r7, r8, r9, r10, r11⟩
    subst hn
    exact lv_lload_n F.1 F.2.1 hd rfl (sd_at r11 hx) (kk ad H locs ls ⟨r1, r2, fun v hv => by
      rcases List.mem_cons.mp hv with rfl | hv
      · trivial
      · exact r3 v hv, r4, r5, r6, r7, r8, r9, r10, r11⟩)
  · cases hs
theorem sdi_lload {k : Nat} (F : sd_Fix p s m args meth c cc nL o ini D cy) (hd : decode cc pc = .ok (.lload k, 2)) (hn : n = pc + 2) (hs : pm_ldJ k n L st h = some (.inl (pc', L', st', h'))) (kk : sd_G p l e R s m args below meth c Q D cy ad0 n0 s0 A H0 nL pc' L' st' h') : sd_G p l e R s m args below meth c Q D cy ad0 n0 s0 A H0 nL pc L st h := by
  unfold pm_ldJ at hs
  split at hs
  · rename_i x hx
    cases hs
    intro ad H locs ls ⟨r1, r2, r3, r4, r5, r6, r7, r8, r9, r10, r11⟩
    subst hn
    exact lv_lload F.1 F.2.1 hd (sd_at r11 hx) (kk ad H locs ls ⟨r1, r2, fun v hv => by
      rcases List.mem_cons.mp hv with rfl | hv
      · trivial
      · exact r3 v hv, r4, r5, r6, r7, r8, r9, r10, r11⟩)
  · cases hs
theorem sdi_aload_n {k : Fin 4} (F : sd_Fix p s m args meth c cc nL o ini D cy) (hd : decode cc pc = .ok (.aload_n k, 1)) (hn : n = pc + 1) (hs : pm_ldA k n L st h = some (.inl (pc', L', st', h'))) (kk : sd_G p l e R s m args below meth c Q D cy ad0 n0 s0 A H0 nL pc' L' st' h') : sd_G p l e R s m args below meth c Q D cy ad0 n0 s0 A H0 nL pc L st h := by
  unfold pm_ldA at hs
  split at hs
  · rename_i x hx
    cases hs
    intro ad H locs ls ⟨r1, r2, r3, r4, r5, r6, r7, r8, r9, r10, r11⟩
    subst hn
    exact lv_aload_n F.1 F.2.1 hd rfl (sd_at r11 hx) (kk ad H locs ls ⟨r1, r2, fun v hv => by
      rcases List.mem_cons.mp hv with rfl | hv
      · exact r2 _ (List.mem_of_getElem? hx)
      · exact r3 v hv, r4, r5, r6, r7, r8, r9, r10, r11⟩)
  · cases hs
theorem sdi_aload {k : Nat} (F : sd_Fix p s m args meth c cc nL o ini D cy) (hd : decode cc pc = .ok (.aload k, 2)) (hn : n = pc + 2) (hs : pm_ldA k n L st h = some (.inl (pc', L', st', h'))) (kk : sd_G p l e R s m args below meth c Q D cy ad0 n0 s0 A H0 nL pc' L' st' h') : sd_G p l e R s m args below meth c Q D cy ad0 n0 s0 A H0 nL pc L st h := by
  unfold pm_ldA at hs
  split at hs
  · rename_i x hx
    cases hs
    intro ad H locs ls ⟨r1, r2, r3, r4, r5, r6, r7, r8, r9, r10, r11⟩
    subst hn
    exact lv_aload F.1 F.2.1 hd (sd_at r11 hx) (kk ad H locs ls ⟨r1, r2, fun v hv => by
      rcases List.mem_cons.mp hv with rfl | hv
      · exact r2 _ (List.mem_of_getElem? hx)
      · exact r3 v hv, r4, r5, r6, r7, r8, r9, r10, r11⟩)
  · cases hs
theorem sdi_istore_n {k : Fin 4} (F : sd_Fix p s m args meth c cc nL o ini D cy) (hd : decode cc pc = .ok (.istore_n k, 1)) (hn : n = pc + 1) (hs : pm_stI k n L st h = some (.inl (pc', L', st', h'))) (kk : sd_G p l e R s m args below meth c Q D cy ad0 n0 s0 A H0 nL pc' L' st' h') : sd_G p l e R s m args below meth c Q D cy ad0 n0 s0 A H0 nL pc L st h := by
  unfold pm_stI at hs
  split at hs
  · rename_i x r
    split at hs
    · rename_i hk
      cases hs
      intro ad H locs ls ⟨r1, r2, r3, r4, r5, r6, r7, r8, r9, r10, r11⟩
      subst hn
      rw [r10] at hk
      refine lv_istore_n F.1 F.2.1 hd rfl r11 hk rfl (fun ls' hl => ?_)
      exact kk ad H locs ls' ⟨r1, fun v hv => by
        rcases sd_set_mem hv with h1 | h1
        · subst h1; trivial
        · exact r2 v (sd_kill_mem h1), fun v hv => r3 v (List.mem_cons_of_mem _ hv), r4, r5, r6, r7, r8, r9, by rw [sd_st_len]; exact r10, sd_put (v := (Value.int x)) hl⟩
    · cases hs
  · cases hs
theorem sdi_istore {k : Nat} (F : sd_Fix p s m args meth c cc nL o ini D cy) (hd : decode cc pc = .ok (.istore k, 2)) (hn : n = pc + 2) (hs : pm_stI k n L st h = some (.inl (pc', L', st', h'))) (kk : sd_G p l e R s m args below meth c Q D cy ad0 n0 s0 A H0 nL pc' L' st' h') : sd_G p l e R s m args below meth c Q D cy ad0 n0 s0 A H0 nL pc L st h := by
  unfold pm_stI at hs
  split at hs
  · rename_i x r
    split at hs
    · rename_i hk
      cases hs
      intro ad H locs ls ⟨r1, r2, r3, r4, r5, r6, r7, r8, r9, r10, r11⟩
      subst hn
      rw [r10] at hk
      refine lv_istore F.1 F.2.1 hd r11 hk rfl (fun ls' hl => ?_)
      exact kk ad H locs ls' ⟨r1, fun v hv => by
        rcases sd_set_mem hv with h1 | h1
        · subst h1; trivial
        · exact r2 v (sd_kill_mem h1), fun v hv => r3 v (List.mem_cons_of_mem _ hv), r4, r5, r6, r7, r8, r9, by rw [sd_st_len]; exact r10, sd_put (v := (Value.int x)) hl⟩
    · cases hs
  · cases hs
theorem sdi_astore_n {k : Fin 4} (F : sd_Fix p s m args meth c cc nL o ini D cy) (hd : decode cc pc = .ok (.astore_n k, 1)) (hn : n = pc + 1) (hs : pm_stA k n L st h = some (.inl (pc', L', st', h'))) (kk : sd_G p l e R s m args below meth c Q D cy ad0 n0 s0 A H0 nL pc' L' st' h') : sd_G p l e R s m args below meth c Q D cy ad0 n0 s0 A H0 nL pc L st h := by
  unfold pm_stA at hs
  split at hs
  · rename_i x r
    split at hs
    · rename_i hk
      cases hs
      intro ad H locs ls ⟨r1, r2, r3, r4, r5, r6, r7, r8, r9, r10, r11⟩
      subst hn
      rw [r10] at hk
      refine lv_astore_n F.1 F.2.1 hd rfl r11 hk rfl (fun ls' hl => ?_)
      exact kk ad H locs ls' ⟨r1, fun v hv => by
        rcases sd_set_mem hv with h1 | h1
        · subst h1; exact r3 _ List.mem_cons_self
        · exact r2 v (sd_kill_mem h1), fun v hv => r3 v (List.mem_cons_of_mem _ hv), r4, r5, r6, r7, r8, r9, by rw [sd_st_len]; exact r10, sd_put (v := (Value.ref x)) hl⟩
    · cases hs
  · cases hs
theorem sdi_astore {k : Nat} (F : sd_Fix p s m args meth c cc nL o ini D cy) (hd : decode cc pc = .ok (.astore k, 2)) (hn : n = pc + 2) (hs : pm_stA k n L st h = some (.inl (pc', L', st', h'))) (kk : sd_G p l e R s m args below meth c Q D cy ad0 n0 s0 A H0 nL pc' L' st' h') : sd_G p l e R s m args below meth c Q D cy ad0 n0 s0 A H0 nL pc L st h := by
  unfold pm_stA at hs
  split at hs
  · rename_i x r
    split at hs
    · rename_i hk
      cases hs
      intro ad H locs ls ⟨r1, r2, r3, r4, r5, r6, r7, r8, r9, r10, r11⟩
      subst hn
      rw [r10] at hk
      refine lv_astore F.1 F.2.1 hd r11 hk rfl (fun ls' hl => ?_)
      exact kk ad H locs ls' ⟨r1, fun v hv => by
        rcases sd_set_mem hv with h1 | h1
        · subst h1; exact r3 _ List.mem_cons_self
        · exact r2 v (sd_kill_mem h1), fun v hv => r3 v (List.mem_cons_of_mem _ hv), r4, r5, r6, r7, r8, r9, by rw [sd_st_len]; exact r10, sd_put (v := (Value.ref x)) hl⟩
    · cases hs
  · cases hs
theorem sdi_lstore_n {k : Fin 4} (F : sd_Fix p s m args meth c cc nL o ini D cy) (hd : decode cc pc = .ok (.lstore_n k, 1)) (hn : n = pc + 1) (hs : pm_stL k n L st h = some (.inl (pc', L', st', h'))) (kk : sd_G p l e R s m args below meth c Q D cy ad0 n0 s0 A H0 nL pc' L' st' h') : sd_G p l e R s m args below meth c Q D cy ad0 n0 s0 A H0 nL pc L st h := by
  unfold pm_stL at hs
  split at hs
  · rename_i x r
    split at hs
    · rename_i hk
      cases hs
      intro ad H locs ls ⟨r1, r2, r3, r4, r5, r6, r7, r8, r9, r10, r11⟩
      subst hn
      rw [r10] at hk
      refine lv_lstore_n F.1 F.2.1 hd rfl r11 hk rfl (fun ls' hl => ?_)
      exact kk ad H locs ls' ⟨r1, fun v hv => by
        rcases sd_set_mem (sd_setn_mem hv) with h1 | h1
        · subst h1; trivial
        · exact r2 v (sd_kill_mem h1), fun v hv => r3 v (List.mem_cons_of_mem _ hv), r4, r5, r6, r7, r8, r9, by rw [sd_stJ_len]; exact r10, sd_putJ (v := (Value.long x)) hl⟩
    · cases hs
  · cases hs
theorem sdi_lstore {k : Nat} (F : sd_Fix p s m args meth c cc nL o ini D cy) (hd : decode cc pc = .ok (.lstore k, 2)) (hn : n = pc + 2) (hs : pm_stL k n L st h = some (.inl (pc', L', st', h'))) (kk : sd_G p l e R s m args below meth c Q D cy ad0 n0 s0 A H0 nL pc' L' st' h') : sd_G p l e R s m args below meth c Q D cy ad0 n0 s0 A H0 nL pc L st h := by
  unfold pm_stL at hs
  split at hs
  · rename_i x r
    split at hs
    · rename_i hk
      cases hs
      intro ad H locs ls ⟨r1, r2, r3, r4, r5, r6, r7, r8, r9, r10, r11⟩
      subst hn
      rw [r10] at hk
      refine lv_lstore F.1 F.2.1 hd r11 hk rfl (fun ls' hl => ?_)
      exact kk ad H locs ls' ⟨r1, fun v hv => by
        rcases sd_set_mem (sd_setn_mem hv) with h1 | h1
        · subst h1; trivial
        · exact r2 v (sd_kill_mem h1), fun v hv => r3 v (List.mem_cons_of_mem _ hv), r4, r5, r6, r7, r8, r9, by rw [sd_stJ_len]; exact r10, sd_putJ (v := (Value.long x)) hl⟩
    · cases hs
  · cases hs
theorem sdi_iconst {k : Int} {v : Int32} (hv : Int32.ofInt k = v) (F : sd_Fix p s m args meth c cc nL o ini D cy) (hd : decode cc pc = .ok (.iconst k, 1)) (hn : n = pc + 1) (kk : sd_G p l e R s m args below meth c Q D cy ad0 n0 s0 A H0 nL n L (.int v :: st) h) : sd_G p l e R s m args below meth c Q D cy ad0 n0 s0 A H0 nL pc L st h := by
  intro ad H locs ls ⟨r1, r2, r3, r4, r5, r6, r7, r8, r9, r10, r11⟩
  subst hn
  exact lv_iconst F.1 F.2.1 hd hv (kk ad H locs ls ⟨r1, r2, fun v hv => by
      rcases List.mem_cons.mp hv with rfl | hv
      · trivial
      · exact r3 v hv, r4, r5, r6, r7, r8, r9, r10, r11⟩)
theorem sdi_bipush {k : Int} {v : Int32} (hv : (Int8.ofInt k).toInt32 = v) (F : sd_Fix p s m args meth c cc nL o ini D cy) (hd : decode cc pc = .ok (.bipush k, 2)) (hn : n = pc + 2) (kk : sd_G p l e R s m args below meth c Q D cy ad0 n0 s0 A H0 nL n L (.int v :: st) h) : sd_G p l e R s m args below meth c Q D cy ad0 n0 s0 A H0 nL pc L st h := by
  intro ad H locs ls ⟨r1, r2, r3, r4, r5, r6, r7, r8, r9, r10, r11⟩
  subst hn
  exact lv_bipush F.1 F.2.1 hd hv (kk ad H locs ls ⟨r1, r2, fun v hv => by
      rcases List.mem_cons.mp hv with rfl | hv
      · trivial
      · exact r3 v hv, r4, r5, r6, r7, r8, r9, r10, r11⟩)
theorem sdi_sipush {k : Int} {v : Int32} (hv : (Int16.ofInt k).toInt32 = v) (F : sd_Fix p s m args meth c cc nL o ini D cy) (hd : decode cc pc = .ok (.sipush k, 3)) (hn : n = pc + 3) (kk : sd_G p l e R s m args below meth c Q D cy ad0 n0 s0 A H0 nL n L (.int v :: st) h) : sd_G p l e R s m args below meth c Q D cy ad0 n0 s0 A H0 nL pc L st h := by
  intro ad H locs ls ⟨r1, r2, r3, r4, r5, r6, r7, r8, r9, r10, r11⟩
  subst hn
  exact lv_sipush F.1 F.2.1 hd hv (kk ad H locs ls ⟨r1, r2, fun v hv => by
      rcases List.mem_cons.mp hv with rfl | hv
      · trivial
      · exact r3 v hv, r4, r5, r6, r7, r8, r9, r10, r11⟩)
theorem sdi_lconst {k : Fin 2} {v : Int64} (hv : Int64.ofNat (k : Nat) = v) (F : sd_Fix p s m args meth c cc nL o ini D cy) (hd : decode cc pc = .ok (.lconst k, 1)) (hn : n = pc + 1) (kk : sd_G p l e R s m args below meth c Q D cy ad0 n0 s0 A H0 nL n L (.long v :: st) h) : sd_G p l e R s m args below meth c Q D cy ad0 n0 s0 A H0 nL pc L st h := by
  intro ad H locs ls ⟨r1, r2, r3, r4, r5, r6, r7, r8, r9, r10, r11⟩
  subst hn
  exact lv_lconst F.1 F.2.1 hd hv (kk ad H locs ls ⟨r1, r2, fun v hv => by
      rcases List.mem_cons.mp hv with rfl | hv
      · trivial
      · exact r3 v hv, r4, r5, r6, r7, r8, r9, r10, r11⟩)
theorem sdi_ldc {k : Nat} {v : Int32} (hv : Cond.constant (tt_name o) k v ∈ sd_WS) (F : sd_Fix p s m args meth c cc nL o ini D cy) (hd : decode cc pc = .ok (.ldc k, 2)) (hn : n = pc + 2) (kk : sd_G p l e R s m args below meth c Q D cy ad0 n0 s0 A H0 nL n L (.int v :: st) h) : sd_G p l e R s m args below meth c Q D cy ad0 n0 s0 A H0 nL pc L st h := by
  intro ad H locs ls ⟨r1, r2, r3, r4, r5, r6, r7, r8, r9, r10, r11⟩
  subst hn
  exact lv_ldc F.1 F.2.1 F.2.2.2.1 (F.2.2.2.2.1 _ hv) hd (kk ad H locs ls ⟨r1, r2, fun v hv => by
      rcases List.mem_cons.mp hv with rfl | hv
      · trivial
      · exact r3 v hv, r4, r5, r6, r7, r8, r9, r10, r11⟩)
theorem sdi_ldcw {k : Nat} {v : Int32} (hv : Cond.constant (tt_name o) k v ∈ sd_WS) (F : sd_Fix p s m args meth c cc nL o ini D cy) (hd : decode cc pc = .ok (.ldc_w k, 3)) (hn : n = pc + 3) (kk : sd_G p l e R s m args below meth c Q D cy ad0 n0 s0 A H0 nL n L (.int v :: st) h) : sd_G p l e R s m args below meth c Q D cy ad0 n0 s0 A H0 nL pc L st h := by
  intro ad H locs ls ⟨r1, r2, r3, r4, r5, r6, r7, r8, r9, r10, r11⟩
  subst hn
  exact lv_ldcw F.1 F.2.1 F.2.2.2.1 (F.2.2.2.2.1 _ hv) hd (kk ad H locs ls ⟨r1, r2, fun v hv => by
      rcases List.mem_cons.mp hv with rfl | hv
      · trivial
      · exact r3 v hv, r4, r5, r6, r7, r8, r9, r10, r11⟩)
theorem sdi_ldc2 {k : Nat} {v : Int64} (hv : Cond.constantLong (tt_name o) k v ∈ sd_WS) (F : sd_Fix p s m args meth c cc nL o ini D cy) (hd : decode cc pc = .ok (.ldc2_w k, 3)) (hn : n = pc + 3) (kk : sd_G p l e R s m args below meth c Q D cy ad0 n0 s0 A H0 nL n L (.long v :: st) h) : sd_G p l e R s m args below meth c Q D cy ad0 n0 s0 A H0 nL pc L st h := by
  intro ad H locs ls ⟨r1, r2, r3, r4, r5, r6, r7, r8, r9, r10, r11⟩
  subst hn
  exact lv_ldc2 F.1 F.2.1 F.2.2.2.1 (F.2.2.2.2.1 _ hv) hd (kk ad H locs ls ⟨r1, r2, fun v hv => by
      rcases List.mem_cons.mp hv with rfl | hv
      · trivial
      · exact r3 v hv, r4, r5, r6, r7, r8, r9, r10, r11⟩)
theorem sdi_iinc {k : Nat} {w : Int} {v : Int32} (hv : Int32.ofInt w = v) (F : sd_Fix p s m args meth c cc nL o ini D cy) (hd : decode cc pc = .ok (.iinc k w, 3)) (hn : n = pc + 3) (hs : pm_inc k v n L st h = some (.inl (pc', L', st', h'))) (kk : sd_G p l e R s m args below meth c Q D cy ad0 n0 s0 A H0 nL pc' L' st' h') : sd_G p l e R s m args below meth c Q D cy ad0 n0 s0 A H0 nL pc L st h := by
  unfold pm_inc at hs
  split at hs
  · rename_i x hx
    cases hs
    intro ad H locs ls ⟨r1, r2, r3, r4, r5, r6, r7, r8, r9, r10, r11⟩
    subst hn
    obtain ⟨j, hj⟩ := List.getElem?_of_mem (sd_as_mem (ad := ad) hx)
    have hk : k < nL := by rw [← r10]; exact (List.getElem?_eq_some_iff.mp hx).1
    refine lv_iinc (v := x + v) F.1 F.2.1 hd r11 hj (by rw [hv]) hk rfl (fun ls' hl => ?_)
    exact kk ad H locs ls' ⟨r1, fun v hv => by
        rcases sd_set_mem hv with h1 | h1
        · subst h1; trivial
        · exact r2 v (sd_kill_mem h1), r3, r4, r5, r6, r7, r8, r9, by rw [sd_st_len]; exact r10, sd_put (v := Value.int _) hl⟩
  · cases hs
theorem sdi_iadd  (F : sd_Fix p s m args meth c cc nL o ini D cy) (hd : decode cc pc = .ok (.iadd, 1)) (hn : n = pc + 1) (hs : pm_bin (fun x y => x + y) n L st h = some (.inl (pc', L', st', h'))) (kk : sd_G p l e R s m args below meth c Q D cy ad0 n0 s0 A H0 nL pc' L' st' h') : sd_G p l e R s m args below meth c Q D cy ad0 n0 s0 A H0 nL pc L st h := by
  unfold pm_bin at hs
  split at hs
  · rename_i y x r
    cases hs
    intro ad H locs ls ⟨r1, r2, r3, r4, r5, r6, r7, r8, r9, r10, r11⟩
    subst hn
    exact lv_iadd F.1 F.2.1 hd (kk ad H locs ls ⟨r1, r2, fun v hv => by
      rcases List.mem_cons.mp hv with rfl | hv
      · trivial
      · exact r3 v (List.mem_cons_of_mem _ (List.mem_cons_of_mem _ hv)), r4, r5, r6, r7, r8, r9, r10, r11⟩)
  · cases hs
theorem sdi_isub  (F : sd_Fix p s m args meth c cc nL o ini D cy) (hd : decode cc pc = .ok (.isub, 1)) (hn : n = pc + 1) (hs : pm_bin (fun x y => x - y) n L st h = some (.inl (pc', L', st', h'))) (kk : sd_G p l e R s m args below meth c Q D cy ad0 n0 s0 A H0 nL pc' L' st' h') : sd_G p l e R s m args below meth c Q D cy ad0 n0 s0 A H0 nL pc L st h := by
  unfold pm_bin at hs
  split at hs
  · rename_i y x r
    cases hs
    intro ad H locs ls ⟨r1, r2, r3, r4, r5, r6, r7, r8, r9, r10, r11⟩
    subst hn
    exact lv_isub F.1 F.2.1 hd (kk ad H locs ls ⟨r1, r2, fun v hv => by
      rcases List.mem_cons.mp hv with rfl | hv
      · trivial
      · exact r3 v (List.mem_cons_of_mem _ (List.mem_cons_of_mem _ hv)), r4, r5, r6, r7, r8, r9, r10, r11⟩)
  · cases hs
theorem sdi_imul  (F : sd_Fix p s m args meth c cc nL o ini D cy) (hd : decode cc pc = .ok (.imul, 1)) (hn : n = pc + 1) (hs : pm_bin (fun x y => x * y) n L st h = some (.inl (pc', L', st', h'))) (kk : sd_G p l e R s m args below meth c Q D cy ad0 n0 s0 A H0 nL pc' L' st' h') : sd_G p l e R s m args below meth c Q D cy ad0 n0 s0 A H0 nL pc L st h := by
  unfold pm_bin at hs
  split at hs
  · rename_i y x r
    cases hs
    intro ad H locs ls ⟨r1, r2, r3, r4, r5, r6, r7, r8, r9, r10, r11⟩
    subst hn
    exact lv_imul F.1 F.2.1 hd (kk ad H locs ls ⟨r1, r2, fun v hv => by
      rcases List.mem_cons.mp hv with rfl | hv
      · trivial
      · exact r3 v (List.mem_cons_of_mem _ (List.mem_cons_of_mem _ hv)), r4, r5, r6, r7, r8, r9, r10, r11⟩)
  · cases hs
theorem sdi_iand  (F : sd_Fix p s m args meth c cc nL o ini D cy) (hd : decode cc pc = .ok (.iand, 1)) (hn : n = pc + 1) (hs : pm_bin (fun x y => x &&& y) n L st h = some (.inl (pc', L', st', h'))) (kk : sd_G p l e R s m args below meth c Q D cy ad0 n0 s0 A H0 nL pc' L' st' h') : sd_G p l e R s m args below meth c Q D cy ad0 n0 s0 A H0 nL pc L st h := by
  unfold pm_bin at hs
  split at hs
  · rename_i y x r
    cases hs
    intro ad H locs ls ⟨r1, r2, r3, r4, r5, r6, r7, r8, r9, r10, r11⟩
    subst hn
    exact lv_iand F.1 F.2.1 hd (kk ad H locs ls ⟨r1, r2, fun v hv => by
      rcases List.mem_cons.mp hv with rfl | hv
      · trivial
      · exact r3 v (List.mem_cons_of_mem _ (List.mem_cons_of_mem _ hv)), r4, r5, r6, r7, r8, r9, r10, r11⟩)
  · cases hs
theorem sdi_ior  (F : sd_Fix p s m args meth c cc nL o ini D cy) (hd : decode cc pc = .ok (.ior, 1)) (hn : n = pc + 1) (hs : pm_bin (fun x y => x ||| y) n L st h = some (.inl (pc', L', st', h'))) (kk : sd_G p l e R s m args below meth c Q D cy ad0 n0 s0 A H0 nL pc' L' st' h') : sd_G p l e R s m args below meth c Q D cy ad0 n0 s0 A H0 nL pc L st h := by
  unfold pm_bin at hs
  split at hs
  · rename_i y x r
    cases hs
    intro ad H locs ls ⟨r1, r2, r3, r4, r5, r6, r7, r8, r9, r10, r11⟩
    subst hn
    exact lv_ior F.1 F.2.1 hd (kk ad H locs ls ⟨r1, r2, fun v hv => by
      rcases List.mem_cons.mp hv with rfl | hv
      · trivial
      · exact r3 v (List.mem_cons_of_mem _ (List.mem_cons_of_mem _ hv)), r4, r5, r6, r7, r8, r9, r10, r11⟩)
  · cases hs
theorem sdi_ixor  (F : sd_Fix p s m args meth c cc nL o ini D cy) (hd : decode cc pc = .ok (.ixor, 1)) (hn : n = pc + 1) (hs : pm_bin (fun x y => x ^^^ y) n L st h = some (.inl (pc', L', st', h'))) (kk : sd_G p l e R s m args below meth c Q D cy ad0 n0 s0 A H0 nL pc' L' st' h') : sd_G p l e R s m args below meth c Q D cy ad0 n0 s0 A H0 nL pc L st h := by
  unfold pm_bin at hs
  split at hs
  · rename_i y x r
    cases hs
    intro ad H locs ls ⟨r1, r2, r3, r4, r5, r6, r7, r8, r9, r10, r11⟩
    subst hn
    exact lv_ixor F.1 F.2.1 hd (kk ad H locs ls ⟨r1, r2, fun v hv => by
      rcases List.mem_cons.mp hv with rfl | hv
      · trivial
      · exact r3 v (List.mem_cons_of_mem _ (List.mem_cons_of_mem _ hv)), r4, r5, r6, r7, r8, r9, r10, r11⟩)
  · cases hs
theorem sdi_ishl  (F : sd_Fix p s m args meth c cc nL o ini D cy) (hd : decode cc pc = .ok (.ishl, 1)) (hn : n = pc + 1) (hs : pm_bin (fun x y => x <<< (y &&& 31)) n L st h = some (.inl (pc', L', st', h'))) (kk : sd_G p l e R s m args below meth c Q D cy ad0 n0 s0 A H0 nL pc' L' st' h') : sd_G p l e R s m args below meth c Q D cy ad0 n0 s0 A H0 nL pc L st h := by
  unfold pm_bin at hs
  split at hs
  · rename_i y x r
    cases hs
    intro ad H locs ls ⟨r1, r2, r3, r4, r5, r6, r7, r8, r9, r10, r11⟩
    subst hn
    exact lv_ishl F.1 F.2.1 hd (kk ad H locs ls ⟨r1, r2, fun v hv => by
      rcases List.mem_cons.mp hv with rfl | hv
      · trivial
      · exact r3 v (List.mem_cons_of_mem _ (List.mem_cons_of_mem _ hv)), r4, r5, r6, r7, r8, r9, r10, r11⟩)
  · cases hs
theorem sdi_ishr  (F : sd_Fix p s m args meth c cc nL o ini D cy) (hd : decode cc pc = .ok (.ishr, 1)) (hn : n = pc + 1) (hs : pm_bin (fun x y => x >>> (y &&& 31)) n L st h = some (.inl (pc', L', st', h'))) (kk : sd_G p l e R s m args below meth c Q D cy ad0 n0 s0 A H0 nL pc' L' st' h') : sd_G p l e R s m args below meth c Q D cy ad0 n0 s0 A H0 nL pc L st h := by
  unfold pm_bin at hs
  split at hs
  · rename_i y x r
    cases hs
    intro ad H locs ls ⟨r1, r2, r3, r4, r5, r6, r7, r8, r9, r10, r11⟩
    subst hn
    exact lv_ishr F.1 F.2.1 hd (kk ad H locs ls ⟨r1, r2, fun v hv => by
      rcases List.mem_cons.mp hv with rfl | hv
      · trivial
      · exact r3 v (List.mem_cons_of_mem _ (List.mem_cons_of_mem _ hv)), r4, r5, r6, r7, r8, r9, r10, r11⟩)
  · cases hs
theorem sdi_iushr  (F : sd_Fix p s m args meth c cc nL o ini D cy) (hd : decode cc pc = .ok (.iushr, 1)) (hn : n = pc + 1) (hs : pm_bin (fun x y => (x.toUInt32 >>> (y.toUInt32 &&& Int32.toUInt32 31)).toInt32) n L st h = some (.inl (pc', L', st', h'))) (kk : sd_G p l e R s m args below meth c Q D cy ad0 n0 s0 A H0 nL pc' L' st' h') : sd_G p l e R s m args below meth c Q D cy ad0 n0 s0 A H0 nL pc L st h := by
  unfold pm_bin at hs
  split at hs
  · rename_i y x r
    cases hs
    intro ad H locs ls ⟨r1, r2, r3, r4, r5, r6, r7, r8, r9, r10, r11⟩
    subst hn
    exact lv_iushr F.1 F.2.1 hd rfl (kk ad H locs ls ⟨r1, r2, fun v hv => by
      rcases List.mem_cons.mp hv with rfl | hv
      · trivial
      · exact r3 v (List.mem_cons_of_mem _ (List.mem_cons_of_mem _ hv)), r4, r5, r6, r7, r8, r9, r10, r11⟩)
  · cases hs
theorem sdi_ladd  (F : sd_Fix p s m args meth c cc nL o ini D cy) (hd : decode cc pc = .ok (.ladd, 1)) (hn : n = pc + 1) (hs : pm_binL (fun x y => x + y) n L st h = some (.inl (pc', L', st', h'))) (kk : sd_G p l e R s m args below meth c Q D cy ad0 n0 s0 A H0 nL pc' L' st' h') : sd_G p l e R s m args below meth c Q D cy ad0 n0 s0 A H0 nL pc L st h := by
  unfold pm_binL at hs
  split at hs
  · rename_i y x r
    cases hs
    intro ad H locs ls ⟨r1, r2, r3, r4, r5, r6, r7, r8, r9, r10, r11⟩
    subst hn
    exact lv_ladd F.1 F.2.1 hd (kk ad H locs ls ⟨r1, r2, fun v hv => by
      rcases List.mem_cons.mp hv with rfl | hv
      · trivial
      · exact r3 v (List.mem_cons_of_mem _ (List.mem_cons_of_mem _ hv)), r4, r5, r6, r7, r8, r9, r10, r11⟩)
  · cases hs
theorem sdi_lmul  (F : sd_Fix p s m args meth c cc nL o ini D cy) (hd : decode cc pc = .ok (.lmul, 1)) (hn : n = pc + 1) (hs : pm_binL (fun x y => x * y) n L st h = some (.inl (pc', L', st', h'))) (kk : sd_G p l e R s m args below meth c Q D cy ad0 n0 s0 A H0 nL pc' L' st' h') : sd_G p l e R s m args below meth c Q D cy ad0 n0 s0 A H0 nL pc L st h := by
  unfold pm_binL at hs
  split at hs
  · rename_i y x r
    cases hs
    intro ad H locs ls ⟨r1, r2, r3, r4, r5, r6, r7, r8, r9, r10, r11⟩
    subst hn
    exact lv_lmul F.1 F.2.1 hd (kk ad H locs ls ⟨r1, r2, fun v hv => by
      rcases List.mem_cons.mp hv with rfl | hv
      · trivial
      · exact r3 v (List.mem_cons_of_mem _ (List.mem_cons_of_mem _ hv)), r4, r5, r6, r7, r8, r9, r10, r11⟩)
  · cases hs
theorem sdi_idiv  (F : sd_Fix p s m args meth c cc nL o ini D cy) (hd : decode cc pc = .ok (.idiv, 1)) (hn : n = pc + 1) (hs : pm_div (fun x y => x / y) n L st h = some (.inl (pc', L', st', h'))) (kk : sd_G p l e R s m args below meth c Q D cy ad0 n0 s0 A H0 nL pc' L' st' h') : sd_G p l e R s m args below meth c Q D cy ad0 n0 s0 A H0 nL pc L st h := by
  unfold pm_div at hs
  split at hs
  · rename_i y x r
    split at hs
    · cases hs
    · rename_i hz
      cases hs
      intro ad H locs ls ⟨r1, r2, r3, r4, r5, r6, r7, r8, r9, r10, r11⟩
      subst hn
      exact lv_idiv F.1 F.2.1 hd hz (kk ad H locs ls ⟨r1, r2, fun v hv => by
        rcases List.mem_cons.mp hv with rfl | hv
        · trivial
        · exact r3 v (List.mem_cons_of_mem _ (List.mem_cons_of_mem _ hv)), r4, r5, r6, r7, r8, r9, r10, r11⟩)
  · cases hs
theorem sdi_irem  (F : sd_Fix p s m args meth c cc nL o ini D cy) (hd : decode cc pc = .ok (.irem, 1)) (hn : n = pc + 1) (hs : pm_div (fun x y => x - x / y * y) n L st h = some (.inl (pc', L', st', h'))) (kk : sd_G p l e R s m args below meth c Q D cy ad0 n0 s0 A H0 nL pc' L' st' h') : sd_G p l e R s m args below meth c Q D cy ad0 n0 s0 A H0 nL pc L st h := by
  unfold pm_div at hs
  split at hs
  · rename_i y x r
    split at hs
    · cases hs
    · rename_i hz
      cases hs
      intro ad H locs ls ⟨r1, r2, r3, r4, r5, r6, r7, r8, r9, r10, r11⟩
      subst hn
      exact lv_irem F.1 F.2.1 hd hz (kk ad H locs ls ⟨r1, r2, fun v hv => by
        rcases List.mem_cons.mp hv with rfl | hv
        · trivial
        · exact r3 v (List.mem_cons_of_mem _ (List.mem_cons_of_mem _ hv)), r4, r5, r6, r7, r8, r9, r10, r11⟩)
  · cases hs
theorem sdi_lrem  (F : sd_Fix p s m args meth c cc nL o ini D cy) (hd : decode cc pc = .ok (.lrem, 1)) (hn : n = pc + 1) (hs : pm_divL (fun x y => x - x / y * y) n L st h = some (.inl (pc', L', st', h'))) (kk : sd_G p l e R s m args below meth c Q D cy ad0 n0 s0 A H0 nL pc' L' st' h') : sd_G p l e R s m args below meth c Q D cy ad0 n0 s0 A H0 nL pc L st h := by
  unfold pm_divL at hs
  split at hs
  · rename_i y x r
    split at hs
    · cases hs
    · rename_i hz
      cases hs
      intro ad H locs ls ⟨r1, r2, r3, r4, r5, r6, r7, r8, r9, r10, r11⟩
      subst hn
      exact lv_lrem F.1 F.2.1 hd hz (kk ad H locs ls ⟨r1, r2, fun v hv => by
        rcases List.mem_cons.mp hv with rfl | hv
        · trivial
        · exact r3 v (List.mem_cons_of_mem _ (List.mem_cons_of_mem _ hv)), r4, r5, r6, r7, r8, r9, r10, r11⟩)
  · cases hs
theorem sdi_lcmp  (F : sd_Fix p s m args meth c cc nL o ini D cy) (hd : decode cc pc = .ok (.lcmp, 1)) (hn : n = pc + 1) (hs : pm_cmpL n L st h = some (.inl (pc', L', st', h'))) (kk : sd_G p l e R s m args below meth c Q D cy ad0 n0 s0 A H0 nL pc' L' st' h') : sd_G p l e R s m args below meth c Q D cy ad0 n0 s0 A H0 nL pc L st h := by
  unfold pm_cmpL at hs
  split at hs
  · cases hs
    intro ad H locs ls ⟨r1, r2, r3, r4, r5, r6, r7, r8, r9, r10, r11⟩
    subst hn
    exact W.lcmp F.1 F.2.1 hd (kk ad H locs ls ⟨r1, r2, fun v hv => by
      rcases List.mem_cons.mp hv with rfl | hv
      · trivial
      · exact r3 v (List.mem_cons_of_mem _ (List.mem_cons_of_mem _ hv)), r4, r5, r6, r7, r8, r9, r10, r11⟩)
  · cases hs
theorem sdi_i2l  (F : sd_Fix p s m args meth c cc nL o ini D cy) (hd : decode cc pc = .ok (.i2l, 1)) (hn : n = pc + 1) (hs : pm_i2l n L st h = some (.inl (pc', L', st', h'))) (kk : sd_G p l e R s m args below meth c Q D cy ad0 n0 s0 A H0 nL pc' L' st' h') : sd_G p l e R s m args below meth c Q D cy ad0 n0 s0 A H0 nL pc L st h := by
  unfold pm_i2l at hs
  split at hs
  · cases hs
    intro ad H locs ls ⟨r1, r2, r3, r4, r5, r6, r7, r8, r9, r10, r11⟩
    subst hn
    exact lv_i2l F.1 F.2.1 hd rfl (kk ad H locs ls ⟨r1, r2, fun v hv => by
      rcases List.mem_cons.mp hv with rfl | hv
      · trivial
      · exact r3 v (List.mem_cons_of_mem _ hv), r4, r5, r6, r7, r8, r9, r10, r11⟩)
  · cases hs
theorem sdi_l2i  (F : sd_Fix p s m args meth c cc nL o ini D cy) (hd : decode cc pc = .ok (.l2i, 1)) (hn : n = pc + 1) (hs : pm_l2i n L st h = some (.inl (pc', L', st', h'))) (kk : sd_G p l e R s m args below meth c Q D cy ad0 n0 s0 A H0 nL pc' L' st' h') : sd_G p l e R s m args below meth c Q D cy ad0 n0 s0 A H0 nL pc L st h := by
  unfold pm_l2i at hs
  split at hs
  · cases hs
    intro ad H locs ls ⟨r1, r2, r3, r4, r5, r6, r7, r8, r9, r10, r11⟩
    subst hn
    exact lv_l2i F.1 F.2.1 hd rfl (kk ad H locs ls ⟨r1, r2, fun v hv => by
      rcases List.mem_cons.mp hv with rfl | hv
      · trivial
      · exact r3 v (List.mem_cons_of_mem _ hv), r4, r5, r6, r7, r8, r9, r10, r11⟩)
  · cases hs
theorem sdi_dup  (F : sd_Fix p s m args meth c cc nL o ini D cy) (hd : decode cc pc = .ok (.dup, 1)) (hn : n = pc + 1) (hs : pm_dup n L st h = some (.inl (pc', L', st', h'))) (kk : sd_G p l e R s m args below meth c Q D cy ad0 n0 s0 A H0 nL pc' L' st' h') : sd_G p l e R s m args below meth c Q D cy ad0 n0 s0 A H0 nL pc L st h := by
  unfold pm_dup at hs
  split at hs
  · cases hs
    intro ad H locs ls ⟨r1, r2, r3, r4, r5, r6, r7, r8, r9, r10, r11⟩
    subst hn
    exact lv_dup F.1 F.2.1 hd rfl (kk ad H locs ls ⟨r1, r2, fun v hv => by
      rcases List.mem_cons.mp hv with rfl | hv
      · trivial
      · exact r3 v hv, r4, r5, r6, r7, r8, r9, r10, r11⟩)
  · cases hs
    intro ad H locs ls ⟨r1, r2, r3, r4, r5, r6, r7, r8, r9, r10, r11⟩
    subst hn
    exact lv_dup F.1 F.2.1 hd rfl (kk ad H locs ls ⟨r1, r2, fun v hv => by
      rcases List.mem_cons.mp hv with rfl | hv
      · exact r3 _ List.mem_cons_self
      · exact r3 v hv, r4, r5, r6, r7, r8, r9, r10, r11⟩)
  · cases hs
theorem sdi_pop  (F : sd_Fix p s m args meth c cc nL o ini D cy) (hd : decode cc pc = .ok (.pop, 1)) (hn : n = pc + 1) (hs : pm_pop n L st h = some (.inl (pc', L', st', h'))) (kk : sd_G p l e R s m args below meth c Q D cy ad0 n0 s0 A H0 nL pc' L' st' h') : sd_G p l e R s m args below meth c Q D cy ad0 n0 s0 A H0 nL pc L st h := by
  unfold pm_pop at hs
  split at hs
  · cases hs
    intro ad H locs ls ⟨r1, r2, r3, r4, r5, r6, r7, r8, r9, r10, r11⟩
    subst hn
    exact lv_pop F.1 F.2.1 hd rfl (kk ad H locs ls ⟨r1, r2, fun v hv => r3 v (List.mem_cons_of_mem _ hv), r4, r5, r6, r7, r8, r9, r10, r11⟩)
  · cases hs
    intro ad H locs ls ⟨r1, r2, r3, r4, r5, r6, r7, r8, r9, r10, r11⟩
    subst hn
    exact lv_pop F.1 F.2.1 hd rfl (kk ad H locs ls ⟨r1, r2, fun v hv => r3 v (List.mem_cons_of_mem _ hv), r4, r5, r6, r7, r8, r9, r10, r11⟩)
  · cases hs
theorem sdi_goto {off : Int} {a : Nat} (F : sd_Fix p s m args meth c cc nL o ini D cy) (hd : decode cc pc = .ok (.goto off, 3)) (ha : (pc : Int) + off = (a : Int)) (kk : sd_G p l e R s m args below meth c Q D cy ad0 n0 s0 A H0 nL a L st h) : sd_G p l e R s m args below meth c Q D cy ad0 n0 s0 A H0 nL pc L st h := by
  intro ad H locs ls r
  exact lv_goto F.1 F.2.1 hd ha (kk ad H locs ls r)
theorem sdi_if {k : ClassFile.Cond} {off : Int} {a : Nat} (ha : (pc : Int) + off = (a : Int)) (F : sd_Fix p s m args meth c cc nL o ini D cy) (hd : decode cc pc = .ok (.ifCond k off, 3)) (hn : n = pc + 3) (hs : pm_if k a n L st h = some (.inl (pc', L', st', h'))) (kk : sd_G p l e R s m args below meth c Q D cy ad0 n0 s0 A H0 nL pc' L' st' h') : sd_G p l e R s m args below meth c Q D cy ad0 n0 s0 A H0 nL pc L st h := by
  unfold pm_if at hs
  split at hs
  · rename_i x r
    cases hs
    intro ad H locs ls ⟨r1, r2, r3, r4, r5, r6, r7, r8, r9, r10, r11⟩
    subst hn
    have kk1 := fun hr : 0 = 0 => kk ad H locs ls ⟨r1, r2, fun v hv => r3 v (List.mem_cons_of_mem _ hv), r4, r5, r6, r7, r8, r9, r10, r11⟩
    have kk1 := kk1 rfl
    cases k
    · simp only [pm_rel, decide_eq_true_eq, ne_eq] at kk1
      exact lv_if_eq F.1 F.2.1 hd ha (fun q => by rw [if_pos q] at kk1; exact kk1) (fun q => by first | (rw [if_neg q] at kk1; exact kk1) | (rw [if_neg (fun z => z q)] at kk1; exact kk1))
    · simp only [pm_rel, decide_eq_true_eq, ne_eq] at kk1
      exact lv_if_ne F.1 F.2.1 hd ha (fun q => by rw [if_pos q] at kk1; exact kk1) (fun q => by first | (rw [if_neg q] at kk1; exact kk1) | (rw [if_neg (fun z => z q)] at kk1; exact kk1))
    · simp only [pm_rel, decide_eq_true_eq, ne_eq] at kk1
      exact lv_if_lt F.1 F.2.1 hd ha (fun q => by rw [if_pos q] at kk1; exact kk1) (fun q => by first | (rw [if_neg q] at kk1; exact kk1) | (rw [if_neg (fun z => z q)] at kk1; exact kk1))
    · simp only [pm_rel, decide_eq_true_eq, ne_eq] at kk1
      exact lv_if_ge F.1 F.2.1 hd ha (fun q => by rw [if_pos q] at kk1; exact kk1) (fun q => by first | (rw [if_neg q] at kk1; exact kk1) | (rw [if_neg (fun z => z q)] at kk1; exact kk1))
    · simp only [pm_rel, decide_eq_true_eq, ne_eq] at kk1
      exact lv_if_gt F.1 F.2.1 hd ha (fun q => by rw [if_pos q] at kk1; exact kk1) (fun q => by first | (rw [if_neg q] at kk1; exact kk1) | (rw [if_neg (fun z => z q)] at kk1; exact kk1))
    · simp only [pm_rel, decide_eq_true_eq, ne_eq] at kk1
      exact lv_if_le F.1 F.2.1 hd ha (fun q => by rw [if_pos q] at kk1; exact kk1) (fun q => by first | (rw [if_neg q] at kk1; exact kk1) | (rw [if_neg (fun z => z q)] at kk1; exact kk1))
  · cases hs
theorem sdi_icmp {k : ClassFile.Cond} {off : Int} {a : Nat} (ha : (pc : Int) + off = (a : Int)) (F : sd_Fix p s m args meth c cc nL o ini D cy) (hd : decode cc pc = .ok (.if_icmp k off, 3)) (hn : n = pc + 3) (hs : pm_icmp k a n L st h = some (.inl (pc', L', st', h'))) (kk : sd_G p l e R s m args below meth c Q D cy ad0 n0 s0 A H0 nL pc' L' st' h') : sd_G p l e R s m args below meth c Q D cy ad0 n0 s0 A H0 nL pc L st h := by
  unfold pm_icmp at hs
  split at hs
  · rename_i y x r
    cases hs
    intro ad H locs ls ⟨r1, r2, r3, r4, r5, r6, r7, r8, r9, r10, r11⟩
    subst hn
    have kk1 := fun hr : 0 = 0 => kk ad H locs ls ⟨r1, r2, fun v hv => r3 v (List.mem_cons_of_mem _ (List.mem_cons_of_mem _ hv)), r4, r5, r6, r7, r8, r9, r10, r11⟩
    have kk1 := kk1 rfl
    cases k
    · simp only [pm_rel, decide_eq_true_eq, ne_eq] at kk1
      exact lv_icmp_eq F.1 F.2.1 hd ha (fun q => by rw [if_pos q] at kk1; exact kk1) (fun q => by first | (rw [if_neg q] at kk1; exact kk1) | (rw [if_neg (fun z => z q)] at kk1; exact kk1))
    · simp only [pm_rel, decide_eq_true_eq, ne_eq] at kk1
      exact lv_icmp_ne F.1 F.2.1 hd ha (fun q => by rw [if_pos q] at kk1; exact kk1) (fun q => by first | (rw [if_neg q] at kk1; exact kk1) | (rw [if_neg (fun z => z q)] at kk1; exact kk1))
    · simp only [pm_rel, decide_eq_true_eq, ne_eq] at kk1
      exact lv_icmp_lt F.1 F.2.1 hd ha (fun q => by rw [if_pos q] at kk1; exact kk1) (fun q => by first | (rw [if_neg q] at kk1; exact kk1) | (rw [if_neg (fun z => z q)] at kk1; exact kk1))
    · simp only [pm_rel, decide_eq_true_eq, ne_eq] at kk1
      exact lv_icmp_ge F.1 F.2.1 hd ha (fun q => by rw [if_pos q] at kk1; exact kk1) (fun q => by first | (rw [if_neg q] at kk1; exact kk1) | (rw [if_neg (fun z => z q)] at kk1; exact kk1))
    · simp only [pm_rel, decide_eq_true_eq, ne_eq] at kk1
      exact lv_icmp_gt F.1 F.2.1 hd ha (fun q => by rw [if_pos q] at kk1; exact kk1) (fun q => by first | (rw [if_neg q] at kk1; exact kk1) | (rw [if_neg (fun z => z q)] at kk1; exact kk1))
    · simp only [pm_rel, decide_eq_true_eq, ne_eq] at kk1
      exact lv_icmp_le F.1 F.2.1 hd ha (fun q => by rw [if_pos q] at kk1; exact kk1) (fun q => by first | (rw [if_neg q] at kk1; exact kk1) | (rw [if_neg (fun z => z q)] at kk1; exact kk1))
  · cases hs
theorem sdi_sw {df lo hi : Int} {offs : Array Int} {len a : Nat} (F : sd_Fix p s m args meth c cc nL o ini D cy) (hd : decode cc pc = .ok (.tableswitch df lo hi offs, len)) (ha : (pc : Int) + df = (a : Int)) (hs : pm_sw lo hi offs pc a n L st h = some (.inl (pc', L', st', h'))) (kk : sd_G p l e R s m args below meth c Q D cy ad0 n0 s0 A H0 nL pc' L' st' h') : sd_G p l e R s m args below meth c Q D cy ad0 n0 s0 A H0 nL pc L st h := by
  unfold pm_sw at hs
  split at hs
  · rename_i x r
    split at hs
    · rename_i hx
      cases hs
      intro ad H locs ls ⟨r1, r2, r3, r4, r5, r6, r7, r8, r9, r10, r11⟩
      exact lv_tableOut F.1 F.2.1 hd hx ha (kk ad H locs ls ⟨r1, r2, fun v hv => r3 v (List.mem_cons_of_mem _ hv), r4, r5, r6, r7, r8, r9, r10, r11⟩)
    · rename_i hx
      split at hs
      · rename_i off ho
        split at hs
        · rename_i hz
          cases hs
          intro ad H locs ls ⟨r1, r2, r3, r4, r5, r6, r7, r8, r9, r10, r11⟩
          exact lv_tableIn F.1 F.2.1 hd (fun z => hx (Or.inl z)) (fun z => hx (Or.inr z)) ho (Int.toNat_of_nonneg hz).symm (kk ad H locs ls ⟨r1, r2, fun v hv => r3 v (List.mem_cons_of_mem _ hv), r4, r5, r6, r7, r8, r9, r10, r11⟩)
        · cases hs
      · cases hs
  · cases hs
end SDS
