theorem sn_iconst {G : en_G} {M : en_Me} {pc : Nat} {k : en_B} {n : Int} {v : Int32} (hd : decode M.1 pc = .ok (.iconst n, 1)) (hv : Int32.ofInt n = v) (hk : en_Snd G M (pc + 1) k) : en_Snd G M pc (op_const v k) := by
  intro L S z σ rr h p ee R s m args below meth c al Q X Dn H locs cells slots ls hH hL hS
  exact lv_iconst X.1 X.2.1 hd hv (hk L (.inl v :: S) z σ rr h p ee R s m args below meth c al Q X Dn H locs cells slots ls hH hL (en_i hS))
theorem sn_bipush {G : en_G} {M : en_Me} {pc : Nat} {k : en_B} {n : Int} {v : Int32} (hd : decode M.1 pc = .ok (.bipush n, 2)) (hv : (Int8.ofInt n).toInt32 = v) (hk : en_Snd G M (pc + 2) k) : en_Snd G M pc (op_const v k) := by
  intro L S z σ rr h p ee R s m args below meth c al Q X Dn H locs cells slots ls hH hL hS
  exact lv_bipush X.1 X.2.1 hd hv (hk L (.inl v :: S) z σ rr h p ee R s m args below meth c al Q X Dn H locs cells slots ls hH hL (en_i hS))
theorem sn_sipush {G : en_G} {M : en_Me} {pc : Nat} {k : en_B} {n : Int} {v : Int32} (hd : decode M.1 pc = .ok (.sipush n, 3)) (hv : (Int16.ofInt n).toInt32 = v) (hk : en_Snd G M (pc + 3) k) : en_Snd G M pc (op_const v k) := by
  intro L S z σ rr h p ee R s m args below meth c al Q X Dn H locs cells slots ls hH hL hS
  exact lv_sipush X.1 X.2.1 hd hv (hk L (.inl v :: S) z σ rr h p ee R s m args below meth c al Q X Dn H locs cells slots ls hH hL (en_i hS))
theorem sn_ldc {G : en_G} {M : en_Me} {pc : Nat} {k : en_B} {n : Nat} {v : Int32} (hw : (.constant M.2.1 n v : Cond) ∈ en_wl) (hd : decode M.1 pc = .ok (.ldc n, 2)) (hk : en_Snd G M (pc + 2) k) : en_Snd G M pc (op_const v k) := by
  intro L S z σ rr h p ee R s m args below meth c al Q X Dn H locs cells slots ls hH hL hS
  exact lv_ldc X.1 X.2.1 X.2.2.2.1 (X.2.2.2.2.1 _ hw) hd (hk L (.inl v :: S) z σ rr h p ee R s m args below meth c al Q X Dn H locs cells slots ls hH hL (en_i hS))
theorem sn_ldcw {G : en_G} {M : en_Me} {pc : Nat} {k : en_B} {n : Nat} {v : Int32} (hw : (.constant M.2.1 n v : Cond) ∈ en_wl) (hd : decode M.1 pc = .ok (.ldc_w n, 3)) (hk : en_Snd G M (pc + 3) k) : en_Snd G M pc (op_const v k) := by
  intro L S z σ rr h p ee R s m args below meth c al Q X Dn H locs cells slots ls hH hL hS
  exact lv_ldcw X.1 X.2.1 X.2.2.2.1 (X.2.2.2.2.1 _ hw) hd (hk L (.inl v :: S) z σ rr h p ee R s m args below meth c al Q X Dn H locs cells slots ls hH hL (en_i hS))
theorem sn_iload_n {G : en_G} {M : en_Me} {pc : Nat} {k : en_B} {i : Nat} {n : Fin 4} (hd : decode M.1 pc = .ok (.iload_n n, 1)) (hi : (n : Nat) = i) (hk : en_Snd G M (pc + 1) k) : en_Snd G M pc (op_iload i k) := by
  intro L S z σ rr h p ee R s m args below meth c al Q X Dn H locs cells slots ls hH hL hS
  unfold op_iload at h
  split at h
  · rename_i x hx
    exact lv_iload_n X.1 X.2.1 hd hi (hL.get hx (fun w e => nomatch e)).2 (hk L (.inl x :: S) z σ rr h p ee R s m args below meth c al Q X Dn H locs cells slots ls hH hL (en_i hS))
  · cases h
theorem sn_aload_n {G : en_G} {M : en_Me} {pc : Nat} {k : en_B} {i : Nat} {n : Fin 4} (hd : decode M.1 pc = .ok (.aload_n n, 1)) (hi : (n : Nat) = i) (hk : en_Snd G M (pc + 1) k) : en_Snd G M pc (op_aload i k) := by
  intro L S z σ rr h p ee R s m args below meth c al Q X Dn H locs cells slots ls hH hL hS
  unfold op_aload at h
  split at h
  · rename_i v hx
    cases hb : Nat.ble v.2.1 32 with
    | false => rw [hb] at h; cases h
    | true =>
      rw [hb] at h
      have hg := hL.get hx (fun w e => by cases e; intro q; rw [q] at hb; exact absurd hb (by decide))
      obtain ⟨a, ha⟩ := en_evref G v
      have hg2 := hg.2
      rw [ha] at hg2
      have hr := (hk L (.inr v :: S) z σ rr h p ee R s m args below meth c al Q X Dn H locs cells slots ls hH hL (en_v hg.1 hS))
      rw [List.map_cons, ha] at hr
      exact lv_aload_n X.1 X.2.1 hd hi hg2 hr
  · cases h
theorem sn_istore_n {G : en_G} {M : en_Me} {pc : Nat} {k : en_B} {i : Nat} {n : Fin 4} (hd : decode M.1 pc = .ok (.istore_n n, 1)) (hi : (n : Nat) = i) (hl : i < M.2.2.1) (hk : en_Snd G M (pc + 1) k) : en_Snd G M pc (op_istore i k) := by
  intro L S z σ rr h p ee R s m args below meth c al Q X Dn H locs cells slots ls hH hL hS
  unfold op_istore at h
  split at h
  · rename_i x S'
    refine lv_istore_n X.1 X.2.1 hd hi hL.has hl rfl (fun ls' h' => ?_)
    exact hk (L.set i (.inl x)) S' z σ rr h p ee R s m args below meth c al Q X Dn H locs cells slots ls' hH (hL.set (v := .inl x) trivial h') (en_tl hS)
  · cases h
theorem sn_astore_n {G : en_G} {M : en_Me} {pc : Nat} {k : en_B} {i : Nat} {n : Fin 4} (hd : decode M.1 pc = .ok (.astore_n n, 1)) (hi : (n : Nat) = i) (hl : i < M.2.2.1) (hk : en_Snd G M (pc + 1) k) : en_Snd G M pc (op_astore i k) := by
  intro L S z σ rr h p ee R s m args below meth c al Q X Dn H locs cells slots ls hH hL hS
  unfold op_astore at h
  split at h
  · rename_i v S'
    obtain ⟨a, ha⟩ := en_evref G v
    rw [List.map_cons, ha]
    refine lv_astore_n X.1 X.2.1 hd hi hL.has hl rfl (fun ls' h' => ?_)
    exact hk (L.set i (.inr v)) S' z σ rr h p ee R s m args below meth c al Q X Dn H locs cells slots ls' hH (hL.set (v := .inr v) (en_h hS) (by rw [ha]; exact h')) (en_tl hS)
  · cases h
theorem sn_iload {G : en_G} {M : en_Me} {pc : Nat} {k : en_B} {i : Nat} (hd : decode M.1 pc = .ok (.iload i, 2)) (hk : en_Snd G M (pc + 2) k) : en_Snd G M pc (op_iload i k) := by
  intro L S z σ rr h p ee R s m args below meth c al Q X Dn H locs cells slots ls hH hL hS
  unfold op_iload at h
  split at h
  · rename_i x hx
    exact lv_iload X.1 X.2.1 hd (hL.get hx (fun w e => nomatch e)).2 (hk L (.inl x :: S) z σ rr h p ee R s m args below meth c al Q X Dn H locs cells slots ls hH hL (en_i hS))
  · cases h
theorem sn_aload {G : en_G} {M : en_Me} {pc : Nat} {k : en_B} {i : Nat} (hd : decode M.1 pc = .ok (.aload i, 2)) (hk : en_Snd G M (pc + 2) k) : en_Snd G M pc (op_aload i k) := by
  intro L S z σ rr h p ee R s m args below meth c al Q X Dn H locs cells slots ls hH hL hS
  unfold op_aload at h
  split at h
  · rename_i v hx
    cases hb : Nat.ble v.2.1 32 with
    | false => rw [hb] at h; cases h
    | true =>
      rw [hb] at h
      have hg := hL.get hx (fun w e => by cases e; intro q; rw [q] at hb; exact absurd hb (by decide))
      obtain ⟨a, ha⟩ := en_evref G v
      have hg2 := hg.2
      rw [ha] at hg2
      have hr := (hk L (.inr v :: S) z σ rr h p ee R s m args below meth c al Q X Dn H locs cells slots ls hH hL (en_v hg.1 hS))
      rw [List.map_cons, ha] at hr
      exact lv_aload X.1 X.2.1 hd hg2 hr
  · cases h
theorem sn_istore {G : en_G} {M : en_Me} {pc : Nat} {k : en_B} {i : Nat} (hd : decode M.1 pc = .ok (.istore i, 2)) (hl : i < M.2.2.1) (hk : en_Snd G M (pc + 2) k) : en_Snd G M pc (op_istore i k) := by
  intro L S z σ rr h p ee R s m args below meth c al Q X Dn H locs cells slots ls hH hL hS
  unfold op_istore at h
  split at h
  · rename_i x S'
    refine lv_istore X.1 X.2.1 hd hL.has hl rfl (fun ls' h' => ?_)
    exact hk (L.set i (.inl x)) S' z σ rr h p ee R s m args below meth c al Q X Dn H locs cells slots ls' hH (hL.set (v := .inl x) trivial h') (en_tl hS)
  · cases h
theorem sn_astore {G : en_G} {M : en_Me} {pc : Nat} {k : en_B} {i : Nat} (hd : decode M.1 pc = .ok (.astore i, 2)) (hl : i < M.2.2.1) (hk : en_Snd G M (pc + 2) k) : en_Snd G M pc (op_astore i k) := by
  intro L S z σ rr h p ee R s m args below meth c al Q X Dn H locs cells slots ls hH hL hS
  unfold op_astore at h
  split at h
  · rename_i v S'
    obtain ⟨a, ha⟩ := en_evref G v
    rw [List.map_cons, ha]
    refine lv_astore X.1 X.2.1 hd hL.has hl rfl (fun ls' h' => ?_)
    exact hk (L.set i (.inr v)) S' z σ rr h p ee R s m args below meth c al Q X Dn H locs cells slots ls' hH (hL.set (v := .inr v) (en_h hS) (by rw [ha]; exact h')) (en_tl hS)
  · cases h
theorem sn_iinc {G : en_G} {M : en_Me} {pc : Nat} {k : en_B} {i : Nat} {n : Int} {v : Int32} (hd : decode M.1 pc = .ok (.iinc i n, 3)) (hv : Int32.ofInt n = v) (hk : en_Snd G M (pc + 3) k) : en_Snd G M pc (op_iinc i v k) := by
  intro L S z σ rr h p ee R s m args below meth c al Q X Dn H locs cells slots ls hH hL hS
  unfold op_iinc at h
  split at h
  · rename_i x hx
    have hl : lv_has ls M.2.2.1 ((i, .int x) :: en_ll G L) := ⟨hL.1, hL.2.1, List.forall_mem_cons.mpr ⟨(hL.get hx (fun w e => nomatch e)).2, hL.has.2.2⟩⟩
    subst hv
    refine lv_iinc (k := 0) X.1 X.2.1 hd hl rfl rfl (hL.lt hx) rfl (fun ls' h' => ?_)
    refine hk (L.set i (.inl (x + Int32.ofInt n))) S z σ rr h p ee R s m args below meth c al Q X Dn H locs cells slots ls' hH (hL.set (v := .inl (x + Int32.ofInt n)) trivial ⟨h'.1, h'.2.1, fun q hq => h'.2.2 q ?_⟩) hS
    rcases List.mem_cons.mp hq with r | r
    · rw [r]; exact List.mem_cons_self
    · exact List.mem_cons_of_mem _ (List.mem_filter.mpr ⟨List.mem_cons_of_mem _ (List.mem_filter.mp r).1, (List.mem_filter.mp r).2⟩)
  · cases h
theorem sn_iadd {G : en_G} {M : en_Me} {pc : Nat} {k : en_B} (hd : decode M.1 pc = .ok (.iadd, 1)) (hk : en_Snd G M (pc + 1) k) : en_Snd G M pc (op_bin (fun (x y : Int32) => x + y) k) := by
  intro L S z σ rr h p ee R s m args below meth c al Q X Dn H locs cells slots ls hH hL hS
  unfold op_bin at h
  split at h
  · rename_i y x S'
    exact lv_iadd X.1 X.2.1 hd (hk L (.inl ((fun (x y : Int32) => x + y) x y) :: S') z σ rr h p ee R s m args below meth c al Q X Dn H locs cells slots ls hH hL (en_i (en_tl (en_tl hS))))
  · cases h
theorem sn_isub {G : en_G} {M : en_Me} {pc : Nat} {k : en_B} (hd : decode M.1 pc = .ok (.isub, 1)) (hk : en_Snd G M (pc + 1) k) : en_Snd G M pc (op_bin (fun (x y : Int32) => x - y) k) := by
  intro L S z σ rr h p ee R s m args below meth c al Q X Dn H locs cells slots ls hH hL hS
  unfold op_bin at h
  split at h
  · rename_i y x S'
    exact lv_isub X.1 X.2.1 hd (hk L (.inl ((fun (x y : Int32) => x - y) x y) :: S') z σ rr h p ee R s m args below meth c al Q X Dn H locs cells slots ls hH hL (en_i (en_tl (en_tl hS))))
  · cases h
theorem sn_imul {G : en_G} {M : en_Me} {pc : Nat} {k : en_B} (hd : decode M.1 pc = .ok (.imul, 1)) (hk : en_Snd G M (pc + 1) k) : en_Snd G M pc (op_bin (fun (x y : Int32) => x * y) k) := by
  intro L S z σ rr h p ee R s m args below meth c al Q X Dn H locs cells slots ls hH hL hS
  unfold op_bin at h
  split at h
  · rename_i y x S'
    exact lv_imul X.1 X.2.1 hd (hk L (.inl ((fun (x y : Int32) => x * y) x y) :: S') z σ rr h p ee R s m args below meth c al Q X Dn H locs cells slots ls hH hL (en_i (en_tl (en_tl hS))))
  · cases h
theorem sn_iand {G : en_G} {M : en_Me} {pc : Nat} {k : en_B} (hd : decode M.1 pc = .ok (.iand, 1)) (hk : en_Snd G M (pc + 1) k) : en_Snd G M pc (op_bin (fun (x y : Int32) => x &&& y) k) := by
  intro L S z σ rr h p ee R s m args below meth c al Q X Dn H locs cells slots ls hH hL hS
  unfold op_bin at h
  split at h
  · rename_i y x S'
    exact lv_iand X.1 X.2.1 hd (hk L (.inl ((fun (x y : Int32) => x &&& y) x y) :: S') z σ rr h p ee R s m args below meth c al Q X Dn H locs cells slots ls hH hL (en_i (en_tl (en_tl hS))))
  · cases h
theorem sn_ior {G : en_G} {M : en_Me} {pc : Nat} {k : en_B} (hd : decode M.1 pc = .ok (.ior, 1)) (hk : en_Snd G M (pc + 1) k) : en_Snd G M pc (op_bin (fun (x y : Int32) => x ||| y) k) := by
  intro L S z σ rr h p ee R s m args below meth c al Q X Dn H locs cells slots ls hH hL hS
  unfold op_bin at h
  split at h
  · rename_i y x S'
    exact lv_ior X.1 X.2.1 hd (hk L (.inl ((fun (x y : Int32) => x ||| y) x y) :: S') z σ rr h p ee R s m args below meth c al Q X Dn H locs cells slots ls hH hL (en_i (en_tl (en_tl hS))))
  · cases h
theorem sn_ixor {G : en_G} {M : en_Me} {pc : Nat} {k : en_B} (hd : decode M.1 pc = .ok (.ixor, 1)) (hk : en_Snd G M (pc + 1) k) : en_Snd G M pc (op_bin (fun (x y : Int32) => x ^^^ y) k) := by
  intro L S z σ rr h p ee R s m args below meth c al Q X Dn H locs cells slots ls hH hL hS
  unfold op_bin at h
  split at h
  · rename_i y x S'
    exact lv_ixor X.1 X.2.1 hd (hk L (.inl ((fun (x y : Int32) => x ^^^ y) x y) :: S') z σ rr h p ee R s m args below meth c al Q X Dn H locs cells slots ls hH hL (en_i (en_tl (en_tl hS))))
  · cases h
theorem sn_ishl {G : en_G} {M : en_Me} {pc : Nat} {k : en_B} (hd : decode M.1 pc = .ok (.ishl, 1)) (hk : en_Snd G M (pc + 1) k) : en_Snd G M pc (op_bin en_shl k) := by
  intro L S z σ rr h p ee R s m args below meth c al Q X Dn H locs cells slots ls hH hL hS
  unfold op_bin at h
  split at h
  · rename_i y x S'
    exact lv_ishl X.1 X.2.1 hd (hk L (.inl (en_shl x y) :: S') z σ rr h p ee R s m args below meth c al Q X Dn H locs cells slots ls hH hL (en_i (en_tl (en_tl hS))))
  · cases h
theorem sn_ishr {G : en_G} {M : en_Me} {pc : Nat} {k : en_B} (hd : decode M.1 pc = .ok (.ishr, 1)) (hk : en_Snd G M (pc + 1) k) : en_Snd G M pc (op_bin en_shr k) := by
  intro L S z σ rr h p ee R s m args below meth c al Q X Dn H locs cells slots ls hH hL hS
  unfold op_bin at h
  split at h
  · rename_i y x S'
    exact lv_ishr X.1 X.2.1 hd (hk L (.inl (en_shr x y) :: S') z σ rr h p ee R s m args below meth c al Q X Dn H locs cells slots ls hH hL (en_i (en_tl (en_tl hS))))
  · cases h
theorem sn_iushr {G : en_G} {M : en_Me} {pc : Nat} {k : en_B} (hd : decode M.1 pc = .ok (.iushr, 1)) (hk : en_Snd G M (pc + 1) k) : en_Snd G M pc (op_bin en_ush k) := by
  intro L S z σ rr h p ee R s m args below meth c al Q X Dn H locs cells slots ls hH hL hS
  unfold op_bin at h
  split at h
  · rename_i y x S'
    exact lv_iushr X.1 X.2.1 hd rfl (hk L (.inl (en_ush x y) :: S') z σ rr h p ee R s m args below meth c al Q X Dn H locs cells slots ls hH hL (en_i (en_tl (en_tl hS))))
  · cases h
theorem sn_idiv {G : en_G} {M : en_Me} {pc : Nat} {k : en_B} (hd : decode M.1 pc = .ok (.idiv, 1)) (hk : en_Snd G M (pc + 1) k) : en_Snd G M pc (op_div (fun (x y : Int32) => x / y) k) := by
  intro L S z σ rr h p ee R s m args below meth c al Q X Dn H locs cells slots ls hH hL hS
  unfold op_div at h
  split at h
  · rename_i y x S'
    by_cases h0 : y = 0
    · rw [if_pos h0] at h; cases h
    · rw [if_neg h0] at h
      exact lv_idiv X.1 X.2.1 hd h0 (hk L (.inl ((fun (x y : Int32) => x / y) x y) :: S') z σ rr h p ee R s m args below meth c al Q X Dn H locs cells slots ls hH hL (en_i (en_tl (en_tl hS))))
  · cases h
theorem sn_irem {G : en_G} {M : en_Me} {pc : Nat} {k : en_B} (hd : decode M.1 pc = .ok (.irem, 1)) (hk : en_Snd G M (pc + 1) k) : en_Snd G M pc (op_div (fun (x y : Int32) => x - x / y * y) k) := by
  intro L S z σ rr h p ee R s m args below meth c al Q X Dn H locs cells slots ls hH hL hS
  unfold op_div at h
  split at h
  · rename_i y x S'
    by_cases h0 : y = 0
    · rw [if_pos h0] at h; cases h
    · rw [if_neg h0] at h
      exact lv_irem X.1 X.2.1 hd h0 (hk L (.inl ((fun (x y : Int32) => x - x / y * y) x y) :: S') z σ rr h p ee R s m args below meth c al Q X Dn H locs cells slots ls hH hL (en_i (en_tl (en_tl hS))))
  · cases h
theorem sn_ineg {G : en_G} {M : en_Me} {pc : Nat} {k : en_B} (hd : decode M.1 pc = .ok (.ineg, 1)) (hk : en_Snd G M (pc + 1) k) : en_Snd G M pc (op_un (fun (x : Int32) => -x) k) := by
  intro L S z σ rr h p ee R s m args below meth c al Q X Dn H locs cells slots ls hH hL hS
  unfold op_un at h
  split at h
  · rename_i x S'
    exact lv_ineg X.1 X.2.1 hd (hk L (.inl ((fun (x : Int32) => -x) x) :: S') z σ rr h p ee R s m args below meth c al Q X Dn H locs cells slots ls hH hL (en_i (en_tl hS)))
  · cases h
theorem sn_i2b {G : en_G} {M : en_Me} {pc : Nat} {k : en_B} (hd : decode M.1 pc = .ok (.i2b, 1)) (hk : en_Snd G M (pc + 1) k) : en_Snd G M pc (op_un en_i2b k) := by
  intro L S z σ rr h p ee R s m args below meth c al Q X Dn H locs cells slots ls hH hL hS
  unfold op_un at h
  split at h
  · rename_i x S'
    exact lv_i2b X.1 X.2.1 hd rfl (hk L (.inl (en_i2b x) :: S') z σ rr h p ee R s m args below meth c al Q X Dn H locs cells slots ls hH hL (en_i (en_tl hS)))
  · cases h
theorem sn_i2s {G : en_G} {M : en_Me} {pc : Nat} {k : en_B} (hd : decode M.1 pc = .ok (.i2s, 1)) (hk : en_Snd G M (pc + 1) k) : en_Snd G M pc (op_un en_i2s k) := by
  intro L S z σ rr h p ee R s m args below meth c al Q X Dn H locs cells slots ls hH hL hS
  unfold op_un at h
  split at h
  · rename_i x S'
    exact lv_i2s X.1 X.2.1 hd rfl (hk L (.inl (en_i2s x) :: S') z σ rr h p ee R s m args below meth c al Q X Dn H locs cells slots ls hH hL (en_i (en_tl hS)))
  · cases h
theorem sn_i2c {G : en_G} {M : en_Me} {pc : Nat} {k : en_B} (hd : decode M.1 pc = .ok (.i2c, 1)) (hk : en_Snd G M (pc + 1) k) : en_Snd G M pc (op_un en_i2c k) := by
  intro L S z σ rr h p ee R s m args below meth c al Q X Dn H locs cells slots ls hH hL hS
  unfold op_un at h
  split at h
  · rename_i x S'
    exact lv_i2c X.1 X.2.1 hd rfl (hk L (.inl (en_i2c x) :: S') z σ rr h p ee R s m args below meth c al Q X Dn H locs cells slots ls hH hL (en_i (en_tl hS)))
  · cases h
theorem sn_dup {G : en_G} {M : en_Me} {pc : Nat} {k : en_B} (hd : decode M.1 pc = .ok (.dup, 1)) (hk : en_Snd G M (pc + 1) k) : en_Snd G M pc (op_dup k) := by
  intro L S z σ rr h p ee R s m args below meth c al Q X Dn H locs cells slots ls hH hL hS
  unfold op_dup at h
  split at h
  · rename_i v S'
    exact lv_dup X.1 X.2.1 hd (en_cat G v) (hk L (v :: v :: S') z σ rr h p ee R s m args below meth c al Q X Dn H locs cells slots ls hH hL (en_v (en_h hS) hS))
  · cases h
theorem sn_dup2 {G : en_G} {M : en_Me} {pc : Nat} {k : en_B} (hd : decode M.1 pc = .ok (.dup2, 1)) (hk : en_Snd G M (pc + 1) k) : en_Snd G M pc (op_dup2 k) := by
  intro L S z σ rr h p ee R s m args below meth c al Q X Dn H locs cells slots ls hH hL hS
  unfold op_dup2 at h
  split at h
  · rename_i v w S'
    exact lv_dup2_11 X.1 X.2.1 hd (en_cat G v) (en_cat G w) (hk L (v :: w :: v :: w :: S') z σ rr h p ee R s m args below meth c al Q X Dn H locs cells slots ls hH hL (en_v (en_h hS) (en_v (en_h (en_tl hS)) hS)))
  · cases h
theorem sn_dupx1 {G : en_G} {M : en_Me} {pc : Nat} {k : en_B} (hd : decode M.1 pc = .ok (.dup_x1, 1)) (hk : en_Snd G M (pc + 1) k) : en_Snd G M pc (op_dupx1 k) := by
  intro L S z σ rr h p ee R s m args below meth c al Q X Dn H locs cells slots ls hH hL hS
  unfold op_dupx1 at h
  split at h
  · rename_i v w S'
    exact lv_dup_x1 X.1 X.2.1 hd (en_cat G v) (en_cat G w) (hk L (v :: w :: v :: S') z σ rr h p ee R s m args below meth c al Q X Dn H locs cells slots ls hH hL (en_v (en_h hS) (en_v (en_h (en_tl hS)) (en_v (en_h hS) (en_tl (en_tl hS))))))
  · cases h
theorem sn_pop {G : en_G} {M : en_Me} {pc : Nat} {k : en_B} (hd : decode M.1 pc = .ok (.pop, 1)) (hk : en_Snd G M (pc + 1) k) : en_Snd G M pc (op_pop k) := by
  intro L S z σ rr h p ee R s m args below meth c al Q X Dn H locs cells slots ls hH hL hS
  unfold op_pop at h
  split at h
  · rename_i v S'
    exact lv_pop X.1 X.2.1 hd (en_cat G v) (hk L S' z σ rr h p ee R s m args below meth c al Q X Dn H locs cells slots ls hH hL (en_tl hS))
  · cases h
theorem sn_goto {G : en_G} {M : en_Me} {pc : Nat} {k : en_B} {off : Int} {tgt : Nat} (hd : decode M.1 pc = .ok (.goto off, 3)) (ht : (pc : Int) + off = (tgt : Int)) (hk : en_Snd G M tgt k) : en_Snd G M pc k := by
  intro L S z σ rr h p ee R s m args below meth c al Q X Dn H locs cells slots ls hH hL hS
  exact lv_goto X.1 X.2.1 hd ht (hk L S z σ rr h p ee R s m args below meth c al Q X Dn H locs cells slots ls hH hL hS)
theorem sn_cut {G : en_G} {M : en_Me} {pc : Nat} : en_Snd G M pc (op_cut pc) := by
  intro L S z σ rr h p ee R s m args below meth c al Q X Dn H locs cells slots ls hH hL hS
  unfold op_cut at h
  cases h
  exact Dn H locs cells slots ls hH hL hS
theorem sn_ifeq {G : en_G} {M : en_Me} {pc : Nat} {k kt : en_B} {off : Int} {tgt : Nat} (hd : decode M.1 pc = .ok (.ifCond .eq off, 3)) (ht : (pc : Int) + off = (tgt : Int)) (hkt : en_Snd G M tgt kt) (hk : en_Snd G M (pc + 3) k) : en_Snd G M pc (op_ifeq kt k) := by
  intro L S z σ rr h p ee R s m args below meth c al Q X Dn H locs cells slots ls hH hL hS
  unfold op_ifeq at h
  split at h
  · rename_i x S'
    exact lv_if_eq X.1 X.2.1 hd ht (fun c1 => by rw [if_pos c1] at h; exact hkt L S' z σ rr h p ee R s m args below meth c al Q X Dn H locs cells slots ls hH hL (en_tl hS)) (fun c1 => by rw [if_neg c1] at h; exact hk L S' z σ rr h p ee R s m args below meth c al Q X Dn H locs cells slots ls hH hL (en_tl hS))
  · cases h
theorem sn_iceq {G : en_G} {M : en_Me} {pc : Nat} {k kt : en_B} {off : Int} {tgt : Nat} (hd : decode M.1 pc = .ok (.if_icmp .eq off, 3)) (ht : (pc : Int) + off = (tgt : Int)) (hkt : en_Snd G M tgt kt) (hk : en_Snd G M (pc + 3) k) : en_Snd G M pc (op_iceq kt k) := by
  intro L S z σ rr h p ee R s m args below meth c al Q X Dn H locs cells slots ls hH hL hS
  unfold op_iceq at h
  split at h
  · rename_i y x S'
    exact lv_icmp_eq X.1 X.2.1 hd ht (fun c1 => by rw [if_pos c1] at h; exact hkt L S' z σ rr h p ee R s m args below meth c al Q X Dn H locs cells slots ls hH hL (en_tl (en_tl hS))) (fun c1 => by rw [if_neg c1] at h; exact hk L S' z σ rr h p ee R s m args below meth c al Q X Dn H locs cells slots ls hH hL (en_tl (en_tl hS)))
  · cases h
theorem sn_ifne {G : en_G} {M : en_Me} {pc : Nat} {k kt : en_B} {off : Int} {tgt : Nat} (hd : decode M.1 pc = .ok (.ifCond .ne off, 3)) (ht : (pc : Int) + off = (tgt : Int)) (hkt : en_Snd G M tgt kt) (hk : en_Snd G M (pc + 3) k) : en_Snd G M pc (op_ifeq k kt) := by
  intro L S z σ rr h p ee R s m args below meth c al Q X Dn H locs cells slots ls hH hL hS
  unfold op_ifeq at h
  split at h
  · rename_i x S'
    exact lv_if_ne X.1 X.2.1 hd ht (fun c1 => by rw [if_neg c1] at h; exact hkt L S' z σ rr h p ee R s m args below meth c al Q X Dn H locs cells slots ls hH hL (en_tl hS)) (fun c1 => by rw [if_pos c1] at h; exact hk L S' z σ rr h p ee R s m args below meth c al Q X Dn H locs cells slots ls hH hL (en_tl hS))
  · cases h
theorem sn_icne {G : en_G} {M : en_Me} {pc : Nat} {k kt : en_B} {off : Int} {tgt : Nat} (hd : decode M.1 pc = .ok (.if_icmp .ne off, 3)) (ht : (pc : Int) + off = (tgt : Int)) (hkt : en_Snd G M tgt kt) (hk : en_Snd G M (pc + 3) k) : en_Snd G M pc (op_iceq k kt) := by
  intro L S z σ rr h p ee R s m args below meth c al Q X Dn H locs cells slots ls hH hL hS
  unfold op_iceq at h
  split at h
  · rename_i y x S'
    exact lv_icmp_ne X.1 X.2.1 hd ht (fun c1 => by rw [if_neg c1] at h; exact hkt L S' z σ rr h p ee R s m args below meth c al Q X Dn H locs cells slots ls hH hL (en_tl (en_tl hS))) (fun c1 => by rw [if_pos c1] at h; exact hk L S' z σ rr h p ee R s m args below meth c al Q X Dn H locs cells slots ls hH hL (en_tl (en_tl hS)))
  · cases h
theorem sn_iflt {G : en_G} {M : en_Me} {pc : Nat} {k kt : en_B} {off : Int} {tgt : Nat} (hd : decode M.1 pc = .ok (.ifCond .lt off, 3)) (ht : (pc : Int) + off = (tgt : Int)) (hkt : en_Snd G M tgt kt) (hk : en_Snd G M (pc + 3) k) : en_Snd G M pc (op_iflt kt k) := by
  intro L S z σ rr h p ee R s m args below meth c al Q X Dn H locs cells slots ls hH hL hS
  unfold op_iflt at h
  split at h
  · rename_i x S'
    exact lv_if_lt X.1 X.2.1 hd ht (fun c1 => by rw [if_pos c1] at h; exact hkt L S' z σ rr h p ee R s m args below meth c al Q X Dn H locs cells slots ls hH hL (en_tl hS)) (fun c1 => by rw [if_neg c1] at h; exact hk L S' z σ rr h p ee R s m args below meth c al Q X Dn H locs cells slots ls hH hL (en_tl hS))
  · cases h
theorem sn_iclt {G : en_G} {M : en_Me} {pc : Nat} {k kt : en_B} {off : Int} {tgt : Nat} (hd : decode M.1 pc = .ok (.if_icmp .lt off, 3)) (ht : (pc : Int) + off = (tgt : Int)) (hkt : en_Snd G M tgt kt) (hk : en_Snd G M (pc + 3) k) : en_Snd G M pc (op_iclt kt k) := by
  intro L S z σ rr h p ee R s m args below meth c al Q X Dn H locs cells slots ls hH hL hS
  unfold op_iclt at h
  split at h
  · rename_i y x S'
    exact lv_icmp_lt X.1 X.2.1 hd ht (fun c1 => by rw [if_pos c1] at h; exact hkt L S' z σ rr h p ee R s m args below meth c al Q X Dn H locs cells slots ls hH hL (en_tl (en_tl hS))) (fun c1 => by rw [if_neg c1] at h; exact hk L S' z σ rr h p ee R s m args below meth c al Q X Dn H locs cells slots ls hH hL (en_tl (en_tl hS)))
  · cases h
theorem sn_ifge {G : en_G} {M : en_Me} {pc : Nat} {k kt : en_B} {off : Int} {tgt : Nat} (hd : decode M.1 pc = .ok (.ifCond .ge off, 3)) (ht : (pc : Int) + off = (tgt : Int)) (hkt : en_Snd G M tgt kt) (hk : en_Snd G M (pc + 3) k) : en_Snd G M pc (op_iflt k kt) := by
  intro L S z σ rr h p ee R s m args below meth c al Q X Dn H locs cells slots ls hH hL hS
  unfold op_iflt at h
  split at h
  · rename_i x S'
    exact lv_if_ge X.1 X.2.1 hd ht (fun c1 => by rw [if_neg (Int32.not_lt.mpr c1)] at h; exact hkt L S' z σ rr h p ee R s m args below meth c al Q X Dn H locs cells slots ls hH hL (en_tl hS)) (fun c1 => by rw [if_pos (Int32.not_le.mp c1)] at h; exact hk L S' z σ rr h p ee R s m args below meth c al Q X Dn H locs cells slots ls hH hL (en_tl hS))
  · cases h
theorem sn_icge {G : en_G} {M : en_Me} {pc : Nat} {k kt : en_B} {off : Int} {tgt : Nat} (hd : decode M.1 pc = .ok (.if_icmp .ge off, 3)) (ht : (pc : Int) + off = (tgt : Int)) (hkt : en_Snd G M tgt kt) (hk : en_Snd G M (pc + 3) k) : en_Snd G M pc (op_iclt k kt) := by
  intro L S z σ rr h p ee R s m args below meth c al Q X Dn H locs cells slots ls hH hL hS
  unfold op_iclt at h
  split at h
  · rename_i y x S'
    exact lv_icmp_ge X.1 X.2.1 hd ht (fun c1 => by rw [if_neg (Int32.not_lt.mpr c1)] at h; exact hkt L S' z σ rr h p ee R s m args below meth c al Q X Dn H locs cells slots ls hH hL (en_tl (en_tl hS))) (fun c1 => by rw [if_pos (Int32.not_le.mp c1)] at h; exact hk L S' z σ rr h p ee R s m args below meth c al Q X Dn H locs cells slots ls hH hL (en_tl (en_tl hS)))
  · cases h
theorem sn_ifgt {G : en_G} {M : en_Me} {pc : Nat} {k kt : en_B} {off : Int} {tgt : Nat} (hd : decode M.1 pc = .ok (.ifCond .gt off, 3)) (ht : (pc : Int) + off = (tgt : Int)) (hkt : en_Snd G M tgt kt) (hk : en_Snd G M (pc + 3) k) : en_Snd G M pc (op_ifgt kt k) := by
  intro L S z σ rr h p ee R s m args below meth c al Q X Dn H locs cells slots ls hH hL hS
  unfold op_ifgt at h
  split at h
  · rename_i x S'
    exact lv_if_gt X.1 X.2.1 hd ht (fun c1 => by rw [if_pos c1] at h; exact hkt L S' z σ rr h p ee R s m args below meth c al Q X Dn H locs cells slots ls hH hL (en_tl hS)) (fun c1 => by rw [if_neg c1] at h; exact hk L S' z σ rr h p ee R s m args below meth c al Q X Dn H locs cells slots ls hH hL (en_tl hS))
  · cases h
theorem sn_icgt {G : en_G} {M : en_Me} {pc : Nat} {k kt : en_B} {off : Int} {tgt : Nat} (hd : decode M.1 pc = .ok (.if_icmp .gt off, 3)) (ht : (pc : Int) + off = (tgt : Int)) (hkt : en_Snd G M tgt kt) (hk : en_Snd G M (pc + 3) k) : en_Snd G M pc (op_icgt kt k) := by
  intro L S z σ rr h p ee R s m args below meth c al Q X Dn H locs cells slots ls hH hL hS
  unfold op_icgt at h
  split at h
  · rename_i y x S'
    exact lv_icmp_gt X.1 X.2.1 hd ht (fun c1 => by rw [if_pos c1] at h; exact hkt L S' z σ rr h p ee R s m args below meth c al Q X Dn H locs cells slots ls hH hL (en_tl (en_tl hS))) (fun c1 => by rw [if_neg c1] at h; exact hk L S' z σ rr h p ee R s m args below meth c al Q X Dn H locs cells slots ls hH hL (en_tl (en_tl hS)))
  · cases h
theorem sn_ifle {G : en_G} {M : en_Me} {pc : Nat} {k kt : en_B} {off : Int} {tgt : Nat} (hd : decode M.1 pc = .ok (.ifCond .le off, 3)) (ht : (pc : Int) + off = (tgt : Int)) (hkt : en_Snd G M tgt kt) (hk : en_Snd G M (pc + 3) k) : en_Snd G M pc (op_ifgt k kt) := by
  intro L S z σ rr h p ee R s m args below meth c al Q X Dn H locs cells slots ls hH hL hS
  unfold op_ifgt at h
  split at h
  · rename_i x S'
    exact lv_if_le X.1 X.2.1 hd ht (fun c1 => by rw [if_neg (Int32.not_lt.mpr c1)] at h; exact hkt L S' z σ rr h p ee R s m args below meth c al Q X Dn H locs cells slots ls hH hL (en_tl hS)) (fun c1 => by rw [if_pos (Int32.not_le.mp c1)] at h; exact hk L S' z σ rr h p ee R s m args below meth c al Q X Dn H locs cells slots ls hH hL (en_tl hS))
  · cases h
theorem sn_icle {G : en_G} {M : en_Me} {pc : Nat} {k kt : en_B} {off : Int} {tgt : Nat} (hd : decode M.1 pc = .ok (.if_icmp .le off, 3)) (ht : (pc : Int) + off = (tgt : Int)) (hkt : en_Snd G M tgt kt) (hk : en_Snd G M (pc + 3) k) : en_Snd G M pc (op_icgt k kt) := by
  intro L S z σ rr h p ee R s m args below meth c al Q X Dn H locs cells slots ls hH hL hS
  unfold op_icgt at h
  split at h
  · rename_i y x S'
    exact lv_icmp_le X.1 X.2.1 hd ht (fun c1 => by rw [if_neg (Int32.not_lt.mpr c1)] at h; exact hkt L S' z σ rr h p ee R s m args below meth c al Q X Dn H locs cells slots ls hH hL (en_tl (en_tl hS))) (fun c1 => by rw [if_pos (Int32.not_le.mp c1)] at h; exact hk L S' z σ rr h p ee R s m args below meth c al Q X Dn H locs cells slots ls hH hL (en_tl (en_tl hS)))
  · cases h
theorem sn_iret {G : en_G} {M : en_Me} {pc : Nat} (hd : decode M.1 pc = .ok (.ireturn, 1)) (hb : M.2.2.2.2.2 = false) : en_Snd G M pc op_iret := by
  intro L S z σ rr h p ee R s m args below meth c al Q X Dn H locs cells slots ls hH hL hS
  unfold op_iret at h
  split at h
  · rename_i x
    cases h
    exact (Dn H locs cells slots ls pc hH).1 x rfl hd (fun q => by rw [hb] at q; cases q)
  · cases h
theorem sn_zret {G : en_G} {M : en_Me} {pc : Nat} (hd : decode M.1 pc = .ok (.ireturn, 1)) : en_Snd G M pc op_zret := by
  intro L S z σ rr h p ee R s m args below meth c al Q X Dn H locs cells slots ls hH hL hS
  unfold op_zret at h
  split at h
  · rename_i x
    by_cases hx : x = 0 ∨ x = 1
    · rw [if_pos hx] at h
      cases h
      exact (Dn H locs cells slots ls pc hH).1 x rfl hd (fun _ => hx)
    · rw [if_neg hx] at h; cases h
  · cases h
theorem sn_vret {G : en_G} {M : en_Me} {pc : Nat} (hd : decode M.1 pc = .ok (.return_, 1)) : en_Snd G M pc op_vret := by
  intro L S z σ rr h p ee R s m args below meth c al Q X Dn H locs cells slots ls hH hL hS
  unfold op_vret at h
  split at h
  · cases h
    exact (Dn H locs cells slots ls pc hH).2 rfl hd
  · cases h
