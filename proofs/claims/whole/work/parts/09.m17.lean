-- EachMayMissOneModel.readChange()I
def M_X12_readChange : en_Me := (cX12_readChange, RX12, 3, false, 4, false)
theorem cs_X12_readChange : en_cs yX12_readChange cX12_readChange 3 (some .int) 0 := ⟨wm_437, wm_337, ⟨(by decide +kernel), (by decide +kernel), (by decide +kernel)⟩, (Nat.le_of_ble_eq_true rfl)⟩
noncomputable def B_X12_readChange_106 (kc : Nat → en_B) : en_B := (op_iload 1 op_iret)
set_option maxRecDepth 20000 in
theorem s_X12_readChange_106 (G : en_G) (hst : G.2.2.2.2.2 = true) (kc : Nat → en_B) (hk : ∀ t, en_Snd G M_X12_readChange t (kc t)) : en_Snd G M_X12_readChange 106 (B_X12_readChange_106 kc) := (sn_iload_n (i := 1) (n := 1) (by decide +kernel) rfl (sn_iret (by decide +kernel) rfl))
noncomputable def B_X12_readChange_86 (kc : Nat → en_B) : en_B := (op_aload 0 (op_const (49 : Int32) (op_aload 0 (op_geti 12 1 (op_rcv 12 2 (op_calli O_X12_oneOf 3 (op_istore 2 (op_iload 1 (op_const (1 : Int32) (op_iload 2 (op_bin en_shl (op_bin (fun (x y : Int32) => x ||| y) (op_istore 1 (kc 15))))))))))))))
set_option maxRecDepth 20000 in
theorem s_X12_readChange_86 (G : en_G) (hst : G.2.2.2.2.2 = true) (kc : Nat → en_B) (hk : ∀ t, en_Snd G M_X12_readChange t (kc t)) : en_Snd G M_X12_readChange 86 (B_X12_readChange_86 kc) := (sn_aload_n (i := 0) (n := 0) (by decide +kernel) rfl (sn_bipush (n := 49) (v := 49) (by decide +kernel) rfl (sn_aload_n (i := 0) (n := 0) (by decide +kernel) rfl (sn_geti (ci := 12) (j := 1) en_c12 (by decide +kernel) wm_383 (Nat.le_of_ble_eq_true rfl) rfl (sn_callVi (n := 2) (idx := 141) (ci := 12) (i_X12_oneOf G hst) (Nat.le_of_ble_eq_true rfl) cs_X12_oneOf ⟨wm_426, wm_427, wm_432⟩ ⟨⟨_, rfl, rfl⟩, (Nat.le_of_ble_eq_true rfl)⟩ (by decide +kernel) (sn_istore_n (i := 2) (n := 2) (by decide +kernel) rfl (Nat.le_of_ble_eq_true rfl) (sn_iload_n (i := 1) (n := 1) (by decide +kernel) rfl (sn_iconst (n := 1) (v := 1) (by decide +kernel) rfl (sn_iload_n (i := 2) (n := 2) (by decide +kernel) rfl (sn_ishl (by decide +kernel) (sn_ior (by decide +kernel) (sn_istore_n (i := 1) (n := 1) (by decide +kernel) rfl (Nat.le_of_ble_eq_true rfl) (sn_goto (off := -88) (tgt := 15) (by decide +kernel) rfl (hk 15))))))))))))))
noncomputable def B_X12_readChange_45 (kc : Nat → en_B) : en_B := (op_aload 0 (op_rcv 12 0 (op_calli O_X12_here 1 (op_const (49 : Int32) (op_const (48 : Int32) (op_aload 0 (op_geti 12 1 (op_bin (fun (x y : Int32) => x + y) (op_calli O_X12_in 3 (op_ifeq (B_X12_readChange_86 kc) (op_aload 0 (op_rcv 12 0 (op_calli O_X12_here 1 (op_const (49 : Int32) (op_bin (fun (x y : Int32) => x - y) (op_iload 2 (op_icgt (B_X12_readChange_86 kc) (op_aload 0 (op_aload 0 (op_geti 12 15 (op_rcv 12 1 (op_callv O_X12_fault 2 (kc 15)))))))))))))))))))))))
set_option maxRecDepth 20000 in
theorem s_X12_readChange_45 (G : en_G) (hst : G.2.2.2.2.2 = true) (kc : Nat → en_B) (hk : ∀ t, en_Snd G M_X12_readChange t (kc t)) : en_Snd G M_X12_readChange 45 (B_X12_readChange_45 kc) := (sn_aload_n (i := 0) (n := 0) (by decide +kernel) rfl (sn_callVi (n := 0) (idx := 134) (ci := 12) (i_X12_here G hst) (Nat.le_of_ble_eq_true rfl) cs_X12_here ⟨wm_412, wm_413, wm_424⟩ ⟨⟨_, rfl, rfl⟩, (Nat.le_of_ble_eq_true rfl)⟩ (by decide +kernel) (sn_bipush (n := 49) (v := 49) (by decide +kernel) rfl (sn_bipush (n := 48) (v := 48) (by decide +kernel) rfl (sn_aload_n (i := 0) (n := 0) (by decide +kernel) rfl (sn_geti (ci := 12) (j := 1) en_c12 (by decide +kernel) wm_383 (Nat.le_of_ble_eq_true rfl) rfl (sn_iadd (by decide +kernel) (sn_callSi (n := 3) (idx := 100) (i_X12_in G hst) (Nat.le_of_ble_eq_true rfl) cs_X12_in ⟨wm_370, Or.inl wm_384⟩ (by decide +kernel) (sn_ifeq (off := 25) (tgt := 86) (by decide +kernel) rfl (s_X12_readChange_86 G hst kc hk) (sn_aload_n (i := 0) (n := 0) (by decide +kernel) rfl (sn_callVi (n := 0) (idx := 134) (ci := 12) (i_X12_here G hst) (Nat.le_of_ble_eq_true rfl) cs_X12_here ⟨wm_412, wm_413, wm_424⟩ ⟨⟨_, rfl, rfl⟩, (Nat.le_of_ble_eq_true rfl)⟩ (by decide +kernel) (sn_bipush (n := 49) (v := 49) (by decide +kernel) rfl (sn_isub (by decide +kernel) (sn_iload_n (i := 2) (n := 2) (by decide +kernel) rfl (sn_icgt (off := 14) (tgt := 86) (by decide +kernel) rfl (s_X12_readChange_86 G hst kc hk) (sn_aload_n (i := 0) (n := 0) (by decide +kernel) rfl (sn_aload_n (i := 0) (n := 0) (by decide +kernel) rfl (sn_geti (ci := 12) (j := 15) en_c12 (by decide +kernel) wm_409 (Nat.le_of_ble_eq_true rfl) rfl (sn_callVv (n := 1) (idx := 137) (ci := 12) (i_X12_fault G hst) (Nat.le_of_ble_eq_true rfl) cs_X12_fault ⟨wm_418, wm_419, wm_428⟩ ⟨⟨_, rfl, rfl⟩, (Nat.le_of_ble_eq_true rfl)⟩ (by decide +kernel) (sn_goto (off := -68) (tgt := 15) (by decide +kernel) rfl (hk 15)))))))))))))))))))))
noncomputable def B_X12_readChange_15 (kc : Nat → en_B) : en_B := (op_aload 0 (op_rcv 12 0 (op_calli O_X12_fine 1 (op_ifeq (B_X12_readChange_106 kc) (op_iload 1 (op_ifeq (B_X12_readChange_45 kc) (op_aload 0 (op_rcv 12 0 (op_calli O_X12_here 1 (op_const (49 : Int32) (op_const (48 : Int32) (op_aload 0 (op_geti 12 1 (op_bin (fun (x y : Int32) => x + y) (op_calli O_X12_in 3 (op_ifeq (B_X12_readChange_106 kc) (B_X12_readChange_45 kc)))))))))))))))))
set_option maxRecDepth 20000 in
theorem s_X12_readChange_15 (G : en_G) (hst : G.2.2.2.2.2 = true) (kc : Nat → en_B) (hk : ∀ t, en_Snd G M_X12_readChange t (kc t)) : en_Snd G M_X12_readChange 15 (B_X12_readChange_15 kc) := (sn_aload_n (i := 0) (n := 0) (by decide +kernel) rfl (sn_callVi (n := 0) (idx := 130) (ci := 12) (i_X12_fine G hst) (Nat.le_of_ble_eq_true rfl) cs_X12_fine ⟨wm_415, wm_416, wm_420⟩ ⟨⟨_, rfl, rfl⟩, (Nat.le_of_ble_eq_true rfl)⟩ (by decide +kernel) (sn_ifeq (off := 87) (tgt := 106) (by decide +kernel) rfl (s_X12_readChange_106 G hst kc hk) (sn_iload_n (i := 1) (n := 1) (by decide +kernel) rfl (sn_ifeq (off := 22) (tgt := 45) (by decide +kernel) rfl (s_X12_readChange_45 G hst kc hk) (sn_aload_n (i := 0) (n := 0) (by decide +kernel) rfl (sn_callVi (n := 0) (idx := 134) (ci := 12) (i_X12_here G hst) (Nat.le_of_ble_eq_true rfl) cs_X12_here ⟨wm_412, wm_413, wm_424⟩ ⟨⟨_, rfl, rfl⟩, (Nat.le_of_ble_eq_true rfl)⟩ (by decide +kernel) (sn_bipush (n := 49) (v := 49) (by decide +kernel) rfl (sn_bipush (n := 48) (v := 48) (by decide +kernel) rfl (sn_aload_n (i := 0) (n := 0) (by decide +kernel) rfl (sn_geti (ci := 12) (j := 1) en_c12 (by decide +kernel) wm_383 (Nat.le_of_ble_eq_true rfl) rfl (sn_iadd (by decide +kernel) (sn_callSi (n := 3) (idx := 100) (i_X12_in G hst) (Nat.le_of_ble_eq_true rfl) cs_X12_in ⟨wm_370, Or.inl wm_384⟩ (by decide +kernel) (sn_ifeq (off := 64) (tgt := 106) (by decide +kernel) rfl (s_X12_readChange_106 G hst kc hk) (s_X12_readChange_45 G hst kc hk)))))))))))))))
noncomputable def B_X12_readChange_11 (kc : Nat → en_B) : en_B := (op_const (0 : Int32) (op_istore 1 (op_const (-1 : Int32) (op_istore 2 (kc 15)))))
set_option maxRecDepth 20000 in
theorem s_X12_readChange_11 (G : en_G) (hst : G.2.2.2.2.2 = true) (kc : Nat → en_B) (hk : ∀ t, en_Snd G M_X12_readChange t (kc t)) : en_Snd G M_X12_readChange 11 (B_X12_readChange_11 kc) := (sn_iconst (n := 0) (v := 0) (by decide +kernel) rfl (sn_istore_n (i := 1) (n := 1) (by decide +kernel) rfl (Nat.le_of_ble_eq_true rfl) (sn_iconst (n := -1) (v := -1) (by decide +kernel) rfl (sn_istore_n (i := 2) (n := 2) (by decide +kernel) rfl (Nat.le_of_ble_eq_true rfl) (hk 15)))))
noncomputable def B_X12_readChange_0 (kc : Nat → en_B) : en_B := (op_aload 0 (op_const (120 : Int32) (op_rcv 12 1 (op_calli O_X12_passes 2 (op_ifeq (B_X12_readChange_11 kc) (op_const (0 : Int32) op_iret))))))
set_option maxRecDepth 20000 in
theorem s_X12_readChange_0 (G : en_G) (hst : G.2.2.2.2.2 = true) (kc : Nat → en_B) (hk : ∀ t, en_Snd G M_X12_readChange t (kc t)) : en_Snd G M_X12_readChange 0 (B_X12_readChange_0 kc) := (sn_aload_n (i := 0) (n := 0) (by decide +kernel) rfl (sn_bipush (n := 120) (v := 120) (by decide +kernel) rfl (sn_callVi (n := 1) (idx := 148) (ci := 12) (i_X12_passes G hst) (Nat.le_of_ble_eq_true rfl) cs_X12_passes ⟨wm_422, wm_423, wm_440⟩ ⟨⟨_, rfl, rfl⟩, (Nat.le_of_ble_eq_true rfl)⟩ (by decide +kernel) (sn_ifeq (off := 5) (tgt := 11) (by decide +kernel) rfl (s_X12_readChange_11 G hst kc hk) (sn_iconst (n := 0) (v := 0) (by decide +kernel) rfl (sn_iret (by decide +kernel) rfl))))))
noncomputable def LK_X12_readChange : Nat → Nat → en_B
  | 0, _ => en_no
  | n + 1, t => if t = 15 then B_X12_readChange_15 (LK_X12_readChange n) else en_no
theorem l_X12_readChange (G : en_G) (hst : G.2.2.2.2.2 = true) : ∀ n t, en_Snd G M_X12_readChange t (LK_X12_readChange n t)
  | 0, _ => sn_no
  | n + 1, t => by
    show en_Snd G M_X12_readChange t (if t = 15 then B_X12_readChange_15 (LK_X12_readChange n) else en_no)
    by_cases h_15 : t = 15
    · rw [if_pos h_15, h_15]; exact s_X12_readChange_15 G hst _ (l_X12_readChange G hst n)
    rw [if_neg h_15]
    exact sn_no
noncomputable def T_X12_readChange_0 (σ : en_M) : en_R := B_X12_readChange_0 (LK_X12_readChange en_FU) [.inr (185, 12, 0, 0), en_un, en_un] [] en_zz σ
noncomputable def T_X12_readChange_15 (n : Nat) (x1 : Int32) (x2 : Int32) (σ : en_M) : en_R := LK_X12_readChange n 15 [.inr (185, 12, 0, 0), .inl x1, .inl x2] [] en_zz σ
set_option maxRecDepth 20000 in
set_option maxHeartbeats 2000000 in
theorem t_X12_readChange_0 (σ : en_M) : T_X12_readChange_0 σ = ((O_X12_passes [.inr (185, 12, 0, 0), .inl (120 : Int32)] σ).bind fun r1 => if r1.1 = 0 then (T_X12_readChange_15 en_FU (0 : Int32) (-1 : Int32) r1.2) else (en_ri (0 : Int32) r1.2)) := rfl
set_option maxRecDepth 20000 in
set_option maxHeartbeats 2000000 in
theorem t_X12_readChange_15 (n : Nat) (x1 : Int32) (x2 : Int32) (σ : en_M) : T_X12_readChange_15 (n + 1) x1 x2 σ = ((O_X12_fine [.inr (185, 12, 0, 0)] σ).bind fun r2 => if r2.1 = 0 then (en_ri x1 r2.2) else (if x1 = 0 then ((O_X12_here [.inr (185, 12, 0, 0)] r2.2).bind fun r3 => (O_X12_in [.inl r3.1, .inl (49 : Int32), .inl ((48 : Int32) + (r3.2 185 1))] r3.2).bind fun r4 => if r4.1 = 0 then ((O_X12_oneOf [.inr (185, 12, 0, 0), .inl (49 : Int32), .inl (r4.2 185 1)] r4.2).bind fun r5 => T_X12_readChange_15 n (x1 ||| (en_shl (1 : Int32) r5.1)) r5.1 r5.2) else ((O_X12_here [.inr (185, 12, 0, 0)] r4.2).bind fun r6 => if x2 < (r6.1 - (49 : Int32)) then ((O_X12_oneOf [.inr (185, 12, 0, 0), .inl (49 : Int32), .inl (r6.2 185 1)] r6.2).bind fun r7 => T_X12_readChange_15 n (x1 ||| (en_shl (1 : Int32) r7.1)) r7.1 r7.2) else ((O_X12_fault [.inr (185, 12, 0, 0), .inl (r6.2 185 15)] r6.2).bind fun r8 => T_X12_readChange_15 n x1 x2 r8))) else ((O_X12_here [.inr (185, 12, 0, 0)] r2.2).bind fun r9 => (O_X12_in [.inl r9.1, .inl (49 : Int32), .inl ((48 : Int32) + (r9.2 185 1))] r9.2).bind fun r10 => if r10.1 = 0 then (en_ri x1 r10.2) else ((O_X12_here [.inr (185, 12, 0, 0)] r10.2).bind fun r11 => (O_X12_in [.inl r11.1, .inl (49 : Int32), .inl ((48 : Int32) + (r11.2 185 1))] r11.2).bind fun r12 => if r12.1 = 0 then ((O_X12_oneOf [.inr (185, 12, 0, 0), .inl (49 : Int32), .inl (r12.2 185 1)] r12.2).bind fun r13 => T_X12_readChange_15 n (x1 ||| (en_shl (1 : Int32) r13.1)) r13.1 r13.2) else ((O_X12_here [.inr (185, 12, 0, 0)] r12.2).bind fun r14 => if x2 < (r14.1 - (49 : Int32)) then ((O_X12_oneOf [.inr (185, 12, 0, 0), .inl (49 : Int32), .inl (r14.2 185 1)] r14.2).bind fun r15 => T_X12_readChange_15 n (x1 ||| (en_shl (1 : Int32) r15.1)) r15.1 r15.2) else ((O_X12_fault [.inr (185, 12, 0, 0), .inl (r14.2 185 15)] r14.2).bind fun r16 => T_X12_readChange_15 n x1 x2 r16)))))) := rfl
noncomputable def P_X12_readChange : List en_V → en_M → Option (Int32 × en_M) := fun av σ => match av with
  | [.inr (185, 12, 0, 0)] => en_oi (T_X12_readChange_0 σ)
  | _ => none
theorem ox_X12_readChange : ∃ f, f = P_X12_readChange := ⟨_, rfl⟩
noncomputable def O_X12_readChange : List en_V → en_M → Option (Int32 × en_M) := Classical.choose ox_X12_readChange
theorem oe_X12_readChange : O_X12_readChange = P_X12_readChange := Classical.choose_spec ox_X12_readChange
theorem o_X12_readChange (σ : en_M) : O_X12_readChange [.inr (185, 12, 0, 0)] σ = en_oi (T_X12_readChange_0 σ) := by rw [oe_X12_readChange]; rfl
theorem i_X12_readChange (G : en_G) (hst : G.2.2.2.2.2 = true) : en_I G 4 yX12_readChange cX12_readChange 3 (some .int) 0 0 (en_wi (O_X12_readChange)) := en_of_i (M := M_X12_readChange) hst (s_X12_readChange_0 G hst _ (l_X12_readChange G hst en_FU)) (plainFor_of_name (by decide +kernel)) rfl rfl rfl (Or.inl ⟨rfl, rfl⟩) (fun av σ x σ' h => by
  rw [oe_X12_readChange] at h; unfold P_X12_readChange at h
  split at h
  · exact ⟨(Nat.le_of_ble_eq_true rfl), en_oi_some h⟩
  · cases h)
-- EachMayMissOneModel.method()I
def M_X12_method : en_Me := (cX12_method, RX12, 4, false, 5, false)
theorem cs_X12_method : en_cs yX12_method cX12_method 4 (some .int) 0 := ⟨wm_441, wm_337, ⟨(by decide +kernel), (by decide +kernel), (by decide +kernel)⟩, (Nat.le_of_ble_eq_true rfl)⟩
noncomputable def B_X12_method_193 (kc : Nat → en_B) : en_B := (op_aload 0 (op_geti 12 4 op_iret))
set_option maxRecDepth 20000 in
theorem s_X12_method_193 (G : en_G) (hst : G.2.2.2.2.2 = true) (kc : Nat → en_B) (hk : ∀ t, en_Snd G M_X12_method t (kc t)) : en_Snd G M_X12_method 193 (B_X12_method_193 kc) := (sn_aload_n (i := 0) (n := 0) (by decide +kernel) rfl (sn_geti (ci := 12) (j := 4) en_c12 (by decide +kernel) wm_342 (Nat.le_of_ble_eq_true rfl) rfl (sn_iret (by decide +kernel) rfl)))
noncomputable def B_X12_method_175 (kc : Nat → en_B) : en_B := (op_iload 3 (op_const (2 : Int32) (op_iclt (op_aload 0 (op_gets 12 23 (22, 2, 0) (op_iload 3 (op_const (0 : Int32) (op_ast 22 (vp_nar .boolean) (op_iinc 3 (1 : Int32) (kc 175))))))) (B_X12_method_193 kc))))
set_option maxRecDepth 20000 in
theorem s_X12_method_175 (G : en_G) (hst : G.2.2.2.2.2 = true) (kc : Nat → en_B) (hk : ∀ t, en_Snd G M_X12_method t (kc t)) : en_Snd G M_X12_method 175 (B_X12_method_175 kc) := (sn_iload_n (i := 3) (n := 3) (by decide +kernel) rfl (sn_iconst (n := 2) (v := 2) (by decide +kernel) rfl (sn_icge (off := 16) (tgt := 193) (by decide +kernel) rfl (s_X12_method_193 G hst kc hk) (sn_aload_n (i := 0) (n := 0) (by decide +kernel) rfl (sn_gets (ci := 12) (j := 43) (off := 23) hst en_c12 of_12_23 (Nat.le_of_ble_eq_true rfl) (by decide +kernel) wm_364 (Nat.le_of_ble_eq_true rfl) rfl (sn_iload_n (i := 3) (n := 3) (by decide +kernel) rfl (sn_iconst (n := 0) (v := 0) (by decide +kernel) rfl (sn_zast (by decide +kernel) (sn_iinc (i := 3) (n := 1) (v := 1) (by decide +kernel) rfl (sn_goto (off := -15) (tgt := 175) (by decide +kernel) rfl (hk 175)))))))))))
noncomputable def B_X12_method_159 (kc : Nat → en_B) : en_B := (op_aload 0 (op_const (1 : Int32) (op_iload 1 (op_calli O_J9_max_7cf53 2 (op_puti 12 4 (op_aload 0 (op_const (0 : Int32) (op_puti 12 23 (op_const (0 : Int32) (op_istore 3 (kc 175)))))))))))
set_option maxRecDepth 20000 in
theorem s_X12_method_159 (G : en_G) (hst : G.2.2.2.2.2 = true) (kc : Nat → en_B) (hk : ∀ t, en_Snd G M_X12_method t (kc t)) : en_Snd G M_X12_method 159 (B_X12_method_159 kc) := (sn_aload_n (i := 0) (n := 0) (by decide +kernel) rfl (sn_iconst (n := 1) (v := 1) (by decide +kernel) rfl (sn_iload_n (i := 1) (n := 1) (by decide +kernel) rfl (sn_callSi (n := 2) (idx := 159) (i_J9_max_7cf53 G hst) (Nat.le_of_ble_eq_true rfl) cs_J9_max_7cf53 ⟨wm_267, Or.inl wm_446⟩ (by decide +kernel) (sn_puti (ci := 12) (j := 4) en_c12 (by decide +kernel) wm_342 (Nat.le_of_ble_eq_true rfl) rfl rfl rfl (sn_aload_n (i := 0) (n := 0) (by decide +kernel) rfl (sn_iconst (n := 0) (v := 0) (by decide +kernel) rfl (sn_puti (ci := 12) (j := 23) en_c12 (by decide +kernel) wm_436 (Nat.le_of_ble_eq_true rfl) rfl rfl rfl (sn_iconst (n := 0) (v := 0) (by decide +kernel) rfl (sn_istore_n (i := 3) (n := 3) (by decide +kernel) rfl (Nat.le_of_ble_eq_true rfl) (hk 175)))))))))))
noncomputable def B_X12_method_148 (kc : Nat → en_B) : en_B := (op_iload 1 (op_ifeq (op_aload 0 (op_gets 12 3 (20, 20, 0) (op_const (0 : Int32) (op_const (0 : Int32) (op_ast 20 (fun (x : Int32) => x) (B_X12_method_159 kc)))))) (B_X12_method_159 kc)))
set_option maxRecDepth 20000 in
theorem s_X12_method_148 (G : en_G) (hst : G.2.2.2.2.2 = true) (kc : Nat → en_B) (hk : ∀ t, en_Snd G M_X12_method t (kc t)) : en_Snd G M_X12_method 148 (B_X12_method_148 kc) := (sn_iload_n (i := 1) (n := 1) (by decide +kernel) rfl (sn_ifne (off := 10) (tgt := 159) (by decide +kernel) rfl (s_X12_method_159 G hst kc hk) (sn_aload_n (i := 0) (n := 0) (by decide +kernel) rfl (sn_gets (ci := 12) (j := 3) (off := 3) hst en_c12 of_12_3 (Nat.le_of_ble_eq_true rfl) (by decide +kernel) wm_341 (Nat.le_of_ble_eq_true rfl) rfl (sn_iconst (n := 0) (v := 0) (by decide +kernel) rfl (sn_iconst (n := 0) (v := 0) (by decide +kernel) rfl (sn_iast (by decide +kernel) (s_X12_method_159 G hst kc hk))))))))
noncomputable def B_X12_method_125 (kc : Nat → en_B) : en_B := (op_iload 3 (op_iload 1 (op_iclt (op_aload 0 (op_gets 12 3 (20, 20, 0) (op_iload 3 (op_aload 0 (op_gets 12 6 (20, 20, 0) (op_iload 3 (op_ald 20 (op_ast 20 (fun (x : Int32) => x) (op_iinc 3 (1 : Int32) (kc 125)))))))))) (B_X12_method_148 kc))))
set_option maxRecDepth 20000 in
theorem s_X12_method_125 (G : en_G) (hst : G.2.2.2.2.2 = true) (kc : Nat → en_B) (hk : ∀ t, en_Snd G M_X12_method t (kc t)) : en_Snd G M_X12_method 125 (B_X12_method_125 kc) := (sn_iload_n (i := 3) (n := 3) (by decide +kernel) rfl (sn_iload_n (i := 1) (n := 1) (by decide +kernel) rfl (sn_icge (off := 21) (tgt := 148) (by decide +kernel) rfl (s_X12_method_148 G hst kc hk) (sn_aload_n (i := 0) (n := 0) (by decide +kernel) rfl (sn_gets (ci := 12) (j := 3) (off := 3) hst en_c12 of_12_3 (Nat.le_of_ble_eq_true rfl) (by decide +kernel) wm_341 (Nat.le_of_ble_eq_true rfl) rfl (sn_iload_n (i := 3) (n := 3) (by decide +kernel) rfl (sn_aload_n (i := 0) (n := 0) (by decide +kernel) rfl (sn_gets (ci := 12) (j := 17) (off := 6) hst en_c12 of_12_6 (Nat.le_of_ble_eq_true rfl) (by decide +kernel) wm_347 (Nat.le_of_ble_eq_true rfl) rfl (sn_iload_n (i := 3) (n := 3) (by decide +kernel) rfl (sn_iald (by decide +kernel) (sn_iast (by decide +kernel) (sn_iinc (i := 3) (n := 1) (v := 1) (by decide +kernel) rfl (sn_goto (off := -20) (tgt := 125) (by decide +kernel) rfl (hk 125))))))))))))))
noncomputable def B_X12_method_123 (kc : Nat → en_B) : en_B := (op_const (0 : Int32) (op_istore 3 (kc 125)))
set_option maxRecDepth 20000 in
theorem s_X12_method_123 (G : en_G) (hst : G.2.2.2.2.2 = true) (kc : Nat → en_B) (hk : ∀ t, en_Snd G M_X12_method t (kc t)) : en_Snd G M_X12_method 123 (B_X12_method_123 kc) := (sn_iconst (n := 0) (v := 0) (by decide +kernel) rfl (sn_istore_n (i := 3) (n := 3) (by decide +kernel) rfl (Nat.le_of_ble_eq_true rfl) (hk 125)))
noncomputable def B_X12_method_109 (kc : Nat → en_B) : en_B := (op_aload 0 (op_rcv 12 0 (op_calli O_X12_fine 1 (op_ifeq (op_const (-1 : Int32) (op_aload 0 (op_geti 12 16 (op_bin (fun (x y : Int32) => x - y) op_iret)))) (B_X12_method_123 kc)))))
set_option maxRecDepth 20000 in
theorem s_X12_method_109 (G : en_G) (hst : G.2.2.2.2.2 = true) (kc : Nat → en_B) (hk : ∀ t, en_Snd G M_X12_method t (kc t)) : en_Snd G M_X12_method 109 (B_X12_method_109 kc) := (sn_aload_n (i := 0) (n := 0) (by decide +kernel) rfl (sn_callVi (n := 0) (idx := 130) (ci := 12) (i_X12_fine G hst) (Nat.le_of_ble_eq_true rfl) cs_X12_fine ⟨wm_415, wm_416, wm_420⟩ ⟨⟨_, rfl, rfl⟩, (Nat.le_of_ble_eq_true rfl)⟩ (by decide +kernel) (sn_ifne (off := 10) (tgt := 123) (by decide +kernel) rfl (s_X12_method_123 G hst kc hk) (sn_iconst (n := -1) (v := -1) (by decide +kernel) rfl (sn_aload_n (i := 0) (n := 0) (by decide +kernel) rfl (sn_geti (ci := 12) (j := 16) en_c12 (by decide +kernel) wm_410 (Nat.le_of_ble_eq_true rfl) rfl (sn_isub (by decide +kernel) (sn_iret (by decide +kernel) rfl))))))))
noncomputable def B_X12_method_90 (kc : Nat → en_B) : en_B := (op_aload 0 (op_geti 12 15 (op_aload 0 (op_geti 12 13 (op_iclt (op_aload 0 (op_aload 0 (op_geti 12 15 (op_rcv 12 1 (op_callv O_X12_fault 2 (B_X12_method_109 kc)))))) (B_X12_method_109 kc))))))
set_option maxRecDepth 20000 in
theorem s_X12_method_90 (G : en_G) (hst : G.2.2.2.2.2 = true) (kc : Nat → en_B) (hk : ∀ t, en_Snd G M_X12_method t (kc t)) : en_Snd G M_X12_method 90 (B_X12_method_90 kc) := (sn_aload_n (i := 0) (n := 0) (by decide +kernel) rfl (sn_geti (ci := 12) (j := 15) en_c12 (by decide +kernel) wm_409 (Nat.le_of_ble_eq_true rfl) rfl (sn_aload_n (i := 0) (n := 0) (by decide +kernel) rfl (sn_geti (ci := 12) (j := 13) en_c12 (by decide +kernel) wm_407 (Nat.le_of_ble_eq_true rfl) rfl (sn_icge (off := 11) (tgt := 109) (by decide +kernel) rfl (s_X12_method_109 G hst kc hk) (sn_aload_n (i := 0) (n := 0) (by decide +kernel) rfl (sn_aload_n (i := 0) (n := 0) (by decide +kernel) rfl (sn_geti (ci := 12) (j := 15) en_c12 (by decide +kernel) wm_409 (Nat.le_of_ble_eq_true rfl) rfl (sn_callVv (n := 1) (idx := 137) (ci := 12) (i_X12_fault G hst) (Nat.le_of_ble_eq_true rfl) cs_X12_fault ⟨wm_418, wm_419, wm_428⟩ ⟨⟨_, rfl, rfl⟩, (Nat.le_of_ble_eq_true rfl)⟩ (by decide +kernel) (s_X12_method_109 G hst kc hk))))))))))
noncomputable def B_X12_method_77 (kc : Nat → en_B) : en_B := (op_iinc 1 (1 : Int32) (op_aload 0 (op_const (46 : Int32) (op_rcv 12 1 (op_calli O_X12_passes 2 (op_istore 2 (kc 39)))))))
set_option maxRecDepth 20000 in
theorem s_X12_method_77 (G : en_G) (hst : G.2.2.2.2.2 = true) (kc : Nat → en_B) (hk : ∀ t, en_Snd G M_X12_method t (kc t)) : en_Snd G M_X12_method 77 (B_X12_method_77 kc) := (sn_iinc (i := 1) (n := 1) (v := 1) (by decide +kernel) rfl (sn_aload_n (i := 0) (n := 0) (by decide +kernel) rfl (sn_bipush (n := 46) (v := 46) (by decide +kernel) rfl (sn_callVi (n := 1) (idx := 148) (ci := 12) (i_X12_passes G hst) (Nat.le_of_ble_eq_true rfl) cs_X12_passes ⟨wm_422, wm_423, wm_440⟩ ⟨⟨_, rfl, rfl⟩, (Nat.le_of_ble_eq_true rfl)⟩ (by decide +kernel) (sn_istore_n (i := 2) (n := 2) (by decide +kernel) rfl (Nat.le_of_ble_eq_true rfl) (sn_goto (off := -48) (tgt := 39) (by decide +kernel) rfl (hk 39)))))))
noncomputable def B_X12_method_67 (kc : Nat → en_B) : en_B := (op_aload 0 (op_gets 12 6 (20, 20, 0) (op_iload 1 (op_aload 0 (op_rcv 12 0 (op_calli O_X12_readChange 1 (op_ast 20 (fun (x : Int32) => x) (B_X12_method_77 kc))))))))
set_option maxRecDepth 20000 in
theorem s_X12_method_67 (G : en_G) (hst : G.2.2.2.2.2 = true) (kc : Nat → en_B) (hk : ∀ t, en_Snd G M_X12_method t (kc t)) : en_Snd G M_X12_method 67 (B_X12_method_67 kc) := (sn_aload_n (i := 0) (n := 0) (by decide +kernel) rfl (sn_gets (ci := 12) (j := 17) (off := 6) hst en_c12 of_12_6 (Nat.le_of_ble_eq_true rfl) (by decide +kernel) wm_347 (Nat.le_of_ble_eq_true rfl) rfl (sn_iload_n (i := 1) (n := 1) (by decide +kernel) rfl (sn_aload_n (i := 0) (n := 0) (by decide +kernel) rfl (sn_callVi (n := 0) (idx := 156) (ci := 12) (i_X12_readChange G hst) (Nat.le_of_ble_eq_true rfl) cs_X12_readChange ⟨wm_438, wm_439, wm_445⟩ ⟨⟨_, rfl, rfl⟩, (Nat.le_of_ble_eq_true rfl)⟩ (by decide +kernel) (sn_iast (by decide +kernel) (s_X12_method_77 G hst kc hk)))))))
noncomputable def B_X12_method_39 (kc : Nat → en_B) : en_B := (op_iload 2 (op_ifeq (B_X12_method_90 kc) (op_aload 0 (op_rcv 12 0 (op_calli O_X12_fine 1 (op_ifeq (B_X12_method_90 kc) (op_iload 1 (op_const (20 : Int32) (op_iceq (op_aload 0 (op_aload 0 (op_geti 12 15 (op_rcv 12 1 (op_callv O_X12_fault 2 (B_X12_method_77 kc)))))) (B_X12_method_67 kc))))))))))
set_option maxRecDepth 20000 in
theorem s_X12_method_39 (G : en_G) (hst : G.2.2.2.2.2 = true) (kc : Nat → en_B) (hk : ∀ t, en_Snd G M_X12_method t (kc t)) : en_Snd G M_X12_method 39 (B_X12_method_39 kc) := (sn_iload_n (i := 2) (n := 2) (by decide +kernel) rfl (sn_ifeq (off := 50) (tgt := 90) (by decide +kernel) rfl (s_X12_method_90 G hst kc hk) (sn_aload_n (i := 0) (n := 0) (by decide +kernel) rfl (sn_callVi (n := 0) (idx := 130) (ci := 12) (i_X12_fine G hst) (Nat.le_of_ble_eq_true rfl) cs_X12_fine ⟨wm_415, wm_416, wm_420⟩ ⟨⟨_, rfl, rfl⟩, (Nat.le_of_ble_eq_true rfl)⟩ (by decide +kernel) (sn_ifeq (off := 43) (tgt := 90) (by decide +kernel) rfl (s_X12_method_90 G hst kc hk) (sn_iload_n (i := 1) (n := 1) (by decide +kernel) rfl (sn_bipush (n := 20) (v := 20) (by decide +kernel) rfl (sn_icne (off := 14) (tgt := 67) (by decide +kernel) rfl (s_X12_method_67 G hst kc hk) (sn_aload_n (i := 0) (n := 0) (by decide +kernel) rfl (sn_aload_n (i := 0) (n := 0) (by decide +kernel) rfl (sn_geti (ci := 12) (j := 15) en_c12 (by decide +kernel) wm_409 (Nat.le_of_ble_eq_true rfl) rfl (sn_callVv (n := 1) (idx := 137) (ci := 12) (i_X12_fault G hst) (Nat.le_of_ble_eq_true rfl) cs_X12_fault ⟨wm_418, wm_419, wm_428⟩ ⟨⟨_, rfl, rfl⟩, (Nat.le_of_ble_eq_true rfl)⟩ (by decide +kernel) (sn_goto (off := 13) (tgt := 77) (by decide +kernel) rfl (s_X12_method_77 G hst kc hk))))))))))))))
noncomputable def B_X12_method_38 (kc : Nat → en_B) : en_B := (op_istore 2 (kc 39))
set_option maxRecDepth 20000 in
theorem s_X12_method_38 (G : en_G) (hst : G.2.2.2.2.2 = true) (kc : Nat → en_B) (hk : ∀ t, en_Snd G M_X12_method t (kc t)) : en_Snd G M_X12_method 38 (B_X12_method_38 kc) := (sn_istore_n (i := 2) (n := 2) (by decide +kernel) rfl (Nat.le_of_ble_eq_true rfl) (hk 39))
noncomputable def B_X12_method_37 (kc : Nat → en_B) : en_B := (op_const (0 : Int32) (B_X12_method_38 kc))
set_option maxRecDepth 20000 in
theorem s_X12_method_37 (G : en_G) (hst : G.2.2.2.2.2 = true) (kc : Nat → en_B) (hk : ∀ t, en_Snd G M_X12_method t (kc t)) : en_Snd G M_X12_method 37 (B_X12_method_37 kc) := (sn_iconst (n := 0) (v := 0) (by decide +kernel) rfl (s_X12_method_38 G hst kc hk))
noncomputable def B_X12_method_0 (kc : Nat → en_B) : en_B := (op_aload 0 (op_const (0 : Int32) (op_puti 12 11 (op_aload 0 (op_aload 0 (op_gets 12 4 (21, 80, 0) (op_aload 0 (op_geti 12 8 (op_const (60 : Int32) (op_rcv 12 3 (op_callv O_X12_begin 4 (op_aload 0 (op_const (0 : Int32) (op_puti 12 8 (op_const (0 : Int32) (op_istore 1 (op_aload 0 (op_geti 12 13 (op_ifgt (op_const (1 : Int32) (B_X12_method_38 kc)) (B_X12_method_37 kc))))))))))))))))))))
set_option maxRecDepth 20000 in
theorem s_X12_method_0 (G : en_G) (hst : G.2.2.2.2.2 = true) (kc : Nat → en_B) (hk : ∀ t, en_Snd G M_X12_method t (kc t)) : en_Snd G M_X12_method 0 (B_X12_method_0 kc) := (sn_aload_n (i := 0) (n := 0) (by decide +kernel) rfl (sn_iconst (n := 0) (v := 0) (by decide +kernel) rfl (sn_puti (ci := 12) (j := 11) en_c12 (by decide +kernel) wm_368 (Nat.le_of_ble_eq_true rfl) rfl rfl rfl (sn_aload_n (i := 0) (n := 0) (by decide +kernel) rfl (sn_aload_n (i := 0) (n := 0) (by decide +kernel) rfl (sn_gets (ci := 12) (j := 7) (off := 4) hst en_c12 of_12_4 (Nat.le_of_ble_eq_true rfl) (by decide +kernel) wm_345 (Nat.le_of_ble_eq_true rfl) rfl (sn_aload_n (i := 0) (n := 0) (by decide +kernel) rfl (sn_geti (ci := 12) (j := 8) en_c12 (by decide +kernel) wm_399 (Nat.le_of_ble_eq_true rfl) rfl (sn_bipush (n := 60) (v := 60) (by decide +kernel) rfl (sn_callVv (n := 3) (idx := 152) (ci := 12) (i_X12_begin G hst) (Nat.le_of_ble_eq_true rfl) cs_X12_begin ⟨wm_404, wm_405, wm_444⟩ ⟨⟨_, rfl, rfl⟩, (Nat.le_of_ble_eq_true rfl)⟩ (by decide +kernel) (sn_aload_n (i := 0) (n := 0) (by decide +kernel) rfl (sn_iconst (n := 0) (v := 0) (by decide +kernel) rfl (sn_puti (ci := 12) (j := 8) en_c12 (by decide +kernel) wm_399 (Nat.le_of_ble_eq_true rfl) rfl rfl rfl (sn_iconst (n := 0) (v := 0) (by decide +kernel) rfl (sn_istore_n (i := 1) (n := 1) (by decide +kernel) rfl (Nat.le_of_ble_eq_true rfl) (sn_aload_n (i := 0) (n := 0) (by decide +kernel) rfl (sn_geti (ci := 12) (j := 13) en_c12 (by decide +kernel) wm_407 (Nat.le_of_ble_eq_true rfl) rfl (sn_ifle (off := 7) (tgt := 37) (by decide +kernel) rfl (s_X12_method_37 G hst kc hk) (sn_iconst (n := 1) (v := 1) (by decide +kernel) rfl (sn_goto (off := 4) (tgt := 38) (by decide +kernel) rfl (s_X12_method_38 G hst kc hk)))))))))))))))))))))
noncomputable def LK_X12_method : Nat → Nat → en_B
  | 0, _ => en_no
  | n + 1, t => if t = 39 then B_X12_method_39 (LK_X12_method n) else if t = 125 then B_X12_method_125 (LK_X12_method n) else if t = 175 then B_X12_method_175 (LK_X12_method n) else en_no
theorem l_X12_method (G : en_G) (hst : G.2.2.2.2.2 = true) : ∀ n t, en_Snd G M_X12_method t (LK_X12_method n t)
  | 0, _ => sn_no
  | n + 1, t => by
    show en_Snd G M_X12_method t (if t = 39 then B_X12_method_39 (LK_X12_method n) else if t = 125 then B_X12_method_125 (LK_X12_method n) else if t = 175 then B_X12_method_175 (LK_X12_method n) else en_no)
    by_cases h_39 : t = 39
    · rw [if_pos h_39, h_39]; exact s_X12_method_39 G hst _ (l_X12_method G hst n)
    rw [if_neg h_39]
    by_cases h_125 : t = 125
    · rw [if_pos h_125, h_125]; exact s_X12_method_125 G hst _ (l_X12_method G hst n)
    rw [if_neg h_125]
    by_cases h_175 : t = 175
    · rw [if_pos h_175, h_175]; exact s_X12_method_175 G hst _ (l_X12_method G hst n)
    rw [if_neg h_175]
    exact sn_no
noncomputable def T_X12_method_0 (σ : en_M) : en_R := B_X12_method_0 (LK_X12_method en_FU) [.inr (185, 12, 0, 0), en_un, en_un, en_un] [] en_zz σ
noncomputable def T_X12_method_39 (n : Nat) (x1 : Int32) (x2 : Int32) (σ : en_M) : en_R := LK_X12_method n 39 [.inr (185, 12, 0, 0), .inl x1, .inl x2, en_un] [] en_zz σ
noncomputable def T_X12_method_125 (n : Nat) (x1 : Int32) (x2 : Int32) (x3 : Int32) (σ : en_M) : en_R := LK_X12_method n 125 [.inr (185, 12, 0, 0), .inl x1, .inl x2, .inl x3] [] en_zz σ
noncomputable def T_X12_method_175 (n : Nat) (x1 : Int32) (x2 : Int32) (x3 : Int32) (σ : en_M) : en_R := LK_X12_method n 175 [.inr (185, 12, 0, 0), .inl x1, .inl x2, .inl x3] [] en_zz σ
set_option maxRecDepth 20000 in
set_option maxHeartbeats 2000000 in
theorem t_X12_method_0 (σ : en_M) : T_X12_method_0 σ = ((O_X12_begin [.inr (185, 12, 0, 0), .inr (189, 21, 80, 0), .inl (σ 185 8), .inl (60 : Int32)] (en_up σ 185 11 (0 : Int32))).bind fun r1 => if 0 < (r1 185 13) then (T_X12_method_39 en_FU (0 : Int32) (1 : Int32) (en_up r1 185 8 (0 : Int32))) else (T_X12_method_39 en_FU (0 : Int32) (0 : Int32) (en_up r1 185 8 (0 : Int32)))) := rfl
set_option maxRecDepth 20000 in
set_option maxHeartbeats 2000000 in
theorem t_X12_method_39 (n : Nat) (x1 : Int32) (x2 : Int32) (σ : en_M) : T_X12_method_39 (n + 1) x1 x2 σ = (if x2 = 0 then (if (σ 185 15) < (σ 185 13) then ((O_X12_fault [.inr (185, 12, 0, 0), .inl (σ 185 15)] σ).bind fun r3 => (O_X12_fine [.inr (185, 12, 0, 0)] r3).bind fun r4 => if r4.1 = 0 then (en_ri ((-1 : Int32) - (r4.2 185 16)) r4.2) else (T_X12_method_125 n x1 x2 (0 : Int32) r4.2)) else ((O_X12_fine [.inr (185, 12, 0, 0)] σ).bind fun r2 => if r2.1 = 0 then (en_ri ((-1 : Int32) - (r2.2 185 16)) r2.2) else (T_X12_method_125 n x1 x2 (0 : Int32) r2.2))) else ((O_X12_fine [.inr (185, 12, 0, 0)] σ).bind fun r5 => if r5.1 = 0 then (if (r5.2 185 15) < (r5.2 185 13) then ((O_X12_fault [.inr (185, 12, 0, 0), .inl (r5.2 185 15)] r5.2).bind fun r7 => (O_X12_fine [.inr (185, 12, 0, 0)] r7).bind fun r8 => if r8.1 = 0 then (en_ri ((-1 : Int32) - (r8.2 185 16)) r8.2) else (T_X12_method_125 n x1 x2 (0 : Int32) r8.2)) else ((O_X12_fine [.inr (185, 12, 0, 0)] r5.2).bind fun r6 => if r6.1 = 0 then (en_ri ((-1 : Int32) - (r6.2 185 16)) r6.2) else (T_X12_method_125 n x1 x2 (0 : Int32) r6.2))) else (if x1 = (20 : Int32) then ((O_X12_fault [.inr (185, 12, 0, 0), .inl (r5.2 185 15)] r5.2).bind fun r12 => (O_X12_passes [.inr (185, 12, 0, 0), .inl (46 : Int32)] r12).bind fun r13 => T_X12_method_39 n (x1 + (1 : Int32)) r13.1 r13.2) else ((O_X12_readChange [.inr (185, 12, 0, 0)] r5.2).bind fun r9 => (en_ix x1 20).bind fun j10 => (O_X12_passes [.inr (185, 12, 0, 0), .inl (46 : Int32)] (en_up r9.2 191 j10 r9.1)).bind fun r11 => T_X12_method_39 n (x1 + (1 : Int32)) r11.1 r11.2)))) := rfl
set_option maxRecDepth 20000 in
set_option maxHeartbeats 2000000 in
theorem t_X12_method_125 (n : Nat) (x1 : Int32) (x2 : Int32) (x3 : Int32) (σ : en_M) : T_X12_method_125 (n + 1) x1 x2 x3 σ = (if x3 < x1 then ((en_ix x3 20).bind fun j17 => (en_ix x3 20).bind fun j18 => T_X12_method_125 n x1 x2 (x3 + (1 : Int32)) (en_up σ 188 j18 (σ 191 j17))) else (if x1 = 0 then ((en_ix (0 : Int32) 20).bind fun j15 => (O_J9_max_7cf53 [.inl (1 : Int32), .inl x1] (en_up σ 188 j15 (0 : Int32))).bind fun r16 => T_X12_method_175 n x1 x2 (0 : Int32) (en_up (en_up r16.2 185 4 r16.1) 185 23 (0 : Int32))) else ((O_J9_max_7cf53 [.inl (1 : Int32), .inl x1] σ).bind fun r14 => T_X12_method_175 n x1 x2 (0 : Int32) (en_up (en_up r14.2 185 4 r14.1) 185 23 (0 : Int32))))) := rfl
set_option maxRecDepth 20000 in
set_option maxHeartbeats 2000000 in
theorem t_X12_method_175 (n : Nat) (x1 : Int32) (x2 : Int32) (x3 : Int32) (σ : en_M) : T_X12_method_175 (n + 1) x1 x2 x3 σ = (if x3 < (2 : Int32) then ((en_ix x3 2).bind fun j19 => T_X12_method_175 n x1 x2 (x3 + (1 : Int32)) (en_up σ 208 j19 (vp_nar .boolean (0 : Int32)))) else (en_ri (σ 185 4) σ)) := rfl
noncomputable def P_X12_method : List en_V → en_M → Option (Int32 × en_M) := fun av σ => match av with
  | [.inr (185, 12, 0, 0)] => en_oi (T_X12_method_0 σ)
  | _ => none
theorem ox_X12_method : ∃ f, f = P_X12_method := ⟨_, rfl⟩
noncomputable def O_X12_method : List en_V → en_M → Option (Int32 × en_M) := Classical.choose ox_X12_method
theorem oe_X12_method : O_X12_method = P_X12_method := Classical.choose_spec ox_X12_method
theorem o_X12_method (σ : en_M) : O_X12_method [.inr (185, 12, 0, 0)] σ = en_oi (T_X12_method_0 σ) := by rw [oe_X12_method]; rfl
theorem i_X12_method (G : en_G) (hst : G.2.2.2.2.2 = true) : en_I G 5 yX12_method cX12_method 4 (some .int) 0 0 (en_wi (O_X12_method)) := en_of_i (M := M_X12_method) hst (s_X12_method_0 G hst _ (l_X12_method G hst en_FU)) (plainFor_of_name (by decide +kernel)) rfl rfl rfl (Or.inl ⟨rfl, rfl⟩) (fun av σ x σ' h => by
  rw [oe_X12_method] at h; unfold P_X12_method at h
  split at h
  · exact ⟨(Nat.le_of_ble_eq_true rfl), en_oi_some h⟩
  · cases h)
-- EachMayMissOneModel.letterOf(I)I
def M_X12_letterOf : en_Me := (cX12_letterOf, RX12, 1, false, 1, false)
theorem cs_X12_letterOf : en_cs yX12_letterOf cX12_letterOf 1 (some .int) 1 := ⟨wm_459, wm_337, ⟨(by decide +kernel), (by decide +kernel), (by decide +kernel)⟩, (Nat.le_of_ble_eq_true rfl)⟩
noncomputable def B_X12_letterOf_72 (kc : Nat → en_B) : en_B := op_iret
set_option maxRecDepth 20000 in
theorem s_X12_letterOf_72 (G : en_G) (hst : G.2.2.2.2.2 = true) (kc : Nat → en_B) (hk : ∀ t, en_Snd G M_X12_letterOf t (kc t)) : en_Snd G M_X12_letterOf 72 (B_X12_letterOf_72 kc) := (sn_iret (by decide +kernel) rfl)
noncomputable def B_X12_letterOf_71 (kc : Nat → en_B) : en_B := (op_const (-1 : Int32) (B_X12_letterOf_72 kc))
set_option maxRecDepth 20000 in
theorem s_X12_letterOf_71 (G : en_G) (hst : G.2.2.2.2.2 = true) (kc : Nat → en_B) (hk : ∀ t, en_Snd G M_X12_letterOf t (kc t)) : en_Snd G M_X12_letterOf 71 (B_X12_letterOf_71 kc) := (sn_iconst (n := -1) (v := -1) (by decide +kernel) rfl (s_X12_letterOf_72 G hst kc hk))
noncomputable def B_X12_letterOf_60 (kc : Nat → en_B) : en_B := (op_iload 0 (op_const (109 : Int32) (op_iceq (op_const (6 : Int32) (B_X12_letterOf_72 kc)) (B_X12_letterOf_71 kc))))
set_option maxRecDepth 20000 in
theorem s_X12_letterOf_60 (G : en_G) (hst : G.2.2.2.2.2 = true) (kc : Nat → en_B) (hk : ∀ t, en_Snd G M_X12_letterOf t (kc t)) : en_Snd G M_X12_letterOf 60 (B_X12_letterOf_60 kc) := (sn_iload_n (i := 0) (n := 0) (by decide +kernel) rfl (sn_bipush (n := 109) (v := 109) (by decide +kernel) rfl (sn_icne (off := 8) (tgt := 71) (by decide +kernel) rfl (s_X12_letterOf_71 G hst kc hk) (sn_bipush (n := 6) (v := 6) (by decide +kernel) rfl (sn_goto (off := 4) (tgt := 72) (by decide +kernel) rfl (s_X12_letterOf_72 G hst kc hk))))))
noncomputable def B_X12_letterOf_50 (kc : Nat → en_B) : en_B := (op_iload 0 (op_const (115 : Int32) (op_iceq (op_const (5 : Int32) (B_X12_letterOf_72 kc)) (B_X12_letterOf_60 kc))))
set_option maxRecDepth 20000 in
theorem s_X12_letterOf_50 (G : en_G) (hst : G.2.2.2.2.2 = true) (kc : Nat → en_B) (hk : ∀ t, en_Snd G M_X12_letterOf t (kc t)) : en_Snd G M_X12_letterOf 50 (B_X12_letterOf_50 kc) := (sn_iload_n (i := 0) (n := 0) (by decide +kernel) rfl (sn_bipush (n := 115) (v := 115) (by decide +kernel) rfl (sn_icne (off := 7) (tgt := 60) (by decide +kernel) rfl (s_X12_letterOf_60 G hst kc hk) (sn_iconst (n := 5) (v := 5) (by decide +kernel) rfl (sn_goto (off := 15) (tgt := 72) (by decide +kernel) rfl (s_X12_letterOf_72 G hst kc hk))))))
noncomputable def B_X12_letterOf_40 (kc : Nat → en_B) : en_B := (op_iload 0 (op_const (105 : Int32) (op_iceq (op_const (4 : Int32) (B_X12_letterOf_72 kc)) (B_X12_letterOf_50 kc))))
set_option maxRecDepth 20000 in
theorem s_X12_letterOf_40 (G : en_G) (hst : G.2.2.2.2.2 = true) (kc : Nat → en_B) (hk : ∀ t, en_Snd G M_X12_letterOf t (kc t)) : en_Snd G M_X12_letterOf 40 (B_X12_letterOf_40 kc) := (sn_iload_n (i := 0) (n := 0) (by decide +kernel) rfl (sn_bipush (n := 105) (v := 105) (by decide +kernel) rfl (sn_icne (off := 7) (tgt := 50) (by decide +kernel) rfl (s_X12_letterOf_50 G hst kc hk) (sn_iconst (n := 4) (v := 4) (by decide +kernel) rfl (sn_goto (off := 25) (tgt := 72) (by decide +kernel) rfl (s_X12_letterOf_72 G hst kc hk))))))
noncomputable def B_X12_letterOf_30 (kc : Nat → en_B) : en_B := (op_iload 0 (op_const (114 : Int32) (op_iceq (op_const (3 : Int32) (B_X12_letterOf_72 kc)) (B_X12_letterOf_40 kc))))
set_option maxRecDepth 20000 in
theorem s_X12_letterOf_30 (G : en_G) (hst : G.2.2.2.2.2 = true) (kc : Nat → en_B) (hk : ∀ t, en_Snd G M_X12_letterOf t (kc t)) : en_Snd G M_X12_letterOf 30 (B_X12_letterOf_30 kc) := (sn_iload_n (i := 0) (n := 0) (by decide +kernel) rfl (sn_bipush (n := 114) (v := 114) (by decide +kernel) rfl (sn_icne (off := 7) (tgt := 40) (by decide +kernel) rfl (s_X12_letterOf_40 G hst kc hk) (sn_iconst (n := 3) (v := 3) (by decide +kernel) rfl (sn_goto (off := 35) (tgt := 72) (by decide +kernel) rfl (s_X12_letterOf_72 G hst kc hk))))))
noncomputable def B_X12_letterOf_20 (kc : Nat → en_B) : en_B := (op_iload 0 (op_const (112 : Int32) (op_iceq (op_const (2 : Int32) (B_X12_letterOf_72 kc)) (B_X12_letterOf_30 kc))))
set_option maxRecDepth 20000 in
theorem s_X12_letterOf_20 (G : en_G) (hst : G.2.2.2.2.2 = true) (kc : Nat → en_B) (hk : ∀ t, en_Snd G M_X12_letterOf t (kc t)) : en_Snd G M_X12_letterOf 20 (B_X12_letterOf_20 kc) := (sn_iload_n (i := 0) (n := 0) (by decide +kernel) rfl (sn_bipush (n := 112) (v := 112) (by decide +kernel) rfl (sn_icne (off := 7) (tgt := 30) (by decide +kernel) rfl (s_X12_letterOf_30 G hst kc hk) (sn_iconst (n := 2) (v := 2) (by decide +kernel) rfl (sn_goto (off := 45) (tgt := 72) (by decide +kernel) rfl (s_X12_letterOf_72 G hst kc hk))))))
noncomputable def B_X12_letterOf_10 (kc : Nat → en_B) : en_B := (op_iload 0 (op_const (116 : Int32) (op_iceq (op_const (1 : Int32) (B_X12_letterOf_72 kc)) (B_X12_letterOf_20 kc))))
set_option maxRecDepth 20000 in
theorem s_X12_letterOf_10 (G : en_G) (hst : G.2.2.2.2.2 = true) (kc : Nat → en_B) (hk : ∀ t, en_Snd G M_X12_letterOf t (kc t)) : en_Snd G M_X12_letterOf 10 (B_X12_letterOf_10 kc) := (sn_iload_n (i := 0) (n := 0) (by decide +kernel) rfl (sn_bipush (n := 116) (v := 116) (by decide +kernel) rfl (sn_icne (off := 7) (tgt := 20) (by decide +kernel) rfl (s_X12_letterOf_20 G hst kc hk) (sn_iconst (n := 1) (v := 1) (by decide +kernel) rfl (sn_goto (off := 55) (tgt := 72) (by decide +kernel) rfl (s_X12_letterOf_72 G hst kc hk))))))
noncomputable def B_X12_letterOf_0 (kc : Nat → en_B) : en_B := (op_iload 0 (op_const (119 : Int32) (op_iceq (op_const (0 : Int32) (B_X12_letterOf_72 kc)) (B_X12_letterOf_10 kc))))
set_option maxRecDepth 20000 in
theorem s_X12_letterOf_0 (G : en_G) (hst : G.2.2.2.2.2 = true) (kc : Nat → en_B) (hk : ∀ t, en_Snd G M_X12_letterOf t (kc t)) : en_Snd G M_X12_letterOf 0 (B_X12_letterOf_0 kc) := (sn_iload_n (i := 0) (n := 0) (by decide +kernel) rfl (sn_bipush (n := 119) (v := 119) (by decide +kernel) rfl (sn_icne (off := 7) (tgt := 10) (by decide +kernel) rfl (s_X12_letterOf_10 G hst kc hk) (sn_iconst (n := 0) (v := 0) (by decide +kernel) rfl (sn_goto (off := 65) (tgt := 72) (by decide +kernel) rfl (s_X12_letterOf_72 G hst kc hk))))))
noncomputable def LK_X12_letterOf : Nat → Nat → en_B
  | 0, _ => en_no
  | n + 1, t => en_no
theorem l_X12_letterOf (G : en_G) (hst : G.2.2.2.2.2 = true) : ∀ n t, en_Snd G M_X12_letterOf t (LK_X12_letterOf n t)
  | 0, _ => sn_no
  | n + 1, t => by
    show en_Snd G M_X12_letterOf t (en_no)
    exact sn_no
noncomputable def T_X12_letterOf_0 (x0 : Int32) (σ : en_M) : en_R := B_X12_letterOf_0 (LK_X12_letterOf en_FU) [.inl x0] [] en_zz σ
set_option maxRecDepth 20000 in
set_option maxHeartbeats 2000000 in
theorem t_X12_letterOf_0 (x0 : Int32) (σ : en_M) : T_X12_letterOf_0 x0 σ = (if x0 = (119 : Int32) then (en_ri (0 : Int32) σ) else (if x0 = (116 : Int32) then (en_ri (1 : Int32) σ) else (if x0 = (112 : Int32) then (en_ri (2 : Int32) σ) else (if x0 = (114 : Int32) then (en_ri (3 : Int32) σ) else (if x0 = (105 : Int32) then (en_ri (4 : Int32) σ) else (if x0 = (115 : Int32) then (en_ri (5 : Int32) σ) else (if x0 = (109 : Int32) then (en_ri (6 : Int32) σ) else (en_ri (-1 : Int32) σ)))))))) := rfl
noncomputable def P_X12_letterOf : List en_V → en_M → Option (Int32 × en_M) := fun av σ => match av with
  | [.inl x0] => en_oi (T_X12_letterOf_0 x0 σ)
  | _ => none
theorem ox_X12_letterOf : ∃ f, f = P_X12_letterOf := ⟨_, rfl⟩
noncomputable def O_X12_letterOf : List en_V → en_M → Option (Int32 × en_M) := Classical.choose ox_X12_letterOf
theorem oe_X12_letterOf : O_X12_letterOf = P_X12_letterOf := Classical.choose_spec ox_X12_letterOf
theorem o_X12_letterOf (x0 : Int32) (σ : en_M) : O_X12_letterOf [.inl x0] σ = en_oi (T_X12_letterOf_0 x0 σ) := by rw [oe_X12_letterOf]; rfl
theorem i_X12_letterOf (G : en_G) (hst : G.2.2.2.2.2 = true) : en_I G 1 yX12_letterOf cX12_letterOf 1 (some .int) 0 0 (en_wi (O_X12_letterOf)) := en_of_i (M := M_X12_letterOf) hst (s_X12_letterOf_0 G hst _ (l_X12_letterOf G hst en_FU)) (plainFor_of_name (by decide +kernel)) rfl rfl rfl (Or.inl ⟨rfl, rfl⟩) (fun av σ x σ' h => by
  rw [oe_X12_letterOf] at h; unfold P_X12_letterOf at h
  split at h
  · exact ⟨(Nat.le_of_ble_eq_true rfl), en_oi_some h⟩
  · cases h)
-- EachMayMissOneModel.placeOf([II)I
def M_X12_placeOf : en_Me := (cX12_placeOf, RX12, 4, false, 1, false)
theorem cs_X12_placeOf : en_cs yX12_placeOf cX12_placeOf 4 (some .int) 2 := ⟨wm_477, wm_337, ⟨(by decide +kernel), (by decide +kernel), (by decide +kernel)⟩, (Nat.le_of_ble_eq_true rfl)⟩
noncomputable def B_X12_placeOf_15 (kc : Nat → en_B) : en_B := (op_iload 3 op_iret)
set_option maxRecDepth 20000 in
theorem s_X12_placeOf_15 (G : en_G) (hst : G.2.2.2.2.2 = true) (kc : Nat → en_B) (hk : ∀ t, en_Snd G M_X12_placeOf t (kc t)) : en_Snd G M_X12_placeOf 15 (B_X12_placeOf_15 kc) := (sn_iload_n (i := 3) (n := 3) (by decide +kernel) rfl (sn_iret (by decide +kernel) rfl))
noncomputable def B_X12_placeOf_2 (kc : Nat → en_B) : en_B := (op_aload 1 (op_iload 3 (op_ald 20 (op_iload 2 (op_iceq (B_X12_placeOf_15 kc) (op_iinc 3 (1 : Int32) (kc 2)))))))
set_option maxRecDepth 20000 in
theorem s_X12_placeOf_2 (G : en_G) (hst : G.2.2.2.2.2 = true) (kc : Nat → en_B) (hk : ∀ t, en_Snd G M_X12_placeOf t (kc t)) : en_Snd G M_X12_placeOf 2 (B_X12_placeOf_2 kc) := (sn_aload_n (i := 1) (n := 1) (by decide +kernel) rfl (sn_iload_n (i := 3) (n := 3) (by decide +kernel) rfl (sn_iald (by decide +kernel) (sn_iload_n (i := 2) (n := 2) (by decide +kernel) rfl (sn_iceq (off := 9) (tgt := 15) (by decide +kernel) rfl (s_X12_placeOf_15 G hst kc hk) (sn_iinc (i := 3) (n := 1) (v := 1) (by decide +kernel) rfl (sn_goto (off := -10) (tgt := 2) (by decide +kernel) rfl (hk 2))))))))
noncomputable def B_X12_placeOf_0 (kc : Nat → en_B) : en_B := (op_const (0 : Int32) (op_istore 3 (kc 2)))
set_option maxRecDepth 20000 in
theorem s_X12_placeOf_0 (G : en_G) (hst : G.2.2.2.2.2 = true) (kc : Nat → en_B) (hk : ∀ t, en_Snd G M_X12_placeOf t (kc t)) : en_Snd G M_X12_placeOf 0 (B_X12_placeOf_0 kc) := (sn_iconst (n := 0) (v := 0) (by decide +kernel) rfl (sn_istore_n (i := 3) (n := 3) (by decide +kernel) rfl (Nat.le_of_ble_eq_true rfl) (hk 2)))
noncomputable def LK_X12_placeOf : Nat → Nat → en_B
  | 0, _ => en_no
  | n + 1, t => if t = 2 then B_X12_placeOf_2 (LK_X12_placeOf n) else en_no
theorem l_X12_placeOf (G : en_G) (hst : G.2.2.2.2.2 = true) : ∀ n t, en_Snd G M_X12_placeOf t (LK_X12_placeOf n t)
  | 0, _ => sn_no
  | n + 1, t => by
    show en_Snd G M_X12_placeOf t (if t = 2 then B_X12_placeOf_2 (LK_X12_placeOf n) else en_no)
    by_cases h_2 : t = 2
    · rw [if_pos h_2, h_2]; exact s_X12_placeOf_2 G hst _ (l_X12_placeOf G hst n)
    rw [if_neg h_2]
    exact sn_no
noncomputable def T_X12_placeOf_0 (k1 : Nat) (x2 : Int32) (σ : en_M) : en_R := B_X12_placeOf_0 (LK_X12_placeOf en_FU) [.inr (185, 12, 0, 0), .inr (k1, 20, 53, 0), .inl x2, en_un] [] en_zz σ
noncomputable def T_X12_placeOf_2 (n : Nat) (k1 : Nat) (x2 : Int32) (x3 : Int32) (σ : en_M) : en_R := LK_X12_placeOf n 2 [.inr (185, 12, 0, 0), .inr (k1, 20, 53, 0), .inl x2, .inl x3] [] en_zz σ
set_option maxRecDepth 20000 in
set_option maxHeartbeats 2000000 in
theorem t_X12_placeOf_0 (k1 : Nat) (x2 : Int32) (σ : en_M) : T_X12_placeOf_0 k1 x2 σ = (T_X12_placeOf_2 en_FU k1 x2 (0 : Int32) σ) := rfl
set_option maxRecDepth 20000 in
set_option maxHeartbeats 2000000 in
theorem t_X12_placeOf_2 (n : Nat) (k1 : Nat) (x2 : Int32) (x3 : Int32) (σ : en_M) : T_X12_placeOf_2 (n + 1) k1 x2 x3 σ = ((en_ix x3 53).bind fun j1 => if (σ k1 j1) = x2 then (en_ri x3 σ) else (T_X12_placeOf_2 n k1 x2 (x3 + (1 : Int32)) σ)) := rfl
noncomputable def P_X12_placeOf : List en_V → en_M → Option (Int32 × en_M) := fun av σ => match av with
  | [.inr (185, 12, 0, 0), .inr (k1, 20, 53, 0), .inl x2] => en_oi (T_X12_placeOf_0 k1 x2 σ)
  | _ => none
theorem ox_X12_placeOf : ∃ f, f = P_X12_placeOf := ⟨_, rfl⟩
noncomputable def O_X12_placeOf : List en_V → en_M → Option (Int32 × en_M) := Classical.choose ox_X12_placeOf
theorem oe_X12_placeOf : O_X12_placeOf = P_X12_placeOf := Classical.choose_spec ox_X12_placeOf
theorem o_X12_placeOf (k1 : Nat) (x2 : Int32) (σ : en_M) : O_X12_placeOf [.inr (185, 12, 0, 0), .inr (k1, 20, 53, 0), .inl x2] σ = en_oi (T_X12_placeOf_0 k1 x2 σ) := by rw [oe_X12_placeOf]; rfl
theorem i_X12_placeOf (G : en_G) (hst : G.2.2.2.2.2 = true) : en_I G 1 yX12_placeOf cX12_placeOf 4 (some .int) 0 0 (en_wi (O_X12_placeOf)) := en_of_i (M := M_X12_placeOf) hst (s_X12_placeOf_0 G hst _ (l_X12_placeOf G hst en_FU)) (plainFor_of_name (by decide +kernel)) rfl rfl rfl (Or.inl ⟨rfl, rfl⟩) (fun av σ x σ' h => by
  rw [oe_X12_placeOf] at h; unfold P_X12_placeOf at h
  split at h
  · exact ⟨(Nat.le_of_ble_eq_true rfl), en_oi_some h⟩
  · cases h)
-- EachMayMissOneModel.placesOf([II)I
def M_X12_placesOf : en_Me := (cX12_placesOf, RX12, 5, false, 2, false)
theorem cs_X12_placesOf : en_cs yX12_placesOf cX12_placesOf 5 (some .int) 2 := ⟨wm_480, wm_337, ⟨(by decide +kernel), (by decide +kernel), (by decide +kernel)⟩, (Nat.le_of_ble_eq_true rfl)⟩
noncomputable def B_X12_placesOf_42 (kc : Nat → en_B) : en_B := (op_iload 3 op_iret)
set_option maxRecDepth 20000 in
theorem s_X12_placesOf_42 (G : en_G) (hst : G.2.2.2.2.2 = true) (kc : Nat → en_B) (hk : ∀ t, en_Snd G M_X12_placesOf t (kc t)) : en_Snd G M_X12_placesOf 42 (B_X12_placesOf_42 kc) := (sn_iload_n (i := 3) (n := 3) (by decide +kernel) rfl (sn_iret (by decide +kernel) rfl))
noncomputable def B_X12_placesOf_34 (kc : Nat → en_B) : en_B := (op_bin (fun (x y : Int32) => x ||| y) (op_istore 3 (op_iinc 4 (1 : Int32) (kc 5))))
set_option maxRecDepth 20000 in
theorem s_X12_placesOf_34 (G : en_G) (hst : G.2.2.2.2.2 = true) (kc : Nat → en_B) (hk : ∀ t, en_Snd G M_X12_placesOf t (kc t)) : en_Snd G M_X12_placesOf 34 (B_X12_placesOf_34 kc) := (sn_ior (by decide +kernel) (sn_istore_n (i := 3) (n := 3) (by decide +kernel) rfl (Nat.le_of_ble_eq_true rfl) (sn_iinc (i := 4) (n := 1) (v := 1) (by decide +kernel) rfl (sn_goto (off := -34) (tgt := 5) (by decide +kernel) rfl (hk 5)))))
noncomputable def B_X12_placesOf_33 (kc : Nat → en_B) : en_B := (op_const (0 : Int32) (B_X12_placesOf_34 kc))
set_option maxRecDepth 20000 in
theorem s_X12_placesOf_33 (G : en_G) (hst : G.2.2.2.2.2 = true) (kc : Nat → en_B) (hk : ∀ t, en_Snd G M_X12_placesOf t (kc t)) : en_Snd G M_X12_placesOf 33 (B_X12_placesOf_33 kc) := (sn_iconst (n := 0) (v := 0) (by decide +kernel) rfl (s_X12_placesOf_34 G hst kc hk))
noncomputable def B_X12_placesOf_5 (kc : Nat → en_B) : en_B := (op_iload 4 (op_aload 0 (op_geti 12 1 (op_iclt (op_iload 3 (op_iload 2 (op_aload 1 (op_iload 4 (op_ald 20 (op_calli O_X12_has 2 (op_ifeq (B_X12_placesOf_33 kc) (op_const (1 : Int32) (op_iload 4 (op_bin en_shl (B_X12_placesOf_34 kc))))))))))) (B_X12_placesOf_42 kc)))))
set_option maxRecDepth 20000 in
theorem s_X12_placesOf_5 (G : en_G) (hst : G.2.2.2.2.2 = true) (kc : Nat → en_B) (hk : ∀ t, en_Snd G M_X12_placesOf t (kc t)) : en_Snd G M_X12_placesOf 5 (B_X12_placesOf_5 kc) := (sn_iload (i := 4) (by decide +kernel) (sn_aload_n (i := 0) (n := 0) (by decide +kernel) rfl (sn_geti (ci := 12) (j := 1) en_c12 (by decide +kernel) wm_383 (Nat.le_of_ble_eq_true rfl) rfl (sn_icge (off := 31) (tgt := 42) (by decide +kernel) rfl (s_X12_placesOf_42 G hst kc hk) (sn_iload_n (i := 3) (n := 3) (by decide +kernel) rfl (sn_iload_n (i := 2) (n := 2) (by decide +kernel) rfl (sn_aload_n (i := 1) (n := 1) (by decide +kernel) rfl (sn_iload (i := 4) (by decide +kernel) (sn_iald (by decide +kernel) (sn_callSi (n := 2) (idx := 198) (i_X12_has G hst) (Nat.le_of_ble_eq_true rfl) cs_X12_has ⟨wm_372, Or.inl wm_483⟩ (by decide +kernel) (sn_ifeq (off := 10) (tgt := 33) (by decide +kernel) rfl (s_X12_placesOf_33 G hst kc hk) (sn_iconst (n := 1) (v := 1) (by decide +kernel) rfl (sn_iload (i := 4) (by decide +kernel) (sn_ishl (by decide +kernel) (sn_goto (off := 4) (tgt := 34) (by decide +kernel) rfl (s_X12_placesOf_34 G hst kc hk))))))))))))))))
noncomputable def B_X12_placesOf_0 (kc : Nat → en_B) : en_B := (op_const (0 : Int32) (op_istore 3 (op_const (0 : Int32) (op_istore 4 (kc 5)))))
set_option maxRecDepth 20000 in
theorem s_X12_placesOf_0 (G : en_G) (hst : G.2.2.2.2.2 = true) (kc : Nat → en_B) (hk : ∀ t, en_Snd G M_X12_placesOf t (kc t)) : en_Snd G M_X12_placesOf 0 (B_X12_placesOf_0 kc) := (sn_iconst (n := 0) (v := 0) (by decide +kernel) rfl (sn_istore_n (i := 3) (n := 3) (by decide +kernel) rfl (Nat.le_of_ble_eq_true rfl) (sn_iconst (n := 0) (v := 0) (by decide +kernel) rfl (sn_istore (i := 4) (by decide +kernel) (Nat.le_of_ble_eq_true rfl) (hk 5)))))
noncomputable def LK_X12_placesOf : Nat → Nat → en_B
  | 0, _ => en_no
  | n + 1, t => if t = 5 then B_X12_placesOf_5 (LK_X12_placesOf n) else en_no
theorem l_X12_placesOf (G : en_G) (hst : G.2.2.2.2.2 = true) : ∀ n t, en_Snd G M_X12_placesOf t (LK_X12_placesOf n t)
  | 0, _ => sn_no
  | n + 1, t => by
    show en_Snd G M_X12_placesOf t (if t = 5 then B_X12_placesOf_5 (LK_X12_placesOf n) else en_no)
    by_cases h_5 : t = 5
    · rw [if_pos h_5, h_5]; exact s_X12_placesOf_5 G hst _ (l_X12_placesOf G hst n)
    rw [if_neg h_5]
    exact sn_no
noncomputable def T_X12_placesOf_0 (k1 : Nat) (x2 : Int32) (σ : en_M) : en_R := B_X12_placesOf_0 (LK_X12_placesOf en_FU) [.inr (185, 12, 0, 0), .inr (k1, 20, 53, 0), .inl x2, en_un, en_un] [] en_zz σ
noncomputable def T_X12_placesOf_5 (n : Nat) (k1 : Nat) (x2 : Int32) (x3 : Int32) (x4 : Int32) (σ : en_M) : en_R := LK_X12_placesOf n 5 [.inr (185, 12, 0, 0), .inr (k1, 20, 53, 0), .inl x2, .inl x3, .inl x4] [] en_zz σ
set_option maxRecDepth 20000 in
set_option maxHeartbeats 2000000 in
theorem t_X12_placesOf_0 (k1 : Nat) (x2 : Int32) (σ : en_M) : T_X12_placesOf_0 k1 x2 σ = (T_X12_placesOf_5 en_FU k1 x2 (0 : Int32) (0 : Int32) σ) := rfl
set_option maxRecDepth 20000 in
set_option maxHeartbeats 2000000 in
theorem t_X12_placesOf_5 (n : Nat) (k1 : Nat) (x2 : Int32) (x3 : Int32) (x4 : Int32) (σ : en_M) : T_X12_placesOf_5 (n + 1) k1 x2 x3 x4 σ = (if x4 < (σ 185 1) then ((en_ix x4 53).bind fun j1 => (O_X12_has [.inl x2, .inl (σ k1 j1)] σ).bind fun r2 => if r2.1 = 0 then (T_X12_placesOf_5 n k1 x2 (x3 ||| (0 : Int32)) (x4 + (1 : Int32)) r2.2) else (T_X12_placesOf_5 n k1 x2 (x3 ||| (en_shl (1 : Int32) x4)) (x4 + (1 : Int32)) r2.2)) else (en_ri x3 σ)) := rfl
noncomputable def P_X12_placesOf : List en_V → en_M → Option (Int32 × en_M) := fun av σ => match av with
  | [.inr (185, 12, 0, 0), .inr (k1, 20, 53, 0), .inl x2] => en_oi (T_X12_placesOf_0 k1 x2 σ)
  | _ => none
theorem ox_X12_placesOf : ∃ f, f = P_X12_placesOf := ⟨_, rfl⟩
noncomputable def O_X12_placesOf : List en_V → en_M → Option (Int32 × en_M) := Classical.choose ox_X12_placesOf
theorem oe_X12_placesOf : O_X12_placesOf = P_X12_placesOf := Classical.choose_spec ox_X12_placesOf
theorem o_X12_placesOf (k1 : Nat) (x2 : Int32) (σ : en_M) : O_X12_placesOf [.inr (185, 12, 0, 0), .inr (k1, 20, 53, 0), .inl x2] σ = en_oi (T_X12_placesOf_0 k1 x2 σ) := by rw [oe_X12_placesOf]; rfl
theorem i_X12_placesOf (G : en_G) (hst : G.2.2.2.2.2 = true) : en_I G 2 yX12_placesOf cX12_placesOf 5 (some .int) 0 0 (en_wi (O_X12_placesOf)) := en_of_i (M := M_X12_placesOf) hst (s_X12_placesOf_0 G hst _ (l_X12_placesOf G hst en_FU)) (plainFor_of_name (by decide +kernel)) rfl rfl rfl (Or.inl ⟨rfl, rfl⟩) (fun av σ x σ' h => by
  rw [oe_X12_placesOf] at h; unfold P_X12_placesOf at h
  split at h
  · exact ⟨(Nat.le_of_ble_eq_true rfl), en_oi_some h⟩
  · cases h)
-- EachMayMissOneModel.tenor()I
def M_X12_tenor : en_Me := (cX12_tenor, RX12, 3, false, 1, false)
theorem cs_X12_tenor : en_cs yX12_tenor cX12_tenor 3 (some .int) 0 := ⟨wm_484, wm_337, ⟨(by decide +kernel), (by decide +kernel), (by decide +kernel)⟩, (Nat.le_of_ble_eq_true rfl)⟩
noncomputable def B_X12_tenor_40 (kc : Nat → en_B) : en_B := (op_iload 1 op_iret)
set_option maxRecDepth 20000 in
theorem s_X12_tenor_40 (G : en_G) (hst : G.2.2.2.2.2 = true) (kc : Nat → en_B) (hk : ∀ t, en_Snd G M_X12_tenor t (kc t)) : en_Snd G M_X12_tenor 40 (B_X12_tenor_40 kc) := (sn_iload_n (i := 1) (n := 1) (by decide +kernel) rfl (sn_iret (by decide +kernel) rfl))
noncomputable def B_X12_tenor_34 (kc : Nat → en_B) : en_B := (op_iinc 2 (1 : Int32) (kc 4))
set_option maxRecDepth 20000 in
theorem s_X12_tenor_34 (G : en_G) (hst : G.2.2.2.2.2 = true) (kc : Nat → en_B) (hk : ∀ t, en_Snd G M_X12_tenor t (kc t)) : en_Snd G M_X12_tenor 34 (B_X12_tenor_34 kc) := (sn_iinc (i := 2) (n := 1) (v := 1) (by decide +kernel) rfl (sn_goto (off := -33) (tgt := 4) (by decide +kernel) rfl (hk 4)))
noncomputable def B_X12_tenor_32 (kc : Nat → en_B) : en_B := (op_iload 2 (op_istore 1 (B_X12_tenor_34 kc)))
set_option maxRecDepth 20000 in
theorem s_X12_tenor_32 (G : en_G) (hst : G.2.2.2.2.2 = true) (kc : Nat → en_B) (hk : ∀ t, en_Snd G M_X12_tenor t (kc t)) : en_Snd G M_X12_tenor 32 (B_X12_tenor_32 kc) := (sn_iload_n (i := 2) (n := 2) (by decide +kernel) rfl (sn_istore_n (i := 1) (n := 1) (by decide +kernel) rfl (Nat.le_of_ble_eq_true rfl) (s_X12_tenor_34 G hst kc hk)))
noncomputable def B_X12_tenor_4 (kc : Nat → en_B) : en_B := (op_iload 2 (op_aload 0 (op_geti 12 1 (op_iclt (op_iload 1 (op_const (-1 : Int32) (op_iceq (B_X12_tenor_32 kc) (op_aload 0 (op_gets 12 2 (20, 7, 0) (op_iload 2 (op_ald 20 (op_aload 0 (op_gets 12 2 (20, 7, 0) (op_iload 1 (op_ald 20 (op_iclt (B_X12_tenor_34 kc) (B_X12_tenor_32 kc))))))))))))) (B_X12_tenor_40 kc)))))
set_option maxRecDepth 20000 in
theorem s_X12_tenor_4 (G : en_G) (hst : G.2.2.2.2.2 = true) (kc : Nat → en_B) (hk : ∀ t, en_Snd G M_X12_tenor t (kc t)) : en_Snd G M_X12_tenor 4 (B_X12_tenor_4 kc) := (sn_iload_n (i := 2) (n := 2) (by decide +kernel) rfl (sn_aload_n (i := 0) (n := 0) (by decide +kernel) rfl (sn_geti (ci := 12) (j := 1) en_c12 (by decide +kernel) wm_383 (Nat.le_of_ble_eq_true rfl) rfl (sn_icge (off := 31) (tgt := 40) (by decide +kernel) rfl (s_X12_tenor_40 G hst kc hk) (sn_iload_n (i := 1) (n := 1) (by decide +kernel) rfl (sn_iconst (n := -1) (v := -1) (by decide +kernel) rfl (sn_iceq (off := 18) (tgt := 32) (by decide +kernel) rfl (s_X12_tenor_32 G hst kc hk) (sn_aload_n (i := 0) (n := 0) (by decide +kernel) rfl (sn_gets (ci := 12) (j := 2) (off := 2) hst en_c12 of_12_2 (Nat.le_of_ble_eq_true rfl) (by decide +kernel) wm_340 (Nat.le_of_ble_eq_true rfl) rfl (sn_iload_n (i := 2) (n := 2) (by decide +kernel) rfl (sn_iald (by decide +kernel) (sn_aload_n (i := 0) (n := 0) (by decide +kernel) rfl (sn_gets (ci := 12) (j := 2) (off := 2) hst en_c12 of_12_2 (Nat.le_of_ble_eq_true rfl) (by decide +kernel) wm_340 (Nat.le_of_ble_eq_true rfl) rfl (sn_iload_n (i := 1) (n := 1) (by decide +kernel) rfl (sn_iald (by decide +kernel) (sn_iclt (off := 5) (tgt := 34) (by decide +kernel) rfl (s_X12_tenor_34 G hst kc hk) (s_X12_tenor_32 G hst kc hk)))))))))))))))))
noncomputable def B_X12_tenor_0 (kc : Nat → en_B) : en_B := (op_const (-1 : Int32) (op_istore 1 (op_const (0 : Int32) (op_istore 2 (kc 4)))))
set_option maxRecDepth 20000 in
theorem s_X12_tenor_0 (G : en_G) (hst : G.2.2.2.2.2 = true) (kc : Nat → en_B) (hk : ∀ t, en_Snd G M_X12_tenor t (kc t)) : en_Snd G M_X12_tenor 0 (B_X12_tenor_0 kc) := (sn_iconst (n := -1) (v := -1) (by decide +kernel) rfl (sn_istore_n (i := 1) (n := 1) (by decide +kernel) rfl (Nat.le_of_ble_eq_true rfl) (sn_iconst (n := 0) (v := 0) (by decide +kernel) rfl (sn_istore_n (i := 2) (n := 2) (by decide +kernel) rfl (Nat.le_of_ble_eq_true rfl) (hk 4)))))
noncomputable def LK_X12_tenor : Nat → Nat → en_B
  | 0, _ => en_no
  | n + 1, t => if t = 4 then B_X12_tenor_4 (LK_X12_tenor n) else en_no
theorem l_X12_tenor (G : en_G) (hst : G.2.2.2.2.2 = true) : ∀ n t, en_Snd G M_X12_tenor t (LK_X12_tenor n t)
  | 0, _ => sn_no
  | n + 1, t => by
    show en_Snd G M_X12_tenor t (if t = 4 then B_X12_tenor_4 (LK_X12_tenor n) else en_no)
    by_cases h_4 : t = 4
    · rw [if_pos h_4, h_4]; exact s_X12_tenor_4 G hst _ (l_X12_tenor G hst n)
    rw [if_neg h_4]
    exact sn_no
noncomputable def T_X12_tenor_0 (σ : en_M) : en_R := B_X12_tenor_0 (LK_X12_tenor en_FU) [.inr (185, 12, 0, 0), en_un, en_un] [] en_zz σ
noncomputable def T_X12_tenor_4 (n : Nat) (x1 : Int32) (x2 : Int32) (σ : en_M) : en_R := LK_X12_tenor n 4 [.inr (185, 12, 0, 0), .inl x1, .inl x2] [] en_zz σ
set_option maxRecDepth 20000 in
set_option maxHeartbeats 2000000 in
theorem t_X12_tenor_0 (σ : en_M) : T_X12_tenor_0 σ = (T_X12_tenor_4 en_FU (-1 : Int32) (0 : Int32) σ) := rfl
set_option maxRecDepth 20000 in
set_option maxHeartbeats 2000000 in
theorem t_X12_tenor_4 (n : Nat) (x1 : Int32) (x2 : Int32) (σ : en_M) : T_X12_tenor_4 (n + 1) x1 x2 σ = (if x2 < (σ 185 1) then (if x1 = (-1 : Int32) then (T_X12_tenor_4 n x2 (x2 + (1 : Int32)) σ) else ((en_ix x2 7).bind fun j1 => (en_ix x1 7).bind fun j2 => if (σ 187 j1) < (σ 187 j2) then (T_X12_tenor_4 n x1 (x2 + (1 : Int32)) σ) else (T_X12_tenor_4 n x2 (x2 + (1 : Int32)) σ))) else (en_ri x1 σ)) := rfl
noncomputable def P_X12_tenor : List en_V → en_M → Option (Int32 × en_M) := fun av σ => match av with
  | [.inr (185, 12, 0, 0)] => en_oi (T_X12_tenor_0 σ)
  | _ => none
theorem ox_X12_tenor : ∃ f, f = P_X12_tenor := ⟨_, rfl⟩
noncomputable def O_X12_tenor : List en_V → en_M → Option (Int32 × en_M) := Classical.choose ox_X12_tenor
theorem oe_X12_tenor : O_X12_tenor = P_X12_tenor := Classical.choose_spec ox_X12_tenor
theorem o_X12_tenor (σ : en_M) : O_X12_tenor [.inr (185, 12, 0, 0)] σ = en_oi (T_X12_tenor_0 σ) := by rw [oe_X12_tenor]; rfl
theorem i_X12_tenor (G : en_G) (hst : G.2.2.2.2.2 = true) : en_I G 1 yX12_tenor cX12_tenor 3 (some .int) 0 0 (en_wi (O_X12_tenor)) := en_of_i (M := M_X12_tenor) hst (s_X12_tenor_0 G hst _ (l_X12_tenor G hst en_FU)) (plainFor_of_name (by decide +kernel)) rfl rfl rfl (Or.inl ⟨rfl, rfl⟩) (fun av σ x σ' h => by
  rw [oe_X12_tenor] at h; unfold P_X12_tenor at h
  split at h
  · exact ⟨(Nat.le_of_ble_eq_true rfl), en_oi_some h⟩
  · cases h)
-- EachMayMissOneModel.bell(I)I
def M_X12_bell : en_Me := (cX12_bell, RX12, 2, false, 3, false)
theorem cs_X12_bell : en_cs yX12_bell cX12_bell 2 (some .int) 1 := ⟨wm_492, wm_337, ⟨(by decide +kernel), (by decide +kernel), (by decide +kernel)⟩, (Nat.le_of_ble_eq_true rfl)⟩
noncomputable def B_X12_bell_26 (kc : Nat → en_B) : en_B := op_iret
set_option maxRecDepth 20000 in
theorem s_X12_bell_26 (G : en_G) (hst : G.2.2.2.2.2 = true) (kc : Nat → en_B) (hk : ∀ t, en_Snd G M_X12_bell t (kc t)) : en_Snd G M_X12_bell 26 (B_X12_bell_26 kc) := (sn_iret (by decide +kernel) rfl)
noncomputable def B_X12_bell_22 (kc : Nat → en_B) : en_B := (op_aload 0 (op_rcv 12 0 (op_calli O_X12_lost 1 (B_X12_bell_26 kc))))
set_option maxRecDepth 20000 in
theorem s_X12_bell_22 (G : en_G) (hst : G.2.2.2.2.2 = true) (kc : Nat → en_B) (hk : ∀ t, en_Snd G M_X12_bell t (kc t)) : en_Snd G M_X12_bell 22 (B_X12_bell_22 kc) := (sn_aload_n (i := 0) (n := 0) (by decide +kernel) rfl (sn_callVi (n := 0) (idx := 202) (ci := 12) (i_X12_lost G hst) (Nat.le_of_ble_eq_true rfl) cs_X12_lost ⟨wm_374, wm_375, wm_490⟩ ⟨⟨_, rfl, rfl⟩, (Nat.le_of_ble_eq_true rfl)⟩ (by decide +kernel) (s_X12_bell_26 G hst kc hk)))
noncomputable def B_X12_bell_0 (kc : Nat → en_B) : en_B := (op_aload 0 (op_const (0 : Int32) (op_puti 12 11 (op_aload 0 (op_iload 1 (op_rcv 12 1 (op_calli O_X12_isOne 2 (op_ifeq (B_X12_bell_22 kc) (op_aload 0 (op_gets 12 1 (20, 53, 0) (op_iload 1 (op_ald 20 (B_X12_bell_26 kc)))))))))))))
set_option maxRecDepth 20000 in
theorem s_X12_bell_0 (G : en_G) (hst : G.2.2.2.2.2 = true) (kc : Nat → en_B) (hk : ∀ t, en_Snd G M_X12_bell t (kc t)) : en_Snd G M_X12_bell 0 (B_X12_bell_0 kc) := (sn_aload_n (i := 0) (n := 0) (by decide +kernel) rfl (sn_iconst (n := 0) (v := 0) (by decide +kernel) rfl (sn_puti (ci := 12) (j := 11) en_c12 (by decide +kernel) wm_368 (Nat.le_of_ble_eq_true rfl) rfl rfl rfl (sn_aload_n (i := 0) (n := 0) (by decide +kernel) rfl (sn_iload_n (i := 1) (n := 1) (by decide +kernel) rfl (sn_callVi (n := 1) (idx := 104) (ci := 12) (i_X12_isOne G hst) (Nat.le_of_ble_eq_true rfl) cs_X12_isOne ⟨wm_381, wm_382, wm_388⟩ ⟨⟨_, rfl, rfl⟩, (Nat.le_of_ble_eq_true rfl)⟩ (by decide +kernel) (sn_ifeq (off := 12) (tgt := 22) (by decide +kernel) rfl (s_X12_bell_22 G hst kc hk) (sn_aload_n (i := 0) (n := 0) (by decide +kernel) rfl (sn_gets (ci := 12) (j := 0) (off := 1) hst en_c12 of_12_1 (Nat.le_of_ble_eq_true rfl) (by decide +kernel) wm_339 (Nat.le_of_ble_eq_true rfl) rfl (sn_iload_n (i := 1) (n := 1) (by decide +kernel) rfl (sn_iald (by decide +kernel) (sn_goto (off := 7) (tgt := 26) (by decide +kernel) rfl (s_X12_bell_26 G hst kc hk)))))))))))))
noncomputable def LK_X12_bell : Nat → Nat → en_B
  | 0, _ => en_no
  | n + 1, t => en_no
theorem l_X12_bell (G : en_G) (hst : G.2.2.2.2.2 = true) : ∀ n t, en_Snd G M_X12_bell t (LK_X12_bell n t)
  | 0, _ => sn_no
  | n + 1, t => by
    show en_Snd G M_X12_bell t (en_no)
    exact sn_no
noncomputable def T_X12_bell_0 (x1 : Int32) (σ : en_M) : en_R := B_X12_bell_0 (LK_X12_bell en_FU) [.inr (185, 12, 0, 0), .inl x1] [] en_zz σ
set_option maxRecDepth 20000 in
set_option maxHeartbeats 2000000 in
theorem t_X12_bell_0 (x1 : Int32) (σ : en_M) : T_X12_bell_0 x1 σ = ((O_X12_isOne [.inr (185, 12, 0, 0), .inl x1] (en_up σ 185 11 (0 : Int32))).bind fun r1 => if r1.1 = 0 then ((O_X12_lost [.inr (185, 12, 0, 0)] r1.2).bind fun r2 => en_ri r2.1 r2.2) else ((en_ix x1 53).bind fun j3 => en_ri (r1.2 186 j3) r1.2)) := rfl
noncomputable def P_X12_bell : List en_V → en_M → Option (Int32 × en_M) := fun av σ => match av with
  | [.inr (185, 12, 0, 0), .inl x1] => en_oi (T_X12_bell_0 x1 σ)
  | _ => none
theorem ox_X12_bell : ∃ f, f = P_X12_bell := ⟨_, rfl⟩
noncomputable def O_X12_bell : List en_V → en_M → Option (Int32 × en_M) := Classical.choose ox_X12_bell
theorem oe_X12_bell : O_X12_bell = P_X12_bell := Classical.choose_spec ox_X12_bell
theorem o_X12_bell (x1 : Int32) (σ : en_M) : O_X12_bell [.inr (185, 12, 0, 0), .inl x1] σ = en_oi (T_X12_bell_0 x1 σ) := by rw [oe_X12_bell]; rfl
theorem i_X12_bell (G : en_G) (hst : G.2.2.2.2.2 = true) : en_I G 3 yX12_bell cX12_bell 2 (some .int) 0 0 (en_wi (O_X12_bell)) := en_of_i (M := M_X12_bell) hst (s_X12_bell_0 G hst _ (l_X12_bell G hst en_FU)) (plainFor_of_name (by decide +kernel)) rfl rfl rfl (Or.inl ⟨rfl, rfl⟩) (fun av σ x σ' h => by
  rw [oe_X12_bell] at h; unfold P_X12_bell at h
  split at h
  · exact ⟨(Nat.le_of_ble_eq_true rfl), en_oi_some h⟩
  · cases h)
