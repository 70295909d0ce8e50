-- EachMayMissOneModel.bound(I)I
def M_X12_bound : en_Me := (cX12_bound, RX12, 2, false, 2, false)
theorem cs_X12_bound : en_cs yX12_bound cX12_bound 2 (some .int) 1 := ⟨wm_652, wm_337, ⟨(by decide +kernel), (by decide +kernel), (by decide +kernel)⟩, (Nat.le_of_ble_eq_true rfl)⟩
noncomputable def B_X12_bound_39 (kc : Nat → en_B) : en_B := (op_rcv 12 1 (op_callv O_X12_tell 2 (op_aload 0 (op_geti 12 1 (op_iload 1 (op_bin (fun (x y : Int32) => x * y) (op_aload 0 (op_geti 12 5 (op_bin (fun (x y : Int32) => x + y) (op_const (1 : Int32) (op_bin (fun (x y : Int32) => x - y) (op_aload 0 (op_geti 12 5 (op_div (fun (x y : Int32) => x / y) op_iret))))))))))))))
set_option maxRecDepth 20000 in
theorem s_X12_bound_39 (G : en_G) (hst : G.2.2.2.2.2 = true) (kc : Nat → en_B) (hk : ∀ t, en_Snd G M_X12_bound t (kc t)) : en_Snd G M_X12_bound 39 (B_X12_bound_39 kc) := (sn_callVv (n := 1) (idx := 251) (ci := 12) (i_X12_tell G hst) (Nat.le_of_ble_eq_true rfl) cs_X12_tell ⟨wm_377, wm_378, wm_536⟩ ⟨⟨_, rfl, rfl⟩, (Nat.le_of_ble_eq_true rfl)⟩ (by decide +kernel) (sn_aload_n (i := 0) (n := 0) (by decide +kernel) rfl (sn_geti (ci := 12) (j := 1) en_c12 (by decide +kernel) wm_383 (Nat.le_of_ble_eq_true rfl) rfl (sn_iload_n (i := 1) (n := 1) (by decide +kernel) rfl (sn_imul (by decide +kernel) (sn_aload_n (i := 0) (n := 0) (by decide +kernel) rfl (sn_geti (ci := 12) (j := 5) en_c12 (by decide +kernel) wm_343 (Nat.le_of_ble_eq_true rfl) rfl (sn_iadd (by decide +kernel) (sn_iconst (n := 1) (v := 1) (by decide +kernel) rfl (sn_isub (by decide +kernel) (sn_aload_n (i := 0) (n := 0) (by decide +kernel) rfl (sn_geti (ci := 12) (j := 5) en_c12 (by decide +kernel) wm_343 (Nat.le_of_ble_eq_true rfl) rfl (sn_idiv (by decide +kernel) (sn_iret (by decide +kernel) rfl))))))))))))))
noncomputable def B_X12_bound_34 (kc : Nat → en_B) : en_B := (op_const (2 : Int32) (op_iload 1 (op_bin (fun (x y : Int32) => x * y) (op_const (1 : Int32) (op_bin (fun (x y : Int32) => x - y) (B_X12_bound_39 kc))))))
set_option maxRecDepth 20000 in
theorem s_X12_bound_34 (G : en_G) (hst : G.2.2.2.2.2 = true) (kc : Nat → en_B) (hk : ∀ t, en_Snd G M_X12_bound t (kc t)) : en_Snd G M_X12_bound 34 (B_X12_bound_34 kc) := (sn_iconst (n := 2) (v := 2) (by decide +kernel) rfl (sn_iload_n (i := 1) (n := 1) (by decide +kernel) rfl (sn_imul (by decide +kernel) (sn_iconst (n := 1) (v := 1) (by decide +kernel) rfl (sn_isub (by decide +kernel) (s_X12_bound_39 G hst kc hk))))))
noncomputable def B_X12_bound_17 (kc : Nat → en_B) : en_B := (op_aload 0 (op_const (0 : Int32) (op_puti 12 10 (op_aload 0 (op_aload 0 (op_geti 12 1 (op_ifeq (op_const (0 : Int32) (B_X12_bound_39 kc)) (B_X12_bound_34 kc))))))))
set_option maxRecDepth 20000 in
theorem s_X12_bound_17 (G : en_G) (hst : G.2.2.2.2.2 = true) (kc : Nat → en_B) (hk : ∀ t, en_Snd G M_X12_bound t (kc t)) : en_Snd G M_X12_bound 17 (B_X12_bound_17 kc) := (sn_aload_n (i := 0) (n := 0) (by decide +kernel) rfl (sn_iconst (n := 0) (v := 0) (by decide +kernel) rfl (sn_puti (ci := 12) (j := 10) en_c12 (by decide +kernel) wm_379 (Nat.le_of_ble_eq_true rfl) rfl rfl rfl (sn_aload_n (i := 0) (n := 0) (by decide +kernel) rfl (sn_aload_n (i := 0) (n := 0) (by decide +kernel) rfl (sn_geti (ci := 12) (j := 1) en_c12 (by decide +kernel) wm_383 (Nat.le_of_ble_eq_true rfl) rfl (sn_ifne (off := 7) (tgt := 34) (by decide +kernel) rfl (s_X12_bound_34 G hst kc hk) (sn_iconst (n := 0) (v := 0) (by decide +kernel) rfl (sn_goto (off := 8) (tgt := 39) (by decide +kernel) rfl (s_X12_bound_39 G hst kc hk))))))))))
noncomputable def B_X12_bound_0 (kc : Nat → en_B) : en_B := (op_aload 0 (op_const (0 : Int32) (op_puti 12 11 (op_iload 1 (op_const (1 : Int32) (op_const (99 : Int32) (op_calli O_X12_in 3 (op_ifeq (op_const (-1 : Int32) op_iret) (B_X12_bound_17 kc)))))))))
set_option maxRecDepth 20000 in
theorem s_X12_bound_0 (G : en_G) (hst : G.2.2.2.2.2 = true) (kc : Nat → en_B) (hk : ∀ t, en_Snd G M_X12_bound t (kc t)) : en_Snd G M_X12_bound 0 (B_X12_bound_0 kc) := (sn_aload_n (i := 0) (n := 0) (by decide +kernel) rfl (sn_iconst (n := 0) (v := 0) (by decide +kernel) rfl (sn_puti (ci := 12) (j := 11) en_c12 (by decide +kernel) wm_368 (Nat.le_of_ble_eq_true rfl) rfl rfl rfl (sn_iload_n (i := 1) (n := 1) (by decide +kernel) rfl (sn_iconst (n := 1) (v := 1) (by decide +kernel) rfl (sn_bipush (n := 99) (v := 99) (by decide +kernel) rfl (sn_callSi (n := 3) (idx := 100) (i_X12_in G hst) (Nat.le_of_ble_eq_true rfl) cs_X12_in ⟨wm_370, Or.inl wm_384⟩ (by decide +kernel) (sn_ifne (off := 5) (tgt := 17) (by decide +kernel) rfl (s_X12_bound_17 G hst kc hk) (sn_iconst (n := -1) (v := -1) (by decide +kernel) rfl (sn_iret (by decide +kernel) rfl))))))))))
noncomputable def LK_X12_bound : Nat → Nat → en_B
  | 0, _ => en_no
  | n + 1, t => en_no
theorem l_X12_bound (G : en_G) (hst : G.2.2.2.2.2 = true) : ∀ n t, en_Snd G M_X12_bound t (LK_X12_bound n t)
  | 0, _ => sn_no
  | n + 1, t => by
    show en_Snd G M_X12_bound t (en_no)
    exact sn_no
noncomputable def T_X12_bound_0 (x1 : Int32) (σ : en_M) : en_R := B_X12_bound_0 (LK_X12_bound en_FU) [.inr (185, 12, 0, 0), .inl x1] [] en_zz σ
set_option maxRecDepth 20000 in
set_option maxHeartbeats 2000000 in
theorem t_X12_bound_0 (x1 : Int32) (σ : en_M) : T_X12_bound_0 x1 σ = ((O_X12_in [.inl x1, .inl (1 : Int32), .inl (99 : Int32)] (en_up σ 185 11 (0 : Int32))).bind fun r1 => if r1.1 = 0 then (en_ri (-1 : Int32) r1.2) else (if (r1.2 185 1) = 0 then ((O_X12_tell [.inr (185, 12, 0, 0), .inl (0 : Int32)] (en_up r1.2 185 10 (0 : Int32))).bind fun r3 => if (r3 185 5) = 0 then none else (en_ri (((((r3 185 1) * x1) + (r3 185 5)) - (1 : Int32)) / (r3 185 5)) r3)) else ((O_X12_tell [.inr (185, 12, 0, 0), .inl (((2 : Int32) * x1) - (1 : Int32))] (en_up r1.2 185 10 (0 : Int32))).bind fun r2 => if (r2 185 5) = 0 then none else (en_ri (((((r2 185 1) * x1) + (r2 185 5)) - (1 : Int32)) / (r2 185 5)) r2)))) := rfl
noncomputable def P_X12_bound : List en_V → en_M → Option (Int32 × en_M) := fun av σ => match av with
  | [.inr (185, 12, 0, 0), .inl x1] => en_oi (T_X12_bound_0 x1 σ)
  | _ => none
theorem ox_X12_bound : ∃ f, f = P_X12_bound := ⟨_, rfl⟩
noncomputable def O_X12_bound : List en_V → en_M → Option (Int32 × en_M) := Classical.choose ox_X12_bound
theorem oe_X12_bound : O_X12_bound = P_X12_bound := Classical.choose_spec ox_X12_bound
theorem o_X12_bound (x1 : Int32) (σ : en_M) : O_X12_bound [.inr (185, 12, 0, 0), .inl x1] σ = en_oi (T_X12_bound_0 x1 σ) := by rw [oe_X12_bound]; rfl
theorem i_X12_bound (G : en_G) (hst : G.2.2.2.2.2 = true) : en_I G 2 yX12_bound cX12_bound 2 (some .int) 0 0 (en_wi (O_X12_bound)) := en_of_i (M := M_X12_bound) hst (s_X12_bound_0 G hst _ (l_X12_bound G hst en_FU)) (plainFor_of_name (by decide +kernel)) rfl rfl rfl (Or.inl ⟨rfl, rfl⟩) (fun av σ x σ' h => by
  rw [oe_X12_bound] at h; unfold P_X12_bound at h
  split at h
  · exact ⟨(Nat.le_of_ble_eq_true rfl), en_oi_some h⟩
  · cases h)
-- EachMayMissOneModel.missed(I)I
def M_X12_missed : en_Me := (cX12_missed, RX12, 2, false, 1, false)
theorem cs_X12_missed : en_cs yX12_missed cX12_missed 2 (some .int) 1 := ⟨wm_655, wm_337, ⟨(by decide +kernel), (by decide +kernel), (by decide +kernel)⟩, (Nat.le_of_ble_eq_true rfl)⟩
noncomputable def B_X12_missed_39 (kc : Nat → en_B) : en_B := op_iret
set_option maxRecDepth 20000 in
theorem s_X12_missed_39 (G : en_G) (hst : G.2.2.2.2.2 = true) (kc : Nat → en_B) (hk : ∀ t, en_Snd G M_X12_missed t (kc t)) : en_Snd G M_X12_missed 39 (B_X12_missed_39 kc) := (sn_iret (by decide +kernel) rfl)
noncomputable def B_X12_missed_28 (kc : Nat → en_B) : en_B := (op_aload 0 (op_gets 12 1 (20, 53, 0) (op_const (33 : Int32) (op_iload 1 (op_bin (fun (x y : Int32) => x + y) (op_const (1 : Int32) (op_bin (fun (x y : Int32) => x - y) (op_ald 20 (B_X12_missed_39 kc)))))))))
set_option maxRecDepth 20000 in
theorem s_X12_missed_28 (G : en_G) (hst : G.2.2.2.2.2 = true) (kc : Nat → en_B) (hk : ∀ t, en_Snd G M_X12_missed t (kc t)) : en_Snd G M_X12_missed 28 (B_X12_missed_28 kc) := (sn_aload_n (i := 0) (n := 0) (by decide +kernel) rfl (sn_gets (ci := 12) (j := 0) (off := 1) hst en_c12 of_12_1 (Nat.le_of_ble_eq_true rfl) (by decide +kernel) wm_339 (Nat.le_of_ble_eq_true rfl) rfl (sn_bipush (n := 33) (v := 33) (by decide +kernel) rfl (sn_iload_n (i := 1) (n := 1) (by decide +kernel) rfl (sn_iadd (by decide +kernel) (sn_iconst (n := 1) (v := 1) (by decide +kernel) rfl (sn_isub (by decide +kernel) (sn_iald (by decide +kernel) (s_X12_missed_39 G hst kc hk)))))))))
noncomputable def B_X12_missed_12 (kc : Nat → en_B) : en_B := (op_iload 1 (op_aload 0 (op_gets 12 1 (20, 53, 0) (op_const (32 : Int32) (op_ald 20 (op_icgt (op_const (-2 : Int32) (B_X12_missed_39 kc)) (B_X12_missed_28 kc)))))))
set_option maxRecDepth 20000 in
theorem s_X12_missed_12 (G : en_G) (hst : G.2.2.2.2.2 = true) (kc : Nat → en_B) (hk : ∀ t, en_Snd G M_X12_missed t (kc t)) : en_Snd G M_X12_missed 12 (B_X12_missed_12 kc) := (sn_iload_n (i := 1) (n := 1) (by decide +kernel) rfl (sn_aload_n (i := 0) (n := 0) (by decide +kernel) rfl (sn_gets (ci := 12) (j := 0) (off := 1) hst en_c12 of_12_1 (Nat.le_of_ble_eq_true rfl) (by decide +kernel) wm_339 (Nat.le_of_ble_eq_true rfl) rfl (sn_bipush (n := 32) (v := 32) (by decide +kernel) rfl (sn_iald (by decide +kernel) (sn_icle (off := 8) (tgt := 28) (by decide +kernel) rfl (s_X12_missed_28 G hst kc hk) (sn_bipush (n := -2) (v := -2) (by decide +kernel) rfl (sn_goto (off := 14) (tgt := 39) (by decide +kernel) rfl (s_X12_missed_39 G hst kc hk)))))))))
noncomputable def B_X12_missed_0 (kc : Nat → en_B) : en_B := (op_aload 0 (op_const (0 : Int32) (op_puti 12 11 (op_iload 1 (op_const (1 : Int32) (op_iclt (op_const (-1 : Int32) op_iret) (B_X12_missed_12 kc)))))))
set_option maxRecDepth 20000 in
theorem s_X12_missed_0 (G : en_G) (hst : G.2.2.2.2.2 = true) (kc : Nat → en_B) (hk : ∀ t, en_Snd G M_X12_missed t (kc t)) : en_Snd G M_X12_missed 0 (B_X12_missed_0 kc) := (sn_aload_n (i := 0) (n := 0) (by decide +kernel) rfl (sn_iconst (n := 0) (v := 0) (by decide +kernel) rfl (sn_puti (ci := 12) (j := 11) en_c12 (by decide +kernel) wm_368 (Nat.le_of_ble_eq_true rfl) rfl rfl rfl (sn_iload_n (i := 1) (n := 1) (by decide +kernel) rfl (sn_iconst (n := 1) (v := 1) (by decide +kernel) rfl (sn_icge (off := 5) (tgt := 12) (by decide +kernel) rfl (s_X12_missed_12 G hst kc hk) (sn_iconst (n := -1) (v := -1) (by decide +kernel) rfl (sn_iret (by decide +kernel) rfl))))))))
noncomputable def LK_X12_missed : Nat → Nat → en_B
  | 0, _ => en_no
  | n + 1, t => en_no
theorem l_X12_missed (G : en_G) (hst : G.2.2.2.2.2 = true) : ∀ n t, en_Snd G M_X12_missed t (LK_X12_missed n t)
  | 0, _ => sn_no
  | n + 1, t => by
    show en_Snd G M_X12_missed t (en_no)
    exact sn_no
noncomputable def T_X12_missed_0 (x1 : Int32) (σ : en_M) : en_R := B_X12_missed_0 (LK_X12_missed en_FU) [.inr (185, 12, 0, 0), .inl x1] [] en_zz σ
set_option maxRecDepth 20000 in
set_option maxHeartbeats 2000000 in
theorem t_X12_missed_0 (x1 : Int32) (σ : en_M) : T_X12_missed_0 x1 σ = (if x1 < (1 : Int32) then (en_ri (-1 : Int32) (en_up σ 185 11 (0 : Int32))) else ((en_ix (32 : Int32) 53).bind fun j1 => if (σ 186 j1) < x1 then (en_ri (-2 : Int32) (en_up σ 185 11 (0 : Int32))) else ((en_ix (((33 : Int32) + x1) - (1 : Int32)) 53).bind fun j2 => en_ri (σ 186 j2) (en_up σ 185 11 (0 : Int32))))) := rfl
noncomputable def P_X12_missed : List en_V → en_M → Option (Int32 × en_M) := fun av σ => match av with
  | [.inr (185, 12, 0, 0), .inl x1] => en_oi (T_X12_missed_0 x1 σ)
  | _ => none
theorem ox_X12_missed : ∃ f, f = P_X12_missed := ⟨_, rfl⟩
noncomputable def O_X12_missed : List en_V → en_M → Option (Int32 × en_M) := Classical.choose ox_X12_missed
theorem oe_X12_missed : O_X12_missed = P_X12_missed := Classical.choose_spec ox_X12_missed
theorem o_X12_missed (x1 : Int32) (σ : en_M) : O_X12_missed [.inr (185, 12, 0, 0), .inl x1] σ = en_oi (T_X12_missed_0 x1 σ) := by rw [oe_X12_missed]; rfl
theorem i_X12_missed (G : en_G) (hst : G.2.2.2.2.2 = true) : en_I G 1 yX12_missed cX12_missed 2 (some .int) 0 0 (en_wi (O_X12_missed)) := en_of_i (M := M_X12_missed) hst (s_X12_missed_0 G hst _ (l_X12_missed G hst en_FU)) (plainFor_of_name (by decide +kernel)) rfl rfl rfl (Or.inl ⟨rfl, rfl⟩) (fun av σ x σ' h => by
  rw [oe_X12_missed] at h; unfold P_X12_missed at h
  split at h
  · exact ⟨(Nat.le_of_ble_eq_true rfl), en_oi_some h⟩
  · cases h)
-- EachMayMissOneModel.heard(II)I
def M_X12_heard : en_Me := (cX12_heard, RX12, 5, false, 4, false)
theorem cs_X12_heard : en_cs yX12_heard cX12_heard 5 (some .int) 2 := ⟨wm_658, wm_337, ⟨(by decide +kernel), (by decide +kernel), (by decide +kernel)⟩, (Nat.le_of_ble_eq_true rfl)⟩
noncomputable def B_X12_heard_70 (kc : Nat → en_B) : en_B := (op_aload 0 (op_const (0 : Int32) (op_puti 12 10 (op_aload 0 (op_iload 3 (op_rcv 12 1 (op_callv O_X12_tell 2 (op_aload 0 (op_gets 12 12 (20, 1484, 0) (op_const (7 : Int32) (op_iload 2 (op_bin (fun (x y : Int32) => x * y) (op_iload 1 (op_bin (fun (x y : Int32) => x + y) (op_ald 20 op_iret)))))))))))))))
set_option maxRecDepth 20000 in
theorem s_X12_heard_70 (G : en_G) (hst : G.2.2.2.2.2 = true) (kc : Nat → en_B) (hk : ∀ t, en_Snd G M_X12_heard t (kc t)) : en_Snd G M_X12_heard 70 (B_X12_heard_70 kc) := (sn_aload_n (i := 0) (n := 0) (by decide +kernel) rfl (sn_iconst (n := 0) (v := 0) (by decide +kernel) rfl (sn_puti (ci := 12) (j := 10) en_c12 (by decide +kernel) wm_379 (Nat.le_of_ble_eq_true rfl) rfl rfl rfl (sn_aload_n (i := 0) (n := 0) (by decide +kernel) rfl (sn_iload_n (i := 3) (n := 3) (by decide +kernel) rfl (sn_callVv (n := 1) (idx := 251) (ci := 12) (i_X12_tell G hst) (Nat.le_of_ble_eq_true rfl) cs_X12_tell ⟨wm_377, wm_378, wm_536⟩ ⟨⟨_, rfl, rfl⟩, (Nat.le_of_ble_eq_true rfl)⟩ (by decide +kernel) (sn_aload_n (i := 0) (n := 0) (by decide +kernel) rfl (sn_gets (ci := 12) (j := 30) (off := 12) hst en_c12 of_12_12 (Nat.le_of_ble_eq_true rfl) (by decide +kernel) wm_353 (Nat.le_of_ble_eq_true rfl) rfl (sn_bipush (n := 7) (v := 7) (by decide +kernel) rfl (sn_iload_n (i := 2) (n := 2) (by decide +kernel) rfl (sn_imul (by decide +kernel) (sn_iload_n (i := 1) (n := 1) (by decide +kernel) rfl (sn_iadd (by decide +kernel) (sn_iald (by decide +kernel) (sn_iret (by decide +kernel) rfl)))))))))))))))
noncomputable def B_X12_heard_38 (kc : Nat → en_B) : en_B := (op_iload 4 (op_iload 2 (op_const (10 : Int32) (op_bin (fun (x y : Int32) => x + y) (op_iclt (op_iload 3 (op_const (1 : Int32) (op_aload 0 (op_gets 12 12 (20, 1484, 0) (op_const (7 : Int32) (op_iload 4 (op_bin (fun (x y : Int32) => x * y) (op_iload 1 (op_bin (fun (x y : Int32) => x + y) (op_ald 20 (op_bin en_shl (op_bin (fun (x y : Int32) => x ||| y) (op_istore 3 (op_iinc 4 (1 : Int32) (kc 38))))))))))))))) (B_X12_heard_70 kc))))))
set_option maxRecDepth 20000 in
theorem s_X12_heard_38 (G : en_G) (hst : G.2.2.2.2.2 = true) (kc : Nat → en_B) (hk : ∀ t, en_Snd G M_X12_heard t (kc t)) : en_Snd G M_X12_heard 38 (B_X12_heard_38 kc) := (sn_iload (i := 4) (by decide +kernel) (sn_iload_n (i := 2) (n := 2) (by decide +kernel) rfl (sn_bipush (n := 10) (v := 10) (by decide +kernel) rfl (sn_iadd (by decide +kernel) (sn_icge (off := 26) (tgt := 70) (by decide +kernel) rfl (s_X12_heard_70 G hst kc hk) (sn_iload_n (i := 3) (n := 3) (by decide +kernel) rfl (sn_iconst (n := 1) (v := 1) (by decide +kernel) rfl (sn_aload_n (i := 0) (n := 0) (by decide +kernel) rfl (sn_gets (ci := 12) (j := 30) (off := 12) hst en_c12 of_12_12 (Nat.le_of_ble_eq_true rfl) (by decide +kernel) wm_353 (Nat.le_of_ble_eq_true rfl) rfl (sn_bipush (n := 7) (v := 7) (by decide +kernel) rfl (sn_iload (i := 4) (by decide +kernel) (sn_imul (by decide +kernel) (sn_iload_n (i := 1) (n := 1) (by decide +kernel) rfl (sn_iadd (by decide +kernel) (sn_iald (by decide +kernel) (sn_ishl (by decide +kernel) (sn_ior (by decide +kernel) (sn_istore_n (i := 3) (n := 3) (by decide +kernel) rfl (Nat.le_of_ble_eq_true rfl) (sn_iinc (i := 4) (n := 1) (v := 1) (by decide +kernel) rfl (sn_goto (off := -29) (tgt := 38) (by decide +kernel) rfl (hk 38)))))))))))))))))))))
noncomputable def B_X12_heard_25 (kc : Nat → en_B) : en_B := (op_aload 0 (op_iload 2 (op_const (9 : Int32) (op_bin (fun (x y : Int32) => x + y) (op_rcv 12 1 (op_callv O_X12_layOrders 2 (op_const (0 : Int32) (op_istore 3 (op_iload 2 (op_istore 4 (kc 38)))))))))))
set_option maxRecDepth 20000 in
theorem s_X12_heard_25 (G : en_G) (hst : G.2.2.2.2.2 = true) (kc : Nat → en_B) (hk : ∀ t, en_Snd G M_X12_heard t (kc t)) : en_Snd G M_X12_heard 25 (B_X12_heard_25 kc) := (sn_aload_n (i := 0) (n := 0) (by decide +kernel) rfl (sn_iload_n (i := 2) (n := 2) (by decide +kernel) rfl (sn_bipush (n := 9) (v := 9) (by decide +kernel) rfl (sn_iadd (by decide +kernel) (sn_callVv (n := 1) (idx := 272) (ci := 12) (i_X12_layOrders G hst) (Nat.le_of_ble_eq_true rfl) cs_X12_layOrders ⟨wm_567, wm_568, wm_575⟩ ⟨⟨_, rfl, rfl⟩, (Nat.le_of_ble_eq_true rfl)⟩ (by decide +kernel) (sn_iconst (n := 0) (v := 0) (by decide +kernel) rfl (sn_istore_n (i := 3) (n := 3) (by decide +kernel) rfl (Nat.le_of_ble_eq_true rfl) (sn_iload_n (i := 2) (n := 2) (by decide +kernel) rfl (sn_istore (i := 4) (by decide +kernel) (Nat.le_of_ble_eq_true rfl) (hk 38))))))))))
noncomputable def B_X12_heard_23 (kc : Nat → en_B) : en_B := (op_const (-1 : Int32) op_iret)
set_option maxRecDepth 20000 in
theorem s_X12_heard_23 (G : en_G) (hst : G.2.2.2.2.2 = true) (kc : Nat → en_B) (hk : ∀ t, en_Snd G M_X12_heard t (kc t)) : en_Snd G M_X12_heard 23 (B_X12_heard_23 kc) := (sn_iconst (n := -1) (v := -1) (by decide +kernel) rfl (sn_iret (by decide +kernel) rfl))
noncomputable def B_X12_heard_0 (kc : Nat → en_B) : en_B := (op_aload 0 (op_const (0 : Int32) (op_puti 12 11 (op_aload 0 (op_iload 1 (op_rcv 12 1 (op_calli O_X12_isOne 2 (op_ifeq (B_X12_heard_23 kc) (op_iload 2 (op_const (0 : Int32) (op_const (60 : Int32) (op_calli O_X12_in 3 (op_ifeq (B_X12_heard_23 kc) (B_X12_heard_25 kc))))))))))))))
set_option maxRecDepth 20000 in
theorem s_X12_heard_0 (G : en_G) (hst : G.2.2.2.2.2 = true) (kc : Nat → en_B) (hk : ∀ t, en_Snd G M_X12_heard t (kc t)) : en_Snd G M_X12_heard 0 (B_X12_heard_0 kc) := (sn_aload_n (i := 0) (n := 0) (by decide +kernel) rfl (sn_iconst (n := 0) (v := 0) (by decide +kernel) rfl (sn_puti (ci := 12) (j := 11) en_c12 (by decide +kernel) wm_368 (Nat.le_of_ble_eq_true rfl) rfl rfl rfl (sn_aload_n (i := 0) (n := 0) (by decide +kernel) rfl (sn_iload_n (i := 1) (n := 1) (by decide +kernel) rfl (sn_callVi (n := 1) (idx := 104) (ci := 12) (i_X12_isOne G hst) (Nat.le_of_ble_eq_true rfl) cs_X12_isOne ⟨wm_381, wm_382, wm_388⟩ ⟨⟨_, rfl, rfl⟩, (Nat.le_of_ble_eq_true rfl)⟩ (by decide +kernel) (sn_ifeq (off := 13) (tgt := 23) (by decide +kernel) rfl (s_X12_heard_23 G hst kc hk) (sn_iload_n (i := 2) (n := 2) (by decide +kernel) rfl (sn_iconst (n := 0) (v := 0) (by decide +kernel) rfl (sn_bipush (n := 60) (v := 60) (by decide +kernel) rfl (sn_callSi (n := 3) (idx := 100) (i_X12_in G hst) (Nat.le_of_ble_eq_true rfl) cs_X12_in ⟨wm_370, Or.inl wm_384⟩ (by decide +kernel) (sn_ifne (off := 5) (tgt := 25) (by decide +kernel) rfl (s_X12_heard_25 G hst kc hk) (s_X12_heard_23 G hst kc hk)))))))))))))
noncomputable def LK_X12_heard : Nat → Nat → en_B
  | 0, _ => en_no
  | n + 1, t => if t = 38 then B_X12_heard_38 (LK_X12_heard n) else en_no
theorem l_X12_heard (G : en_G) (hst : G.2.2.2.2.2 = true) : ∀ n t, en_Snd G M_X12_heard t (LK_X12_heard n t)
  | 0, _ => sn_no
  | n + 1, t => by
    show en_Snd G M_X12_heard t (if t = 38 then B_X12_heard_38 (LK_X12_heard n) else en_no)
    by_cases h_38 : t = 38
    · rw [if_pos h_38, h_38]; exact s_X12_heard_38 G hst _ (l_X12_heard G hst n)
    rw [if_neg h_38]
    exact sn_no
noncomputable def T_X12_heard_0 (x1 : Int32) (x2 : Int32) (σ : en_M) : en_R := B_X12_heard_0 (LK_X12_heard en_FU) [.inr (185, 12, 0, 0), .inl x1, .inl x2, en_un, en_un] [] en_zz σ
noncomputable def T_X12_heard_38 (n : Nat) (x1 : Int32) (x2 : Int32) (x3 : Int32) (x4 : Int32) (σ : en_M) : en_R := LK_X12_heard n 38 [.inr (185, 12, 0, 0), .inl x1, .inl x2, .inl x3, .inl x4] [] en_zz σ
set_option maxRecDepth 20000 in
set_option maxHeartbeats 2000000 in
theorem t_X12_heard_0 (x1 : Int32) (x2 : Int32) (σ : en_M) : T_X12_heard_0 x1 x2 σ = ((O_X12_isOne [.inr (185, 12, 0, 0), .inl x1] (en_up σ 185 11 (0 : Int32))).bind fun r1 => if r1.1 = 0 then (en_ri (-1 : Int32) r1.2) else ((O_X12_in [.inl x2, .inl (0 : Int32), .inl (60 : Int32)] r1.2).bind fun r2 => if r2.1 = 0 then (en_ri (-1 : Int32) r2.2) else ((O_X12_layOrders [.inr (185, 12, 0, 0), .inl (x2 + (9 : Int32))] r2.2).bind fun r3 => T_X12_heard_38 en_FU x1 x2 (0 : Int32) x2 r3))) := rfl
set_option maxRecDepth 20000 in
set_option maxHeartbeats 2000000 in
theorem t_X12_heard_38 (n : Nat) (x1 : Int32) (x2 : Int32) (x3 : Int32) (x4 : Int32) (σ : en_M) : T_X12_heard_38 (n + 1) x1 x2 x3 x4 σ = (if x4 < (x2 + (10 : Int32)) then ((en_ix (((7 : Int32) * x4) + x1) 1484).bind fun j6 => T_X12_heard_38 n x1 x2 (x3 ||| (en_shl (1 : Int32) (σ 197 j6))) (x4 + (1 : Int32)) σ) else ((O_X12_tell [.inr (185, 12, 0, 0), .inl x3] (en_up σ 185 10 (0 : Int32))).bind fun r4 => (en_ix (((7 : Int32) * x2) + x1) 1484).bind fun j5 => en_ri (r4 197 j5) r4)) := rfl
noncomputable def P_X12_heard : List en_V → en_M → Option (Int32 × en_M) := fun av σ => match av with
  | [.inr (185, 12, 0, 0), .inl x1, .inl x2] => en_oi (T_X12_heard_0 x1 x2 σ)
  | _ => none
theorem ox_X12_heard : ∃ f, f = P_X12_heard := ⟨_, rfl⟩
noncomputable def O_X12_heard : List en_V → en_M → Option (Int32 × en_M) := Classical.choose ox_X12_heard
theorem oe_X12_heard : O_X12_heard = P_X12_heard := Classical.choose_spec ox_X12_heard
theorem o_X12_heard (x1 : Int32) (x2 : Int32) (σ : en_M) : O_X12_heard [.inr (185, 12, 0, 0), .inl x1, .inl x2] σ = en_oi (T_X12_heard_0 x1 x2 σ) := by rw [oe_X12_heard]; rfl
theorem i_X12_heard (G : en_G) (hst : G.2.2.2.2.2 = true) : en_I G 4 yX12_heard cX12_heard 5 (some .int) 0 0 (en_wi (O_X12_heard)) := en_of_i (M := M_X12_heard) hst (s_X12_heard_0 G hst _ (l_X12_heard G hst en_FU)) (plainFor_of_name (by decide +kernel)) rfl rfl rfl (Or.inl ⟨rfl, rfl⟩) (fun av σ x σ' h => by
  rw [oe_X12_heard] at h; unfold P_X12_heard at h
  split at h
  · exact ⟨(Nat.le_of_ble_eq_true rfl), en_oi_some h⟩
  · cases h)
-- java/lang/Integer.numberOfTrailingZeros(I)I
def M_J6_numberOfTrailingZeros_0f7a4 : en_Me := (cJ6_numberOfTrailingZeros_0f7a4, RJ6, 2, false, 1, false)
theorem cs_J6_numberOfTrailingZeros_0f7a4 : en_cs yJ6_numberOfTrailingZeros_0f7a4 cJ6_numberOfTrailingZeros_0f7a4 2 (some .int) 1 := ⟨wm_667, wm_512, ⟨(by decide +kernel), (by decide +kernel), (by decide +kernel)⟩, (Nat.le_of_ble_eq_true rfl)⟩
noncomputable def B_J6_numberOfTrailingZeros_0f7a4_74 (kc : Nat → en_B) : en_B := (op_iload 1 (op_iload 0 (op_const (1 : Int32) (op_bin en_ush (op_bin (fun (x y : Int32) => x + y) op_iret)))))
set_option maxRecDepth 20000 in
theorem s_J6_numberOfTrailingZeros_0f7a4_74 (G : en_G) (hst : G.2.2.2.2.2 = true) (kc : Nat → en_B) (hk : ∀ t, en_Snd G M_J6_numberOfTrailingZeros_0f7a4 t (kc t)) : en_Snd G M_J6_numberOfTrailingZeros_0f7a4 74 (B_J6_numberOfTrailingZeros_0f7a4_74 kc) := (sn_iload_n (i := 1) (n := 1) (by decide +kernel) rfl (sn_iload_n (i := 0) (n := 0) (by decide +kernel) rfl (sn_iconst (n := 1) (v := 1) (by decide +kernel) rfl (sn_iushr (by decide +kernel) (sn_iadd (by decide +kernel) (sn_iret (by decide +kernel) rfl))))))
noncomputable def B_J6_numberOfTrailingZeros_0f7a4_62 (kc : Nat → en_B) : en_B := (op_iload 0 (op_const (4 : Int32) (op_icgt (op_iinc 1 (2 : Int32) (op_iload 0 (op_const (2 : Int32) (op_bin en_ush (op_istore 0 (B_J6_numberOfTrailingZeros_0f7a4_74 kc)))))) (B_J6_numberOfTrailingZeros_0f7a4_74 kc))))
set_option maxRecDepth 20000 in
theorem s_J6_numberOfTrailingZeros_0f7a4_62 (G : en_G) (hst : G.2.2.2.2.2 = true) (kc : Nat → en_B) (hk : ∀ t, en_Snd G M_J6_numberOfTrailingZeros_0f7a4 t (kc t)) : en_Snd G M_J6_numberOfTrailingZeros_0f7a4 62 (B_J6_numberOfTrailingZeros_0f7a4_62 kc) := (sn_iload_n (i := 0) (n := 0) (by decide +kernel) rfl (sn_iconst (n := 4) (v := 4) (by decide +kernel) rfl (sn_icle (off := 10) (tgt := 74) (by decide +kernel) rfl (s_J6_numberOfTrailingZeros_0f7a4_74 G hst kc hk) (sn_iinc (i := 1) (n := 2) (v := 2) (by decide +kernel) rfl (sn_iload_n (i := 0) (n := 0) (by decide +kernel) rfl (sn_iconst (n := 2) (v := 2) (by decide +kernel) rfl (sn_iushr (by decide +kernel) (sn_istore_n (i := 0) (n := 0) (by decide +kernel) rfl (Nat.le_of_ble_eq_true rfl) (s_J6_numberOfTrailingZeros_0f7a4_74 G hst kc hk)))))))))
noncomputable def B_J6_numberOfTrailingZeros_0f7a4_49 (kc : Nat → en_B) : en_B := (op_iload 0 (op_const (16 : Int32) (op_icgt (op_iinc 1 (4 : Int32) (op_iload 0 (op_const (4 : Int32) (op_bin en_ush (op_istore 0 (B_J6_numberOfTrailingZeros_0f7a4_62 kc)))))) (B_J6_numberOfTrailingZeros_0f7a4_62 kc))))
set_option maxRecDepth 20000 in
theorem s_J6_numberOfTrailingZeros_0f7a4_49 (G : en_G) (hst : G.2.2.2.2.2 = true) (kc : Nat → en_B) (hk : ∀ t, en_Snd G M_J6_numberOfTrailingZeros_0f7a4 t (kc t)) : en_Snd G M_J6_numberOfTrailingZeros_0f7a4 49 (B_J6_numberOfTrailingZeros_0f7a4_49 kc) := (sn_iload_n (i := 0) (n := 0) (by decide +kernel) rfl (sn_bipush (n := 16) (v := 16) (by decide +kernel) rfl (sn_icle (off := 10) (tgt := 62) (by decide +kernel) rfl (s_J6_numberOfTrailingZeros_0f7a4_62 G hst kc hk) (sn_iinc (i := 1) (n := 4) (v := 4) (by decide +kernel) rfl (sn_iload_n (i := 0) (n := 0) (by decide +kernel) rfl (sn_iconst (n := 4) (v := 4) (by decide +kernel) rfl (sn_iushr (by decide +kernel) (sn_istore_n (i := 0) (n := 0) (by decide +kernel) rfl (Nat.le_of_ble_eq_true rfl) (s_J6_numberOfTrailingZeros_0f7a4_62 G hst kc hk)))))))))
noncomputable def B_J6_numberOfTrailingZeros_0f7a4_34 (kc : Nat → en_B) : en_B := (op_iload 0 (op_const (256 : Int32) (op_icgt (op_iinc 1 (8 : Int32) (op_iload 0 (op_const (8 : Int32) (op_bin en_ush (op_istore 0 (B_J6_numberOfTrailingZeros_0f7a4_49 kc)))))) (B_J6_numberOfTrailingZeros_0f7a4_49 kc))))
set_option maxRecDepth 20000 in
theorem s_J6_numberOfTrailingZeros_0f7a4_34 (G : en_G) (hst : G.2.2.2.2.2 = true) (kc : Nat → en_B) (hk : ∀ t, en_Snd G M_J6_numberOfTrailingZeros_0f7a4 t (kc t)) : en_Snd G M_J6_numberOfTrailingZeros_0f7a4 34 (B_J6_numberOfTrailingZeros_0f7a4_34 kc) := (sn_iload_n (i := 0) (n := 0) (by decide +kernel) rfl (sn_sipush (n := 256) (v := 256) (by decide +kernel) rfl (sn_icle (off := 11) (tgt := 49) (by decide +kernel) rfl (s_J6_numberOfTrailingZeros_0f7a4_49 G hst kc hk) (sn_iinc (i := 1) (n := 8) (v := 8) (by decide +kernel) rfl (sn_iload_n (i := 0) (n := 0) (by decide +kernel) rfl (sn_bipush (n := 8) (v := 8) (by decide +kernel) rfl (sn_iushr (by decide +kernel) (sn_istore_n (i := 0) (n := 0) (by decide +kernel) rfl (Nat.le_of_ble_eq_true rfl) (s_J6_numberOfTrailingZeros_0f7a4_49 G hst kc hk)))))))))
noncomputable def B_J6_numberOfTrailingZeros_0f7a4_17 (kc : Nat → en_B) : en_B := (op_const (1 : Int32) (op_istore 1 (op_iload 0 (op_const (65536 : Int32) (op_icgt (op_iinc 1 (16 : Int32) (op_iload 0 (op_const (16 : Int32) (op_bin en_ush (op_istore 0 (B_J6_numberOfTrailingZeros_0f7a4_34 kc)))))) (B_J6_numberOfTrailingZeros_0f7a4_34 kc))))))
set_option maxRecDepth 20000 in
theorem s_J6_numberOfTrailingZeros_0f7a4_17 (G : en_G) (hst : G.2.2.2.2.2 = true) (kc : Nat → en_B) (hk : ∀ t, en_Snd G M_J6_numberOfTrailingZeros_0f7a4 t (kc t)) : en_Snd G M_J6_numberOfTrailingZeros_0f7a4 17 (B_J6_numberOfTrailingZeros_0f7a4_17 kc) := (sn_iconst (n := 1) (v := 1) (by decide +kernel) rfl (sn_istore_n (i := 1) (n := 1) (by decide +kernel) rfl (Nat.le_of_ble_eq_true rfl) (sn_iload_n (i := 0) (n := 0) (by decide +kernel) rfl (sn_ldcw (n := 264) (v := 65536) wm_1255 (by decide +kernel) (sn_icle (off := 11) (tgt := 34) (by decide +kernel) rfl (s_J6_numberOfTrailingZeros_0f7a4_34 G hst kc hk) (sn_iinc (i := 1) (n := 16) (v := 16) (by decide +kernel) rfl (sn_iload_n (i := 0) (n := 0) (by decide +kernel) rfl (sn_bipush (n := 16) (v := 16) (by decide +kernel) rfl (sn_iushr (by decide +kernel) (sn_istore_n (i := 0) (n := 0) (by decide +kernel) rfl (Nat.le_of_ble_eq_true rfl) (s_J6_numberOfTrailingZeros_0f7a4_34 G hst kc hk)))))))))))
noncomputable def B_J6_numberOfTrailingZeros_0f7a4_0 (kc : Nat → en_B) : en_B := (op_iload 0 (op_const (-1 : Int32) (op_bin (fun (x y : Int32) => x ^^^ y) (op_iload 0 (op_const (1 : Int32) (op_bin (fun (x y : Int32) => x - y) (op_bin (fun (x y : Int32) => x &&& y) (op_istore 0 (op_iload 0 (op_ifgt (B_J6_numberOfTrailingZeros_0f7a4_17 kc) (op_iload 0 (op_const (32 : Int32) (op_bin (fun (x y : Int32) => x &&& y) op_iret)))))))))))))
set_option maxRecDepth 20000 in
theorem s_J6_numberOfTrailingZeros_0f7a4_0 (G : en_G) (hst : G.2.2.2.2.2 = true) (kc : Nat → en_B) (hk : ∀ t, en_Snd G M_J6_numberOfTrailingZeros_0f7a4 t (kc t)) : en_Snd G M_J6_numberOfTrailingZeros_0f7a4 0 (B_J6_numberOfTrailingZeros_0f7a4_0 kc) := (sn_iload_n (i := 0) (n := 0) (by decide +kernel) rfl (sn_iconst (n := -1) (v := -1) (by decide +kernel) rfl (sn_ixor (by decide +kernel) (sn_iload_n (i := 0) (n := 0) (by decide +kernel) rfl (sn_iconst (n := 1) (v := 1) (by decide +kernel) rfl (sn_isub (by decide +kernel) (sn_iand (by decide +kernel) (sn_istore_n (i := 0) (n := 0) (by decide +kernel) rfl (Nat.le_of_ble_eq_true rfl) (sn_iload_n (i := 0) (n := 0) (by decide +kernel) rfl (sn_ifgt (off := 8) (tgt := 17) (by decide +kernel) rfl (s_J6_numberOfTrailingZeros_0f7a4_17 G hst kc hk) (sn_iload_n (i := 0) (n := 0) (by decide +kernel) rfl (sn_bipush (n := 32) (v := 32) (by decide +kernel) rfl (sn_iand (by decide +kernel) (sn_iret (by decide +kernel) rfl))))))))))))))
noncomputable def LK_J6_numberOfTrailingZeros_0f7a4 : Nat → Nat → en_B
  | 0, _ => en_no
  | n + 1, t => en_no
theorem l_J6_numberOfTrailingZeros_0f7a4 (G : en_G) (hst : G.2.2.2.2.2 = true) : ∀ n t, en_Snd G M_J6_numberOfTrailingZeros_0f7a4 t (LK_J6_numberOfTrailingZeros_0f7a4 n t)
  | 0, _ => sn_no
  | n + 1, t => by
    show en_Snd G M_J6_numberOfTrailingZeros_0f7a4 t (en_no)
    exact sn_no
noncomputable def T_J6_numberOfTrailingZeros_0f7a4_0 (x0 : Int32) (σ : en_M) : en_R := B_J6_numberOfTrailingZeros_0f7a4_0 (LK_J6_numberOfTrailingZeros_0f7a4 en_FU) [.inl x0, en_un] [] en_zz σ
set_option maxRecDepth 20000 in
set_option maxHeartbeats 2000000 in
theorem t_J6_numberOfTrailingZeros_0f7a4_0 (x0 : Int32) (σ : en_M) : T_J6_numberOfTrailingZeros_0f7a4_0 x0 σ = (if 0 < ((x0 ^^^ (-1 : Int32)) &&& (x0 - (1 : Int32))) then (if (65536 : Int32) < ((x0 ^^^ (-1 : Int32)) &&& (x0 - (1 : Int32))) then (if (256 : Int32) < (en_ush ((x0 ^^^ (-1 : Int32)) &&& (x0 - (1 : Int32))) (16 : Int32)) then (if (16 : Int32) < (en_ush (en_ush ((x0 ^^^ (-1 : Int32)) &&& (x0 - (1 : Int32))) (16 : Int32)) (8 : Int32)) then (if (4 : Int32) < (en_ush (en_ush (en_ush ((x0 ^^^ (-1 : Int32)) &&& (x0 - (1 : Int32))) (16 : Int32)) (8 : Int32)) (4 : Int32)) then (en_ri ((((((1 : Int32) + (16 : Int32)) + (8 : Int32)) + (4 : Int32)) + (2 : Int32)) + (en_ush (en_ush (en_ush (en_ush (en_ush ((x0 ^^^ (-1 : Int32)) &&& (x0 - (1 : Int32))) (16 : Int32)) (8 : Int32)) (4 : Int32)) (2 : Int32)) (1 : Int32))) σ) else (en_ri (((((1 : Int32) + (16 : Int32)) + (8 : Int32)) + (4 : Int32)) + (en_ush (en_ush (en_ush (en_ush ((x0 ^^^ (-1 : Int32)) &&& (x0 - (1 : Int32))) (16 : Int32)) (8 : Int32)) (4 : Int32)) (1 : Int32))) σ)) else (if (4 : Int32) < (en_ush (en_ush ((x0 ^^^ (-1 : Int32)) &&& (x0 - (1 : Int32))) (16 : Int32)) (8 : Int32)) then (en_ri (((((1 : Int32) + (16 : Int32)) + (8 : Int32)) + (2 : Int32)) + (en_ush (en_ush (en_ush (en_ush ((x0 ^^^ (-1 : Int32)) &&& (x0 - (1 : Int32))) (16 : Int32)) (8 : Int32)) (2 : Int32)) (1 : Int32))) σ) else (en_ri ((((1 : Int32) + (16 : Int32)) + (8 : Int32)) + (en_ush (en_ush (en_ush ((x0 ^^^ (-1 : Int32)) &&& (x0 - (1 : Int32))) (16 : Int32)) (8 : Int32)) (1 : Int32))) σ))) else (if (16 : Int32) < (en_ush ((x0 ^^^ (-1 : Int32)) &&& (x0 - (1 : Int32))) (16 : Int32)) then (if (4 : Int32) < (en_ush (en_ush ((x0 ^^^ (-1 : Int32)) &&& (x0 - (1 : Int32))) (16 : Int32)) (4 : Int32)) then (en_ri (((((1 : Int32) + (16 : Int32)) + (4 : Int32)) + (2 : Int32)) + (en_ush (en_ush (en_ush (en_ush ((x0 ^^^ (-1 : Int32)) &&& (x0 - (1 : Int32))) (16 : Int32)) (4 : Int32)) (2 : Int32)) (1 : Int32))) σ) else (en_ri ((((1 : Int32) + (16 : Int32)) + (4 : Int32)) + (en_ush (en_ush (en_ush ((x0 ^^^ (-1 : Int32)) &&& (x0 - (1 : Int32))) (16 : Int32)) (4 : Int32)) (1 : Int32))) σ)) else (if (4 : Int32) < (en_ush ((x0 ^^^ (-1 : Int32)) &&& (x0 - (1 : Int32))) (16 : Int32)) then (en_ri ((((1 : Int32) + (16 : Int32)) + (2 : Int32)) + (en_ush (en_ush (en_ush ((x0 ^^^ (-1 : Int32)) &&& (x0 - (1 : Int32))) (16 : Int32)) (2 : Int32)) (1 : Int32))) σ) else (en_ri (((1 : Int32) + (16 : Int32)) + (en_ush (en_ush ((x0 ^^^ (-1 : Int32)) &&& (x0 - (1 : Int32))) (16 : Int32)) (1 : Int32))) σ)))) else (if (256 : Int32) < ((x0 ^^^ (-1 : Int32)) &&& (x0 - (1 : Int32))) then (if (16 : Int32) < (en_ush ((x0 ^^^ (-1 : Int32)) &&& (x0 - (1 : Int32))) (8 : Int32)) then (if (4 : Int32) < (en_ush (en_ush ((x0 ^^^ (-1 : Int32)) &&& (x0 - (1 : Int32))) (8 : Int32)) (4 : Int32)) then (en_ri (((((1 : Int32) + (8 : Int32)) + (4 : Int32)) + (2 : Int32)) + (en_ush (en_ush (en_ush (en_ush ((x0 ^^^ (-1 : Int32)) &&& (x0 - (1 : Int32))) (8 : Int32)) (4 : Int32)) (2 : Int32)) (1 : Int32))) σ) else (en_ri ((((1 : Int32) + (8 : Int32)) + (4 : Int32)) + (en_ush (en_ush (en_ush ((x0 ^^^ (-1 : Int32)) &&& (x0 - (1 : Int32))) (8 : Int32)) (4 : Int32)) (1 : Int32))) σ)) else (if (4 : Int32) < (en_ush ((x0 ^^^ (-1 : Int32)) &&& (x0 - (1 : Int32))) (8 : Int32)) then (en_ri ((((1 : Int32) + (8 : Int32)) + (2 : Int32)) + (en_ush (en_ush (en_ush ((x0 ^^^ (-1 : Int32)) &&& (x0 - (1 : Int32))) (8 : Int32)) (2 : Int32)) (1 : Int32))) σ) else (en_ri (((1 : Int32) + (8 : Int32)) + (en_ush (en_ush ((x0 ^^^ (-1 : Int32)) &&& (x0 - (1 : Int32))) (8 : Int32)) (1 : Int32))) σ))) else (if (16 : Int32) < ((x0 ^^^ (-1 : Int32)) &&& (x0 - (1 : Int32))) then (if (4 : Int32) < (en_ush ((x0 ^^^ (-1 : Int32)) &&& (x0 - (1 : Int32))) (4 : Int32)) then (en_ri ((((1 : Int32) + (4 : Int32)) + (2 : Int32)) + (en_ush (en_ush (en_ush ((x0 ^^^ (-1 : Int32)) &&& (x0 - (1 : Int32))) (4 : Int32)) (2 : Int32)) (1 : Int32))) σ) else (en_ri (((1 : Int32) + (4 : Int32)) + (en_ush (en_ush ((x0 ^^^ (-1 : Int32)) &&& (x0 - (1 : Int32))) (4 : Int32)) (1 : Int32))) σ)) else (if (4 : Int32) < ((x0 ^^^ (-1 : Int32)) &&& (x0 - (1 : Int32))) then (en_ri (((1 : Int32) + (2 : Int32)) + (en_ush (en_ush ((x0 ^^^ (-1 : Int32)) &&& (x0 - (1 : Int32))) (2 : Int32)) (1 : Int32))) σ) else (en_ri ((1 : Int32) + (en_ush ((x0 ^^^ (-1 : Int32)) &&& (x0 - (1 : Int32))) (1 : Int32))) σ))))) else (en_ri (((x0 ^^^ (-1 : Int32)) &&& (x0 - (1 : Int32))) &&& (32 : Int32)) σ)) := rfl
noncomputable def P_J6_numberOfTrailingZeros_0f7a4 : List en_V → en_M → Option (Int32 × en_M) := fun av σ => match av with
  | [.inl x0] => en_oi (T_J6_numberOfTrailingZeros_0f7a4_0 x0 σ)
  | _ => none
theorem ox_J6_numberOfTrailingZeros_0f7a4 : ∃ f, f = P_J6_numberOfTrailingZeros_0f7a4 := ⟨_, rfl⟩
noncomputable def O_J6_numberOfTrailingZeros_0f7a4 : List en_V → en_M → Option (Int32 × en_M) := Classical.choose ox_J6_numberOfTrailingZeros_0f7a4
theorem oe_J6_numberOfTrailingZeros_0f7a4 : O_J6_numberOfTrailingZeros_0f7a4 = P_J6_numberOfTrailingZeros_0f7a4 := Classical.choose_spec ox_J6_numberOfTrailingZeros_0f7a4
theorem o_J6_numberOfTrailingZeros_0f7a4 (x0 : Int32) (σ : en_M) : O_J6_numberOfTrailingZeros_0f7a4 [.inl x0] σ = en_oi (T_J6_numberOfTrailingZeros_0f7a4_0 x0 σ) := by rw [oe_J6_numberOfTrailingZeros_0f7a4]; rfl
theorem i_J6_numberOfTrailingZeros_0f7a4 (G : en_G) (hst : G.2.2.2.2.2 = true) : en_I G 1 yJ6_numberOfTrailingZeros_0f7a4 cJ6_numberOfTrailingZeros_0f7a4 2 (some .int) 0 0 (en_wi (O_J6_numberOfTrailingZeros_0f7a4)) := en_of_i (M := M_J6_numberOfTrailingZeros_0f7a4) hst (s_J6_numberOfTrailingZeros_0f7a4_0 G hst _ (l_J6_numberOfTrailingZeros_0f7a4 G hst en_FU)) (plainFor_of_name (by decide +kernel)) rfl rfl rfl (Or.inl ⟨rfl, rfl⟩) (fun av σ x σ' h => by
  rw [oe_J6_numberOfTrailingZeros_0f7a4] at h; unfold P_J6_numberOfTrailingZeros_0f7a4 at h
  split at h
  · exact ⟨(Nat.le_of_ble_eq_true rfl), en_oi_some h⟩
  · cases h)
-- EachMayMissOneModel.said(I)I
def M_X12_said : en_Me := (cX12_said, RX12, 6, false, 2, false)
theorem cs_X12_said : en_cs yX12_said cX12_said 6 (some .int) 1 := ⟨wm_664, wm_337, ⟨(by decide +kernel), (by decide +kernel), (by decide +kernel)⟩, (Nat.le_of_ble_eq_true rfl)⟩
noncomputable def B_X12_said_109 (kc : Nat → en_B) : en_B := (op_aload 0 (op_const (0 : Int32) (op_puti 12 10 (op_aload 0 (op_iload 3 (op_rcv 12 1 (op_callv O_X12_tell 2 (op_iload 2 op_iret))))))))
set_option maxRecDepth 20000 in
theorem s_X12_said_109 (G : en_G) (hst : G.2.2.2.2.2 = true) (kc : Nat → en_B) (hk : ∀ t, en_Snd G M_X12_said t (kc t)) : en_Snd G M_X12_said 109 (B_X12_said_109 kc) := (sn_aload_n (i := 0) (n := 0) (by decide +kernel) rfl (sn_iconst (n := 0) (v := 0) (by decide +kernel) rfl (sn_puti (ci := 12) (j := 10) en_c12 (by decide +kernel) wm_379 (Nat.le_of_ble_eq_true rfl) rfl rfl rfl (sn_aload_n (i := 0) (n := 0) (by decide +kernel) rfl (sn_iload_n (i := 3) (n := 3) (by decide +kernel) rfl (sn_callVv (n := 1) (idx := 251) (ci := 12) (i_X12_tell G hst) (Nat.le_of_ble_eq_true rfl) cs_X12_tell ⟨wm_377, wm_378, wm_536⟩ ⟨⟨_, rfl, rfl⟩, (Nat.le_of_ble_eq_true rfl)⟩ (by decide +kernel) (sn_iload_n (i := 2) (n := 2) (by decide +kernel) rfl (sn_iret (by decide +kernel) rfl))))))))
noncomputable def B_X12_said_101 (kc : Nat → en_B) : en_B := (op_bin (fun (x y : Int32) => x + y) (op_istore 3 (op_iinc 4 (-1 : Int32) (kc 47))))
set_option maxRecDepth 20000 in
theorem s_X12_said_101 (G : en_G) (hst : G.2.2.2.2.2 = true) (kc : Nat → en_B) (hk : ∀ t, en_Snd G M_X12_said t (kc t)) : en_Snd G M_X12_said 101 (B_X12_said_101 kc) := (sn_iadd (by decide +kernel) (sn_istore_n (i := 3) (n := 3) (by decide +kernel) rfl (Nat.le_of_ble_eq_true rfl) (sn_iinc (i := 4) (n := -1) (v := -1) (by decide +kernel) rfl (sn_goto (off := -59) (tgt := 47) (by decide +kernel) rfl (hk 47)))))
noncomputable def B_X12_said_100 (kc : Nat → en_B) : en_B := (op_const (1 : Int32) (B_X12_said_101 kc))
set_option maxRecDepth 20000 in
theorem s_X12_said_100 (G : en_G) (hst : G.2.2.2.2.2 = true) (kc : Nat → en_B) (hk : ∀ t, en_Snd G M_X12_said t (kc t)) : en_Snd G M_X12_said 100 (B_X12_said_100 kc) := (sn_iconst (n := 1) (v := 1) (by decide +kernel) rfl (s_X12_said_101 G hst kc hk))
noncomputable def B_X12_said_88 (kc : Nat → en_B) : en_B := (op_bin (fun (x y : Int32) => x + y) (op_istore 2 (op_iload 3 (op_iload 5 (op_ifeq (op_const (0 : Int32) (B_X12_said_101 kc)) (B_X12_said_100 kc))))))
set_option maxRecDepth 20000 in
theorem s_X12_said_88 (G : en_G) (hst : G.2.2.2.2.2 = true) (kc : Nat → en_B) (hk : ∀ t, en_Snd G M_X12_said t (kc t)) : en_Snd G M_X12_said 88 (B_X12_said_88 kc) := (sn_iadd (by decide +kernel) (sn_istore_n (i := 2) (n := 2) (by decide +kernel) rfl (Nat.le_of_ble_eq_true rfl) (sn_iload_n (i := 3) (n := 3) (by decide +kernel) rfl (sn_iload (i := 5) (by decide +kernel) (sn_ifne (off := 7) (tgt := 100) (by decide +kernel) rfl (s_X12_said_100 G hst kc hk) (sn_iconst (n := 0) (v := 0) (by decide +kernel) rfl (sn_goto (off := 4) (tgt := 101) (by decide +kernel) rfl (s_X12_said_101 G hst kc hk))))))))
noncomputable def B_X12_said_81 (kc : Nat → en_B) : en_B := (op_iload 5 (op_calli O_J6_numberOfTrailingZeros_0f7a4 1 (op_const (1 : Int32) (op_bin (fun (x y : Int32) => x + y) (B_X12_said_88 kc)))))
set_option maxRecDepth 20000 in
theorem s_X12_said_81 (G : en_G) (hst : G.2.2.2.2.2 = true) (kc : Nat → en_B) (hk : ∀ t, en_Snd G M_X12_said t (kc t)) : en_Snd G M_X12_said 81 (B_X12_said_81 kc) := (sn_iload (i := 5) (by decide +kernel) (sn_callSi (n := 1) (idx := 317) (i_J6_numberOfTrailingZeros_0f7a4 G hst) (Nat.le_of_ble_eq_true rfl) cs_J6_numberOfTrailingZeros_0f7a4 ⟨wm_668, Or.inl wm_669⟩ (by decide +kernel) (sn_iconst (n := 1) (v := 1) (by decide +kernel) rfl (sn_iadd (by decide +kernel) (s_X12_said_88 G hst kc hk)))))
noncomputable def B_X12_said_47 (kc : Nat → en_B) : en_B := (op_iload 4 (op_iflt (B_X12_said_109 kc) (op_aload 0 (op_gets 12 1 (20, 53, 0) (op_const (33 : Int32) (op_iload 4 (op_bin (fun (x y : Int32) => x + y) (op_ald 20 (op_istore 5 (op_iload 2 (op_aload 0 (op_geti 12 1 (op_const (1 : Int32) (op_bin (fun (x y : Int32) => x + y) (op_bin (fun (x y : Int32) => x * y) (op_iload 5 (op_ifeq (op_const (0 : Int32) (B_X12_said_88 kc)) (B_X12_said_81 kc))))))))))))))))))
set_option maxRecDepth 20000 in
theorem s_X12_said_47 (G : en_G) (hst : G.2.2.2.2.2 = true) (kc : Nat → en_B) (hk : ∀ t, en_Snd G M_X12_said t (kc t)) : en_Snd G M_X12_said 47 (B_X12_said_47 kc) := (sn_iload (i := 4) (by decide +kernel) (sn_iflt (off := 60) (tgt := 109) (by decide +kernel) rfl (s_X12_said_109 G hst kc hk) (sn_aload_n (i := 0) (n := 0) (by decide +kernel) rfl (sn_gets (ci := 12) (j := 0) (off := 1) hst en_c12 of_12_1 (Nat.le_of_ble_eq_true rfl) (by decide +kernel) wm_339 (Nat.le_of_ble_eq_true rfl) rfl (sn_bipush (n := 33) (v := 33) (by decide +kernel) rfl (sn_iload (i := 4) (by decide +kernel) (sn_iadd (by decide +kernel) (sn_iald (by decide +kernel) (sn_istore (i := 5) (by decide +kernel) (Nat.le_of_ble_eq_true rfl) (sn_iload_n (i := 2) (n := 2) (by decide +kernel) rfl (sn_aload_n (i := 0) (n := 0) (by decide +kernel) rfl (sn_geti (ci := 12) (j := 1) en_c12 (by decide +kernel) wm_383 (Nat.le_of_ble_eq_true rfl) rfl (sn_iconst (n := 1) (v := 1) (by decide +kernel) rfl (sn_iadd (by decide +kernel) (sn_imul (by decide +kernel) (sn_iload (i := 5) (by decide +kernel) (sn_ifne (off := 7) (tgt := 81) (by decide +kernel) rfl (s_X12_said_81 G hst kc hk) (sn_iconst (n := 0) (v := 0) (by decide +kernel) rfl (sn_goto (off := 10) (tgt := 88) (by decide +kernel) rfl (s_X12_said_88 G hst kc hk))))))))))))))))))))
noncomputable def B_X12_said_38 (kc : Nat → en_B) : en_B := (op_const (0 : Int32) (op_istore 2 (op_const (0 : Int32) (op_istore 3 (op_iload 1 (op_const (1 : Int32) (op_bin (fun (x y : Int32) => x - y) (op_istore 4 (kc 47)))))))))
set_option maxRecDepth 20000 in
theorem s_X12_said_38 (G : en_G) (hst : G.2.2.2.2.2 = true) (kc : Nat → en_B) (hk : ∀ t, en_Snd G M_X12_said t (kc t)) : en_Snd G M_X12_said 38 (B_X12_said_38 kc) := (sn_iconst (n := 0) (v := 0) (by decide +kernel) rfl (sn_istore_n (i := 2) (n := 2) (by decide +kernel) rfl (Nat.le_of_ble_eq_true rfl) (sn_iconst (n := 0) (v := 0) (by decide +kernel) rfl (sn_istore_n (i := 3) (n := 3) (by decide +kernel) rfl (Nat.le_of_ble_eq_true rfl) (sn_iload_n (i := 1) (n := 1) (by decide +kernel) rfl (sn_iconst (n := 1) (v := 1) (by decide +kernel) rfl (sn_isub (by decide +kernel) (sn_istore (i := 4) (by decide +kernel) (Nat.le_of_ble_eq_true rfl) (hk 47)))))))))
noncomputable def B_X12_said_24 (kc : Nat → en_B) : en_B := (op_aload 0 (op_gets 12 1 (20, 53, 0) (op_const (32 : Int32) (op_ald 20 (op_iload 1 (op_iclt (op_const (-2 : Int32) op_iret) (B_X12_said_38 kc)))))))
set_option maxRecDepth 20000 in
theorem s_X12_said_24 (G : en_G) (hst : G.2.2.2.2.2 = true) (kc : Nat → en_B) (hk : ∀ t, en_Snd G M_X12_said t (kc t)) : en_Snd G M_X12_said 24 (B_X12_said_24 kc) := (sn_aload_n (i := 0) (n := 0) (by decide +kernel) rfl (sn_gets (ci := 12) (j := 0) (off := 1) hst en_c12 of_12_1 (Nat.le_of_ble_eq_true rfl) (by decide +kernel) wm_339 (Nat.le_of_ble_eq_true rfl) rfl (sn_bipush (n := 32) (v := 32) (by decide +kernel) rfl (sn_iald (by decide +kernel) (sn_iload_n (i := 1) (n := 1) (by decide +kernel) rfl (sn_icge (off := 6) (tgt := 38) (by decide +kernel) rfl (s_X12_said_38 G hst kc hk) (sn_bipush (n := -2) (v := -2) (by decide +kernel) rfl (sn_iret (by decide +kernel) rfl))))))))
noncomputable def B_X12_said_22 (kc : Nat → en_B) : en_B := (op_const (-1 : Int32) op_iret)
set_option maxRecDepth 20000 in
theorem s_X12_said_22 (G : en_G) (hst : G.2.2.2.2.2 = true) (kc : Nat → en_B) (hk : ∀ t, en_Snd G M_X12_said t (kc t)) : en_Snd G M_X12_said 22 (B_X12_said_22 kc) := (sn_iconst (n := -1) (v := -1) (by decide +kernel) rfl (sn_iret (by decide +kernel) rfl))
noncomputable def B_X12_said_0 (kc : Nat → en_B) : en_B := (op_aload 0 (op_const (0 : Int32) (op_puti 12 11 (op_iload 1 (op_const (1 : Int32) (op_const (9 : Int32) (op_calli O_X12_in 3 (op_ifeq (B_X12_said_22 kc) (op_aload 0 (op_geti 12 1 (op_ifeq (B_X12_said_22 kc) (B_X12_said_24 kc))))))))))))
set_option maxRecDepth 20000 in
theorem s_X12_said_0 (G : en_G) (hst : G.2.2.2.2.2 = true) (kc : Nat → en_B) (hk : ∀ t, en_Snd G M_X12_said t (kc t)) : en_Snd G M_X12_said 0 (B_X12_said_0 kc) := (sn_aload_n (i := 0) (n := 0) (by decide +kernel) rfl (sn_iconst (n := 0) (v := 0) (by decide +kernel) rfl (sn_puti (ci := 12) (j := 11) en_c12 (by decide +kernel) wm_368 (Nat.le_of_ble_eq_true rfl) rfl rfl rfl (sn_iload_n (i := 1) (n := 1) (by decide +kernel) rfl (sn_iconst (n := 1) (v := 1) (by decide +kernel) rfl (sn_bipush (n := 9) (v := 9) (by decide +kernel) rfl (sn_callSi (n := 3) (idx := 100) (i_X12_in G hst) (Nat.le_of_ble_eq_true rfl) cs_X12_in ⟨wm_370, Or.inl wm_384⟩ (by decide +kernel) (sn_ifeq (off := 10) (tgt := 22) (by decide +kernel) rfl (s_X12_said_22 G hst kc hk) (sn_aload_n (i := 0) (n := 0) (by decide +kernel) rfl (sn_geti (ci := 12) (j := 1) en_c12 (by decide +kernel) wm_383 (Nat.le_of_ble_eq_true rfl) rfl (sn_ifne (off := 5) (tgt := 24) (by decide +kernel) rfl (s_X12_said_24 G hst kc hk) (s_X12_said_22 G hst kc hk))))))))))))
noncomputable def LK_X12_said : Nat → Nat → en_B
  | 0, _ => en_no
  | n + 1, t => if t = 47 then B_X12_said_47 (LK_X12_said n) else en_no
theorem l_X12_said (G : en_G) (hst : G.2.2.2.2.2 = true) : ∀ n t, en_Snd G M_X12_said t (LK_X12_said n t)
  | 0, _ => sn_no
  | n + 1, t => by
    show en_Snd G M_X12_said t (if t = 47 then B_X12_said_47 (LK_X12_said n) else en_no)
    by_cases h_47 : t = 47
    · rw [if_pos h_47, h_47]; exact s_X12_said_47 G hst _ (l_X12_said G hst n)
    rw [if_neg h_47]
    exact sn_no
noncomputable def T_X12_said_0 (x1 : Int32) (σ : en_M) : en_R := B_X12_said_0 (LK_X12_said en_FU) [.inr (185, 12, 0, 0), .inl x1, en_un, en_un, en_un, en_un] [] en_zz σ
noncomputable def T_X12_said_47 (n : Nat) (x1 : Int32) (x2 : Int32) (x3 : Int32) (x4 : Int32) (u5 : en_V) (σ : en_M) : en_R := LK_X12_said n 47 [.inr (185, 12, 0, 0), .inl x1, .inl x2, .inl x3, .inl x4, u5] [] en_zz σ
set_option maxRecDepth 20000 in
set_option maxHeartbeats 2000000 in
theorem t_X12_said_0 (x1 : Int32) (σ : en_M) : T_X12_said_0 x1 σ = ((O_X12_in [.inl x1, .inl (1 : Int32), .inl (9 : Int32)] (en_up σ 185 11 (0 : Int32))).bind fun r1 => if r1.1 = 0 then (en_ri (-1 : Int32) r1.2) else (if (r1.2 185 1) = 0 then (en_ri (-1 : Int32) r1.2) else ((en_ix (32 : Int32) 53).bind fun j2 => if (r1.2 186 j2) < x1 then (en_ri (-2 : Int32) r1.2) else (T_X12_said_47 en_FU x1 (0 : Int32) (0 : Int32) (x1 - (1 : Int32)) (en_un) r1.2)))) := rfl
set_option maxRecDepth 20000 in
set_option maxHeartbeats 2000000 in
theorem t_X12_said_47 (n : Nat) (x1 : Int32) (x2 : Int32) (x3 : Int32) (x4 : Int32) (u5 : en_V) (σ : en_M) : T_X12_said_47 (n + 1) x1 x2 x3 x4 u5 σ = (if x4 < 0 then ((O_X12_tell [.inr (185, 12, 0, 0), .inl x3] (en_up σ 185 10 (0 : Int32))).bind fun r3 => en_ri x2 r3) else ((en_ix ((33 : Int32) + x4) 53).bind fun j4 => if (σ 186 j4) = 0 then (if (σ 186 j4) = 0 then (T_X12_said_47 n x1 ((x2 * ((σ 185 1) + (1 : Int32))) + (0 : Int32)) (x3 + (0 : Int32)) (x4 + (-1 : Int32)) (.inl (σ 186 j4)) σ) else (T_X12_said_47 n x1 ((x2 * ((σ 185 1) + (1 : Int32))) + (0 : Int32)) (x3 + (1 : Int32)) (x4 + (-1 : Int32)) (.inl (σ 186 j4)) σ)) else ((O_J6_numberOfTrailingZeros_0f7a4 [.inl (σ 186 j4)] σ).bind fun r5 => if (σ 186 j4) = 0 then (T_X12_said_47 n x1 ((x2 * ((σ 185 1) + (1 : Int32))) + (r5.1 + (1 : Int32))) (x3 + (0 : Int32)) (x4 + (-1 : Int32)) (.inl (σ 186 j4)) r5.2) else (T_X12_said_47 n x1 ((x2 * ((σ 185 1) + (1 : Int32))) + (r5.1 + (1 : Int32))) (x3 + (1 : Int32)) (x4 + (-1 : Int32)) (.inl (σ 186 j4)) r5.2)))) := rfl
noncomputable def P_X12_said : List en_V → en_M → Option (Int32 × en_M) := fun av σ => match av with
  | [.inr (185, 12, 0, 0), .inl x1] => en_oi (T_X12_said_0 x1 σ)
  | _ => none
theorem ox_X12_said : ∃ f, f = P_X12_said := ⟨_, rfl⟩
noncomputable def O_X12_said : List en_V → en_M → Option (Int32 × en_M) := Classical.choose ox_X12_said
theorem oe_X12_said : O_X12_said = P_X12_said := Classical.choose_spec ox_X12_said
theorem o_X12_said (x1 : Int32) (σ : en_M) : O_X12_said [.inr (185, 12, 0, 0), .inl x1] σ = en_oi (T_X12_said_0 x1 σ) := by rw [oe_X12_said]; rfl
theorem i_X12_said (G : en_G) (hst : G.2.2.2.2.2 = true) : en_I G 2 yX12_said cX12_said 6 (some .int) 0 0 (en_wi (O_X12_said)) := en_of_i (M := M_X12_said) hst (s_X12_said_0 G hst _ (l_X12_said G hst en_FU)) (plainFor_of_name (by decide +kernel)) rfl rfl rfl (Or.inl ⟨rfl, rfl⟩) (fun av σ x σ' h => by
  rw [oe_X12_said] at h; unfold P_X12_said at h
  split at h
  · exact ⟨(Nat.le_of_ble_eq_true rfl), en_oi_some h⟩
  · cases h)
-- EachMayMissOneModel.mostTired([I)I
def M_X12_mostTired : en_Me := (cX12_mostTired, RX12, 4, false, 4, false)
theorem cs_X12_mostTired : en_cs yX12_mostTired cX12_mostTired 4 (some .int) 1 := ⟨wm_673, wm_337, ⟨(by decide +kernel), (by decide +kernel), (by decide +kernel)⟩, (Nat.le_of_ble_eq_true rfl)⟩
noncomputable def B_X12_mostTired_63 (kc : Nat → en_B) : en_B := op_iret
set_option maxRecDepth 20000 in
theorem s_X12_mostTired_63 (G : en_G) (hst : G.2.2.2.2.2 = true) (kc : Nat → en_B) (hk : ∀ t, en_Snd G M_X12_mostTired t (kc t)) : en_Snd G M_X12_mostTired 63 (B_X12_mostTired_63 kc) := (sn_iret (by decide +kernel) rfl)
noncomputable def B_X12_mostTired_60 (kc : Nat → en_B) : en_B := (op_const (1 : Int32) (op_iload 2 (op_bin en_shl (B_X12_mostTired_63 kc))))
set_option maxRecDepth 20000 in
theorem s_X12_mostTired_60 (G : en_G) (hst : G.2.2.2.2.2 = true) (kc : Nat → en_B) (hk : ∀ t, en_Snd G M_X12_mostTired t (kc t)) : en_Snd G M_X12_mostTired 60 (B_X12_mostTired_60 kc) := (sn_iconst (n := 1) (v := 1) (by decide +kernel) rfl (sn_iload_n (i := 2) (n := 2) (by decide +kernel) rfl (sn_ishl (by decide +kernel) (s_X12_mostTired_63 G hst kc hk))))
noncomputable def B_X12_mostTired_51 (kc : Nat → en_B) : en_B := (op_iload 2 (op_const (-1 : Int32) (op_iceq (op_const (0 : Int32) (B_X12_mostTired_63 kc)) (B_X12_mostTired_60 kc))))
set_option maxRecDepth 20000 in
theorem s_X12_mostTired_51 (G : en_G) (hst : G.2.2.2.2.2 = true) (kc : Nat → en_B) (hk : ∀ t, en_Snd G M_X12_mostTired t (kc t)) : en_Snd G M_X12_mostTired 51 (B_X12_mostTired_51 kc) := (sn_iload_n (i := 2) (n := 2) (by decide +kernel) rfl (sn_iconst (n := -1) (v := -1) (by decide +kernel) rfl (sn_icne (off := 7) (tgt := 60) (by decide +kernel) rfl (s_X12_mostTired_60 G hst kc hk) (sn_iconst (n := 0) (v := 0) (by decide +kernel) rfl (sn_goto (off := 6) (tgt := 63) (by decide +kernel) rfl (s_X12_mostTired_63 G hst kc hk))))))
noncomputable def B_X12_mostTired_45 (kc : Nat → en_B) : en_B := (op_iinc 3 (1 : Int32) (kc 4))
set_option maxRecDepth 20000 in
theorem s_X12_mostTired_45 (G : en_G) (hst : G.2.2.2.2.2 = true) (kc : Nat → en_B) (hk : ∀ t, en_Snd G M_X12_mostTired t (kc t)) : en_Snd G M_X12_mostTired 45 (B_X12_mostTired_45 kc) := (sn_iinc (i := 3) (n := 1) (v := 1) (by decide +kernel) rfl (sn_goto (off := -44) (tgt := 4) (by decide +kernel) rfl (hk 4)))
noncomputable def B_X12_mostTired_43 (kc : Nat → en_B) : en_B := (op_iload 3 (op_istore 2 (B_X12_mostTired_45 kc)))
set_option maxRecDepth 20000 in
theorem s_X12_mostTired_43 (G : en_G) (hst : G.2.2.2.2.2 = true) (kc : Nat → en_B) (hk : ∀ t, en_Snd G M_X12_mostTired t (kc t)) : en_Snd G M_X12_mostTired 43 (B_X12_mostTired_43 kc) := (sn_iload_n (i := 3) (n := 3) (by decide +kernel) rfl (sn_istore_n (i := 2) (n := 2) (by decide +kernel) rfl (Nat.le_of_ble_eq_true rfl) (s_X12_mostTired_45 G hst kc hk)))
noncomputable def B_X12_mostTired_4 (kc : Nat → en_B) : en_B := (op_iload 3 (op_aload 0 (op_geti 12 1 (op_iclt (op_aload 0 (op_aload 1 (op_const (1 : Int32) (op_iload 3 (op_bin en_shl (op_rcv 12 2 (op_calli O_X12_broken 3 (op_ifeq (op_iload 2 (op_const (-1 : Int32) (op_iceq (B_X12_mostTired_43 kc) (op_aload 1 (op_const (7 : Int32) (op_iload 3 (op_bin (fun (x y : Int32) => x + y) (op_ald 20 (op_aload 1 (op_const (7 : Int32) (op_iload 2 (op_bin (fun (x y : Int32) => x + y) (op_ald 20 (op_icgt (B_X12_mostTired_43 kc) (B_X12_mostTired_45 kc))))))))))))))) (B_X12_mostTired_45 kc))))))))) (B_X12_mostTired_51 kc)))))
set_option maxRecDepth 20000 in
theorem s_X12_mostTired_4 (G : en_G) (hst : G.2.2.2.2.2 = true) (kc : Nat → en_B) (hk : ∀ t, en_Snd G M_X12_mostTired t (kc t)) : en_Snd G M_X12_mostTired 4 (B_X12_mostTired_4 kc) := (sn_iload_n (i := 3) (n := 3) (by decide +kernel) rfl (sn_aload_n (i := 0) (n := 0) (by decide +kernel) rfl (sn_geti (ci := 12) (j := 1) en_c12 (by decide +kernel) wm_383 (Nat.le_of_ble_eq_true rfl) rfl (sn_icge (off := 42) (tgt := 51) (by decide +kernel) rfl (s_X12_mostTired_51 G hst kc hk) (sn_aload_n (i := 0) (n := 0) (by decide +kernel) rfl (sn_aload_n (i := 1) (n := 1) (by decide +kernel) rfl (sn_iconst (n := 1) (v := 1) (by decide +kernel) rfl (sn_iload_n (i := 3) (n := 3) (by decide +kernel) rfl (sn_ishl (by decide +kernel) (sn_callVi (n := 2) (idx := 228) (ci := 12) (i_X12_broken G hst) (Nat.le_of_ble_eq_true rfl) cs_X12_broken ⟨wm_516, wm_517, wm_526⟩ ⟨⟨_, rfl, rfl⟩, (Nat.le_of_ble_eq_true rfl)⟩ (by decide +kernel) (sn_ifne (off := 25) (tgt := 45) (by decide +kernel) rfl (s_X12_mostTired_45 G hst kc hk) (sn_iload_n (i := 2) (n := 2) (by decide +kernel) rfl (sn_iconst (n := -1) (v := -1) (by decide +kernel) rfl (sn_iceq (off := 18) (tgt := 43) (by decide +kernel) rfl (s_X12_mostTired_43 G hst kc hk) (sn_aload_n (i := 1) (n := 1) (by decide +kernel) rfl (sn_bipush (n := 7) (v := 7) (by decide +kernel) rfl (sn_iload_n (i := 3) (n := 3) (by decide +kernel) rfl (sn_iadd (by decide +kernel) (sn_iald (by decide +kernel) (sn_aload_n (i := 1) (n := 1) (by decide +kernel) rfl (sn_bipush (n := 7) (v := 7) (by decide +kernel) rfl (sn_iload_n (i := 2) (n := 2) (by decide +kernel) rfl (sn_iadd (by decide +kernel) (sn_iald (by decide +kernel) (sn_icle (off := 5) (tgt := 45) (by decide +kernel) rfl (s_X12_mostTired_45 G hst kc hk) (s_X12_mostTired_43 G hst kc hk))))))))))))))))))))))))))
noncomputable def B_X12_mostTired_0 (kc : Nat → en_B) : en_B := (op_const (-1 : Int32) (op_istore 2 (op_const (0 : Int32) (op_istore 3 (kc 4)))))
set_option maxRecDepth 20000 in
theorem s_X12_mostTired_0 (G : en_G) (hst : G.2.2.2.2.2 = true) (kc : Nat → en_B) (hk : ∀ t, en_Snd G M_X12_mostTired t (kc t)) : en_Snd G M_X12_mostTired 0 (B_X12_mostTired_0 kc) := (sn_iconst (n := -1) (v := -1) (by decide +kernel) rfl (sn_istore_n (i := 2) (n := 2) (by decide +kernel) rfl (Nat.le_of_ble_eq_true rfl) (sn_iconst (n := 0) (v := 0) (by decide +kernel) rfl (sn_istore_n (i := 3) (n := 3) (by decide +kernel) rfl (Nat.le_of_ble_eq_true rfl) (hk 4)))))
noncomputable def LK_X12_mostTired : Nat → Nat → en_B
  | 0, _ => en_no
  | n + 1, t => if t = 4 then B_X12_mostTired_4 (LK_X12_mostTired n) else en_no
theorem l_X12_mostTired (G : en_G) (hst : G.2.2.2.2.2 = true) : ∀ n t, en_Snd G M_X12_mostTired t (LK_X12_mostTired n t)
  | 0, _ => sn_no
  | n + 1, t => by
    show en_Snd G M_X12_mostTired t (if t = 4 then B_X12_mostTired_4 (LK_X12_mostTired n) else en_no)
    by_cases h_4 : t = 4
    · rw [if_pos h_4, h_4]; exact s_X12_mostTired_4 G hst _ (l_X12_mostTired G hst n)
    rw [if_neg h_4]
    exact sn_no
noncomputable def T_X12_mostTired_0 (k1 : Nat) (σ : en_M) : en_R := B_X12_mostTired_0 (LK_X12_mostTired en_FU) [.inr (185, 12, 0, 0), .inr (k1, 20, 53, 0), en_un, en_un] [] en_zz σ
noncomputable def T_X12_mostTired_4 (n : Nat) (k1 : Nat) (x2 : Int32) (x3 : Int32) (σ : en_M) : en_R := LK_X12_mostTired n 4 [.inr (185, 12, 0, 0), .inr (k1, 20, 53, 0), .inl x2, .inl x3] [] en_zz σ
set_option maxRecDepth 20000 in
set_option maxHeartbeats 2000000 in
theorem t_X12_mostTired_0 (k1 : Nat) (σ : en_M) : T_X12_mostTired_0 k1 σ = (T_X12_mostTired_4 en_FU k1 (-1 : Int32) (0 : Int32) σ) := rfl
set_option maxRecDepth 20000 in
set_option maxHeartbeats 2000000 in
theorem t_X12_mostTired_4 (n : Nat) (k1 : Nat) (x2 : Int32) (x3 : Int32) (σ : en_M) : T_X12_mostTired_4 (n + 1) k1 x2 x3 σ = (if x3 < (σ 185 1) then ((O_X12_broken [.inr (185, 12, 0, 0), .inr (k1, 20, 53, 0), .inl (en_shl (1 : Int32) x3)] σ).bind fun r1 => if r1.1 = 0 then (if x2 = (-1 : Int32) then (T_X12_mostTired_4 n k1 x3 (x3 + (1 : Int32)) r1.2) else ((en_ix ((7 : Int32) + x3) 53).bind fun j2 => (en_ix ((7 : Int32) + x2) 53).bind fun j3 => if (r1.2 k1 j3) < (r1.2 k1 j2) then (T_X12_mostTired_4 n k1 x3 (x3 + (1 : Int32)) r1.2) else (T_X12_mostTired_4 n k1 x2 (x3 + (1 : Int32)) r1.2))) else (T_X12_mostTired_4 n k1 x2 (x3 + (1 : Int32)) r1.2)) else (if x2 = (-1 : Int32) then (en_ri (0 : Int32) σ) else (en_ri (en_shl (1 : Int32) x2) σ))) := rfl
noncomputable def P_X12_mostTired : List en_V → en_M → Option (Int32 × en_M) := fun av σ => match av with
  | [.inr (185, 12, 0, 0), .inr (k1, 20, 53, 0)] => en_oi (T_X12_mostTired_0 k1 σ)
  | _ => none
theorem ox_X12_mostTired : ∃ f, f = P_X12_mostTired := ⟨_, rfl⟩
noncomputable def O_X12_mostTired : List en_V → en_M → Option (Int32 × en_M) := Classical.choose ox_X12_mostTired
theorem oe_X12_mostTired : O_X12_mostTired = P_X12_mostTired := Classical.choose_spec ox_X12_mostTired
theorem o_X12_mostTired (k1 : Nat) (σ : en_M) : O_X12_mostTired [.inr (185, 12, 0, 0), .inr (k1, 20, 53, 0)] σ = en_oi (T_X12_mostTired_0 k1 σ) := by rw [oe_X12_mostTired]; rfl
theorem i_X12_mostTired (G : en_G) (hst : G.2.2.2.2.2 = true) : en_I G 4 yX12_mostTired cX12_mostTired 4 (some .int) 0 0 (en_wi (O_X12_mostTired)) := en_of_i (M := M_X12_mostTired) hst (s_X12_mostTired_0 G hst _ (l_X12_mostTired G hst en_FU)) (plainFor_of_name (by decide +kernel)) rfl rfl rfl (Or.inl ⟨rfl, rfl⟩) (fun av σ x σ' h => by
  rw [oe_X12_mostTired] at h; unfold P_X12_mostTired at h
  split at h
  · exact ⟨(Nat.le_of_ble_eq_true rfl), en_oi_some h⟩
  · cases h)
-- EachMayMissOneModel.wearyOf(I)I
def M_X12_wearyOf : en_Me := (cX12_wearyOf, RX12, 2, false, 1, false)
theorem cs_X12_wearyOf : en_cs yX12_wearyOf cX12_wearyOf 2 (some .int) 1 := ⟨wm_698, wm_337, ⟨(by decide +kernel), (by decide +kernel), (by decide +kernel)⟩, (Nat.le_of_ble_eq_true rfl)⟩
noncomputable def B_X12_wearyOf_0 (kc : Nat → en_B) : en_B := (op_aload 0 (op_gets 12 13 (20, 53, 0) (op_const (7 : Int32) (op_iload 1 (op_bin (fun (x y : Int32) => x + y) (op_ald 20 (op_const (100 : Int32) (op_aload 0 (op_gets 12 13 (20, 53, 0) (op_const (21 : Int32) (op_iload 1 (op_bin (fun (x y : Int32) => x + y) (op_ald 20 (op_aload 0 (op_gets 12 1 (20, 53, 0) (op_const (21 : Int32) (op_iload 1 (op_bin (fun (x y : Int32) => x + y) (op_ald 20 (op_bin (fun (x y : Int32) => x - y) (op_bin (fun (x y : Int32) => x * y) (op_bin (fun (x y : Int32) => x + y) op_iret))))))))))))))))))))))
set_option maxRecDepth 20000 in
theorem s_X12_wearyOf_0 (G : en_G) (hst : G.2.2.2.2.2 = true) (kc : Nat → en_B) (hk : ∀ t, en_Snd G M_X12_wearyOf t (kc t)) : en_Snd G M_X12_wearyOf 0 (B_X12_wearyOf_0 kc) := (sn_aload_n (i := 0) (n := 0) (by decide +kernel) rfl (sn_gets (ci := 12) (j := 31) (off := 13) hst en_c12 of_12_13 (Nat.le_of_ble_eq_true rfl) (by decide +kernel) wm_354 (Nat.le_of_ble_eq_true rfl) rfl (sn_bipush (n := 7) (v := 7) (by decide +kernel) rfl (sn_iload_n (i := 1) (n := 1) (by decide +kernel) rfl (sn_iadd (by decide +kernel) (sn_iald (by decide +kernel) (sn_bipush (n := 100) (v := 100) (by decide +kernel) rfl (sn_aload_n (i := 0) (n := 0) (by decide +kernel) rfl (sn_gets (ci := 12) (j := 31) (off := 13) hst en_c12 of_12_13 (Nat.le_of_ble_eq_true rfl) (by decide +kernel) wm_354 (Nat.le_of_ble_eq_true rfl) rfl (sn_bipush (n := 21) (v := 21) (by decide +kernel) rfl (sn_iload_n (i := 1) (n := 1) (by decide +kernel) rfl (sn_iadd (by decide +kernel) (sn_iald (by decide +kernel) (sn_aload_n (i := 0) (n := 0) (by decide +kernel) rfl (sn_gets (ci := 12) (j := 0) (off := 1) hst en_c12 of_12_1 (Nat.le_of_ble_eq_true rfl) (by decide +kernel) wm_339 (Nat.le_of_ble_eq_true rfl) rfl (sn_bipush (n := 21) (v := 21) (by decide +kernel) rfl (sn_iload_n (i := 1) (n := 1) (by decide +kernel) rfl (sn_iadd (by decide +kernel) (sn_iald (by decide +kernel) (sn_isub (by decide +kernel) (sn_imul (by decide +kernel) (sn_iadd (by decide +kernel) (sn_iret (by decide +kernel) rfl)))))))))))))))))))))))
noncomputable def LK_X12_wearyOf : Nat → Nat → en_B
  | 0, _ => en_no
  | n + 1, t => en_no
theorem l_X12_wearyOf (G : en_G) (hst : G.2.2.2.2.2 = true) : ∀ n t, en_Snd G M_X12_wearyOf t (LK_X12_wearyOf n t)
  | 0, _ => sn_no
  | n + 1, t => by
    show en_Snd G M_X12_wearyOf t (en_no)
    exact sn_no
noncomputable def T_X12_wearyOf_0 (x1 : Int32) (σ : en_M) : en_R := B_X12_wearyOf_0 (LK_X12_wearyOf en_FU) [.inr (185, 12, 0, 0), .inl x1] [] en_zz σ
set_option maxRecDepth 20000 in
set_option maxHeartbeats 2000000 in
theorem t_X12_wearyOf_0 (x1 : Int32) (σ : en_M) : T_X12_wearyOf_0 x1 σ = ((en_ix ((7 : Int32) + x1) 53).bind fun j1 => (en_ix ((21 : Int32) + x1) 53).bind fun j2 => (en_ix ((21 : Int32) + x1) 53).bind fun j3 => en_ri ((σ 198 j1) + ((100 : Int32) * ((σ 198 j2) - (σ 186 j3)))) σ) := rfl
noncomputable def P_X12_wearyOf : List en_V → en_M → Option (Int32 × en_M) := fun av σ => match av with
  | [.inr (185, 12, 0, 0), .inl x1] => en_oi (T_X12_wearyOf_0 x1 σ)
  | _ => none
theorem ox_X12_wearyOf : ∃ f, f = P_X12_wearyOf := ⟨_, rfl⟩
noncomputable def O_X12_wearyOf : List en_V → en_M → Option (Int32 × en_M) := Classical.choose ox_X12_wearyOf
theorem oe_X12_wearyOf : O_X12_wearyOf = P_X12_wearyOf := Classical.choose_spec ox_X12_wearyOf
theorem o_X12_wearyOf (x1 : Int32) (σ : en_M) : O_X12_wearyOf [.inr (185, 12, 0, 0), .inl x1] σ = en_oi (T_X12_wearyOf_0 x1 σ) := by rw [oe_X12_wearyOf]; rfl
theorem i_X12_wearyOf (G : en_G) (hst : G.2.2.2.2.2 = true) : en_I G 1 yX12_wearyOf cX12_wearyOf 2 (some .int) 0 0 (en_wi (O_X12_wearyOf)) := en_of_i (M := M_X12_wearyOf) hst (s_X12_wearyOf_0 G hst _ (l_X12_wearyOf G hst en_FU)) (plainFor_of_name (by decide +kernel)) rfl rfl rfl (Or.inl ⟨rfl, rfl⟩) (fun av σ x σ' h => by
  rw [oe_X12_wearyOf] at h; unfold P_X12_wearyOf at h
  split at h
  · exact ⟨(Nat.le_of_ble_eq_true rfl), en_oi_some h⟩
  · cases h)
