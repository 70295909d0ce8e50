-- EachMayMissOne.sign(I)I
def M_X11_sign : en_Me := (cX11_sign, RX11, 2, false, 2, false)
theorem cs_X11_sign : en_cs yX11_sign cX11_sign 2 (some .int) 1 := ⟨wm_53, wm_2, ⟨(by decide +kernel), (by decide +kernel), (by decide +kernel)⟩, (Nat.le_of_ble_eq_true rfl)⟩
noncomputable def B_X11_sign_22 (kc : Nat → en_B) : en_B := op_iret
set_option maxRecDepth 20000 in
theorem s_X11_sign_22 (G : en_G) (hst : G.2.2.2.2.2 = true) (kc : Nat → en_B) (hk : ∀ t, en_Snd G M_X11_sign t (kc t)) : en_Snd G M_X11_sign 22 (B_X11_sign_22 kc) := (sn_iret (by decide +kernel) rfl)
noncomputable def B_X11_sign_21 (kc : Nat → en_B) : en_B := (op_const (-1 : Int32) (B_X11_sign_22 kc))
set_option maxRecDepth 20000 in
theorem s_X11_sign_21 (G : en_G) (hst : G.2.2.2.2.2 = true) (kc : Nat → en_B) (hk : ∀ t, en_Snd G M_X11_sign t (kc t)) : en_Snd G M_X11_sign 21 (B_X11_sign_21 kc) := (sn_iconst (n := -1) (v := -1) (by decide +kernel) rfl (s_X11_sign_22 G hst kc hk))
noncomputable def B_X11_sign_0 (kc : Nat → en_B) : en_B := (op_aload 0 (op_gets 11 1 (8, 0, 0) (op_iload 1 (op_rcv 8 1 (op_calli O_X8_addFour 2 (op_ifeq (B_X11_sign_21 kc) (op_aload 0 (op_gets 11 1 (8, 0, 0) (op_geti 8 1 (B_X11_sign_22 kc))))))))))
set_option maxRecDepth 20000 in
theorem s_X11_sign_0 (G : en_G) (hst : G.2.2.2.2.2 = true) (kc : Nat → en_B) (hk : ∀ t, en_Snd G M_X11_sign t (kc t)) : en_Snd G M_X11_sign 0 (B_X11_sign_0 kc) := (sn_aload_n (i := 0) (n := 0) (by decide +kernel) rfl (sn_gets (ci := 11) (j := 0) (off := 1) hst en_c11 of_11_1 (Nat.le_of_ble_eq_true rfl) (by decide +kernel) wm_8 (Nat.le_of_ble_eq_true rfl) rfl (sn_iload_n (i := 1) (n := 1) (by decide +kernel) rfl (sn_callVi (n := 1) (idx := 85) (ci := 8) (i_X8_addFour G hst) (Nat.le_of_ble_eq_true rfl) cs_X8_addFour ⟨wm_1069, wm_1070, wm_56⟩ ⟨⟨_, rfl, rfl⟩, (Nat.le_of_ble_eq_true rfl)⟩ (by decide +kernel) (sn_ifeq (off := 13) (tgt := 21) (by decide +kernel) rfl (s_X11_sign_21 G hst kc hk) (sn_aload_n (i := 0) (n := 0) (by decide +kernel) rfl (sn_gets (ci := 11) (j := 0) (off := 1) hst en_c11 of_11_1 (Nat.le_of_ble_eq_true rfl) (by decide +kernel) wm_8 (Nat.le_of_ble_eq_true rfl) rfl (sn_geti (ci := 8) (j := 1) en_c8 (by decide +kernel) wm_57 (Nat.le_of_ble_eq_true rfl) rfl (sn_goto (off := 4) (tgt := 22) (by decide +kernel) rfl (s_X11_sign_22 G hst kc hk))))))))))
noncomputable def LK_X11_sign : Nat → Nat → en_B
  | 0, _ => en_no
  | n + 1, t => en_no
theorem l_X11_sign (G : en_G) (hst : G.2.2.2.2.2 = true) : ∀ n t, en_Snd G M_X11_sign t (LK_X11_sign n t)
  | 0, _ => sn_no
  | n + 1, t => by
    show en_Snd G M_X11_sign t (en_no)
    exact sn_no
noncomputable def T_X11_sign_0 (x1 : Int32) (σ : en_M) : en_R := B_X11_sign_0 (LK_X11_sign en_FU) [.inr (0, 11, 0, 0), .inl x1] [] en_zz σ
set_option maxRecDepth 400000 in
set_option maxHeartbeats 4000000 in
theorem t_X11_sign_0 (x1 : Int32) (σ : en_M) : T_X11_sign_0 x1 σ = ((O_X8_addFour [.inr (1, 8, 0, 0), .inl x1] σ).bind fun r1 => if r1.1 = 0 then (en_ri (-1 : Int32) r1.2) else (en_ri (r1.2 1 1) r1.2)) := rfl
noncomputable def P_X11_sign : List en_V → en_M → Option (Int32 × en_M) := fun av σ => match av with
  | [.inr (0, 11, 0, 0), .inl x1] => en_oi (T_X11_sign_0 x1 σ)
  | _ => none
theorem ox_X11_sign : ∃ f, f = P_X11_sign := ⟨_, rfl⟩
noncomputable def O_X11_sign : List en_V → en_M → Option (Int32 × en_M) := Classical.choose ox_X11_sign
theorem oe_X11_sign : O_X11_sign = P_X11_sign := Classical.choose_spec ox_X11_sign
theorem o_X11_sign (x1 : Int32) (σ : en_M) : O_X11_sign [.inr (0, 11, 0, 0), .inl x1] σ = en_oi (T_X11_sign_0 x1 σ) := by rw [oe_X11_sign]; rfl
theorem i_X11_sign (G : en_G) (hst : G.2.2.2.2.2 = true) : en_I G 2 yX11_sign cX11_sign 2 (some .int) 0 0 (en_wi (O_X11_sign)) := en_of_i (M := M_X11_sign) hst (s_X11_sign_0 G hst _ (l_X11_sign G hst en_FU)) (plainFor_of_name (by decide +kernel)) rfl rfl rfl (Or.inl ⟨rfl, rfl⟩) (fun av σ x σ' h => by
  rw [oe_X11_sign] at h; unfold P_X11_sign at h
  split at h
  · exact ⟨(Nat.le_of_ble_eq_true rfl), en_oi_some h⟩
  · cases h)
-- EachMayMissOne.end(I)Z
def M_X11_end : en_Me := (cX11_end, RX11, 2, false, 2, true)
theorem cs_X11_end : en_cs yX11_end cX11_end 2 (some .boolean) 1 := ⟨wm_58, wm_2, ⟨(by decide +kernel), (by decide +kernel), (by decide +kernel)⟩, (Nat.le_of_ble_eq_true rfl)⟩
noncomputable def B_X11_end_0 (kc : Nat → en_B) : en_B := (op_aload 0 (op_gets 11 1 (8, 0, 0) (op_iload 1 (op_rcv 8 1 (op_calli O_X8_cutTo 2 op_zret)))))
set_option maxRecDepth 20000 in
theorem s_X11_end_0 (G : en_G) (hst : G.2.2.2.2.2 = true) (kc : Nat → en_B) (hk : ∀ t, en_Snd G M_X11_end t (kc t)) : en_Snd G M_X11_end 0 (B_X11_end_0 kc) := (sn_aload_n (i := 0) (n := 0) (by decide +kernel) rfl (sn_gets (ci := 11) (j := 0) (off := 1) hst en_c11 of_11_1 (Nat.le_of_ble_eq_true rfl) (by decide +kernel) wm_8 (Nat.le_of_ble_eq_true rfl) rfl (sn_iload_n (i := 1) (n := 1) (by decide +kernel) rfl (sn_callVi (n := 1) (idx := 93) (ci := 8) (i_X8_cutTo G hst) (Nat.le_of_ble_eq_true rfl) cs_X8_cutTo ⟨wm_1073, wm_1074, wm_61⟩ ⟨⟨_, rfl, rfl⟩, (Nat.le_of_ble_eq_true rfl)⟩ (by decide +kernel) (sn_zret (by decide +kernel))))))
noncomputable def LK_X11_end : Nat → Nat → en_B
  | 0, _ => en_no
  | n + 1, t => en_no
theorem l_X11_end (G : en_G) (hst : G.2.2.2.2.2 = true) : ∀ n t, en_Snd G M_X11_end t (LK_X11_end n t)
  | 0, _ => sn_no
  | n + 1, t => by
    show en_Snd G M_X11_end t (en_no)
    exact sn_no
noncomputable def T_X11_end_0 (x1 : Int32) (σ : en_M) : en_R := B_X11_end_0 (LK_X11_end en_FU) [.inr (0, 11, 0, 0), .inl x1] [] en_zz σ
set_option maxRecDepth 400000 in
set_option maxHeartbeats 4000000 in
theorem t_X11_end_0 (x1 : Int32) (σ : en_M) : T_X11_end_0 x1 σ = ((O_X8_cutTo [.inr (1, 8, 0, 0), .inl x1] σ).bind fun r1 => if r1.1 = 0 ∨ r1.1 = 1 then en_ri r1.1 r1.2 else none) := rfl
noncomputable def P_X11_end : List en_V → en_M → Option (Int32 × en_M) := fun av σ => match av with
  | [.inr (0, 11, 0, 0), .inl x1] => en_oi (T_X11_end_0 x1 σ)
  | _ => none
theorem ox_X11_end : ∃ f, f = P_X11_end := ⟨_, rfl⟩
noncomputable def O_X11_end : List en_V → en_M → Option (Int32 × en_M) := Classical.choose ox_X11_end
theorem oe_X11_end : O_X11_end = P_X11_end := Classical.choose_spec ox_X11_end
theorem o_X11_end (x1 : Int32) (σ : en_M) : O_X11_end [.inr (0, 11, 0, 0), .inl x1] σ = en_oi (T_X11_end_0 x1 σ) := by rw [oe_X11_end]; rfl
theorem i_X11_end (G : en_G) (hst : G.2.2.2.2.2 = true) : en_I G 2 yX11_end cX11_end 2 (some .boolean) 0 0 (en_wi (O_X11_end)) := en_of_i (M := M_X11_end) hst (s_X11_end_0 G hst _ (l_X11_end G hst en_FU)) (plainFor_of_name (by decide +kernel)) rfl rfl rfl (Or.inr ⟨Or.inl rfl, rfl⟩) (fun av σ x σ' h => by
  rw [oe_X11_end] at h; unfold P_X11_end at h
  split at h
  · exact ⟨(Nat.le_of_ble_eq_true rfl), en_oi_some h⟩
  · cases h)
-- EachMayMissOne.tower()I
def M_X11_tower : en_Me := (cX11_tower, RX11, 2, false, 4, false)
theorem cs_X11_tower : en_cs yX11_tower cX11_tower 2 (some .int) 0 := ⟨wm_62, wm_2, ⟨(by decide +kernel), (by decide +kernel), (by decide +kernel)⟩, (Nat.le_of_ble_eq_true rfl)⟩
noncomputable def B_X11_tower_44 (kc : Nat → en_B) : en_B := (op_iload 1 op_iret)
set_option maxRecDepth 20000 in
theorem s_X11_tower_44 (G : en_G) (hst : G.2.2.2.2.2 = true) (kc : Nat → en_B) (hk : ∀ t, en_Snd G M_X11_tower t (kc t)) : en_Snd G M_X11_tower 44 (B_X11_tower_44 kc) := (sn_iload_n (i := 1) (n := 1) (by decide +kernel) rfl (sn_iret (by decide +kernel) rfl))
noncomputable def B_X11_tower_0 (kc : Nat → en_B) : en_B := (op_aload 0 (op_gets 11 5 (10, 0, 0) (op_aload 0 (op_gets 11 1 (8, 0, 0) (op_rcv 10 1 (op_calli O_X10_readWeights 2 (op_istore 1 (op_aload 0 (op_gets 11 1 (8, 0, 0) (op_rcv 8 0 (op_callv O_X8_clear 1 (op_iload 1 (op_ifgt (op_aload 0 (op_gets 11 15 (7, 0, 0) (op_rcv 7 0 (op_callv O_X7_begin 1 (op_aload 0 (op_gets 11 25 (4, 0, 0) (op_rcv 4 0 (op_callv O_X4_forget 1 (op_aload 0 (op_gets 11 87 (1, 0, 0) (op_rcv 1 0 (op_callv O_X1_forget 1 (B_X11_tower_44 kc))))))))))))) (B_X11_tower_44 kc))))))))))))))
set_option maxRecDepth 20000 in
theorem s_X11_tower_0 (G : en_G) (hst : G.2.2.2.2.2 = true) (kc : Nat → en_B) (hk : ∀ t, en_Snd G M_X11_tower t (kc t)) : en_Snd G M_X11_tower 0 (B_X11_tower_0 kc) := (sn_aload_n (i := 0) (n := 0) (by decide +kernel) rfl (sn_gets (ci := 11) (j := 2) (off := 5) hst en_c11 of_11_5 (Nat.le_of_ble_eq_true rfl) (by decide +kernel) wm_18 (Nat.le_of_ble_eq_true rfl) rfl (sn_aload_n (i := 0) (n := 0) (by decide +kernel) rfl (sn_gets (ci := 11) (j := 0) (off := 1) hst en_c11 of_11_1 (Nat.le_of_ble_eq_true rfl) (by decide +kernel) wm_8 (Nat.le_of_ble_eq_true rfl) rfl (sn_callVi (n := 1) (idx := 96) (ci := 10) (i_X10_readWeights G hst) (Nat.le_of_ble_eq_true rfl) cs_X10_readWeights ⟨wm_1108, wm_1109, wm_65⟩ ⟨⟨_, rfl, rfl⟩, (Nat.le_of_ble_eq_true rfl)⟩ (by decide +kernel) (sn_istore_n (i := 1) (n := 1) (by decide +kernel) rfl (Nat.le_of_ble_eq_true rfl) (sn_aload_n (i := 0) (n := 0) (by decide +kernel) rfl (sn_gets (ci := 11) (j := 0) (off := 1) hst en_c11 of_11_1 (Nat.le_of_ble_eq_true rfl) (by decide +kernel) wm_8 (Nat.le_of_ble_eq_true rfl) rfl (sn_callVv (n := 0) (idx := 100) (ci := 8) (i_X8_clear G hst) (Nat.le_of_ble_eq_true rfl) cs_X8_clear ⟨wm_1076, wm_1077, wm_66⟩ ⟨⟨_, rfl, rfl⟩, (Nat.le_of_ble_eq_true rfl)⟩ (by decide +kernel) (sn_iload_n (i := 1) (n := 1) (by decide +kernel) rfl (sn_ifle (off := 24) (tgt := 44) (by decide +kernel) rfl (s_X11_tower_44 G hst kc hk) (sn_aload_n (i := 0) (n := 0) (by decide +kernel) rfl (sn_gets (ci := 11) (j := 3) (off := 15) hst en_c11 of_11_15 (Nat.le_of_ble_eq_true rfl) (by decide +kernel) wm_23 (Nat.le_of_ble_eq_true rfl) rfl (sn_callVv (n := 0) (idx := 103) (ci := 7) (i_X7_begin G hst) (Nat.le_of_ble_eq_true rfl) cs_X7_begin ⟨wm_1033, wm_1034, wm_67⟩ ⟨⟨_, rfl, rfl⟩, (Nat.le_of_ble_eq_true rfl)⟩ (by decide +kernel) (sn_aload_n (i := 0) (n := 0) (by decide +kernel) rfl (sn_gets (ci := 11) (j := 5) (off := 25) hst en_c11 of_11_25 (Nat.le_of_ble_eq_true rfl) (by decide +kernel) wm_29 (Nat.le_of_ble_eq_true rfl) rfl (sn_callVv (n := 0) (idx := 106) (ci := 4) (i_X4_forget G hst) (Nat.le_of_ble_eq_true rfl) cs_X4_forget ⟨wm_866, wm_867, wm_68⟩ ⟨⟨_, rfl, rfl⟩, (Nat.le_of_ble_eq_true rfl)⟩ (by decide +kernel) (sn_aload_n (i := 0) (n := 0) (by decide +kernel) rfl (sn_gets (ci := 11) (j := 6) (off := 87) hst en_c11 of_11_87 (Nat.le_of_ble_eq_true rfl) (by decide +kernel) wm_34 (Nat.le_of_ble_eq_true rfl) rfl (sn_callVv (n := 0) (idx := 109) (ci := 1) (i_X1_forget G hst) (Nat.le_of_ble_eq_true rfl) cs_X1_forget ⟨wm_777, wm_778, wm_69⟩ ⟨⟨_, rfl, rfl⟩, (Nat.le_of_ble_eq_true rfl)⟩ (by decide +kernel) (s_X11_tower_44 G hst kc hk)))))))))))))))))))))
noncomputable def LK_X11_tower : Nat → Nat → en_B
  | 0, _ => en_no
  | n + 1, t => en_no
theorem l_X11_tower (G : en_G) (hst : G.2.2.2.2.2 = true) : ∀ n t, en_Snd G M_X11_tower t (LK_X11_tower n t)
  | 0, _ => sn_no
  | n + 1, t => by
    show en_Snd G M_X11_tower t (en_no)
    exact sn_no
noncomputable def T_X11_tower_0 (σ : en_M) : en_R := B_X11_tower_0 (LK_X11_tower en_FU) [.inr (0, 11, 0, 0), en_un] [] en_zz σ
set_option maxRecDepth 400000 in
set_option maxHeartbeats 4000000 in
theorem t_X11_tower_0 (σ : en_M) : T_X11_tower_0 σ = ((O_X10_readWeights [.inr (5, 10, 0, 0), .inr (1, 8, 0, 0)] σ).bind fun r1 => (O_X8_clear [.inr (1, 8, 0, 0)] r1.2).bind fun r2 => if 0 < r1.1 then ((O_X7_begin [.inr (15, 7, 0, 0)] r2).bind fun r3 => (O_X4_forget [.inr (25, 4, 0, 0)] r3).bind fun r4 => (O_X1_forget [.inr (87, 1, 0, 0)] r4).bind fun r5 => en_ri r1.1 r5) else (en_ri r1.1 r2)) := rfl
noncomputable def P_X11_tower : List en_V → en_M → Option (Int32 × en_M) := fun av σ => match av with
  | [.inr (0, 11, 0, 0)] => en_oi (T_X11_tower_0 σ)
  | _ => none
theorem ox_X11_tower : ∃ f, f = P_X11_tower := ⟨_, rfl⟩
noncomputable def O_X11_tower : List en_V → en_M → Option (Int32 × en_M) := Classical.choose ox_X11_tower
theorem oe_X11_tower : O_X11_tower = P_X11_tower := Classical.choose_spec ox_X11_tower
theorem o_X11_tower (σ : en_M) : O_X11_tower [.inr (0, 11, 0, 0)] σ = en_oi (T_X11_tower_0 σ) := by rw [oe_X11_tower]; rfl
theorem i_X11_tower (G : en_G) (hst : G.2.2.2.2.2 = true) : en_I G 4 yX11_tower cX11_tower 2 (some .int) 0 0 (en_wi (O_X11_tower)) := en_of_i (M := M_X11_tower) hst (s_X11_tower_0 G hst _ (l_X11_tower G hst en_FU)) (plainFor_of_name (by decide +kernel)) rfl rfl rfl (Or.inl ⟨rfl, rfl⟩) (fun av σ x σ' h => by
  rw [oe_X11_tower] at h; unfold P_X11_tower at h
  split at h
  · exact ⟨(Nat.le_of_ble_eq_true rfl), en_oi_some h⟩
  · cases h)
-- EachMayMissOne.method()I
def M_X11_method : en_Me := (cX11_method, RX11, 2, false, 4, false)
theorem cs_X11_method : en_cs yX11_method cX11_method 2 (some .int) 0 := ⟨wm_70, wm_2, ⟨(by decide +kernel), (by decide +kernel), (by decide +kernel)⟩, (Nat.le_of_ble_eq_true rfl)⟩
noncomputable def B_X11_method_47 (kc : Nat → en_B) : en_B := (op_iload 1 op_iret)
set_option maxRecDepth 20000 in
theorem s_X11_method_47 (G : en_G) (hst : G.2.2.2.2.2 = true) (kc : Nat → en_B) (hk : ∀ t, en_Snd G M_X11_method t (kc t)) : en_Snd G M_X11_method 47 (B_X11_method_47 kc) := (sn_iload_n (i := 1) (n := 1) (by decide +kernel) rfl (sn_iret (by decide +kernel) rfl))
noncomputable def B_X11_method_0 (kc : Nat → en_B) : en_B := (op_aload 0 (op_gets 11 5 (10, 0, 0) (op_gets 10 2 (0, 0, 0) (op_aload 0 (op_gets 11 1 (8, 0, 0) (op_aload 0 (op_gets 11 5 (10, 0, 0) (op_geti 10 3 (op_rcv 0 2 (op_calli O_X0_read 3 (op_istore 1 (op_aload 0 (op_gets 11 1 (8, 0, 0) (op_rcv 8 0 (op_callv O_X8_clear 1 (op_iload 1 (op_ifgt (op_aload 0 (op_gets 11 25 (4, 0, 0) (op_rcv 4 0 (op_callv O_X4_forget 1 (op_aload 0 (op_gets 11 87 (1, 0, 0) (op_rcv 1 0 (op_callv O_X1_forget 1 (B_X11_method_47 kc))))))))) (B_X11_method_47 kc))))))))))))))))))
set_option maxRecDepth 20000 in
theorem s_X11_method_0 (G : en_G) (hst : G.2.2.2.2.2 = true) (kc : Nat → en_B) (hk : ∀ t, en_Snd G M_X11_method t (kc t)) : en_Snd G M_X11_method 0 (B_X11_method_0 kc) := (sn_aload_n (i := 0) (n := 0) (by decide +kernel) rfl (sn_gets (ci := 11) (j := 2) (off := 5) hst en_c11 of_11_5 (Nat.le_of_ble_eq_true rfl) (by decide +kernel) wm_18 (Nat.le_of_ble_eq_true rfl) rfl (sn_gets (ci := 10) (j := 1) (off := 2) hst en_c10 of_10_2 (Nat.le_of_ble_eq_true rfl) (by decide +kernel) wm_73 (Nat.le_of_ble_eq_true rfl) rfl (sn_aload_n (i := 0) (n := 0) (by decide +kernel) rfl (sn_gets (ci := 11) (j := 0) (off := 1) hst en_c11 of_11_1 (Nat.le_of_ble_eq_true rfl) (by decide +kernel) wm_8 (Nat.le_of_ble_eq_true rfl) rfl (sn_aload_n (i := 0) (n := 0) (by decide +kernel) rfl (sn_gets (ci := 11) (j := 2) (off := 5) hst en_c11 of_11_5 (Nat.le_of_ble_eq_true rfl) (by decide +kernel) wm_18 (Nat.le_of_ble_eq_true rfl) rfl (sn_geti (ci := 10) (j := 3) en_c10 (by decide +kernel) wm_74 (Nat.le_of_ble_eq_true rfl) rfl (sn_callVi (n := 2) (idx := 117) (ci := 0) (i_X0_read G hst) (Nat.le_of_ble_eq_true rfl) cs_X0_read ⟨wm_729, wm_730, wm_75⟩ ⟨⟨_, rfl, rfl⟩, (Nat.le_of_ble_eq_true rfl)⟩ (by decide +kernel) (sn_istore_n (i := 1) (n := 1) (by decide +kernel) rfl (Nat.le_of_ble_eq_true rfl) (sn_aload_n (i := 0) (n := 0) (by decide +kernel) rfl (sn_gets (ci := 11) (j := 0) (off := 1) hst en_c11 of_11_1 (Nat.le_of_ble_eq_true rfl) (by decide +kernel) wm_8 (Nat.le_of_ble_eq_true rfl) rfl (sn_callVv (n := 0) (idx := 100) (ci := 8) (i_X8_clear G hst) (Nat.le_of_ble_eq_true rfl) cs_X8_clear ⟨wm_1076, wm_1077, wm_66⟩ ⟨⟨_, rfl, rfl⟩, (Nat.le_of_ble_eq_true rfl)⟩ (by decide +kernel) (sn_iload_n (i := 1) (n := 1) (by decide +kernel) rfl (sn_ifle (off := 17) (tgt := 47) (by decide +kernel) rfl (s_X11_method_47 G hst kc hk) (sn_aload_n (i := 0) (n := 0) (by decide +kernel) rfl (sn_gets (ci := 11) (j := 5) (off := 25) hst en_c11 of_11_25 (Nat.le_of_ble_eq_true rfl) (by decide +kernel) wm_29 (Nat.le_of_ble_eq_true rfl) rfl (sn_callVv (n := 0) (idx := 106) (ci := 4) (i_X4_forget G hst) (Nat.le_of_ble_eq_true rfl) cs_X4_forget ⟨wm_866, wm_867, wm_68⟩ ⟨⟨_, rfl, rfl⟩, (Nat.le_of_ble_eq_true rfl)⟩ (by decide +kernel) (sn_aload_n (i := 0) (n := 0) (by decide +kernel) rfl (sn_gets (ci := 11) (j := 6) (off := 87) hst en_c11 of_11_87 (Nat.le_of_ble_eq_true rfl) (by decide +kernel) wm_34 (Nat.le_of_ble_eq_true rfl) rfl (sn_callVv (n := 0) (idx := 109) (ci := 1) (i_X1_forget G hst) (Nat.le_of_ble_eq_true rfl) cs_X1_forget ⟨wm_777, wm_778, wm_69⟩ ⟨⟨_, rfl, rfl⟩, (Nat.le_of_ble_eq_true rfl)⟩ (by decide +kernel) (s_X11_method_47 G hst kc hk))))))))))))))))))))))
noncomputable def LK_X11_method : Nat → Nat → en_B
  | 0, _ => en_no
  | n + 1, t => en_no
theorem l_X11_method (G : en_G) (hst : G.2.2.2.2.2 = true) : ∀ n t, en_Snd G M_X11_method t (LK_X11_method n t)
  | 0, _ => sn_no
  | n + 1, t => by
    show en_Snd G M_X11_method t (en_no)
    exact sn_no
noncomputable def T_X11_method_0 (σ : en_M) : en_R := B_X11_method_0 (LK_X11_method en_FU) [.inr (0, 11, 0, 0), en_un] [] en_zz σ
set_option maxRecDepth 400000 in
set_option maxHeartbeats 4000000 in
theorem t_X11_method_0 (σ : en_M) : T_X11_method_0 σ = ((O_X0_read [.inr (7, 0, 0, 0), .inr (1, 8, 0, 0), .inl (σ 5 3)] σ).bind fun r1 => (O_X8_clear [.inr (1, 8, 0, 0)] r1.2).bind fun r2 => if 0 < r1.1 then ((O_X4_forget [.inr (25, 4, 0, 0)] r2).bind fun r3 => (O_X1_forget [.inr (87, 1, 0, 0)] r3).bind fun r4 => en_ri r1.1 r4) else (en_ri r1.1 r2)) := rfl
noncomputable def P_X11_method : List en_V → en_M → Option (Int32 × en_M) := fun av σ => match av with
  | [.inr (0, 11, 0, 0)] => en_oi (T_X11_method_0 σ)
  | _ => none
theorem ox_X11_method : ∃ f, f = P_X11_method := ⟨_, rfl⟩
noncomputable def O_X11_method : List en_V → en_M → Option (Int32 × en_M) := Classical.choose ox_X11_method
theorem oe_X11_method : O_X11_method = P_X11_method := Classical.choose_spec ox_X11_method
theorem o_X11_method (σ : en_M) : O_X11_method [.inr (0, 11, 0, 0)] σ = en_oi (T_X11_method_0 σ) := by rw [oe_X11_method]; rfl
theorem i_X11_method (G : en_G) (hst : G.2.2.2.2.2 = true) : en_I G 4 yX11_method cX11_method 2 (some .int) 0 0 (en_wi (O_X11_method)) := en_of_i (M := M_X11_method) hst (s_X11_method_0 G hst _ (l_X11_method G hst en_FU)) (plainFor_of_name (by decide +kernel)) rfl rfl rfl (Or.inl ⟨rfl, rfl⟩) (fun av σ x σ' h => by
  rw [oe_X11_method] at h; unfold P_X11_method at h
  split at h
  · exact ⟨(Nat.le_of_ble_eq_true rfl), en_oi_some h⟩
  · cases h)
-- EachMayMissOne.rule()I
def M_X11_rule : en_Me := (cX11_rule, RX11, 2, false, 256, false)
theorem cs_X11_rule : en_cs yX11_rule cX11_rule 2 (some .int) 0 := ⟨wm_76, wm_2, ⟨(by decide +kernel), (by decide +kernel), (by decide +kernel)⟩, (Nat.le_of_ble_eq_true rfl)⟩
noncomputable def B_X11_rule_0 (kc : Nat → en_B) : en_B := (op_aload 0 (op_gets 11 5 (10, 0, 0) (op_gets 10 5 (6, 0, 0) (op_aload 0 (op_gets 11 1 (8, 0, 0) (op_rcv 6 1 (op_calli O_X6_read 2 (op_istore 1 (op_aload 0 (op_gets 11 1 (8, 0, 0) (op_rcv 8 0 (op_callv O_X8_clear 1 (op_iload 1 op_iret)))))))))))))
set_option maxRecDepth 20000 in
theorem s_X11_rule_0 (G : en_G) (hst : G.2.2.2.2.2 = true) (kc : Nat → en_B) (hk : ∀ t, en_Snd G M_X11_rule t (kc t)) : en_Snd G M_X11_rule 0 (B_X11_rule_0 kc) := (sn_aload_n (i := 0) (n := 0) (by decide +kernel) rfl (sn_gets (ci := 11) (j := 2) (off := 5) hst en_c11 of_11_5 (Nat.le_of_ble_eq_true rfl) (by decide +kernel) wm_18 (Nat.le_of_ble_eq_true rfl) rfl (sn_gets (ci := 10) (j := 2) (off := 5) hst en_c10 of_10_5 (Nat.le_of_ble_eq_true rfl) (by decide +kernel) wm_79 (Nat.le_of_ble_eq_true rfl) rfl (sn_aload_n (i := 0) (n := 0) (by decide +kernel) rfl (sn_gets (ci := 11) (j := 0) (off := 1) hst en_c11 of_11_1 (Nat.le_of_ble_eq_true rfl) (by decide +kernel) wm_8 (Nat.le_of_ble_eq_true rfl) rfl (sn_callVi (n := 1) (idx := 127) (ci := 6) (i_X6_read G hst) (Nat.le_of_ble_eq_true rfl) cs_X6_read ⟨wm_968, wm_969, wm_80⟩ ⟨⟨_, rfl, rfl⟩, (Nat.le_of_ble_eq_true rfl)⟩ (by decide +kernel) (sn_istore_n (i := 1) (n := 1) (by decide +kernel) rfl (Nat.le_of_ble_eq_true rfl) (sn_aload_n (i := 0) (n := 0) (by decide +kernel) rfl (sn_gets (ci := 11) (j := 0) (off := 1) hst en_c11 of_11_1 (Nat.le_of_ble_eq_true rfl) (by decide +kernel) wm_8 (Nat.le_of_ble_eq_true rfl) rfl (sn_callVv (n := 0) (idx := 100) (ci := 8) (i_X8_clear G hst) (Nat.le_of_ble_eq_true rfl) cs_X8_clear ⟨wm_1076, wm_1077, wm_66⟩ ⟨⟨_, rfl, rfl⟩, (Nat.le_of_ble_eq_true rfl)⟩ (by decide +kernel) (sn_iload_n (i := 1) (n := 1) (by decide +kernel) rfl (sn_iret (by decide +kernel) rfl))))))))))))
noncomputable def LK_X11_rule : Nat → Nat → en_B
  | 0, _ => en_no
  | n + 1, t => en_no
theorem l_X11_rule (G : en_G) (hst : G.2.2.2.2.2 = true) : ∀ n t, en_Snd G M_X11_rule t (LK_X11_rule n t)
  | 0, _ => sn_no
  | n + 1, t => by
    show en_Snd G M_X11_rule t (en_no)
    exact sn_no
noncomputable def T_X11_rule_0 (σ : en_M) : en_R := B_X11_rule_0 (LK_X11_rule en_FU) [.inr (0, 11, 0, 0), en_un] [] en_zz σ
set_option maxRecDepth 400000 in
set_option maxHeartbeats 4000000 in
theorem t_X11_rule_0 (σ : en_M) : T_X11_rule_0 σ = ((O_X6_read [.inr (10, 6, 0, 0), .inr (1, 8, 0, 0)] σ).bind fun r1 => (O_X8_clear [.inr (1, 8, 0, 0)] r1.2).bind fun r2 => en_ri r1.1 r2) := rfl
noncomputable def P_X11_rule : List en_V → en_M → Option (Int32 × en_M) := fun av σ => match av with
  | [.inr (0, 11, 0, 0)] => en_oi (T_X11_rule_0 σ)
  | _ => none
theorem ox_X11_rule : ∃ f, f = P_X11_rule := ⟨_, rfl⟩
noncomputable def O_X11_rule : List en_V → en_M → Option (Int32 × en_M) := Classical.choose ox_X11_rule
theorem oe_X11_rule : O_X11_rule = P_X11_rule := Classical.choose_spec ox_X11_rule
theorem o_X11_rule (σ : en_M) : O_X11_rule [.inr (0, 11, 0, 0)] σ = en_oi (T_X11_rule_0 σ) := by rw [oe_X11_rule]; rfl
theorem i_X11_rule (G : en_G) (hst : G.2.2.2.2.2 = true) : en_I G 256 yX11_rule cX11_rule 2 (some .int) 0 0 (en_wi (O_X11_rule)) := en_of_i (M := M_X11_rule) hst (s_X11_rule_0 G hst _ (l_X11_rule G hst en_FU)) (plainFor_of_name (by decide +kernel)) rfl rfl rfl (Or.inl ⟨rfl, rfl⟩) (fun av σ x σ' h => by
  rw [oe_X11_rule] at h; unfold P_X11_rule at h
  split at h
  · exact ⟨(Nat.le_of_ble_eq_true rfl), en_oi_some h⟩
  · cases h)
-- EachMayMissOne.set(II)I
def M_X11_set : en_Me := (cX11_set, RX11, 4, false, 1, false)
theorem cs_X11_set : en_cs yX11_set cX11_set 4 (some .int) 2 := ⟨wm_98, wm_2, ⟨(by decide +kernel), (by decide +kernel), (by decide +kernel)⟩, (Nat.le_of_ble_eq_true rfl)⟩
noncomputable def B_X11_set_67 (kc : Nat → en_B) : en_B := (op_iload 3 op_iret)
set_option maxRecDepth 20000 in
theorem s_X11_set_67 (G : en_G) (hst : G.2.2.2.2.2 = true) (kc : Nat → en_B) (hk : ∀ t, en_Snd G M_X11_set t (kc t)) : en_Snd G M_X11_set 67 (B_X11_set_67 kc) := (sn_iload_n (i := 3) (n := 3) (by decide +kernel) rfl (sn_iret (by decide +kernel) rfl))
noncomputable def B_X11_set_35 (kc : Nat → en_B) : en_B := (op_iload 1 (op_const (1 : Int32) (op_iceq (op_iload 2 (op_const (1 : Int32) (op_iclt (B_X11_set_67 kc) (op_iload 2 (op_const (99 : Int32) (op_icgt (B_X11_set_67 kc) (op_aload 0 (op_gets 11 5 (10, 0, 0) (op_geti 10 6 (op_istore 3 (op_aload 0 (op_gets 11 5 (10, 0, 0) (op_iload 2 (op_puti 10 6 (B_X11_set_67 kc))))))))))))))) (B_X11_set_67 kc))))
set_option maxRecDepth 20000 in
theorem s_X11_set_35 (G : en_G) (hst : G.2.2.2.2.2 = true) (kc : Nat → en_B) (hk : ∀ t, en_Snd G M_X11_set t (kc t)) : en_Snd G M_X11_set 35 (B_X11_set_35 kc) := (sn_iload_n (i := 1) (n := 1) (by decide +kernel) rfl (sn_iconst (n := 1) (v := 1) (by decide +kernel) rfl (sn_icne (off := 30) (tgt := 67) (by decide +kernel) rfl (s_X11_set_67 G hst kc hk) (sn_iload_n (i := 2) (n := 2) (by decide +kernel) rfl (sn_iconst (n := 1) (v := 1) (by decide +kernel) rfl (sn_iclt (off := 25) (tgt := 67) (by decide +kernel) rfl (s_X11_set_67 G hst kc hk) (sn_iload_n (i := 2) (n := 2) (by decide +kernel) rfl (sn_bipush (n := 99) (v := 99) (by decide +kernel) rfl (sn_icgt (off := 19) (tgt := 67) (by decide +kernel) rfl (s_X11_set_67 G hst kc hk) (sn_aload_n (i := 0) (n := 0) (by decide +kernel) rfl (sn_gets (ci := 11) (j := 2) (off := 5) hst en_c11 of_11_5 (Nat.le_of_ble_eq_true rfl) (by decide +kernel) wm_18 (Nat.le_of_ble_eq_true rfl) rfl (sn_geti (ci := 10) (j := 6) en_c10 (by decide +kernel) wm_102 (Nat.le_of_ble_eq_true rfl) rfl (sn_istore_n (i := 3) (n := 3) (by decide +kernel) rfl (Nat.le_of_ble_eq_true rfl) (sn_aload_n (i := 0) (n := 0) (by decide +kernel) rfl (sn_gets (ci := 11) (j := 2) (off := 5) hst en_c11 of_11_5 (Nat.le_of_ble_eq_true rfl) (by decide +kernel) wm_18 (Nat.le_of_ble_eq_true rfl) rfl (sn_iload_n (i := 2) (n := 2) (by decide +kernel) rfl (sn_puti (ci := 10) (j := 6) en_c10 (by decide +kernel) wm_102 (Nat.le_of_ble_eq_true rfl) rfl rfl rfl (s_X11_set_67 G hst kc hk))))))))))))))))))
noncomputable def B_X11_set_0 (kc : Nat → en_B) : en_B := (op_const (-1 : Int32) (op_istore 3 (op_iload 1 (op_ifeq (op_iload 2 (op_const (1 : Int32) (op_iclt (B_X11_set_35 kc) (op_iload 2 (op_const (3 : Int32) (op_icgt (B_X11_set_35 kc) (op_aload 0 (op_gets 11 5 (10, 0, 0) (op_geti 10 5 (op_istore 3 (op_aload 0 (op_gets 11 5 (10, 0, 0) (op_iload 2 (op_puti 10 5 (B_X11_set_67 kc))))))))))))))) (B_X11_set_35 kc)))))
set_option maxRecDepth 20000 in
theorem s_X11_set_0 (G : en_G) (hst : G.2.2.2.2.2 = true) (kc : Nat → en_B) (hk : ∀ t, en_Snd G M_X11_set t (kc t)) : en_Snd G M_X11_set 0 (B_X11_set_0 kc) := (sn_iconst (n := -1) (v := -1) (by decide +kernel) rfl (sn_istore_n (i := 3) (n := 3) (by decide +kernel) rfl (Nat.le_of_ble_eq_true rfl) (sn_iload_n (i := 1) (n := 1) (by decide +kernel) rfl (sn_ifne (off := 32) (tgt := 35) (by decide +kernel) rfl (s_X11_set_35 G hst kc hk) (sn_iload_n (i := 2) (n := 2) (by decide +kernel) rfl (sn_iconst (n := 1) (v := 1) (by decide +kernel) rfl (sn_iclt (off := 27) (tgt := 35) (by decide +kernel) rfl (s_X11_set_35 G hst kc hk) (sn_iload_n (i := 2) (n := 2) (by decide +kernel) rfl (sn_iconst (n := 3) (v := 3) (by decide +kernel) rfl (sn_icgt (off := 22) (tgt := 35) (by decide +kernel) rfl (s_X11_set_35 G hst kc hk) (sn_aload_n (i := 0) (n := 0) (by decide +kernel) rfl (sn_gets (ci := 11) (j := 2) (off := 5) hst en_c11 of_11_5 (Nat.le_of_ble_eq_true rfl) (by decide +kernel) wm_18 (Nat.le_of_ble_eq_true rfl) rfl (sn_geti (ci := 10) (j := 5) en_c10 (by decide +kernel) wm_101 (Nat.le_of_ble_eq_true rfl) rfl (sn_istore_n (i := 3) (n := 3) (by decide +kernel) rfl (Nat.le_of_ble_eq_true rfl) (sn_aload_n (i := 0) (n := 0) (by decide +kernel) rfl (sn_gets (ci := 11) (j := 2) (off := 5) hst en_c11 of_11_5 (Nat.le_of_ble_eq_true rfl) (by decide +kernel) wm_18 (Nat.le_of_ble_eq_true rfl) rfl (sn_iload_n (i := 2) (n := 2) (by decide +kernel) rfl (sn_puti (ci := 10) (j := 5) en_c10 (by decide +kernel) wm_101 (Nat.le_of_ble_eq_true rfl) rfl rfl rfl (sn_goto (off := 35) (tgt := 67) (by decide +kernel) rfl (s_X11_set_67 G hst kc hk))))))))))))))))))))
noncomputable def LK_X11_set : Nat → Nat → en_B
  | 0, _ => en_no
  | n + 1, t => en_no
theorem l_X11_set (G : en_G) (hst : G.2.2.2.2.2 = true) : ∀ n t, en_Snd G M_X11_set t (LK_X11_set n t)
  | 0, _ => sn_no
  | n + 1, t => by
    show en_Snd G M_X11_set t (en_no)
    exact sn_no
noncomputable def T_X11_set_0 (x1 : Int32) (x2 : Int32) (σ : en_M) : en_R := B_X11_set_0 (LK_X11_set en_FU) [.inr (0, 11, 0, 0), .inl x1, .inl x2, en_un] [] en_zz σ
set_option maxRecDepth 400000 in
set_option maxHeartbeats 4000000 in
theorem t_X11_set_0 (x1 : Int32) (x2 : Int32) (σ : en_M) : T_X11_set_0 x1 x2 σ = (if x1 = 0 then (if x2 < (1 : Int32) then (if x1 = (1 : Int32) then (if x2 < (1 : Int32) then (en_ri (-1 : Int32) σ) else (if (99 : Int32) < x2 then (en_ri (-1 : Int32) σ) else (en_ri (σ 5 6) (en_up σ 5 6 x2)))) else (en_ri (-1 : Int32) σ)) else (if (3 : Int32) < x2 then (if x1 = (1 : Int32) then (if x2 < (1 : Int32) then (en_ri (-1 : Int32) σ) else (if (99 : Int32) < x2 then (en_ri (-1 : Int32) σ) else (en_ri (σ 5 6) (en_up σ 5 6 x2)))) else (en_ri (-1 : Int32) σ)) else (en_ri (σ 5 5) (en_up σ 5 5 x2)))) else (if x1 = (1 : Int32) then (if x2 < (1 : Int32) then (en_ri (-1 : Int32) σ) else (if (99 : Int32) < x2 then (en_ri (-1 : Int32) σ) else (en_ri (σ 5 6) (en_up σ 5 6 x2)))) else (en_ri (-1 : Int32) σ))) := rfl
noncomputable def P_X11_set : List en_V → en_M → Option (Int32 × en_M) := fun av σ => match av with
  | [.inr (0, 11, 0, 0), .inl x1, .inl x2] => en_oi (T_X11_set_0 x1 x2 σ)
  | _ => none
theorem ox_X11_set : ∃ f, f = P_X11_set := ⟨_, rfl⟩
noncomputable def O_X11_set : List en_V → en_M → Option (Int32 × en_M) := Classical.choose ox_X11_set
theorem oe_X11_set : O_X11_set = P_X11_set := Classical.choose_spec ox_X11_set
theorem o_X11_set (x1 : Int32) (x2 : Int32) (σ : en_M) : O_X11_set [.inr (0, 11, 0, 0), .inl x1, .inl x2] σ = en_oi (T_X11_set_0 x1 x2 σ) := by rw [oe_X11_set]; rfl
theorem i_X11_set (G : en_G) (hst : G.2.2.2.2.2 = true) : en_I G 1 yX11_set cX11_set 4 (some .int) 0 0 (en_wi (O_X11_set)) := en_of_i (M := M_X11_set) hst (s_X11_set_0 G hst _ (l_X11_set G hst en_FU)) (plainFor_of_name (by decide +kernel)) rfl rfl rfl (Or.inl ⟨rfl, rfl⟩) (fun av σ x σ' h => by
  rw [oe_X11_set] at h; unfold P_X11_set at h
  split at h
  · exact ⟨(Nat.le_of_ble_eq_true rfl), en_oi_some h⟩
  · cases h)
-- EachMayMissOne.narrowed(II)I
def M_X11_narrowed : en_Me := (cX11_narrowed, RX11, 2, false, 1, false)
theorem cs_X11_narrowed : en_cs yX11_narrowed cX11_narrowed 2 (some .int) 2 := ⟨wm_269, wm_2, ⟨(by decide +kernel), (by decide +kernel), (by decide +kernel)⟩, (Nat.le_of_ble_eq_true rfl)⟩
noncomputable def B_X11_narrowed_18 (kc : Nat → en_B) : en_B := op_iret
set_option maxRecDepth 20000 in
theorem s_X11_narrowed_18 (G : en_G) (hst : G.2.2.2.2.2 = true) (kc : Nat → en_B) (hk : ∀ t, en_Snd G M_X11_narrowed t (kc t)) : en_Snd G M_X11_narrowed 18 (B_X11_narrowed_18 kc) := (sn_iret (by decide +kernel) rfl)
noncomputable def B_X11_narrowed_17 (kc : Nat → en_B) : en_B := (op_iload 1 (B_X11_narrowed_18 kc))
set_option maxRecDepth 20000 in
theorem s_X11_narrowed_17 (G : en_G) (hst : G.2.2.2.2.2 = true) (kc : Nat → en_B) (hk : ∀ t, en_Snd G M_X11_narrowed t (kc t)) : en_Snd G M_X11_narrowed 17 (B_X11_narrowed_17 kc) := (sn_iload_n (i := 1) (n := 1) (by decide +kernel) rfl (s_X11_narrowed_18 G hst kc hk))
noncomputable def B_X11_narrowed_7 (kc : Nat → en_B) : en_B := (op_iload 0 (op_const (1 : Int32) (op_iceq (op_iload 1 (op_un en_i2s (B_X11_narrowed_18 kc))) (B_X11_narrowed_17 kc))))
set_option maxRecDepth 20000 in
theorem s_X11_narrowed_7 (G : en_G) (hst : G.2.2.2.2.2 = true) (kc : Nat → en_B) (hk : ∀ t, en_Snd G M_X11_narrowed t (kc t)) : en_Snd G M_X11_narrowed 7 (B_X11_narrowed_7 kc) := (sn_iload_n (i := 0) (n := 0) (by decide +kernel) rfl (sn_iconst (n := 1) (v := 1) (by decide +kernel) rfl (sn_icne (off := 8) (tgt := 17) (by decide +kernel) rfl (s_X11_narrowed_17 G hst kc hk) (sn_iload_n (i := 1) (n := 1) (by decide +kernel) rfl (sn_i2s (by decide +kernel) (sn_goto (off := 4) (tgt := 18) (by decide +kernel) rfl (s_X11_narrowed_18 G hst kc hk)))))))
noncomputable def B_X11_narrowed_0 (kc : Nat → en_B) : en_B := (op_iload 0 (op_ifeq (op_iload 1 (op_un en_i2b op_iret)) (B_X11_narrowed_7 kc)))
set_option maxRecDepth 20000 in
theorem s_X11_narrowed_0 (G : en_G) (hst : G.2.2.2.2.2 = true) (kc : Nat → en_B) (hk : ∀ t, en_Snd G M_X11_narrowed t (kc t)) : en_Snd G M_X11_narrowed 0 (B_X11_narrowed_0 kc) := (sn_iload_n (i := 0) (n := 0) (by decide +kernel) rfl (sn_ifne (off := 6) (tgt := 7) (by decide +kernel) rfl (s_X11_narrowed_7 G hst kc hk) (sn_iload_n (i := 1) (n := 1) (by decide +kernel) rfl (sn_i2b (by decide +kernel) (sn_iret (by decide +kernel) rfl)))))
noncomputable def LK_X11_narrowed : Nat → Nat → en_B
  | 0, _ => en_no
  | n + 1, t => en_no
theorem l_X11_narrowed (G : en_G) (hst : G.2.2.2.2.2 = true) : ∀ n t, en_Snd G M_X11_narrowed t (LK_X11_narrowed n t)
  | 0, _ => sn_no
  | n + 1, t => by
    show en_Snd G M_X11_narrowed t (en_no)
    exact sn_no
noncomputable def T_X11_narrowed_0 (x0 : Int32) (x1 : Int32) (σ : en_M) : en_R := B_X11_narrowed_0 (LK_X11_narrowed en_FU) [.inl x0, .inl x1] [] en_zz σ
set_option maxRecDepth 400000 in
set_option maxHeartbeats 4000000 in
theorem t_X11_narrowed_0 (x0 : Int32) (x1 : Int32) (σ : en_M) : T_X11_narrowed_0 x0 x1 σ = (if x0 = 0 then (en_ri (en_i2b x1) σ) else (if x0 = (1 : Int32) then (en_ri (en_i2s x1) σ) else (en_ri x1 σ))) := rfl
noncomputable def P_X11_narrowed : List en_V → en_M → Option (Int32 × en_M) := fun av σ => match av with
  | [.inl x0, .inl x1] => en_oi (T_X11_narrowed_0 x0 x1 σ)
  | _ => none
theorem ox_X11_narrowed : ∃ f, f = P_X11_narrowed := ⟨_, rfl⟩
noncomputable def O_X11_narrowed : List en_V → en_M → Option (Int32 × en_M) := Classical.choose ox_X11_narrowed
theorem oe_X11_narrowed : O_X11_narrowed = P_X11_narrowed := Classical.choose_spec ox_X11_narrowed
theorem o_X11_narrowed (x0 : Int32) (x1 : Int32) (σ : en_M) : O_X11_narrowed [.inl x0, .inl x1] σ = en_oi (T_X11_narrowed_0 x0 x1 σ) := by rw [oe_X11_narrowed]; rfl
theorem i_X11_narrowed (G : en_G) (hst : G.2.2.2.2.2 = true) : en_I G 1 yX11_narrowed cX11_narrowed 2 (some .int) 0 0 (en_wi (O_X11_narrowed)) := en_of_i (M := M_X11_narrowed) hst (s_X11_narrowed_0 G hst _ (l_X11_narrowed G hst en_FU)) (plainFor_of_name (by decide +kernel)) rfl rfl rfl (Or.inl ⟨rfl, rfl⟩) (fun av σ x σ' h => by
  rw [oe_X11_narrowed] at h; unfold P_X11_narrowed at h
  split at h
  · exact ⟨(Nat.le_of_ble_eq_true rfl), en_oi_some h⟩
  · cases h)
-- EachMayMissOne.sum([I)I
def M_X11_sum : en_Me := (cX11_sum, RX11, 6, false, 1, false)
theorem cs_X11_sum : en_cs yX11_sum cX11_sum 6 (some .int) 1 := ⟨wm_271, wm_2, ⟨(by decide +kernel), (by decide +kernel), (by decide +kernel)⟩, (Nat.le_of_ble_eq_true rfl)⟩
noncomputable def B_X11_sum_33 (kc : Nat → en_B) : en_B := (op_iload 1 op_iret)
set_option maxRecDepth 20000 in
theorem s_X11_sum_33 (G : en_G) (hst : G.2.2.2.2.2 = true) (kc : Nat → en_B) (hk : ∀ t, en_Snd G M_X11_sum t (kc t)) : en_Snd G M_X11_sum 33 (B_X11_sum_33 kc) := (sn_iload_n (i := 1) (n := 1) (by decide +kernel) rfl (sn_iret (by decide +kernel) rfl))
noncomputable def B_X11_sum_10 (kc : Nat → en_B) : en_B := (op_iload 4 (op_iload 3 (op_iclt (op_aload 2 (op_iload 4 (op_ald 20 (op_istore 5 (op_iload 1 (op_iload 5 (op_bin (fun (x y : Int32) => x + y) (op_istore 1 (op_iinc 4 (1 : Int32) (kc 10)))))))))) (B_X11_sum_33 kc))))
set_option maxRecDepth 20000 in
theorem s_X11_sum_10 (G : en_G) (hst : G.2.2.2.2.2 = true) (kc : Nat → en_B) (hk : ∀ t, en_Snd G M_X11_sum t (kc t)) : en_Snd G M_X11_sum 10 (B_X11_sum_10 kc) := (sn_iload (i := 4) (by decide +kernel) (sn_iload_n (i := 3) (n := 3) (by decide +kernel) rfl (sn_icge (off := 20) (tgt := 33) (by decide +kernel) rfl (s_X11_sum_33 G hst kc hk) (sn_aload_n (i := 2) (n := 2) (by decide +kernel) rfl (sn_iload (i := 4) (by decide +kernel) (sn_iald (by decide +kernel) (sn_istore (i := 5) (by decide +kernel) (Nat.le_of_ble_eq_true rfl) (sn_iload_n (i := 1) (n := 1) (by decide +kernel) rfl (sn_iload (i := 5) (by decide +kernel) (sn_iadd (by decide +kernel) (sn_istore_n (i := 1) (n := 1) (by decide +kernel) rfl (Nat.le_of_ble_eq_true rfl) (sn_iinc (i := 4) (n := 1) (v := 1) (by decide +kernel) rfl (sn_goto (off := -20) (tgt := 10) (by decide +kernel) rfl (hk 10))))))))))))))
noncomputable def B_X11_sum_0 (kc : Nat → en_B) : en_B := (op_const (0 : Int32) (op_istore 1 (op_aload 0 (op_astore 2 (op_aload 2 (op_alen (op_istore 3 (op_const (0 : Int32) (op_istore 4 (kc 10))))))))))
set_option maxRecDepth 20000 in
theorem s_X11_sum_0 (G : en_G) (hst : G.2.2.2.2.2 = true) (kc : Nat → en_B) (hk : ∀ t, en_Snd G M_X11_sum t (kc t)) : en_Snd G M_X11_sum 0 (B_X11_sum_0 kc) := (sn_iconst (n := 0) (v := 0) (by decide +kernel) rfl (sn_istore_n (i := 1) (n := 1) (by decide +kernel) rfl (Nat.le_of_ble_eq_true rfl) (sn_aload_n (i := 0) (n := 0) (by decide +kernel) rfl (sn_astore_n (i := 2) (n := 2) (by decide +kernel) rfl (Nat.le_of_ble_eq_true rfl) (sn_aload_n (i := 2) (n := 2) (by decide +kernel) rfl (sn_alen (by decide +kernel) (sn_istore_n (i := 3) (n := 3) (by decide +kernel) rfl (Nat.le_of_ble_eq_true rfl) (sn_iconst (n := 0) (v := 0) (by decide +kernel) rfl (sn_istore (i := 4) (by decide +kernel) (Nat.le_of_ble_eq_true rfl) (hk 10))))))))))
noncomputable def LK_X11_sum : Nat → Nat → en_B
  | 0, _ => en_no
  | n + 1, t => if t = 10 then B_X11_sum_10 (LK_X11_sum n) else en_no
theorem l_X11_sum (G : en_G) (hst : G.2.2.2.2.2 = true) : ∀ n t, en_Snd G M_X11_sum t (LK_X11_sum n t)
  | 0, _ => sn_no
  | n + 1, t => by
    show en_Snd G M_X11_sum t (if t = 10 then B_X11_sum_10 (LK_X11_sum n) else en_no)
    by_cases h_10 : t = 10
    · rw [if_pos h_10, h_10]; exact s_X11_sum_10 G hst _ (l_X11_sum G hst n)
    rw [if_neg h_10]
    exact sn_no
noncomputable def T_X11_sum_0 (k0 : Nat) (σ : en_M) : en_R := B_X11_sum_0 (LK_X11_sum en_FU) [.inr (k0, 20, 7, 0), en_un, en_un, en_un, en_un, en_un] [] en_zz σ
noncomputable def T_X11_sum_10 (n : Nat) (k0 : Nat) (x1 : Int32) (x3 : Int32) (x4 : Int32) (u5 : en_V) (σ : en_M) : en_R := LK_X11_sum n 10 [.inr (k0, 20, 7, 0), .inl x1, .inr (k0, 20, 7, 0), .inl x3, .inl x4, u5] [] en_zz σ
set_option maxRecDepth 400000 in
set_option maxHeartbeats 4000000 in
theorem t_X11_sum_0 (k0 : Nat) (σ : en_M) : T_X11_sum_0 k0 σ = (T_X11_sum_10 en_FU k0 (0 : Int32) (Int32.ofNat 7) (0 : Int32) (en_un) σ) := rfl
set_option maxRecDepth 400000 in
set_option maxHeartbeats 4000000 in
theorem t_X11_sum_10 (n : Nat) (k0 : Nat) (x1 : Int32) (x3 : Int32) (x4 : Int32) (u5 : en_V) (σ : en_M) : T_X11_sum_10 (n + 1) k0 x1 x3 x4 u5 σ = (if x4 < x3 then ((en_ix x4 7).bind fun j1 => T_X11_sum_10 n k0 (x1 + (σ k0 j1)) x3 (x4 + (1 : Int32)) (.inl (σ k0 j1)) σ) else (en_ri x1 σ)) := rfl
noncomputable def P_X11_sum : List en_V → en_M → Option (Int32 × en_M) := fun av σ => match av with
  | [.inr (k0, 20, 7, 0)] => en_oi (T_X11_sum_0 k0 σ)
  | _ => none
theorem ox_X11_sum : ∃ f, f = P_X11_sum := ⟨_, rfl⟩
noncomputable def O_X11_sum : List en_V → en_M → Option (Int32 × en_M) := Classical.choose ox_X11_sum
theorem oe_X11_sum : O_X11_sum = P_X11_sum := Classical.choose_spec ox_X11_sum
theorem o_X11_sum (k0 : Nat) (σ : en_M) : O_X11_sum [.inr (k0, 20, 7, 0)] σ = en_oi (T_X11_sum_0 k0 σ) := by rw [oe_X11_sum]; rfl
theorem i_X11_sum (G : en_G) (hst : G.2.2.2.2.2 = true) : en_I G 1 yX11_sum cX11_sum 6 (some .int) 0 0 (en_wi (O_X11_sum)) := en_of_i (M := M_X11_sum) hst (s_X11_sum_0 G hst _ (l_X11_sum G hst en_FU)) (plainFor_of_name (by decide +kernel)) rfl rfl rfl (Or.inl ⟨rfl, rfl⟩) (fun av σ x σ' h => by
  rw [oe_X11_sum] at h; unfold P_X11_sum at h
  split at h
  · exact ⟨(Nat.le_of_ble_eq_true rfl), en_oi_some h⟩
  · cases h)
-- EachMayMissOne.sheet(IIII)I
def M_X11_sheet : en_Me := (cX11_sheet, RX11, 7, false, 3, false)
theorem cs_X11_sheet : en_cs yX11_sheet cX11_sheet 7 (some .int) 4 := ⟨wm_103, wm_2, ⟨(by decide +kernel), (by decide +kernel), (by decide +kernel)⟩, (Nat.le_of_ble_eq_true rfl)⟩
noncomputable def B_X11_sheet_117 (kc : Nat → en_B) : en_B := op_iret
set_option maxRecDepth 20000 in
theorem s_X11_sheet_117 (G : en_G) (hst : G.2.2.2.2.2 = true) (kc : Nat → en_B) (hk : ∀ t, en_Snd G M_X11_sheet t (kc t)) : en_Snd G M_X11_sheet 117 (B_X11_sheet_117 kc) := (sn_iret (by decide +kernel) rfl)
noncomputable def B_X11_sheet_107 (kc : Nat → en_B) : en_B := (op_aload 0 (op_gets 11 15 (7, 0, 0) (op_gets 7 1 (20, 7, 0) (op_calli O_X11_sum 1 (B_X11_sheet_117 kc)))))
set_option maxRecDepth 20000 in
theorem s_X11_sheet_107 (G : en_G) (hst : G.2.2.2.2.2 = true) (kc : Nat → en_B) (hk : ∀ t, en_Snd G M_X11_sheet t (kc t)) : en_Snd G M_X11_sheet 107 (B_X11_sheet_107 kc) := (sn_aload_n (i := 0) (n := 0) (by decide +kernel) rfl (sn_gets (ci := 11) (j := 3) (off := 15) hst en_c11 of_11_15 (Nat.le_of_ble_eq_true rfl) (by decide +kernel) wm_23 (Nat.le_of_ble_eq_true rfl) rfl (sn_gets (ci := 7) (j := 0) (off := 1) hst en_c7 of_7_1 (Nat.le_of_ble_eq_true rfl) (by decide +kernel) wm_86 (Nat.le_of_ble_eq_true rfl) rfl (sn_callSi (n := 1) (idx := 190) (i_X11_sum G hst) (Nat.le_of_ble_eq_true rfl) cs_X11_sum ⟨wm_272, Or.inl wm_108⟩ (by decide +kernel) (s_X11_sheet_117 G hst kc hk)))))
noncomputable def B_X11_sheet_97 (kc : Nat → en_B) : en_B := (op_iload 1 (op_const (3 : Int32) (op_iceq (op_const (-3 : Int32) (B_X11_sheet_117 kc)) (B_X11_sheet_107 kc))))
set_option maxRecDepth 20000 in
theorem s_X11_sheet_97 (G : en_G) (hst : G.2.2.2.2.2 = true) (kc : Nat → en_B) (hk : ∀ t, en_Snd G M_X11_sheet t (kc t)) : en_Snd G M_X11_sheet 97 (B_X11_sheet_97 kc) := (sn_iload_n (i := 1) (n := 1) (by decide +kernel) rfl (sn_iconst (n := 3) (v := 3) (by decide +kernel) rfl (sn_icne (off := 8) (tgt := 107) (by decide +kernel) rfl (s_X11_sheet_107 G hst kc hk) (sn_bipush (n := -3) (v := -3) (by decide +kernel) rfl (sn_goto (off := 13) (tgt := 117) (by decide +kernel) rfl (s_X11_sheet_117 G hst kc hk))))))
noncomputable def B_X11_sheet_90 (kc : Nat → en_B) : en_B := (op_ast 20 (fun (x : Int32) => x) (op_iinc 6 (1 : Int32) (kc 44)))
set_option maxRecDepth 20000 in
theorem s_X11_sheet_90 (G : en_G) (hst : G.2.2.2.2.2 = true) (kc : Nat → en_B) (hk : ∀ t, en_Snd G M_X11_sheet t (kc t)) : en_Snd G M_X11_sheet 90 (B_X11_sheet_90 kc) := (sn_iast (by decide +kernel) (sn_iinc (i := 6) (n := 1) (v := 1) (by decide +kernel) rfl (sn_goto (off := -50) (tgt := 44) (by decide +kernel) rfl (hk 44))))
noncomputable def B_X11_sheet_89 (kc : Nat → en_B) : en_B := (op_const (0 : Int32) (B_X11_sheet_90 kc))
set_option maxRecDepth 20000 in
theorem s_X11_sheet_89 (G : en_G) (hst : G.2.2.2.2.2 = true) (kc : Nat → en_B) (hk : ∀ t, en_Snd G M_X11_sheet t (kc t)) : en_Snd G M_X11_sheet 89 (B_X11_sheet_89 kc) := (sn_iconst (n := 0) (v := 0) (by decide +kernel) rfl (s_X11_sheet_90 G hst kc hk))
noncomputable def B_X11_sheet_44 (kc : Nat → en_B) : en_B := (op_iload 6 (op_aload 0 (op_gets 11 5 (10, 0, 0) (op_geti 10 3 (op_iclt (op_aload 0 (op_gets 11 15 (7, 0, 0) (op_gets 7 1 (20, 7, 0) (op_iload 6 (op_iload 6 (op_iload 5 (op_iclt (op_iload 1 (op_iload 3 (op_iload 6 (op_iload 4 (op_bin (fun (x y : Int32) => x * y) (op_bin (fun (x y : Int32) => x + y) (op_calli O_X11_narrowed 2 (op_calli O_X11_put 1 (B_X11_sheet_90 kc))))))))) (B_X11_sheet_89 kc)))))))) (B_X11_sheet_97 kc))))))
set_option maxRecDepth 20000 in
theorem s_X11_sheet_44 (G : en_G) (hst : G.2.2.2.2.2 = true) (kc : Nat → en_B) (hk : ∀ t, en_Snd G M_X11_sheet t (kc t)) : en_Snd G M_X11_sheet 44 (B_X11_sheet_44 kc) := (sn_iload (i := 6) (by decide +kernel) (sn_aload_n (i := 0) (n := 0) (by decide +kernel) rfl (sn_gets (ci := 11) (j := 2) (off := 5) hst en_c11 of_11_5 (Nat.le_of_ble_eq_true rfl) (by decide +kernel) wm_18 (Nat.le_of_ble_eq_true rfl) rfl (sn_geti (ci := 10) (j := 3) en_c10 (by decide +kernel) wm_74 (Nat.le_of_ble_eq_true rfl) rfl (sn_icge (off := 44) (tgt := 97) (by decide +kernel) rfl (s_X11_sheet_97 G hst kc hk) (sn_aload_n (i := 0) (n := 0) (by decide +kernel) rfl (sn_gets (ci := 11) (j := 3) (off := 15) hst en_c11 of_11_15 (Nat.le_of_ble_eq_true rfl) (by decide +kernel) wm_23 (Nat.le_of_ble_eq_true rfl) rfl (sn_gets (ci := 7) (j := 0) (off := 1) hst en_c7 of_7_1 (Nat.le_of_ble_eq_true rfl) (by decide +kernel) wm_86 (Nat.le_of_ble_eq_true rfl) rfl (sn_iload (i := 6) (by decide +kernel) (sn_iload (i := 6) (by decide +kernel) (sn_iload (i := 5) (by decide +kernel) (sn_icge (off := 20) (tgt := 89) (by decide +kernel) rfl (s_X11_sheet_89 G hst kc hk) (sn_iload_n (i := 1) (n := 1) (by decide +kernel) rfl (sn_iload_n (i := 3) (n := 3) (by decide +kernel) rfl (sn_iload (i := 6) (by decide +kernel) (sn_iload (i := 4) (by decide +kernel) (sn_imul (by decide +kernel) (sn_iadd (by decide +kernel) (sn_callSi (n := 2) (idx := 183) (i_X11_narrowed G hst) (Nat.le_of_ble_eq_true rfl) cs_X11_narrowed ⟨wm_270, Or.inl wm_106⟩ (by decide +kernel) (sn_callSi (n := 1) (idx := 186) (i_X11_put G hst) (Nat.le_of_ble_eq_true rfl) cs_X11_put ⟨wm_261, Or.inl wm_107⟩ (by decide +kernel) (sn_goto (off := 4) (tgt := 90) (by decide +kernel) rfl (s_X11_sheet_90 G hst kc hk))))))))))))))))))))))
noncomputable def B_X11_sheet_39 (kc : Nat → en_B) : en_B := (op_istore 5 (op_const (0 : Int32) (op_istore 6 (kc 44))))
set_option maxRecDepth 20000 in
theorem s_X11_sheet_39 (G : en_G) (hst : G.2.2.2.2.2 = true) (kc : Nat → en_B) (hk : ∀ t, en_Snd G M_X11_sheet t (kc t)) : en_Snd G M_X11_sheet 39 (B_X11_sheet_39 kc) := (sn_istore (i := 5) (by decide +kernel) (Nat.le_of_ble_eq_true rfl) (sn_iconst (n := 0) (v := 0) (by decide +kernel) rfl (sn_istore (i := 6) (by decide +kernel) (Nat.le_of_ble_eq_true rfl) (hk 44))))
noncomputable def B_X11_sheet_38 (kc : Nat → en_B) : en_B := (op_iload 2 (B_X11_sheet_39 kc))
set_option maxRecDepth 20000 in
theorem s_X11_sheet_38 (G : en_G) (hst : G.2.2.2.2.2 = true) (kc : Nat → en_B) (hk : ∀ t, en_Snd G M_X11_sheet t (kc t)) : en_Snd G M_X11_sheet 38 (B_X11_sheet_38 kc) := (sn_iload_n (i := 2) (n := 2) (by decide +kernel) rfl (s_X11_sheet_39 G hst kc hk))
noncomputable def B_X11_sheet_29 (kc : Nat → en_B) : en_B := (op_iload 1 (op_const (3 : Int32) (op_iceq (op_const (0 : Int32) (B_X11_sheet_39 kc)) (B_X11_sheet_38 kc))))
set_option maxRecDepth 20000 in
theorem s_X11_sheet_29 (G : en_G) (hst : G.2.2.2.2.2 = true) (kc : Nat → en_B) (hk : ∀ t, en_Snd G M_X11_sheet t (kc t)) : en_Snd G M_X11_sheet 29 (B_X11_sheet_29 kc) := (sn_iload_n (i := 1) (n := 1) (by decide +kernel) rfl (sn_iconst (n := 3) (v := 3) (by decide +kernel) rfl (sn_icne (off := 7) (tgt := 38) (by decide +kernel) rfl (s_X11_sheet_38 G hst kc hk) (sn_iconst (n := 0) (v := 0) (by decide +kernel) rfl (sn_goto (off := 4) (tgt := 39) (by decide +kernel) rfl (s_X11_sheet_39 G hst kc hk))))))
noncomputable def B_X11_sheet_17 (kc : Nat → en_B) : en_B := (op_iload 1 (op_const (3 : Int32) (op_iclt (op_iload 2 (op_iflt (op_const (-2 : Int32) op_iret) (B_X11_sheet_29 kc))) (B_X11_sheet_29 kc))))
set_option maxRecDepth 20000 in
theorem s_X11_sheet_17 (G : en_G) (hst : G.2.2.2.2.2 = true) (kc : Nat → en_B) (hk : ∀ t, en_Snd G M_X11_sheet t (kc t)) : en_Snd G M_X11_sheet 17 (B_X11_sheet_17 kc) := (sn_iload_n (i := 1) (n := 1) (by decide +kernel) rfl (sn_iconst (n := 3) (v := 3) (by decide +kernel) rfl (sn_icge (off := 10) (tgt := 29) (by decide +kernel) rfl (s_X11_sheet_29 G hst kc hk) (sn_iload_n (i := 2) (n := 2) (by decide +kernel) rfl (sn_ifge (off := 6) (tgt := 29) (by decide +kernel) rfl (s_X11_sheet_29 G hst kc hk) (sn_bipush (n := -2) (v := -2) (by decide +kernel) rfl (sn_iret (by decide +kernel) rfl)))))))
noncomputable def B_X11_sheet_15 (kc : Nat → en_B) : en_B := (op_const (-1 : Int32) op_iret)
set_option maxRecDepth 20000 in
theorem s_X11_sheet_15 (G : en_G) (hst : G.2.2.2.2.2 = true) (kc : Nat → en_B) (hk : ∀ t, en_Snd G M_X11_sheet t (kc t)) : en_Snd G M_X11_sheet 15 (B_X11_sheet_15 kc) := (sn_iconst (n := -1) (v := -1) (by decide +kernel) rfl (sn_iret (by decide +kernel) rfl))
noncomputable def B_X11_sheet_0 (kc : Nat → en_B) : en_B := (op_iload 1 (op_iflt (B_X11_sheet_15 kc) (op_iload 1 (op_const (3 : Int32) (op_icgt (B_X11_sheet_15 kc) (op_iload 2 (op_const (7 : Int32) (op_icgt (B_X11_sheet_15 kc) (B_X11_sheet_17 kc)))))))))
set_option maxRecDepth 20000 in
theorem s_X11_sheet_0 (G : en_G) (hst : G.2.2.2.2.2 = true) (kc : Nat → en_B) (hk : ∀ t, en_Snd G M_X11_sheet t (kc t)) : en_Snd G M_X11_sheet 0 (B_X11_sheet_0 kc) := (sn_iload_n (i := 1) (n := 1) (by decide +kernel) rfl (sn_iflt (off := 14) (tgt := 15) (by decide +kernel) rfl (s_X11_sheet_15 G hst kc hk) (sn_iload_n (i := 1) (n := 1) (by decide +kernel) rfl (sn_iconst (n := 3) (v := 3) (by decide +kernel) rfl (sn_icgt (off := 9) (tgt := 15) (by decide +kernel) rfl (s_X11_sheet_15 G hst kc hk) (sn_iload_n (i := 2) (n := 2) (by decide +kernel) rfl (sn_bipush (n := 7) (v := 7) (by decide +kernel) rfl (sn_icle (off := 5) (tgt := 17) (by decide +kernel) rfl (s_X11_sheet_17 G hst kc hk) (s_X11_sheet_15 G hst kc hk)))))))))
noncomputable def LK_X11_sheet : Nat → Nat → en_B
  | 0, _ => en_no
  | n + 1, t => if t = 44 then B_X11_sheet_44 (LK_X11_sheet n) else en_no
theorem l_X11_sheet (G : en_G) (hst : G.2.2.2.2.2 = true) : ∀ n t, en_Snd G M_X11_sheet t (LK_X11_sheet n t)
  | 0, _ => sn_no
  | n + 1, t => by
    show en_Snd G M_X11_sheet t (if t = 44 then B_X11_sheet_44 (LK_X11_sheet n) else en_no)
    by_cases h_44 : t = 44
    · rw [if_pos h_44, h_44]; exact s_X11_sheet_44 G hst _ (l_X11_sheet G hst n)
    rw [if_neg h_44]
    exact sn_no
noncomputable def T_X11_sheet_0 (x1 : Int32) (x2 : Int32) (x3 : Int32) (x4 : Int32) (σ : en_M) : en_R := B_X11_sheet_0 (LK_X11_sheet en_FU) [.inr (0, 11, 0, 0), .inl x1, .inl x2, .inl x3, .inl x4, en_un, en_un] [] en_zz σ
noncomputable def T_X11_sheet_44 (n : Nat) (x1 : Int32) (x2 : Int32) (x3 : Int32) (x4 : Int32) (x5 : Int32) (x6 : Int32) (σ : en_M) : en_R := LK_X11_sheet n 44 [.inr (0, 11, 0, 0), .inl x1, .inl x2, .inl x3, .inl x4, .inl x5, .inl x6] [] en_zz σ
set_option maxRecDepth 400000 in
set_option maxHeartbeats 4000000 in
theorem t_X11_sheet_0 (x1 : Int32) (x2 : Int32) (x3 : Int32) (x4 : Int32) (σ : en_M) : T_X11_sheet_0 x1 x2 x3 x4 σ = (if x1 < 0 then (en_ri (-1 : Int32) σ) else (if (3 : Int32) < x1 then (en_ri (-1 : Int32) σ) else (if (7 : Int32) < x2 then (en_ri (-1 : Int32) σ) else (if x1 < (3 : Int32) then (if x2 < 0 then (en_ri (-2 : Int32) σ) else (if x1 = (3 : Int32) then (T_X11_sheet_44 en_FU x1 x2 x3 x4 (0 : Int32) (0 : Int32) σ) else (T_X11_sheet_44 en_FU x1 x2 x3 x4 x2 (0 : Int32) σ))) else (if x1 = (3 : Int32) then (T_X11_sheet_44 en_FU x1 x2 x3 x4 (0 : Int32) (0 : Int32) σ) else (T_X11_sheet_44 en_FU x1 x2 x3 x4 x2 (0 : Int32) σ)))))) := rfl
set_option maxRecDepth 400000 in
set_option maxHeartbeats 4000000 in
theorem t_X11_sheet_44 (n : Nat) (x1 : Int32) (x2 : Int32) (x3 : Int32) (x4 : Int32) (x5 : Int32) (x6 : Int32) (σ : en_M) : T_X11_sheet_44 (n + 1) x1 x2 x3 x4 x5 x6 σ = (if x6 < (σ 5 3) then (if x6 < x5 then ((O_X11_narrowed [.inl x1, .inl (x3 + (x6 * x4))] σ).bind fun r3 => (O_X11_put [.inl r3.1] r3.2).bind fun r4 => (en_ix x6 7).bind fun j5 => T_X11_sheet_44 n x1 x2 x3 x4 x5 (x6 + (1 : Int32)) (en_up r4.2 16 j5 r4.1)) else ((en_ix x6 7).bind fun j2 => T_X11_sheet_44 n x1 x2 x3 x4 x5 (x6 + (1 : Int32)) (en_up σ 16 j2 (0 : Int32)))) else (if x1 = (3 : Int32) then (en_ri (-3 : Int32) σ) else ((O_X11_sum [.inr (16, 20, 7, 0)] σ).bind fun r1 => en_ri r1.1 r1.2))) := rfl
noncomputable def P_X11_sheet : List en_V → en_M → Option (Int32 × en_M) := fun av σ => match av with
  | [.inr (0, 11, 0, 0), .inl x1, .inl x2, .inl x3, .inl x4] => en_oi (T_X11_sheet_0 x1 x2 x3 x4 σ)
  | _ => none
theorem ox_X11_sheet : ∃ f, f = P_X11_sheet := ⟨_, rfl⟩
noncomputable def O_X11_sheet : List en_V → en_M → Option (Int32 × en_M) := Classical.choose ox_X11_sheet
theorem oe_X11_sheet : O_X11_sheet = P_X11_sheet := Classical.choose_spec ox_X11_sheet
theorem o_X11_sheet (x1 : Int32) (x2 : Int32) (x3 : Int32) (x4 : Int32) (σ : en_M) : O_X11_sheet [.inr (0, 11, 0, 0), .inl x1, .inl x2, .inl x3, .inl x4] σ = en_oi (T_X11_sheet_0 x1 x2 x3 x4 σ) := by rw [oe_X11_sheet]; rfl
theorem i_X11_sheet (G : en_G) (hst : G.2.2.2.2.2 = true) : en_I G 3 yX11_sheet cX11_sheet 7 (some .int) 0 0 (en_wi (O_X11_sheet)) := en_of_i (M := M_X11_sheet) hst (s_X11_sheet_0 G hst _ (l_X11_sheet G hst en_FU)) (plainFor_of_name (by decide +kernel)) rfl rfl rfl (Or.inl ⟨rfl, rfl⟩) (fun av σ x σ' h => by
  rw [oe_X11_sheet] at h; unfold P_X11_sheet at h
  split at h
  · exact ⟨(Nat.le_of_ble_eq_true rfl), en_oi_some h⟩
  · cases h)
-- EachMayMissOne.round(I)I
def M_X11_round : en_Me := (cX11_round, RX11, 3, false, 5, false)
theorem cs_X11_round : en_cs yX11_round cX11_round 3 (some .int) 1 := ⟨wm_109, wm_2, ⟨(by decide +kernel), (by decide +kernel), (by decide +kernel)⟩, (Nat.le_of_ble_eq_true rfl)⟩
noncomputable def B_X11_round_26 (kc : Nat → en_B) : en_B := (op_aload 0 (op_gets 11 25 (4, 0, 0) (op_aload 0 (op_gets 11 15 (7, 0, 0) (op_rcv 4 1 (op_callv O_X4_push 2 (op_aload 0 (op_gets 11 5 (10, 0, 0) (op_aload 0 (op_gets 11 15 (7, 0, 0) (op_iload 1 (op_rcv 10 2 (op_calli O_X10_ring 3 (op_istore 2 (op_aload 0 (op_gets 11 3 (9, 0, 0) (op_rcv 9 0 (op_callv O_X9_begin 1 (op_aload 0 (op_gets 11 3 (9, 0, 0) (op_aload 0 (op_gets 11 15 (7, 0, 0) (op_geti 7 8 (op_rcv 9 1 (op_callv O_X9_add 2 (op_aload 0 (op_gets 11 3 (9, 0, 0) (op_aload 0 (op_gets 11 15 (7, 0, 0) (op_geti 7 9 (op_rcv 9 1 (op_callv O_X9_add 2 (op_iload 2 op_iret)))))))))))))))))))))))))))))))))
set_option maxRecDepth 20000 in
theorem s_X11_round_26 (G : en_G) (hst : G.2.2.2.2.2 = true) (kc : Nat → en_B) (hk : ∀ t, en_Snd G M_X11_round t (kc t)) : en_Snd G M_X11_round 26 (B_X11_round_26 kc) := (sn_aload_n (i := 0) (n := 0) (by decide +kernel) rfl (sn_gets (ci := 11) (j := 5) (off := 25) hst en_c11 of_11_25 (Nat.le_of_ble_eq_true rfl) (by decide +kernel) wm_29 (Nat.le_of_ble_eq_true rfl) rfl (sn_aload_n (i := 0) (n := 0) (by decide +kernel) rfl (sn_gets (ci := 11) (j := 3) (off := 15) hst en_c11 of_11_15 (Nat.le_of_ble_eq_true rfl) (by decide +kernel) wm_23 (Nat.le_of_ble_eq_true rfl) rfl (sn_callVv (n := 1) (idx := 197) (ci := 4) (i_X4_push G hst) (Nat.le_of_ble_eq_true rfl) cs_X4_push ⟨wm_857, wm_858, wm_113⟩ ⟨⟨_, rfl, rfl⟩, (Nat.le_of_ble_eq_true rfl)⟩ (by decide +kernel) (sn_aload_n (i := 0) (n := 0) (by decide +kernel) rfl (sn_gets (ci := 11) (j := 2) (off := 5) hst en_c11 of_11_5 (Nat.le_of_ble_eq_true rfl) (by decide +kernel) wm_18 (Nat.le_of_ble_eq_true rfl) rfl (sn_aload_n (i := 0) (n := 0) (by decide +kernel) rfl (sn_gets (ci := 11) (j := 3) (off := 15) hst en_c11 of_11_15 (Nat.le_of_ble_eq_true rfl) (by decide +kernel) wm_23 (Nat.le_of_ble_eq_true rfl) rfl (sn_iload_n (i := 1) (n := 1) (by decide +kernel) rfl (sn_callVi (n := 2) (idx := 201) (ci := 10) (i_X10_ring G hst) (Nat.le_of_ble_eq_true rfl) cs_X10_ring ⟨wm_1142, wm_1143, wm_114⟩ ⟨⟨_, rfl, rfl⟩, (Nat.le_of_ble_eq_true rfl)⟩ (by decide +kernel) (sn_istore_n (i := 2) (n := 2) (by decide +kernel) rfl (Nat.le_of_ble_eq_true rfl) (sn_aload_n (i := 0) (n := 0) (by decide +kernel) rfl (sn_gets (ci := 11) (j := 1) (off := 3) hst en_c11 of_11_3 (Nat.le_of_ble_eq_true rfl) (by decide +kernel) wm_13 (Nat.le_of_ble_eq_true rfl) rfl (sn_callVv (n := 0) (idx := 205) (ci := 9) (i_X9_begin G hst) (Nat.le_of_ble_eq_true rfl) cs_X9_begin ⟨wm_1086, wm_1087, wm_115⟩ ⟨⟨_, rfl, rfl⟩, (Nat.le_of_ble_eq_true rfl)⟩ (by decide +kernel) (sn_aload_n (i := 0) (n := 0) (by decide +kernel) rfl (sn_gets (ci := 11) (j := 1) (off := 3) hst en_c11 of_11_3 (Nat.le_of_ble_eq_true rfl) (by decide +kernel) wm_13 (Nat.le_of_ble_eq_true rfl) rfl (sn_aload_n (i := 0) (n := 0) (by decide +kernel) rfl (sn_gets (ci := 11) (j := 3) (off := 15) hst en_c11 of_11_15 (Nat.le_of_ble_eq_true rfl) (by decide +kernel) wm_23 (Nat.le_of_ble_eq_true rfl) rfl (sn_geti (ci := 7) (j := 8) en_c7 (by decide +kernel) wm_116 (Nat.le_of_ble_eq_true rfl) rfl (sn_callVv (n := 1) (idx := 209) (ci := 9) (i_X9_add G hst) (Nat.le_of_ble_eq_true rfl) cs_X9_add ⟨wm_1090, wm_1091, wm_117⟩ ⟨⟨_, rfl, rfl⟩, (Nat.le_of_ble_eq_true rfl)⟩ (by decide +kernel) (sn_aload_n (i := 0) (n := 0) (by decide +kernel) rfl (sn_gets (ci := 11) (j := 1) (off := 3) hst en_c11 of_11_3 (Nat.le_of_ble_eq_true rfl) (by decide +kernel) wm_13 (Nat.le_of_ble_eq_true rfl) rfl (sn_aload_n (i := 0) (n := 0) (by decide +kernel) rfl (sn_gets (ci := 11) (j := 3) (off := 15) hst en_c11 of_11_15 (Nat.le_of_ble_eq_true rfl) (by decide +kernel) wm_23 (Nat.le_of_ble_eq_true rfl) rfl (sn_geti (ci := 7) (j := 9) en_c7 (by decide +kernel) wm_118 (Nat.le_of_ble_eq_true rfl) rfl (sn_callVv (n := 1) (idx := 209) (ci := 9) (i_X9_add G hst) (Nat.le_of_ble_eq_true rfl) cs_X9_add ⟨wm_1090, wm_1091, wm_117⟩ ⟨⟨_, rfl, rfl⟩, (Nat.le_of_ble_eq_true rfl)⟩ (by decide +kernel) (sn_iload_n (i := 2) (n := 2) (by decide +kernel) rfl (sn_iret (by decide +kernel) rfl)))))))))))))))))))))))))))))
noncomputable def B_X11_round_13 (kc : Nat → en_B) : en_B := (op_aload 0 (op_gets 11 5 (10, 0, 0) (op_iload 1 (op_rcv 10 1 (op_calli O_X10_hasAll 2 (op_ifeq (op_const (-1 : Int32) op_iret) (B_X11_round_26 kc)))))))
set_option maxRecDepth 20000 in
theorem s_X11_round_13 (G : en_G) (hst : G.2.2.2.2.2 = true) (kc : Nat → en_B) (hk : ∀ t, en_Snd G M_X11_round t (kc t)) : en_Snd G M_X11_round 13 (B_X11_round_13 kc) := (sn_aload_n (i := 0) (n := 0) (by decide +kernel) rfl (sn_gets (ci := 11) (j := 2) (off := 5) hst en_c11 of_11_5 (Nat.le_of_ble_eq_true rfl) (by decide +kernel) wm_18 (Nat.le_of_ble_eq_true rfl) rfl (sn_iload_n (i := 1) (n := 1) (by decide +kernel) rfl (sn_callVi (n := 1) (idx := 194) (ci := 10) (i_X10_hasAll G hst) (Nat.le_of_ble_eq_true rfl) cs_X10_hasAll ⟨wm_1122, wm_1123, wm_112⟩ ⟨⟨_, rfl, rfl⟩, (Nat.le_of_ble_eq_true rfl)⟩ (by decide +kernel) (sn_ifne (off := 5) (tgt := 26) (by decide +kernel) rfl (s_X11_round_26 G hst kc hk) (sn_iconst (n := -1) (v := -1) (by decide +kernel) rfl (sn_iret (by decide +kernel) rfl)))))))
noncomputable def B_X11_round_0 (kc : Nat → en_B) : en_B := (op_aload 0 (op_gets 11 5 (10, 0, 0) (op_geti 10 3 (op_ifeq (op_const (-2 : Int32) op_iret) (B_X11_round_13 kc)))))
set_option maxRecDepth 20000 in
theorem s_X11_round_0 (G : en_G) (hst : G.2.2.2.2.2 = true) (kc : Nat → en_B) (hk : ∀ t, en_Snd G M_X11_round t (kc t)) : en_Snd G M_X11_round 0 (B_X11_round_0 kc) := (sn_aload_n (i := 0) (n := 0) (by decide +kernel) rfl (sn_gets (ci := 11) (j := 2) (off := 5) hst en_c11 of_11_5 (Nat.le_of_ble_eq_true rfl) (by decide +kernel) wm_18 (Nat.le_of_ble_eq_true rfl) rfl (sn_geti (ci := 10) (j := 3) en_c10 (by decide +kernel) wm_74 (Nat.le_of_ble_eq_true rfl) rfl (sn_ifne (off := 6) (tgt := 13) (by decide +kernel) rfl (s_X11_round_13 G hst kc hk) (sn_bipush (n := -2) (v := -2) (by decide +kernel) rfl (sn_iret (by decide +kernel) rfl))))))
noncomputable def LK_X11_round : Nat → Nat → en_B
  | 0, _ => en_no
  | n + 1, t => en_no
theorem l_X11_round (G : en_G) (hst : G.2.2.2.2.2 = true) : ∀ n t, en_Snd G M_X11_round t (LK_X11_round n t)
  | 0, _ => sn_no
  | n + 1, t => by
    show en_Snd G M_X11_round t (en_no)
    exact sn_no
noncomputable def T_X11_round_0 (x1 : Int32) (σ : en_M) : en_R := B_X11_round_0 (LK_X11_round en_FU) [.inr (0, 11, 0, 0), .inl x1, en_un] [] en_zz σ
set_option maxRecDepth 400000 in
set_option maxHeartbeats 4000000 in
theorem t_X11_round_0 (x1 : Int32) (σ : en_M) : T_X11_round_0 x1 σ = (if (σ 5 3) = 0 then (en_ri (-2 : Int32) σ) else ((O_X10_hasAll [.inr (5, 10, 0, 0), .inl x1] σ).bind fun r1 => if r1.1 = 0 then (en_ri (-1 : Int32) r1.2) else ((O_X4_push [.inr (25, 4, 0, 0), .inr (15, 7, 0, 0)] r1.2).bind fun r2 => (O_X10_ring [.inr (5, 10, 0, 0), .inr (15, 7, 0, 0), .inl x1] r2).bind fun r3 => (O_X9_begin [.inr (3, 9, 0, 0)] r3.2).bind fun r4 => (O_X9_add [.inr (3, 9, 0, 0), .inl (r4 15 8)] r4).bind fun r5 => (O_X9_add [.inr (3, 9, 0, 0), .inl (r5 15 9)] r5).bind fun r6 => en_ri r3.1 r6))) := rfl
noncomputable def P_X11_round : List en_V → en_M → Option (Int32 × en_M) := fun av σ => match av with
  | [.inr (0, 11, 0, 0), .inl x1] => en_oi (T_X11_round_0 x1 σ)
  | _ => none
theorem ox_X11_round : ∃ f, f = P_X11_round := ⟨_, rfl⟩
noncomputable def O_X11_round : List en_V → en_M → Option (Int32 × en_M) := Classical.choose ox_X11_round
theorem oe_X11_round : O_X11_round = P_X11_round := Classical.choose_spec ox_X11_round
theorem o_X11_round (x1 : Int32) (σ : en_M) : O_X11_round [.inr (0, 11, 0, 0), .inl x1] σ = en_oi (T_X11_round_0 x1 σ) := by rw [oe_X11_round]; rfl
theorem i_X11_round (G : en_G) (hst : G.2.2.2.2.2 = true) : en_I G 5 yX11_round cX11_round 3 (some .int) 0 0 (en_wi (O_X11_round)) := en_of_i (M := M_X11_round) hst (s_X11_round_0 G hst _ (l_X11_round G hst en_FU)) (plainFor_of_name (by decide +kernel)) rfl rfl rfl (Or.inl ⟨rfl, rfl⟩) (fun av σ x σ' h => by
  rw [oe_X11_round] at h; unfold P_X11_round at h
  split at h
  · exact ⟨(Nat.le_of_ble_eq_true rfl), en_oi_some h⟩
  · cases h)
-- EachMayMissOne.ringAll(LEachMayMissOne$State;I)I
def M_X11_ringAll : en_Me := (cX11_ringAll, RX11, 5, false, 5, false)
theorem cs_X11_ringAll : en_cs yX11_ringAll cX11_ringAll 5 (some .int) 2 := ⟨wm_304, wm_2, ⟨(by decide +kernel), (by decide +kernel), (by decide +kernel)⟩, (Nat.le_of_ble_eq_true rfl)⟩
noncomputable def B_X11_ringAll_34 (kc : Nat → en_B) : en_B := (op_iload 3 op_iret)
set_option maxRecDepth 20000 in
theorem s_X11_ringAll_34 (G : en_G) (hst : G.2.2.2.2.2 = true) (kc : Nat → en_B) (hk : ∀ t, en_Snd G M_X11_ringAll t (kc t)) : en_Snd G M_X11_ringAll 34 (B_X11_ringAll_34 kc) := (sn_iload_n (i := 3) (n := 3) (by decide +kernel) rfl (sn_iret (by decide +kernel) rfl))
noncomputable def B_X11_ringAll_5 (kc : Nat → en_B) : en_B := (op_iload 4 (op_iload 2 (op_iclt (op_aload 0 (op_gets 11 5 (10, 0, 0) (op_aload 1 (op_const (0 : Int32) (op_rcv 10 2 (op_calli O_X10_ring 3 (op_pop (op_iload 3 (op_aload 1 (op_geti 7 9 (op_bin (fun (x y : Int32) => x ||| y) (op_istore 3 (op_iinc 4 (1 : Int32) (kc 5)))))))))))))) (B_X11_ringAll_34 kc))))
set_option maxRecDepth 20000 in
theorem s_X11_ringAll_5 (G : en_G) (hst : G.2.2.2.2.2 = true) (kc : Nat → en_B) (hk : ∀ t, en_Snd G M_X11_ringAll t (kc t)) : en_Snd G M_X11_ringAll 5 (B_X11_ringAll_5 kc) := (sn_iload (i := 4) (by decide +kernel) (sn_iload_n (i := 2) (n := 2) (by decide +kernel) rfl (sn_icge (off := 26) (tgt := 34) (by decide +kernel) rfl (s_X11_ringAll_34 G hst kc hk) (sn_aload_n (i := 0) (n := 0) (by decide +kernel) rfl (sn_gets (ci := 11) (j := 2) (off := 5) hst en_c11 of_11_5 (Nat.le_of_ble_eq_true rfl) (by decide +kernel) wm_18 (Nat.le_of_ble_eq_true rfl) rfl (sn_aload_n (i := 1) (n := 1) (by decide +kernel) rfl (sn_iconst (n := 0) (v := 0) (by decide +kernel) rfl (sn_callVi (n := 2) (idx := 201) (ci := 10) (i_X10_ring G hst) (Nat.le_of_ble_eq_true rfl) cs_X10_ring ⟨wm_1142, wm_1143, wm_114⟩ ⟨⟨_, rfl, rfl⟩, (Nat.le_of_ble_eq_true rfl)⟩ (by decide +kernel) (sn_pop (by decide +kernel) (sn_iload_n (i := 3) (n := 3) (by decide +kernel) rfl (sn_aload_n (i := 1) (n := 1) (by decide +kernel) rfl (sn_geti (ci := 7) (j := 9) en_c7 (by decide +kernel) wm_118 (Nat.le_of_ble_eq_true rfl) rfl (sn_ior (by decide +kernel) (sn_istore_n (i := 3) (n := 3) (by decide +kernel) rfl (Nat.le_of_ble_eq_true rfl) (sn_iinc (i := 4) (n := 1) (v := 1) (by decide +kernel) rfl (sn_goto (off := -26) (tgt := 5) (by decide +kernel) rfl (hk 5)))))))))))))))))
noncomputable def B_X11_ringAll_0 (kc : Nat → en_B) : en_B := (op_const (0 : Int32) (op_istore 3 (op_const (0 : Int32) (op_istore 4 (kc 5)))))
set_option maxRecDepth 20000 in
theorem s_X11_ringAll_0 (G : en_G) (hst : G.2.2.2.2.2 = true) (kc : Nat → en_B) (hk : ∀ t, en_Snd G M_X11_ringAll t (kc t)) : en_Snd G M_X11_ringAll 0 (B_X11_ringAll_0 kc) := (sn_iconst (n := 0) (v := 0) (by decide +kernel) rfl (sn_istore_n (i := 3) (n := 3) (by decide +kernel) rfl (Nat.le_of_ble_eq_true rfl) (sn_iconst (n := 0) (v := 0) (by decide +kernel) rfl (sn_istore (i := 4) (by decide +kernel) (Nat.le_of_ble_eq_true rfl) (hk 5)))))
noncomputable def LK_X11_ringAll : Nat → Nat → en_B
  | 0, _ => en_no
  | n + 1, t => if t = 5 then B_X11_ringAll_5 (LK_X11_ringAll n) else en_no
theorem l_X11_ringAll (G : en_G) (hst : G.2.2.2.2.2 = true) : ∀ n t, en_Snd G M_X11_ringAll t (LK_X11_ringAll n t)
  | 0, _ => sn_no
  | n + 1, t => by
    show en_Snd G M_X11_ringAll t (if t = 5 then B_X11_ringAll_5 (LK_X11_ringAll n) else en_no)
    by_cases h_5 : t = 5
    · rw [if_pos h_5, h_5]; exact s_X11_ringAll_5 G hst _ (l_X11_ringAll G hst n)
    rw [if_neg h_5]
    exact sn_no
noncomputable def T_X11_ringAll_0 (k1 : Nat) (x2 : Int32) (σ : en_M) : en_R := B_X11_ringAll_0 (LK_X11_ringAll en_FU) [.inr (0, 11, 0, 0), .inr (k1, 7, 0, 0), .inl x2, en_un, en_un] [] en_zz σ
noncomputable def T_X11_ringAll_5 (n : Nat) (k1 : Nat) (x2 : Int32) (x3 : Int32) (x4 : Int32) (σ : en_M) : en_R := LK_X11_ringAll n 5 [.inr (0, 11, 0, 0), .inr (k1, 7, 0, 0), .inl x2, .inl x3, .inl x4] [] en_zz σ
set_option maxRecDepth 400000 in
set_option maxHeartbeats 4000000 in
theorem t_X11_ringAll_0 (k1 : Nat) (x2 : Int32) (σ : en_M) : T_X11_ringAll_0 k1 x2 σ = (T_X11_ringAll_5 en_FU k1 x2 (0 : Int32) (0 : Int32) σ) := rfl
set_option maxRecDepth 400000 in
set_option maxHeartbeats 4000000 in
theorem t_X11_ringAll_5 (n : Nat) (k1 : Nat) (x2 : Int32) (x3 : Int32) (x4 : Int32) (σ : en_M) : T_X11_ringAll_5 (n + 1) k1 x2 x3 x4 σ = (if x4 < x2 then ((O_X10_ring [.inr (5, 10, 0, 0), .inr (k1, 7, 0, 0), .inl (0 : Int32)] σ).bind fun r1 => T_X11_ringAll_5 n k1 x2 (x3 ||| (r1.2 k1 9)) (x4 + (1 : Int32)) r1.2) else (en_ri x3 σ)) := rfl
noncomputable def P_X11_ringAll : List en_V → en_M → Option (Int32 × en_M) := fun av σ => match av with
  | [.inr (0, 11, 0, 0), .inr (k1, 7, 0, 0), .inl x2] => en_oi (T_X11_ringAll_0 k1 x2 σ)
  | _ => none
theorem ox_X11_ringAll : ∃ f, f = P_X11_ringAll := ⟨_, rfl⟩
noncomputable def O_X11_ringAll : List en_V → en_M → Option (Int32 × en_M) := Classical.choose ox_X11_ringAll
theorem oe_X11_ringAll : O_X11_ringAll = P_X11_ringAll := Classical.choose_spec ox_X11_ringAll
theorem o_X11_ringAll (k1 : Nat) (x2 : Int32) (σ : en_M) : O_X11_ringAll [.inr (0, 11, 0, 0), .inr (k1, 7, 0, 0), .inl x2] σ = en_oi (T_X11_ringAll_0 k1 x2 σ) := by rw [oe_X11_ringAll]; rfl
theorem i_X11_ringAll (G : en_G) (hst : G.2.2.2.2.2 = true) : en_I G 5 yX11_ringAll cX11_ringAll 5 (some .int) 0 0 (en_wi (O_X11_ringAll)) := en_of_i (M := M_X11_ringAll) hst (s_X11_ringAll_0 G hst _ (l_X11_ringAll G hst en_FU)) (plainFor_of_name (by decide +kernel)) rfl rfl rfl (Or.inl ⟨rfl, rfl⟩) (fun av σ x σ' h => by
  rw [oe_X11_ringAll] at h; unfold P_X11_ringAll at h
  split at h
  · exact ⟨(Nat.le_of_ble_eq_true rfl), en_oi_some h⟩
  · cases h)
