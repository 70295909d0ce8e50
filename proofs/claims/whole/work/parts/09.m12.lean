-- EachMayMissOne.order(I)I
def M_X11_order : en_Me := (cX11_order, RX11, 3, false, 5, false)
theorem cs_X11_order : en_cs yX11_order cX11_order 3 (some .int) 1 := ⟨wm_140, wm_2, ⟨(by decide +kernel), (by decide +kernel), (by decide +kernel)⟩, (Nat.le_of_ble_eq_true rfl)⟩
noncomputable def B_X11_order_74 (kc : Nat → en_B) : en_B := (op_aload 0 (op_gets 11 182 (20, 201, 0) (op_iload 1 (op_ald 20 (op_const (0 : Int32) (op_calli O_X11_bellAt 2 op_iret))))))
set_option maxRecDepth 20000 in
theorem s_X11_order_74 (G : en_G) (hst : G.2.2.2.2.2 = true) (kc : Nat → en_B) (hk : ∀ t, en_Snd G M_X11_order t (kc t)) : en_Snd G M_X11_order 74 (B_X11_order_74 kc) := (sn_aload_n (i := 0) (n := 0) (by decide +kernel) rfl (sn_gets (ci := 11) (j := 10) (off := 182) hst en_c11 of_11_182 (Nat.le_of_ble_eq_true rfl) (by decide +kernel) wm_50 (Nat.le_of_ble_eq_true rfl) rfl (sn_iload_n (i := 1) (n := 1) (by decide +kernel) rfl (sn_iald (by decide +kernel) (sn_iconst (n := 0) (v := 0) (by decide +kernel) rfl (sn_callSi (n := 2) (idx := 174) (i_X11_bellAt G hst) (Nat.le_of_ble_eq_true rfl) cs_X11_bellAt ⟨wm_276, Or.inl wm_97⟩ (by decide +kernel) (sn_iret (by decide +kernel) rfl)))))))
noncomputable def B_X11_order_40 (kc : Nat → en_B) : en_B := (op_iload 2 (op_aload 0 (op_gets 11 5 (10, 0, 0) (op_geti 10 3 (op_iclt (op_aload 0 (op_gets 11 3 (9, 0, 0) (op_aload 0 (op_gets 11 182 (20, 201, 0) (op_iload 1 (op_ald 20 (op_iload 2 (op_calli O_X11_bellAt 2 (op_rcv 9 1 (op_callv O_X9_add 2 (op_iinc 2 (1 : Int32) (kc 40)))))))))))) (B_X11_order_74 kc))))))
set_option maxRecDepth 20000 in
theorem s_X11_order_40 (G : en_G) (hst : G.2.2.2.2.2 = true) (kc : Nat → en_B) (hk : ∀ t, en_Snd G M_X11_order t (kc t)) : en_Snd G M_X11_order 40 (B_X11_order_40 kc) := (sn_iload_n (i := 2) (n := 2) (by decide +kernel) rfl (sn_aload_n (i := 0) (n := 0) (by decide +kernel) rfl (sn_gets (ci := 11) (j := 2) (off := 5) hst en_c11 of_11_5 (Nat.le_of_ble_eq_true rfl) (by decide +kernel) wm_18 (Nat.le_of_ble_eq_true rfl) rfl (sn_geti (ci := 10) (j := 3) en_c10 (by decide +kernel) wm_74 (Nat.le_of_ble_eq_true rfl) rfl (sn_icge (off := 26) (tgt := 74) (by decide +kernel) rfl (s_X11_order_74 G hst kc hk) (sn_aload_n (i := 0) (n := 0) (by decide +kernel) rfl (sn_gets (ci := 11) (j := 1) (off := 3) hst en_c11 of_11_3 (Nat.le_of_ble_eq_true rfl) (by decide +kernel) wm_13 (Nat.le_of_ble_eq_true rfl) rfl (sn_aload_n (i := 0) (n := 0) (by decide +kernel) rfl (sn_gets (ci := 11) (j := 10) (off := 182) hst en_c11 of_11_182 (Nat.le_of_ble_eq_true rfl) (by decide +kernel) wm_50 (Nat.le_of_ble_eq_true rfl) rfl (sn_iload_n (i := 1) (n := 1) (by decide +kernel) rfl (sn_iald (by decide +kernel) (sn_iload_n (i := 2) (n := 2) (by decide +kernel) rfl (sn_callSi (n := 2) (idx := 174) (i_X11_bellAt G hst) (Nat.le_of_ble_eq_true rfl) cs_X11_bellAt ⟨wm_276, Or.inl wm_97⟩ (by decide +kernel) (sn_callVv (n := 1) (idx := 209) (ci := 9) (i_X9_add G hst) (Nat.le_of_ble_eq_true rfl) cs_X9_add ⟨wm_1090, wm_1091, wm_117⟩ ⟨⟨_, rfl, rfl⟩, (Nat.le_of_ble_eq_true rfl)⟩ (by decide +kernel) (sn_iinc (i := 2) (n := 1) (v := 1) (by decide +kernel) rfl (sn_goto (off := -31) (tgt := 40) (by decide +kernel) rfl (hk 40)))))))))))))))))
noncomputable def B_X11_order_26 (kc : Nat → en_B) : en_B := (op_aload 0 (op_iload 1 (op_rcv 11 1 (op_callv O_X11_lookAhead 2 (op_aload 0 (op_gets 11 3 (9, 0, 0) (op_rcv 9 0 (op_callv O_X9_begin 1 (op_const (0 : Int32) (op_istore 2 (kc 40)))))))))))
set_option maxRecDepth 20000 in
theorem s_X11_order_26 (G : en_G) (hst : G.2.2.2.2.2 = true) (kc : Nat → en_B) (hk : ∀ t, en_Snd G M_X11_order t (kc t)) : en_Snd G M_X11_order 26 (B_X11_order_26 kc) := (sn_aload_n (i := 0) (n := 0) (by decide +kernel) rfl (sn_iload_n (i := 1) (n := 1) (by decide +kernel) rfl (sn_callVv (n := 1) (idx := 242) (ci := 11) (i_X11_lookAhead G hst) (Nat.le_of_ble_eq_true rfl) cs_X11_lookAhead ⟨wm_287, wm_288, wm_143⟩ ⟨⟨_, rfl, rfl⟩, (Nat.le_of_ble_eq_true rfl)⟩ (by decide +kernel) (sn_aload_n (i := 0) (n := 0) (by decide +kernel) rfl (sn_gets (ci := 11) (j := 1) (off := 3) hst en_c11 of_11_3 (Nat.le_of_ble_eq_true rfl) (by decide +kernel) wm_13 (Nat.le_of_ble_eq_true rfl) rfl (sn_callVv (n := 0) (idx := 205) (ci := 9) (i_X9_begin G hst) (Nat.le_of_ble_eq_true rfl) cs_X9_begin ⟨wm_1086, wm_1087, wm_115⟩ ⟨⟨_, rfl, rfl⟩, (Nat.le_of_ble_eq_true rfl)⟩ (by decide +kernel) (sn_iconst (n := 0) (v := 0) (by decide +kernel) rfl (sn_istore_n (i := 2) (n := 2) (by decide +kernel) rfl (Nat.le_of_ble_eq_true rfl) (hk 40)))))))))
noncomputable def B_X11_order_24 (kc : Nat → en_B) : en_B := (op_const (-1 : Int32) op_iret)
set_option maxRecDepth 20000 in
theorem s_X11_order_24 (G : en_G) (hst : G.2.2.2.2.2 = true) (kc : Nat → en_B) (hk : ∀ t, en_Snd G M_X11_order t (kc t)) : en_Snd G M_X11_order 24 (B_X11_order_24 kc) := (sn_iconst (n := -1) (v := -1) (by decide +kernel) rfl (sn_iret (by decide +kernel) rfl))
noncomputable def B_X11_order_13 (kc : Nat → en_B) : en_B := (op_iload 1 (op_iflt (B_X11_order_24 kc) (op_iload 1 (op_const (200 : Int32) (op_icgt (B_X11_order_24 kc) (B_X11_order_26 kc))))))
set_option maxRecDepth 20000 in
theorem s_X11_order_13 (G : en_G) (hst : G.2.2.2.2.2 = true) (kc : Nat → en_B) (hk : ∀ t, en_Snd G M_X11_order t (kc t)) : en_Snd G M_X11_order 13 (B_X11_order_13 kc) := (sn_iload_n (i := 1) (n := 1) (by decide +kernel) rfl (sn_iflt (off := 10) (tgt := 24) (by decide +kernel) rfl (s_X11_order_24 G hst kc hk) (sn_iload_n (i := 1) (n := 1) (by decide +kernel) rfl (sn_sipush (n := 200) (v := 200) (by decide +kernel) rfl (sn_icle (off := 5) (tgt := 26) (by decide +kernel) rfl (s_X11_order_26 G hst kc hk) (s_X11_order_24 G hst kc hk))))))
noncomputable def B_X11_order_0 (kc : Nat → en_B) : en_B := (op_aload 0 (op_gets 11 5 (10, 0, 0) (op_geti 10 3 (op_ifeq (op_const (-2 : Int32) op_iret) (B_X11_order_13 kc)))))
set_option maxRecDepth 20000 in
theorem s_X11_order_0 (G : en_G) (hst : G.2.2.2.2.2 = true) (kc : Nat → en_B) (hk : ∀ t, en_Snd G M_X11_order t (kc t)) : en_Snd G M_X11_order 0 (B_X11_order_0 kc) := (sn_aload_n (i := 0) (n := 0) (by decide +kernel) rfl (sn_gets (ci := 11) (j := 2) (off := 5) hst en_c11 of_11_5 (Nat.le_of_ble_eq_true rfl) (by decide +kernel) wm_18 (Nat.le_of_ble_eq_true rfl) rfl (sn_geti (ci := 10) (j := 3) en_c10 (by decide +kernel) wm_74 (Nat.le_of_ble_eq_true rfl) rfl (sn_ifne (off := 6) (tgt := 13) (by decide +kernel) rfl (s_X11_order_13 G hst kc hk) (sn_bipush (n := -2) (v := -2) (by decide +kernel) rfl (sn_iret (by decide +kernel) rfl))))))
noncomputable def LK_X11_order : Nat → Nat → en_B
  | 0, _ => en_no
  | n + 1, t => if t = 40 then B_X11_order_40 (LK_X11_order n) else en_no
theorem l_X11_order (G : en_G) (hst : G.2.2.2.2.2 = true) : ∀ n t, en_Snd G M_X11_order t (LK_X11_order n t)
  | 0, _ => sn_no
  | n + 1, t => by
    show en_Snd G M_X11_order t (if t = 40 then B_X11_order_40 (LK_X11_order n) else en_no)
    by_cases h_40 : t = 40
    · rw [if_pos h_40, h_40]; exact s_X11_order_40 G hst _ (l_X11_order G hst n)
    rw [if_neg h_40]
    exact sn_no
noncomputable def T_X11_order_0 (x1 : Int32) (σ : en_M) : en_R := B_X11_order_0 (LK_X11_order en_FU) [.inr (0, 11, 0, 0), .inl x1, en_un] [] en_zz σ
noncomputable def T_X11_order_40 (n : Nat) (x1 : Int32) (x2 : Int32) (σ : en_M) : en_R := LK_X11_order n 40 [.inr (0, 11, 0, 0), .inl x1, .inl x2] [] en_zz σ
set_option maxRecDepth 400000 in
set_option maxHeartbeats 4000000 in
theorem t_X11_order_0 (x1 : Int32) (σ : en_M) : T_X11_order_0 x1 σ = (if (σ 5 3) = 0 then (en_ri (-2 : Int32) σ) else (if x1 < 0 then (en_ri (-1 : Int32) σ) else (if (200 : Int32) < x1 then (en_ri (-1 : Int32) σ) else ((O_X11_lookAhead [.inr (0, 11, 0, 0), .inl x1] σ).bind fun r1 => (O_X9_begin [.inr (3, 9, 0, 0)] r1).bind fun r2 => T_X11_order_40 en_FU x1 (0 : Int32) r2)))) := rfl
set_option maxRecDepth 400000 in
set_option maxHeartbeats 4000000 in
theorem t_X11_order_40 (n : Nat) (x1 : Int32) (x2 : Int32) (σ : en_M) : T_X11_order_40 (n + 1) x1 x2 σ = (if x2 < (σ 5 3) then ((en_ix x1 201).bind fun j5 => (O_X11_bellAt [.inl (σ 182 j5), .inl x2] σ).bind fun r6 => (O_X9_add [.inr (3, 9, 0, 0), .inl r6.1] r6.2).bind fun r7 => T_X11_order_40 n x1 (x2 + (1 : Int32)) r7) else ((en_ix x1 201).bind fun j3 => (O_X11_bellAt [.inl (σ 182 j3), .inl (0 : Int32)] σ).bind fun r4 => en_ri r4.1 r4.2)) := rfl
noncomputable def P_X11_order : List en_V → en_M → Option (Int32 × en_M) := fun av σ => match av with
  | [.inr (0, 11, 0, 0), .inl x1] => en_oi (T_X11_order_0 x1 σ)
  | _ => none
theorem ox_X11_order : ∃ f, f = P_X11_order := ⟨_, rfl⟩
noncomputable def O_X11_order : List en_V → en_M → Option (Int32 × en_M) := Classical.choose ox_X11_order
theorem oe_X11_order : O_X11_order = P_X11_order := Classical.choose_spec ox_X11_order
theorem o_X11_order (x1 : Int32) (σ : en_M) : O_X11_order [.inr (0, 11, 0, 0), .inl x1] σ = en_oi (T_X11_order_0 x1 σ) := by rw [oe_X11_order]; rfl
theorem i_X11_order (G : en_G) (hst : G.2.2.2.2.2 = true) : en_I G 5 yX11_order cX11_order 3 (some .int) 0 0 (en_wi (O_X11_order)) := en_of_i (M := M_X11_order) hst (s_X11_order_0 G hst _ (l_X11_order G hst en_FU)) (plainFor_of_name (by decide +kernel)) rfl rfl rfl (Or.inl ⟨rfl, rfl⟩) (fun av σ x σ' h => by
  rw [oe_X11_order] at h; unfold P_X11_order at h
  split at h
  · exact ⟨(Nat.le_of_ble_eq_true rfl), en_oi_some h⟩
  · cases h)
-- EachMayMissOne.firstAhead(II)I
def M_X11_firstAhead : en_Me := (cX11_firstAhead, RX11, 4, false, 1, false)
theorem cs_X11_firstAhead : en_cs yX11_firstAhead cX11_firstAhead 4 (some .int) 2 := ⟨wm_290, wm_2, ⟨(by decide +kernel), (by decide +kernel), (by decide +kernel)⟩, (Nat.le_of_ble_eq_true rfl)⟩
noncomputable def B_X11_firstAhead_30 (kc : Nat → en_B) : en_B := (op_iload 3 op_iret)
set_option maxRecDepth 20000 in
theorem s_X11_firstAhead_30 (G : en_G) (hst : G.2.2.2.2.2 = true) (kc : Nat → en_B) (hk : ∀ t, en_Snd G M_X11_firstAhead t (kc t)) : en_Snd G M_X11_firstAhead 30 (B_X11_firstAhead_30 kc) := (sn_iload_n (i := 3) (n := 3) (by decide +kernel) rfl (sn_iret (by decide +kernel) rfl))
noncomputable def B_X11_firstAhead_2 (kc : Nat → en_B) : en_B := (op_iload 3 (op_iload 2 (op_iclt (op_iload 3 (op_const (200 : Int32) (op_icgt (B_X11_firstAhead_30 kc) (op_aload 0 (op_gets 11 182 (20, 201, 0) (op_iload 3 (op_ald 20 (op_iload 1 (op_iceq (B_X11_firstAhead_30 kc) (op_iinc 3 (1 : Int32) (kc 2))))))))))) (B_X11_firstAhead_30 kc))))
set_option maxRecDepth 20000 in
theorem s_X11_firstAhead_2 (G : en_G) (hst : G.2.2.2.2.2 = true) (kc : Nat → en_B) (hk : ∀ t, en_Snd G M_X11_firstAhead t (kc t)) : en_Snd G M_X11_firstAhead 2 (B_X11_firstAhead_2 kc) := (sn_iload_n (i := 3) (n := 3) (by decide +kernel) rfl (sn_iload_n (i := 2) (n := 2) (by decide +kernel) rfl (sn_icge (off := 26) (tgt := 30) (by decide +kernel) rfl (s_X11_firstAhead_30 G hst kc hk) (sn_iload_n (i := 3) (n := 3) (by decide +kernel) rfl (sn_sipush (n := 200) (v := 200) (by decide +kernel) rfl (sn_icgt (off := 19) (tgt := 30) (by decide +kernel) rfl (s_X11_firstAhead_30 G hst kc hk) (sn_aload_n (i := 0) (n := 0) (by decide +kernel) rfl (sn_gets (ci := 11) (j := 10) (off := 182) hst en_c11 of_11_182 (Nat.le_of_ble_eq_true rfl) (by decide +kernel) wm_50 (Nat.le_of_ble_eq_true rfl) rfl (sn_iload_n (i := 3) (n := 3) (by decide +kernel) rfl (sn_iald (by decide +kernel) (sn_iload_n (i := 1) (n := 1) (by decide +kernel) rfl (sn_iceq (off := 9) (tgt := 30) (by decide +kernel) rfl (s_X11_firstAhead_30 G hst kc hk) (sn_iinc (i := 3) (n := 1) (v := 1) (by decide +kernel) rfl (sn_goto (off := -25) (tgt := 2) (by decide +kernel) rfl (hk 2)))))))))))))))
noncomputable def B_X11_firstAhead_0 (kc : Nat → en_B) : en_B := (op_const (0 : Int32) (op_istore 3 (kc 2)))
set_option maxRecDepth 20000 in
theorem s_X11_firstAhead_0 (G : en_G) (hst : G.2.2.2.2.2 = true) (kc : Nat → en_B) (hk : ∀ t, en_Snd G M_X11_firstAhead t (kc t)) : en_Snd G M_X11_firstAhead 0 (B_X11_firstAhead_0 kc) := (sn_iconst (n := 0) (v := 0) (by decide +kernel) rfl (sn_istore_n (i := 3) (n := 3) (by decide +kernel) rfl (Nat.le_of_ble_eq_true rfl) (hk 2)))
noncomputable def LK_X11_firstAhead : Nat → Nat → en_B
  | 0, _ => en_no
  | n + 1, t => if t = 2 then B_X11_firstAhead_2 (LK_X11_firstAhead n) else en_no
theorem l_X11_firstAhead (G : en_G) (hst : G.2.2.2.2.2 = true) : ∀ n t, en_Snd G M_X11_firstAhead t (LK_X11_firstAhead n t)
  | 0, _ => sn_no
  | n + 1, t => by
    show en_Snd G M_X11_firstAhead t (if t = 2 then B_X11_firstAhead_2 (LK_X11_firstAhead n) else en_no)
    by_cases h_2 : t = 2
    · rw [if_pos h_2, h_2]; exact s_X11_firstAhead_2 G hst _ (l_X11_firstAhead G hst n)
    rw [if_neg h_2]
    exact sn_no
noncomputable def T_X11_firstAhead_0 (x1 : Int32) (x2 : Int32) (σ : en_M) : en_R := B_X11_firstAhead_0 (LK_X11_firstAhead en_FU) [.inr (0, 11, 0, 0), .inl x1, .inl x2, en_un] [] en_zz σ
noncomputable def T_X11_firstAhead_2 (n : Nat) (x1 : Int32) (x2 : Int32) (x3 : Int32) (σ : en_M) : en_R := LK_X11_firstAhead n 2 [.inr (0, 11, 0, 0), .inl x1, .inl x2, .inl x3] [] en_zz σ
set_option maxRecDepth 400000 in
set_option maxHeartbeats 4000000 in
theorem t_X11_firstAhead_0 (x1 : Int32) (x2 : Int32) (σ : en_M) : T_X11_firstAhead_0 x1 x2 σ = (T_X11_firstAhead_2 en_FU x1 x2 (0 : Int32) σ) := rfl
set_option maxRecDepth 400000 in
set_option maxHeartbeats 4000000 in
theorem t_X11_firstAhead_2 (n : Nat) (x1 : Int32) (x2 : Int32) (x3 : Int32) (σ : en_M) : T_X11_firstAhead_2 (n + 1) x1 x2 x3 σ = (if x3 < x2 then (if (200 : Int32) < x3 then (en_ri x3 σ) else ((en_ix x3 201).bind fun j1 => if (σ 182 j1) = x1 then (en_ri x3 σ) else (T_X11_firstAhead_2 n x1 x2 (x3 + (1 : Int32)) σ))) else (en_ri x3 σ)) := rfl
noncomputable def P_X11_firstAhead : List en_V → en_M → Option (Int32 × en_M) := fun av σ => match av with
  | [.inr (0, 11, 0, 0), .inl x1, .inl x2] => en_oi (T_X11_firstAhead_0 x1 x2 σ)
  | _ => none
theorem ox_X11_firstAhead : ∃ f, f = P_X11_firstAhead := ⟨_, rfl⟩
noncomputable def O_X11_firstAhead : List en_V → en_M → Option (Int32 × en_M) := Classical.choose ox_X11_firstAhead
theorem oe_X11_firstAhead : O_X11_firstAhead = P_X11_firstAhead := Classical.choose_spec ox_X11_firstAhead
theorem o_X11_firstAhead (x1 : Int32) (x2 : Int32) (σ : en_M) : O_X11_firstAhead [.inr (0, 11, 0, 0), .inl x1, .inl x2] σ = en_oi (T_X11_firstAhead_0 x1 x2 σ) := by rw [oe_X11_firstAhead]; rfl
theorem i_X11_firstAhead (G : en_G) (hst : G.2.2.2.2.2 = true) : en_I G 1 yX11_firstAhead cX11_firstAhead 4 (some .int) 0 0 (en_wi (O_X11_firstAhead)) := en_of_i (M := M_X11_firstAhead) hst (s_X11_firstAhead_0 G hst _ (l_X11_firstAhead G hst en_FU)) (plainFor_of_name (by decide +kernel)) rfl rfl rfl (Or.inl ⟨rfl, rfl⟩) (fun av σ x σ' h => by
  rw [oe_X11_firstAhead] at h; unfold P_X11_firstAhead at h
  split at h
  · exact ⟨(Nat.le_of_ble_eq_true rfl), en_oi_some h⟩
  · cases h)
-- EachMayMissOne.truth()I
def M_X11_truth : en_Me := (cX11_truth, RX11, 3, false, 5, false)
theorem cs_X11_truth : en_cs yX11_truth cX11_truth 3 (some .int) 0 := ⟨wm_144, wm_2, ⟨(by decide +kernel), (by decide +kernel), (by decide +kernel)⟩, (Nat.le_of_ble_eq_true rfl)⟩
noncomputable def B_X11_truth_69 (kc : Nat → en_B) : en_B := (op_const (-2 : Int32) op_iret)
set_option maxRecDepth 20000 in
theorem s_X11_truth_69 (G : en_G) (hst : G.2.2.2.2.2 = true) (kc : Nat → en_B) (hk : ∀ t, en_Snd G M_X11_truth t (kc t)) : en_Snd G M_X11_truth 69 (B_X11_truth_69 kc) := (sn_bipush (n := -2) (v := -2) (by decide +kernel) rfl (sn_iret (by decide +kernel) rfl))
noncomputable def B_X11_truth_63 (kc : Nat → en_B) : en_B := (op_iinc 1 (1 : Int32) (kc 22))
set_option maxRecDepth 20000 in
theorem s_X11_truth_63 (G : en_G) (hst : G.2.2.2.2.2 = true) (kc : Nat → en_B) (hk : ∀ t, en_Snd G M_X11_truth t (kc t)) : en_Snd G M_X11_truth 63 (B_X11_truth_63 kc) := (sn_iinc (i := 1) (n := 1) (v := 1) (by decide +kernel) rfl (sn_goto (off := -44) (tgt := 22) (by decide +kernel) rfl (hk 22)))
noncomputable def B_X11_truth_22 (kc : Nat → en_B) : en_B := (op_iload 1 (op_const (200 : Int32) (op_icgt (B_X11_truth_69 kc) (op_aload 0 (op_aload 0 (op_gets 11 182 (20, 201, 0) (op_iload 1 (op_ald 20 (op_iload 1 (op_rcv 11 2 (op_calli O_X11_firstAhead 3 (op_istore 2 (op_iload 2 (op_iload 1 (op_iclt (op_aload 0 (op_gets 11 3 (9, 0, 0) (op_rcv 9 0 (op_callv O_X9_begin 1 (op_aload 0 (op_gets 11 3 (9, 0, 0) (op_iload 2 (op_rcv 9 1 (op_callv O_X9_add 2 (op_iload 1 op_iret)))))))))) (B_X11_truth_63 kc))))))))))))))))
set_option maxRecDepth 20000 in
theorem s_X11_truth_22 (G : en_G) (hst : G.2.2.2.2.2 = true) (kc : Nat → en_B) (hk : ∀ t, en_Snd G M_X11_truth t (kc t)) : en_Snd G M_X11_truth 22 (B_X11_truth_22 kc) := (sn_iload_n (i := 1) (n := 1) (by decide +kernel) rfl (sn_sipush (n := 200) (v := 200) (by decide +kernel) rfl (sn_icgt (off := 43) (tgt := 69) (by decide +kernel) rfl (s_X11_truth_69 G hst kc hk) (sn_aload_n (i := 0) (n := 0) (by decide +kernel) rfl (sn_aload_n (i := 0) (n := 0) (by decide +kernel) rfl (sn_gets (ci := 11) (j := 10) (off := 182) hst en_c11 of_11_182 (Nat.le_of_ble_eq_true rfl) (by decide +kernel) wm_50 (Nat.le_of_ble_eq_true rfl) rfl (sn_iload_n (i := 1) (n := 1) (by decide +kernel) rfl (sn_iald (by decide +kernel) (sn_iload_n (i := 1) (n := 1) (by decide +kernel) rfl (sn_callVi (n := 2) (idx := 245) (ci := 11) (i_X11_firstAhead G hst) (Nat.le_of_ble_eq_true rfl) cs_X11_firstAhead ⟨wm_291, wm_292, wm_147⟩ ⟨⟨_, rfl, rfl⟩, (Nat.le_of_ble_eq_true rfl)⟩ (by decide +kernel) (sn_istore_n (i := 2) (n := 2) (by decide +kernel) rfl (Nat.le_of_ble_eq_true rfl) (sn_iload_n (i := 2) (n := 2) (by decide +kernel) rfl (sn_iload_n (i := 1) (n := 1) (by decide +kernel) rfl (sn_icge (off := 20) (tgt := 63) (by decide +kernel) rfl (s_X11_truth_63 G hst kc hk) (sn_aload_n (i := 0) (n := 0) (by decide +kernel) rfl (sn_gets (ci := 11) (j := 1) (off := 3) hst en_c11 of_11_3 (Nat.le_of_ble_eq_true rfl) (by decide +kernel) wm_13 (Nat.le_of_ble_eq_true rfl) rfl (sn_callVv (n := 0) (idx := 205) (ci := 9) (i_X9_begin G hst) (Nat.le_of_ble_eq_true rfl) cs_X9_begin ⟨wm_1086, wm_1087, wm_115⟩ ⟨⟨_, rfl, rfl⟩, (Nat.le_of_ble_eq_true rfl)⟩ (by decide +kernel) (sn_aload_n (i := 0) (n := 0) (by decide +kernel) rfl (sn_gets (ci := 11) (j := 1) (off := 3) hst en_c11 of_11_3 (Nat.le_of_ble_eq_true rfl) (by decide +kernel) wm_13 (Nat.le_of_ble_eq_true rfl) rfl (sn_iload_n (i := 2) (n := 2) (by decide +kernel) rfl (sn_callVv (n := 1) (idx := 209) (ci := 9) (i_X9_add G hst) (Nat.le_of_ble_eq_true rfl) cs_X9_add ⟨wm_1090, wm_1091, wm_117⟩ ⟨⟨_, rfl, rfl⟩, (Nat.le_of_ble_eq_true rfl)⟩ (by decide +kernel) (sn_iload_n (i := 1) (n := 1) (by decide +kernel) rfl (sn_iret (by decide +kernel) rfl)))))))))))))))))))))))
noncomputable def B_X11_truth_13 (kc : Nat → en_B) : en_B := (op_aload 0 (op_const (200 : Int32) (op_rcv 11 1 (op_callv O_X11_lookAhead 2 (op_const (1 : Int32) (op_istore 1 (kc 22)))))))
set_option maxRecDepth 20000 in
theorem s_X11_truth_13 (G : en_G) (hst : G.2.2.2.2.2 = true) (kc : Nat → en_B) (hk : ∀ t, en_Snd G M_X11_truth t (kc t)) : en_Snd G M_X11_truth 13 (B_X11_truth_13 kc) := (sn_aload_n (i := 0) (n := 0) (by decide +kernel) rfl (sn_sipush (n := 200) (v := 200) (by decide +kernel) rfl (sn_callVv (n := 1) (idx := 242) (ci := 11) (i_X11_lookAhead G hst) (Nat.le_of_ble_eq_true rfl) cs_X11_lookAhead ⟨wm_287, wm_288, wm_143⟩ ⟨⟨_, rfl, rfl⟩, (Nat.le_of_ble_eq_true rfl)⟩ (by decide +kernel) (sn_iconst (n := 1) (v := 1) (by decide +kernel) rfl (sn_istore_n (i := 1) (n := 1) (by decide +kernel) rfl (Nat.le_of_ble_eq_true rfl) (hk 22))))))
noncomputable def B_X11_truth_0 (kc : Nat → en_B) : en_B := (op_aload 0 (op_gets 11 5 (10, 0, 0) (op_geti 10 3 (op_ifeq (op_const (-2 : Int32) op_iret) (B_X11_truth_13 kc)))))
set_option maxRecDepth 20000 in
theorem s_X11_truth_0 (G : en_G) (hst : G.2.2.2.2.2 = true) (kc : Nat → en_B) (hk : ∀ t, en_Snd G M_X11_truth t (kc t)) : en_Snd G M_X11_truth 0 (B_X11_truth_0 kc) := (sn_aload_n (i := 0) (n := 0) (by decide +kernel) rfl (sn_gets (ci := 11) (j := 2) (off := 5) hst en_c11 of_11_5 (Nat.le_of_ble_eq_true rfl) (by decide +kernel) wm_18 (Nat.le_of_ble_eq_true rfl) rfl (sn_geti (ci := 10) (j := 3) en_c10 (by decide +kernel) wm_74 (Nat.le_of_ble_eq_true rfl) rfl (sn_ifne (off := 6) (tgt := 13) (by decide +kernel) rfl (s_X11_truth_13 G hst kc hk) (sn_bipush (n := -2) (v := -2) (by decide +kernel) rfl (sn_iret (by decide +kernel) rfl))))))
noncomputable def LK_X11_truth : Nat → Nat → en_B
  | 0, _ => en_no
  | n + 1, t => if t = 22 then B_X11_truth_22 (LK_X11_truth n) else en_no
theorem l_X11_truth (G : en_G) (hst : G.2.2.2.2.2 = true) : ∀ n t, en_Snd G M_X11_truth t (LK_X11_truth n t)
  | 0, _ => sn_no
  | n + 1, t => by
    show en_Snd G M_X11_truth t (if t = 22 then B_X11_truth_22 (LK_X11_truth n) else en_no)
    by_cases h_22 : t = 22
    · rw [if_pos h_22, h_22]; exact s_X11_truth_22 G hst _ (l_X11_truth G hst n)
    rw [if_neg h_22]
    exact sn_no
noncomputable def T_X11_truth_0 (σ : en_M) : en_R := B_X11_truth_0 (LK_X11_truth en_FU) [.inr (0, 11, 0, 0), en_un, en_un] [] en_zz σ
noncomputable def T_X11_truth_22 (n : Nat) (x1 : Int32) (u2 : en_V) (σ : en_M) : en_R := LK_X11_truth n 22 [.inr (0, 11, 0, 0), .inl x1, u2] [] en_zz σ
set_option maxRecDepth 400000 in
set_option maxHeartbeats 4000000 in
theorem t_X11_truth_0 (σ : en_M) : T_X11_truth_0 σ = (if (σ 5 3) = 0 then (en_ri (-2 : Int32) σ) else ((O_X11_lookAhead [.inr (0, 11, 0, 0), .inl (200 : Int32)] σ).bind fun r1 => T_X11_truth_22 en_FU (1 : Int32) (en_un) r1)) := rfl
set_option maxRecDepth 400000 in
set_option maxHeartbeats 4000000 in
theorem t_X11_truth_22 (n : Nat) (x1 : Int32) (u2 : en_V) (σ : en_M) : T_X11_truth_22 (n + 1) x1 u2 σ = (if (200 : Int32) < x1 then (en_ri (-2 : Int32) σ) else ((en_ix x1 201).bind fun j2 => (O_X11_firstAhead [.inr (0, 11, 0, 0), .inl (σ 182 j2), .inl x1] σ).bind fun r3 => if r3.1 < x1 then ((O_X9_begin [.inr (3, 9, 0, 0)] r3.2).bind fun r4 => (O_X9_add [.inr (3, 9, 0, 0), .inl r3.1] r4).bind fun r5 => en_ri x1 r5) else (T_X11_truth_22 n (x1 + (1 : Int32)) (.inl r3.1) r3.2))) := rfl
noncomputable def P_X11_truth : List en_V → en_M → Option (Int32 × en_M) := fun av σ => match av with
  | [.inr (0, 11, 0, 0)] => en_oi (T_X11_truth_0 σ)
  | _ => none
theorem ox_X11_truth : ∃ f, f = P_X11_truth := ⟨_, rfl⟩
noncomputable def O_X11_truth : List en_V → en_M → Option (Int32 × en_M) := Classical.choose ox_X11_truth
theorem oe_X11_truth : O_X11_truth = P_X11_truth := Classical.choose_spec ox_X11_truth
theorem o_X11_truth (σ : en_M) : O_X11_truth [.inr (0, 11, 0, 0)] σ = en_oi (T_X11_truth_0 σ) := by rw [oe_X11_truth]; rfl
theorem i_X11_truth (G : en_G) (hst : G.2.2.2.2.2 = true) : en_I G 5 yX11_truth cX11_truth 3 (some .int) 0 0 (en_wi (O_X11_truth)) := en_of_i (M := M_X11_truth) hst (s_X11_truth_0 G hst _ (l_X11_truth G hst en_FU)) (plainFor_of_name (by decide +kernel)) rfl rfl rfl (Or.inl ⟨rfl, rfl⟩) (fun av σ x σ' h => by
  rw [oe_X11_truth] at h; unfold P_X11_truth at h
  split at h
  · exact ⟨(Nat.le_of_ble_eq_true rfl), en_oi_some h⟩
  · cases h)
-- EachMayMissOne.lead()I
def M_X11_lead : en_Me := (cX11_lead, RX11, 2, false, 5, false)
theorem cs_X11_lead : en_cs yX11_lead cX11_lead 2 (some .int) 0 := ⟨wm_148, wm_2, ⟨(by decide +kernel), (by decide +kernel), (by decide +kernel)⟩, (Nat.le_of_ble_eq_true rfl)⟩
noncomputable def B_X11_lead_82 (kc : Nat → en_B) : en_B := (op_const (-2 : Int32) op_iret)
set_option maxRecDepth 20000 in
theorem s_X11_lead_82 (G : en_G) (hst : G.2.2.2.2.2 = true) (kc : Nat → en_B) (hk : ∀ t, en_Snd G M_X11_lead t (kc t)) : en_Snd G M_X11_lead 82 (B_X11_lead_82 kc) := (sn_bipush (n := -2) (v := -2) (by decide +kernel) rfl (sn_iret (by decide +kernel) rfl))
noncomputable def B_X11_lead_76 (kc : Nat → en_B) : en_B := (op_iinc 1 (1 : Int32) (kc 22))
set_option maxRecDepth 20000 in
theorem s_X11_lead_76 (G : en_G) (hst : G.2.2.2.2.2 = true) (kc : Nat → en_B) (hk : ∀ t, en_Snd G M_X11_lead t (kc t)) : en_Snd G M_X11_lead 76 (B_X11_lead_76 kc) := (sn_iinc (i := 1) (n := 1) (v := 1) (by decide +kernel) rfl (sn_goto (off := -57) (tgt := 22) (by decide +kernel) rfl (hk 22)))
noncomputable def B_X11_lead_22 (kc : Nat → en_B) : en_B := (op_iload 1 (op_const (200 : Int32) (op_icgt (B_X11_lead_82 kc) (op_aload 0 (op_gets 11 182 (20, 201, 0) (op_iload 1 (op_ald 20 (op_aload 0 (op_gets 11 15 (7, 0, 0) (op_geti 7 4 (op_iceq (op_aload 0 (op_gets 11 5 (10, 0, 0) (op_gets 10 2 (0, 0, 0) (op_aload 0 (op_gets 11 15 (7, 0, 0) (op_geti 7 5 (op_aload 0 (op_gets 11 15 (7, 0, 0) (op_geti 7 5 (op_iload 1 (op_bin (fun (x y : Int32) => x + y) (op_rcv 0 2 (op_calli O_X0_sameChange 3 (op_ifeq (B_X11_lead_76 kc) (op_iload 1 op_iret))))))))))))))) (B_X11_lead_76 kc))))))))))))
set_option maxRecDepth 20000 in
theorem s_X11_lead_22 (G : en_G) (hst : G.2.2.2.2.2 = true) (kc : Nat → en_B) (hk : ∀ t, en_Snd G M_X11_lead t (kc t)) : en_Snd G M_X11_lead 22 (B_X11_lead_22 kc) := (sn_iload_n (i := 1) (n := 1) (by decide +kernel) rfl (sn_sipush (n := 200) (v := 200) (by decide +kernel) rfl (sn_icgt (off := 56) (tgt := 82) (by decide +kernel) rfl (s_X11_lead_82 G hst kc hk) (sn_aload_n (i := 0) (n := 0) (by decide +kernel) rfl (sn_gets (ci := 11) (j := 10) (off := 182) hst en_c11 of_11_182 (Nat.le_of_ble_eq_true rfl) (by decide +kernel) wm_50 (Nat.le_of_ble_eq_true rfl) rfl (sn_iload_n (i := 1) (n := 1) (by decide +kernel) rfl (sn_iald (by decide +kernel) (sn_aload_n (i := 0) (n := 0) (by decide +kernel) rfl (sn_gets (ci := 11) (j := 3) (off := 15) hst en_c11 of_11_15 (Nat.le_of_ble_eq_true rfl) (by decide +kernel) wm_23 (Nat.le_of_ble_eq_true rfl) rfl (sn_geti (ci := 7) (j := 4) en_c7 (by decide +kernel) wm_89 (Nat.le_of_ble_eq_true rfl) rfl (sn_icne (off := 34) (tgt := 76) (by decide +kernel) rfl (s_X11_lead_76 G hst kc hk) (sn_aload_n (i := 0) (n := 0) (by decide +kernel) rfl (sn_gets (ci := 11) (j := 2) (off := 5) hst en_c11 of_11_5 (Nat.le_of_ble_eq_true rfl) (by decide +kernel) wm_18 (Nat.le_of_ble_eq_true rfl) rfl (sn_gets (ci := 10) (j := 1) (off := 2) hst en_c10 of_10_2 (Nat.le_of_ble_eq_true rfl) (by decide +kernel) wm_73 (Nat.le_of_ble_eq_true rfl) rfl (sn_aload_n (i := 0) (n := 0) (by decide +kernel) rfl (sn_gets (ci := 11) (j := 3) (off := 15) hst en_c11 of_11_15 (Nat.le_of_ble_eq_true rfl) (by decide +kernel) wm_23 (Nat.le_of_ble_eq_true rfl) rfl (sn_geti (ci := 7) (j := 5) en_c7 (by decide +kernel) wm_123 (Nat.le_of_ble_eq_true rfl) rfl (sn_aload_n (i := 0) (n := 0) (by decide +kernel) rfl (sn_gets (ci := 11) (j := 3) (off := 15) hst en_c11 of_11_15 (Nat.le_of_ble_eq_true rfl) (by decide +kernel) wm_23 (Nat.le_of_ble_eq_true rfl) rfl (sn_geti (ci := 7) (j := 5) en_c7 (by decide +kernel) wm_123 (Nat.le_of_ble_eq_true rfl) rfl (sn_iload_n (i := 1) (n := 1) (by decide +kernel) rfl (sn_iadd (by decide +kernel) (sn_callVi (n := 2) (idx := 248) (ci := 0) (i_X0_sameChange G hst) (Nat.le_of_ble_eq_true rfl) cs_X0_sameChange ⟨wm_754, wm_755, wm_151⟩ ⟨⟨_, rfl, rfl⟩, (Nat.le_of_ble_eq_true rfl)⟩ (by decide +kernel) (sn_ifeq (off := 5) (tgt := 76) (by decide +kernel) rfl (s_X11_lead_76 G hst kc hk) (sn_iload_n (i := 1) (n := 1) (by decide +kernel) rfl (sn_iret (by decide +kernel) rfl))))))))))))))))))))))))))
noncomputable def B_X11_lead_13 (kc : Nat → en_B) : en_B := (op_aload 0 (op_const (200 : Int32) (op_rcv 11 1 (op_callv O_X11_lookAhead 2 (op_const (1 : Int32) (op_istore 1 (kc 22)))))))
set_option maxRecDepth 20000 in
theorem s_X11_lead_13 (G : en_G) (hst : G.2.2.2.2.2 = true) (kc : Nat → en_B) (hk : ∀ t, en_Snd G M_X11_lead t (kc t)) : en_Snd G M_X11_lead 13 (B_X11_lead_13 kc) := (sn_aload_n (i := 0) (n := 0) (by decide +kernel) rfl (sn_sipush (n := 200) (v := 200) (by decide +kernel) rfl (sn_callVv (n := 1) (idx := 242) (ci := 11) (i_X11_lookAhead G hst) (Nat.le_of_ble_eq_true rfl) cs_X11_lookAhead ⟨wm_287, wm_288, wm_143⟩ ⟨⟨_, rfl, rfl⟩, (Nat.le_of_ble_eq_true rfl)⟩ (by decide +kernel) (sn_iconst (n := 1) (v := 1) (by decide +kernel) rfl (sn_istore_n (i := 1) (n := 1) (by decide +kernel) rfl (Nat.le_of_ble_eq_true rfl) (hk 22))))))
noncomputable def B_X11_lead_0 (kc : Nat → en_B) : en_B := (op_aload 0 (op_gets 11 5 (10, 0, 0) (op_geti 10 3 (op_ifeq (op_const (-2 : Int32) op_iret) (B_X11_lead_13 kc)))))
set_option maxRecDepth 20000 in
theorem s_X11_lead_0 (G : en_G) (hst : G.2.2.2.2.2 = true) (kc : Nat → en_B) (hk : ∀ t, en_Snd G M_X11_lead t (kc t)) : en_Snd G M_X11_lead 0 (B_X11_lead_0 kc) := (sn_aload_n (i := 0) (n := 0) (by decide +kernel) rfl (sn_gets (ci := 11) (j := 2) (off := 5) hst en_c11 of_11_5 (Nat.le_of_ble_eq_true rfl) (by decide +kernel) wm_18 (Nat.le_of_ble_eq_true rfl) rfl (sn_geti (ci := 10) (j := 3) en_c10 (by decide +kernel) wm_74 (Nat.le_of_ble_eq_true rfl) rfl (sn_ifne (off := 6) (tgt := 13) (by decide +kernel) rfl (s_X11_lead_13 G hst kc hk) (sn_bipush (n := -2) (v := -2) (by decide +kernel) rfl (sn_iret (by decide +kernel) rfl))))))
noncomputable def LK_X11_lead : Nat → Nat → en_B
  | 0, _ => en_no
  | n + 1, t => if t = 22 then B_X11_lead_22 (LK_X11_lead n) else en_no
theorem l_X11_lead (G : en_G) (hst : G.2.2.2.2.2 = true) : ∀ n t, en_Snd G M_X11_lead t (LK_X11_lead n t)
  | 0, _ => sn_no
  | n + 1, t => by
    show en_Snd G M_X11_lead t (if t = 22 then B_X11_lead_22 (LK_X11_lead n) else en_no)
    by_cases h_22 : t = 22
    · rw [if_pos h_22, h_22]; exact s_X11_lead_22 G hst _ (l_X11_lead G hst n)
    rw [if_neg h_22]
    exact sn_no
noncomputable def T_X11_lead_0 (σ : en_M) : en_R := B_X11_lead_0 (LK_X11_lead en_FU) [.inr (0, 11, 0, 0), en_un] [] en_zz σ
noncomputable def T_X11_lead_22 (n : Nat) (x1 : Int32) (σ : en_M) : en_R := LK_X11_lead n 22 [.inr (0, 11, 0, 0), .inl x1] [] en_zz σ
set_option maxRecDepth 400000 in
set_option maxHeartbeats 4000000 in
theorem t_X11_lead_0 (σ : en_M) : T_X11_lead_0 σ = (if (σ 5 3) = 0 then (en_ri (-2 : Int32) σ) else ((O_X11_lookAhead [.inr (0, 11, 0, 0), .inl (200 : Int32)] σ).bind fun r1 => T_X11_lead_22 en_FU (1 : Int32) r1)) := rfl
set_option maxRecDepth 400000 in
set_option maxHeartbeats 4000000 in
theorem t_X11_lead_22 (n : Nat) (x1 : Int32) (σ : en_M) : T_X11_lead_22 (n + 1) x1 σ = (if (200 : Int32) < x1 then (en_ri (-2 : Int32) σ) else ((en_ix x1 201).bind fun j2 => if (σ 182 j2) = (σ 15 4) then ((O_X0_sameChange [.inr (7, 0, 0, 0), .inl (σ 15 5), .inl ((σ 15 5) + x1)] σ).bind fun r3 => if r3.1 = 0 then (T_X11_lead_22 n (x1 + (1 : Int32)) r3.2) else (en_ri x1 r3.2)) else (T_X11_lead_22 n (x1 + (1 : Int32)) σ))) := rfl
noncomputable def P_X11_lead : List en_V → en_M → Option (Int32 × en_M) := fun av σ => match av with
  | [.inr (0, 11, 0, 0)] => en_oi (T_X11_lead_0 σ)
  | _ => none
theorem ox_X11_lead : ∃ f, f = P_X11_lead := ⟨_, rfl⟩
noncomputable def O_X11_lead : List en_V → en_M → Option (Int32 × en_M) := Classical.choose ox_X11_lead
theorem oe_X11_lead : O_X11_lead = P_X11_lead := Classical.choose_spec ox_X11_lead
theorem o_X11_lead (σ : en_M) : O_X11_lead [.inr (0, 11, 0, 0)] σ = en_oi (T_X11_lead_0 σ) := by rw [oe_X11_lead]; rfl
theorem i_X11_lead (G : en_G) (hst : G.2.2.2.2.2 = true) : en_I G 5 yX11_lead cX11_lead 2 (some .int) 0 0 (en_wi (O_X11_lead)) := en_of_i (M := M_X11_lead) hst (s_X11_lead_0 G hst _ (l_X11_lead G hst en_FU)) (plainFor_of_name (by decide +kernel)) rfl rfl rfl (Or.inl ⟨rfl, rfl⟩) (fun av σ x σ' h => by
  rw [oe_X11_lead] at h; unfold P_X11_lead at h
  split at h
  · exact ⟨(Nat.le_of_ble_eq_true rfl), en_oi_some h⟩
  · cases h)
-- EachMayMissOne.leads(II)I
def M_X11_leads : en_Me := (cX11_leads, RX11, 6, false, 5, false)
theorem cs_X11_leads : en_cs yX11_leads cX11_leads 6 (some .int) 2 := ⟨wm_152, wm_2, ⟨(by decide +kernel), (by decide +kernel), (by decide +kernel)⟩, (Nat.le_of_ble_eq_true rfl)⟩
noncomputable def B_X11_leads_106 (kc : Nat → en_B) : en_B := (op_aload 0 (op_gets 11 3 (9, 0, 0) (op_rcv 9 0 (op_callv O_X9_begin 1 (op_aload 0 (op_gets 11 3 (9, 0, 0) (op_iload 4 (op_rcv 9 1 (op_callv O_X9_add 2 (op_iload 3 op_iret))))))))))
set_option maxRecDepth 20000 in
theorem s_X11_leads_106 (G : en_G) (hst : G.2.2.2.2.2 = true) (kc : Nat → en_B) (hk : ∀ t, en_Snd G M_X11_leads t (kc t)) : en_Snd G M_X11_leads 106 (B_X11_leads_106 kc) := (sn_aload_n (i := 0) (n := 0) (by decide +kernel) rfl (sn_gets (ci := 11) (j := 1) (off := 3) hst en_c11 of_11_3 (Nat.le_of_ble_eq_true rfl) (by decide +kernel) wm_13 (Nat.le_of_ble_eq_true rfl) rfl (sn_callVv (n := 0) (idx := 205) (ci := 9) (i_X9_begin G hst) (Nat.le_of_ble_eq_true rfl) cs_X9_begin ⟨wm_1086, wm_1087, wm_115⟩ ⟨⟨_, rfl, rfl⟩, (Nat.le_of_ble_eq_true rfl)⟩ (by decide +kernel) (sn_aload_n (i := 0) (n := 0) (by decide +kernel) rfl (sn_gets (ci := 11) (j := 1) (off := 3) hst en_c11 of_11_3 (Nat.le_of_ble_eq_true rfl) (by decide +kernel) wm_13 (Nat.le_of_ble_eq_true rfl) rfl (sn_iload (i := 4) (by decide +kernel) (sn_callVv (n := 1) (idx := 209) (ci := 9) (i_X9_add G hst) (Nat.le_of_ble_eq_true rfl) cs_X9_add ⟨wm_1090, wm_1091, wm_117⟩ ⟨⟨_, rfl, rfl⟩, (Nat.le_of_ble_eq_true rfl)⟩ (by decide +kernel) (sn_iload_n (i := 3) (n := 3) (by decide +kernel) rfl (sn_iret (by decide +kernel) rfl)))))))))
noncomputable def B_X11_leads_98 (kc : Nat → en_B) : en_B := (op_iload 3 (op_const (-1 : Int32) (op_iceq (op_const (-2 : Int32) op_iret) (B_X11_leads_106 kc))))
set_option maxRecDepth 20000 in
theorem s_X11_leads_98 (G : en_G) (hst : G.2.2.2.2.2 = true) (kc : Nat → en_B) (hk : ∀ t, en_Snd G M_X11_leads t (kc t)) : en_Snd G M_X11_leads 98 (B_X11_leads_98 kc) := (sn_iload_n (i := 3) (n := 3) (by decide +kernel) rfl (sn_iconst (n := -1) (v := -1) (by decide +kernel) rfl (sn_icne (off := 6) (tgt := 106) (by decide +kernel) rfl (s_X11_leads_106 G hst kc hk) (sn_bipush (n := -2) (v := -2) (by decide +kernel) rfl (sn_iret (by decide +kernel) rfl)))))
noncomputable def B_X11_leads_92 (kc : Nat → en_B) : en_B := (op_iinc 5 (1 : Int32) (kc 39))
set_option maxRecDepth 20000 in
theorem s_X11_leads_92 (G : en_G) (hst : G.2.2.2.2.2 = true) (kc : Nat → en_B) (hk : ∀ t, en_Snd G M_X11_leads t (kc t)) : en_Snd G M_X11_leads 92 (B_X11_leads_92 kc) := (sn_iinc (i := 5) (n := 1) (v := 1) (by decide +kernel) rfl (sn_goto (off := -56) (tgt := 39) (by decide +kernel) rfl (hk 39)))
noncomputable def B_X11_leads_89 (kc : Nat → en_B) : en_B := (op_bin (fun (x y : Int32) => x + y) (op_istore 4 (B_X11_leads_92 kc)))
set_option maxRecDepth 20000 in
theorem s_X11_leads_89 (G : en_G) (hst : G.2.2.2.2.2 = true) (kc : Nat → en_B) (hk : ∀ t, en_Snd G M_X11_leads t (kc t)) : en_Snd G M_X11_leads 89 (B_X11_leads_89 kc) := (sn_iadd (by decide +kernel) (sn_istore (i := 4) (by decide +kernel) (Nat.le_of_ble_eq_true rfl) (s_X11_leads_92 G hst kc hk)))
noncomputable def B_X11_leads_88 (kc : Nat → en_B) : en_B := (op_const (0 : Int32) (B_X11_leads_89 kc))
set_option maxRecDepth 20000 in
theorem s_X11_leads_88 (G : en_G) (hst : G.2.2.2.2.2 = true) (kc : Nat → en_B) (hk : ∀ t, en_Snd G M_X11_leads t (kc t)) : en_Snd G M_X11_leads 88 (B_X11_leads_88 kc) := (sn_iconst (n := 0) (v := 0) (by decide +kernel) rfl (s_X11_leads_89 G hst kc hk))
noncomputable def B_X11_leads_73 (kc : Nat → en_B) : en_B := (op_istore 3 (op_iload 4 (op_iload 5 (op_const (200 : Int32) (op_iclt (op_const (1 : Int32) (B_X11_leads_89 kc)) (B_X11_leads_88 kc))))))
set_option maxRecDepth 20000 in
theorem s_X11_leads_73 (G : en_G) (hst : G.2.2.2.2.2 = true) (kc : Nat → en_B) (hk : ∀ t, en_Snd G M_X11_leads t (kc t)) : en_Snd G M_X11_leads 73 (B_X11_leads_73 kc) := (sn_istore_n (i := 3) (n := 3) (by decide +kernel) rfl (Nat.le_of_ble_eq_true rfl) (sn_iload (i := 4) (by decide +kernel) (sn_iload (i := 5) (by decide +kernel) (sn_sipush (n := 200) (v := 200) (by decide +kernel) rfl (sn_icge (off := 7) (tgt := 88) (by decide +kernel) rfl (s_X11_leads_88 G hst kc hk) (sn_iconst (n := 1) (v := 1) (by decide +kernel) rfl (sn_goto (off := 4) (tgt := 89) (by decide +kernel) rfl (s_X11_leads_89 G hst kc hk))))))))
noncomputable def B_X11_leads_72 (kc : Nat → en_B) : en_B := (op_iload 3 (B_X11_leads_73 kc))
set_option maxRecDepth 20000 in
theorem s_X11_leads_72 (G : en_G) (hst : G.2.2.2.2.2 = true) (kc : Nat → en_B) (hk : ∀ t, en_Snd G M_X11_leads t (kc t)) : en_Snd G M_X11_leads 72 (B_X11_leads_72 kc) := (sn_iload_n (i := 3) (n := 3) (by decide +kernel) rfl (s_X11_leads_73 G hst kc hk))
noncomputable def B_X11_leads_39 (kc : Nat → en_B) : en_B := (op_iload 5 (op_const (200 : Int32) (op_icgt (B_X11_leads_98 kc) (op_aload 0 (op_gets 11 182 (20, 201, 0) (op_iload 5 (op_ald 20 (op_iload 2 (op_calli O_X11_bellAt 2 (op_iload 1 (op_iceq (op_iload 3 (op_const (-1 : Int32) (op_iceq (op_iload 5 (B_X11_leads_73 kc)) (B_X11_leads_72 kc)))) (B_X11_leads_92 kc))))))))))))
set_option maxRecDepth 20000 in
theorem s_X11_leads_39 (G : en_G) (hst : G.2.2.2.2.2 = true) (kc : Nat → en_B) (hk : ∀ t, en_Snd G M_X11_leads t (kc t)) : en_Snd G M_X11_leads 39 (B_X11_leads_39 kc) := (sn_iload (i := 5) (by decide +kernel) (sn_sipush (n := 200) (v := 200) (by decide +kernel) rfl (sn_icgt (off := 54) (tgt := 98) (by decide +kernel) rfl (s_X11_leads_98 G hst kc hk) (sn_aload_n (i := 0) (n := 0) (by decide +kernel) rfl (sn_gets (ci := 11) (j := 10) (off := 182) hst en_c11 of_11_182 (Nat.le_of_ble_eq_true rfl) (by decide +kernel) wm_50 (Nat.le_of_ble_eq_true rfl) rfl (sn_iload (i := 5) (by decide +kernel) (sn_iald (by decide +kernel) (sn_iload_n (i := 2) (n := 2) (by decide +kernel) rfl (sn_callSi (n := 2) (idx := 174) (i_X11_bellAt G hst) (Nat.le_of_ble_eq_true rfl) cs_X11_bellAt ⟨wm_276, Or.inl wm_97⟩ (by decide +kernel) (sn_iload_n (i := 1) (n := 1) (by decide +kernel) rfl (sn_icne (off := 33) (tgt := 92) (by decide +kernel) rfl (s_X11_leads_92 G hst kc hk) (sn_iload_n (i := 3) (n := 3) (by decide +kernel) rfl (sn_iconst (n := -1) (v := -1) (by decide +kernel) rfl (sn_icne (off := 8) (tgt := 72) (by decide +kernel) rfl (s_X11_leads_72 G hst kc hk) (sn_iload (i := 5) (by decide +kernel) (sn_goto (off := 4) (tgt := 73) (by decide +kernel) rfl (s_X11_leads_73 G hst kc hk)))))))))))))))))
noncomputable def B_X11_leads_24 (kc : Nat → en_B) : en_B := (op_aload 0 (op_const (200 : Int32) (op_rcv 11 1 (op_callv O_X11_lookAhead 2 (op_const (-1 : Int32) (op_istore 3 (op_const (0 : Int32) (op_istore 4 (op_const (0 : Int32) (op_istore 5 (kc 39)))))))))))
set_option maxRecDepth 20000 in
theorem s_X11_leads_24 (G : en_G) (hst : G.2.2.2.2.2 = true) (kc : Nat → en_B) (hk : ∀ t, en_Snd G M_X11_leads t (kc t)) : en_Snd G M_X11_leads 24 (B_X11_leads_24 kc) := (sn_aload_n (i := 0) (n := 0) (by decide +kernel) rfl (sn_sipush (n := 200) (v := 200) (by decide +kernel) rfl (sn_callVv (n := 1) (idx := 242) (ci := 11) (i_X11_lookAhead G hst) (Nat.le_of_ble_eq_true rfl) cs_X11_lookAhead ⟨wm_287, wm_288, wm_143⟩ ⟨⟨_, rfl, rfl⟩, (Nat.le_of_ble_eq_true rfl)⟩ (by decide +kernel) (sn_iconst (n := -1) (v := -1) (by decide +kernel) rfl (sn_istore_n (i := 3) (n := 3) (by decide +kernel) rfl (Nat.le_of_ble_eq_true rfl) (sn_iconst (n := 0) (v := 0) (by decide +kernel) rfl (sn_istore (i := 4) (by decide +kernel) (Nat.le_of_ble_eq_true rfl) (sn_iconst (n := 0) (v := 0) (by decide +kernel) rfl (sn_istore (i := 5) (by decide +kernel) (Nat.le_of_ble_eq_true rfl) (hk 39))))))))))
noncomputable def B_X11_leads_22 (kc : Nat → en_B) : en_B := (op_const (-1 : Int32) op_iret)
set_option maxRecDepth 20000 in
theorem s_X11_leads_22 (G : en_G) (hst : G.2.2.2.2.2 = true) (kc : Nat → en_B) (hk : ∀ t, en_Snd G M_X11_leads t (kc t)) : en_Snd G M_X11_leads 22 (B_X11_leads_22 kc) := (sn_iconst (n := -1) (v := -1) (by decide +kernel) rfl (sn_iret (by decide +kernel) rfl))
noncomputable def B_X11_leads_0 (kc : Nat → en_B) : en_B := (op_aload 0 (op_gets 11 5 (10, 0, 0) (op_iload 1 (op_rcv 10 1 (op_calli O_X10_hasRinger 2 (op_ifeq (B_X11_leads_22 kc) (op_aload 0 (op_gets 11 5 (10, 0, 0) (op_iload 2 (op_rcv 10 1 (op_calli O_X10_hasRinger 2 (op_ifeq (B_X11_leads_22 kc) (B_X11_leads_24 kc)))))))))))))
set_option maxRecDepth 20000 in
theorem s_X11_leads_0 (G : en_G) (hst : G.2.2.2.2.2 = true) (kc : Nat → en_B) (hk : ∀ t, en_Snd G M_X11_leads t (kc t)) : en_Snd G M_X11_leads 0 (B_X11_leads_0 kc) := (sn_aload_n (i := 0) (n := 0) (by decide +kernel) rfl (sn_gets (ci := 11) (j := 2) (off := 5) hst en_c11 of_11_5 (Nat.le_of_ble_eq_true rfl) (by decide +kernel) wm_18 (Nat.le_of_ble_eq_true rfl) rfl (sn_iload_n (i := 1) (n := 1) (by decide +kernel) rfl (sn_callVi (n := 1) (idx := 131) (ci := 10) (i_X10_hasRinger G hst) (Nat.le_of_ble_eq_true rfl) cs_X10_hasRinger ⟨wm_1115, wm_1116, wm_84⟩ ⟨⟨_, rfl, rfl⟩, (Nat.le_of_ble_eq_true rfl)⟩ (by decide +kernel) (sn_ifeq (off := 14) (tgt := 22) (by decide +kernel) rfl (s_X11_leads_22 G hst kc hk) (sn_aload_n (i := 0) (n := 0) (by decide +kernel) rfl (sn_gets (ci := 11) (j := 2) (off := 5) hst en_c11 of_11_5 (Nat.le_of_ble_eq_true rfl) (by decide +kernel) wm_18 (Nat.le_of_ble_eq_true rfl) rfl (sn_iload_n (i := 2) (n := 2) (by decide +kernel) rfl (sn_callVi (n := 1) (idx := 131) (ci := 10) (i_X10_hasRinger G hst) (Nat.le_of_ble_eq_true rfl) cs_X10_hasRinger ⟨wm_1115, wm_1116, wm_84⟩ ⟨⟨_, rfl, rfl⟩, (Nat.le_of_ble_eq_true rfl)⟩ (by decide +kernel) (sn_ifne (off := 5) (tgt := 24) (by decide +kernel) rfl (s_X11_leads_24 G hst kc hk) (s_X11_leads_22 G hst kc hk)))))))))))
noncomputable def LK_X11_leads : Nat → Nat → en_B
  | 0, _ => en_no
  | n + 1, t => if t = 39 then B_X11_leads_39 (LK_X11_leads n) else en_no
theorem l_X11_leads (G : en_G) (hst : G.2.2.2.2.2 = true) : ∀ n t, en_Snd G M_X11_leads t (LK_X11_leads n t)
  | 0, _ => sn_no
  | n + 1, t => by
    show en_Snd G M_X11_leads t (if t = 39 then B_X11_leads_39 (LK_X11_leads n) else en_no)
    by_cases h_39 : t = 39
    · rw [if_pos h_39, h_39]; exact s_X11_leads_39 G hst _ (l_X11_leads G hst n)
    rw [if_neg h_39]
    exact sn_no
noncomputable def T_X11_leads_0 (x1 : Int32) (x2 : Int32) (σ : en_M) : en_R := B_X11_leads_0 (LK_X11_leads en_FU) [.inr (0, 11, 0, 0), .inl x1, .inl x2, en_un, en_un, en_un] [] en_zz σ
noncomputable def T_X11_leads_39 (n : Nat) (x1 : Int32) (x2 : Int32) (x3 : Int32) (x4 : Int32) (x5 : Int32) (σ : en_M) : en_R := LK_X11_leads n 39 [.inr (0, 11, 0, 0), .inl x1, .inl x2, .inl x3, .inl x4, .inl x5] [] en_zz σ
set_option maxRecDepth 400000 in
set_option maxHeartbeats 4000000 in
theorem t_X11_leads_0 (x1 : Int32) (x2 : Int32) (σ : en_M) : T_X11_leads_0 x1 x2 σ = ((O_X10_hasRinger [.inr (5, 10, 0, 0), .inl x1] σ).bind fun r1 => if r1.1 = 0 then (en_ri (-1 : Int32) r1.2) else ((O_X10_hasRinger [.inr (5, 10, 0, 0), .inl x2] r1.2).bind fun r2 => if r2.1 = 0 then (en_ri (-1 : Int32) r2.2) else ((O_X11_lookAhead [.inr (0, 11, 0, 0), .inl (200 : Int32)] r2.2).bind fun r3 => T_X11_leads_39 en_FU x1 x2 (-1 : Int32) (0 : Int32) (0 : Int32) r3))) := rfl
set_option maxRecDepth 400000 in
set_option maxHeartbeats 4000000 in
theorem t_X11_leads_39 (n : Nat) (x1 : Int32) (x2 : Int32) (x3 : Int32) (x4 : Int32) (x5 : Int32) (σ : en_M) : T_X11_leads_39 (n + 1) x1 x2 x3 x4 x5 σ = (if (200 : Int32) < x5 then (if x3 = (-1 : Int32) then (en_ri (-2 : Int32) σ) else ((O_X9_begin [.inr (3, 9, 0, 0)] σ).bind fun r4 => (O_X9_add [.inr (3, 9, 0, 0), .inl x4] r4).bind fun r5 => en_ri x3 r5)) else ((en_ix x5 201).bind fun j6 => (O_X11_bellAt [.inl (σ 182 j6), .inl x2] σ).bind fun r7 => if r7.1 = x1 then (if x3 = (-1 : Int32) then (if x5 < (200 : Int32) then (T_X11_leads_39 n x1 x2 x5 (x4 + (1 : Int32)) (x5 + (1 : Int32)) r7.2) else (T_X11_leads_39 n x1 x2 x5 (x4 + (0 : Int32)) (x5 + (1 : Int32)) r7.2)) else (if x5 < (200 : Int32) then (T_X11_leads_39 n x1 x2 x3 (x4 + (1 : Int32)) (x5 + (1 : Int32)) r7.2) else (T_X11_leads_39 n x1 x2 x3 (x4 + (0 : Int32)) (x5 + (1 : Int32)) r7.2))) else (T_X11_leads_39 n x1 x2 x3 x4 (x5 + (1 : Int32)) r7.2))) := rfl
noncomputable def P_X11_leads : List en_V → en_M → Option (Int32 × en_M) := fun av σ => match av with
  | [.inr (0, 11, 0, 0), .inl x1, .inl x2] => en_oi (T_X11_leads_0 x1 x2 σ)
  | _ => none
theorem ox_X11_leads : ∃ f, f = P_X11_leads := ⟨_, rfl⟩
noncomputable def O_X11_leads : List en_V → en_M → Option (Int32 × en_M) := Classical.choose ox_X11_leads
theorem oe_X11_leads : O_X11_leads = P_X11_leads := Classical.choose_spec ox_X11_leads
theorem o_X11_leads (x1 : Int32) (x2 : Int32) (σ : en_M) : O_X11_leads [.inr (0, 11, 0, 0), .inl x1, .inl x2] σ = en_oi (T_X11_leads_0 x1 x2 σ) := by rw [oe_X11_leads]; rfl
theorem i_X11_leads (G : en_G) (hst : G.2.2.2.2.2 = true) : en_I G 5 yX11_leads cX11_leads 6 (some .int) 0 0 (en_wi (O_X11_leads)) := en_of_i (M := M_X11_leads) hst (s_X11_leads_0 G hst _ (l_X11_leads G hst en_FU)) (plainFor_of_name (by decide +kernel)) rfl rfl rfl (Or.inl ⟨rfl, rfl⟩) (fun av σ x σ' h => by
  rw [oe_X11_leads] at h; unfold P_X11_leads at h
  split at h
  · exact ⟨(Nat.le_of_ble_eq_true rfl), en_oi_some h⟩
  · cases h)
-- EachMayMissOne.readOrder()I
def M_X11_readOrder : en_Me := (cX11_readOrder, RX11, 5, false, 3, false)
theorem cs_X11_readOrder : en_cs yX11_readOrder cX11_readOrder 5 (some .int) 0 := ⟨wm_316, wm_2, ⟨(by decide +kernel), (by decide +kernel), (by decide +kernel)⟩, (Nat.le_of_ble_eq_true rfl)⟩
noncomputable def B_X11_readOrder_126 (kc : Nat → en_B) : en_B := op_iret
set_option maxRecDepth 20000 in
theorem s_X11_readOrder_126 (G : en_G) (hst : G.2.2.2.2.2 = true) (kc : Nat → en_B) (hk : ∀ t, en_Snd G M_X11_readOrder t (kc t)) : en_Snd G M_X11_readOrder 126 (B_X11_readOrder_126 kc) := (sn_iret (by decide +kernel) rfl)
noncomputable def B_X11_readOrder_116 (kc : Nat → en_B) : en_B := (op_aload 0 (op_gets 11 5 (10, 0, 0) (op_geti 10 3 (op_calli O_X11_cannotStand 1 (B_X11_readOrder_126 kc)))))
set_option maxRecDepth 20000 in
theorem s_X11_readOrder_116 (G : en_G) (hst : G.2.2.2.2.2 = true) (kc : Nat → en_B) (hk : ∀ t, en_Snd G M_X11_readOrder t (kc t)) : en_Snd G M_X11_readOrder 116 (B_X11_readOrder_116 kc) := (sn_aload_n (i := 0) (n := 0) (by decide +kernel) rfl (sn_gets (ci := 11) (j := 2) (off := 5) hst en_c11 of_11_5 (Nat.le_of_ble_eq_true rfl) (by decide +kernel) wm_18 (Nat.le_of_ble_eq_true rfl) rfl (sn_geti (ci := 10) (j := 3) en_c10 (by decide +kernel) wm_74 (Nat.le_of_ble_eq_true rfl) rfl (sn_callSi (n := 1) (idx := 377) (i_X11_cannotStand G hst) (Nat.le_of_ble_eq_true rfl) cs_X11_cannotStand ⟨wm_274, Or.inl wm_321⟩ (by decide +kernel) (s_X11_readOrder_126 G hst kc hk)))))
noncomputable def B_X11_readOrder_87 (kc : Nat → en_B) : en_B := (op_aload 0 (op_gets 11 1 (8, 0, 0) (op_aload 0 (op_gets 11 5 (10, 0, 0) (op_geti 10 3 (op_aload 0 (op_gets 11 5 (10, 0, 0) (op_geti 10 3 (op_rcv 8 2 (op_calli O_X8_at 3 (op_const (-1 : Int32) (op_iceq (op_iload 1 (B_X11_readOrder_126 kc)) (B_X11_readOrder_116 kc)))))))))))))
set_option maxRecDepth 20000 in
theorem s_X11_readOrder_87 (G : en_G) (hst : G.2.2.2.2.2 = true) (kc : Nat → en_B) (hk : ∀ t, en_Snd G M_X11_readOrder t (kc t)) : en_Snd G M_X11_readOrder 87 (B_X11_readOrder_87 kc) := (sn_aload_n (i := 0) (n := 0) (by decide +kernel) rfl (sn_gets (ci := 11) (j := 0) (off := 1) hst en_c11 of_11_1 (Nat.le_of_ble_eq_true rfl) (by decide +kernel) wm_8 (Nat.le_of_ble_eq_true rfl) rfl (sn_aload_n (i := 0) (n := 0) (by decide +kernel) rfl (sn_gets (ci := 11) (j := 2) (off := 5) hst en_c11 of_11_5 (Nat.le_of_ble_eq_true rfl) (by decide +kernel) wm_18 (Nat.le_of_ble_eq_true rfl) rfl (sn_geti (ci := 10) (j := 3) en_c10 (by decide +kernel) wm_74 (Nat.le_of_ble_eq_true rfl) rfl (sn_aload_n (i := 0) (n := 0) (by decide +kernel) rfl (sn_gets (ci := 11) (j := 2) (off := 5) hst en_c11 of_11_5 (Nat.le_of_ble_eq_true rfl) (by decide +kernel) wm_18 (Nat.le_of_ble_eq_true rfl) rfl (sn_geti (ci := 10) (j := 3) en_c10 (by decide +kernel) wm_74 (Nat.le_of_ble_eq_true rfl) rfl (sn_callVi (n := 2) (idx := 374) (ci := 8) (i_X8_at G hst) (Nat.le_of_ble_eq_true rfl) cs_X8_at ⟨wm_1079, wm_1080, wm_320⟩ ⟨⟨_, rfl, rfl⟩, (Nat.le_of_ble_eq_true rfl)⟩ (by decide +kernel) (sn_iconst (n := -1) (v := -1) (by decide +kernel) rfl (sn_icne (off := 7) (tgt := 116) (by decide +kernel) rfl (s_X11_readOrder_116 G hst kc hk) (sn_iload_n (i := 1) (n := 1) (by decide +kernel) rfl (sn_goto (off := 13) (tgt := 126) (by decide +kernel) rfl (s_X11_readOrder_126 G hst kc hk))))))))))))))
noncomputable def B_X11_readOrder_66 (kc : Nat → en_B) : en_B := (op_iload 2 (op_const (1 : Int32) (op_iload 4 (op_bin en_shl (op_bin (fun (x y : Int32) => x ||| y) (op_istore 2 (op_iload 1 (op_iload 3 (op_iload 4 (op_calli O_X11_withBell 3 (op_istore 1 (op_iinc 3 (1 : Int32) (kc 8)))))))))))))
set_option maxRecDepth 20000 in
theorem s_X11_readOrder_66 (G : en_G) (hst : G.2.2.2.2.2 = true) (kc : Nat → en_B) (hk : ∀ t, en_Snd G M_X11_readOrder t (kc t)) : en_Snd G M_X11_readOrder 66 (B_X11_readOrder_66 kc) := (sn_iload_n (i := 2) (n := 2) (by decide +kernel) rfl (sn_iconst (n := 1) (v := 1) (by decide +kernel) rfl (sn_iload (i := 4) (by decide +kernel) (sn_ishl (by decide +kernel) (sn_ior (by decide +kernel) (sn_istore_n (i := 2) (n := 2) (by decide +kernel) rfl (Nat.le_of_ble_eq_true rfl) (sn_iload_n (i := 1) (n := 1) (by decide +kernel) rfl (sn_iload_n (i := 3) (n := 3) (by decide +kernel) rfl (sn_iload (i := 4) (by decide +kernel) (sn_callSi (n := 3) (idx := 351) (i_X11_withBell G hst) (Nat.le_of_ble_eq_true rfl) cs_X11_withBell ⟨wm_278, Or.inl wm_283⟩ (by decide +kernel) (sn_istore_n (i := 1) (n := 1) (by decide +kernel) rfl (Nat.le_of_ble_eq_true rfl) (sn_iinc (i := 3) (n := 1) (v := 1) (by decide +kernel) rfl (sn_goto (off := -76) (tgt := 8) (by decide +kernel) rfl (hk 8))))))))))))))
noncomputable def B_X11_readOrder_61 (kc : Nat → en_B) : en_B := (op_iload 3 (op_calli O_X11_cannotStand 1 op_iret))
set_option maxRecDepth 20000 in
theorem s_X11_readOrder_61 (G : en_G) (hst : G.2.2.2.2.2 = true) (kc : Nat → en_B) (hk : ∀ t, en_Snd G M_X11_readOrder t (kc t)) : en_Snd G M_X11_readOrder 61 (B_X11_readOrder_61 kc) := (sn_iload_n (i := 3) (n := 3) (by decide +kernel) rfl (sn_callSi (n := 1) (idx := 377) (i_X11_cannotStand G hst) (Nat.le_of_ble_eq_true rfl) cs_X11_cannotStand ⟨wm_274, Or.inl wm_321⟩ (by decide +kernel) (sn_iret (by decide +kernel) rfl)))
noncomputable def B_X11_readOrder_8 (kc : Nat → en_B) : en_B := (op_iload 3 (op_aload 0 (op_gets 11 5 (10, 0, 0) (op_geti 10 3 (op_iclt (op_aload 0 (op_gets 11 1 (8, 0, 0) (op_iload 3 (op_aload 0 (op_gets 11 5 (10, 0, 0) (op_geti 10 3 (op_rcv 8 2 (op_calli O_X8_at 3 (op_const (97 : Int32) (op_bin (fun (x y : Int32) => x - y) (op_istore 4 (op_aload 0 (op_gets 11 5 (10, 0, 0) (op_iload 4 (op_rcv 10 1 (op_calli O_X10_hasRinger 2 (op_ifeq (B_X11_readOrder_61 kc) (op_iload 2 (op_iload 4 (op_calli O_X11_bit 2 (op_const (1 : Int32) (op_iceq (B_X11_readOrder_61 kc) (B_X11_readOrder_66 kc))))))))))))))))))))))) (B_X11_readOrder_87 kc))))))
set_option maxRecDepth 20000 in
theorem s_X11_readOrder_8 (G : en_G) (hst : G.2.2.2.2.2 = true) (kc : Nat → en_B) (hk : ∀ t, en_Snd G M_X11_readOrder t (kc t)) : en_Snd G M_X11_readOrder 8 (B_X11_readOrder_8 kc) := (sn_iload_n (i := 3) (n := 3) (by decide +kernel) rfl (sn_aload_n (i := 0) (n := 0) (by decide +kernel) rfl (sn_gets (ci := 11) (j := 2) (off := 5) hst en_c11 of_11_5 (Nat.le_of_ble_eq_true rfl) (by decide +kernel) wm_18 (Nat.le_of_ble_eq_true rfl) rfl (sn_geti (ci := 10) (j := 3) en_c10 (by decide +kernel) wm_74 (Nat.le_of_ble_eq_true rfl) rfl (sn_icge (off := 71) (tgt := 87) (by decide +kernel) rfl (s_X11_readOrder_87 G hst kc hk) (sn_aload_n (i := 0) (n := 0) (by decide +kernel) rfl (sn_gets (ci := 11) (j := 0) (off := 1) hst en_c11 of_11_1 (Nat.le_of_ble_eq_true rfl) (by decide +kernel) wm_8 (Nat.le_of_ble_eq_true rfl) rfl (sn_iload_n (i := 3) (n := 3) (by decide +kernel) rfl (sn_aload_n (i := 0) (n := 0) (by decide +kernel) rfl (sn_gets (ci := 11) (j := 2) (off := 5) hst en_c11 of_11_5 (Nat.le_of_ble_eq_true rfl) (by decide +kernel) wm_18 (Nat.le_of_ble_eq_true rfl) rfl (sn_geti (ci := 10) (j := 3) en_c10 (by decide +kernel) wm_74 (Nat.le_of_ble_eq_true rfl) rfl (sn_callVi (n := 2) (idx := 374) (ci := 8) (i_X8_at G hst) (Nat.le_of_ble_eq_true rfl) cs_X8_at ⟨wm_1079, wm_1080, wm_320⟩ ⟨⟨_, rfl, rfl⟩, (Nat.le_of_ble_eq_true rfl)⟩ (by decide +kernel) (sn_bipush (n := 97) (v := 97) (by decide +kernel) rfl (sn_isub (by decide +kernel) (sn_istore (i := 4) (by decide +kernel) (Nat.le_of_ble_eq_true rfl) (sn_aload_n (i := 0) (n := 0) (by decide +kernel) rfl (sn_gets (ci := 11) (j := 2) (off := 5) hst en_c11 of_11_5 (Nat.le_of_ble_eq_true rfl) (by decide +kernel) wm_18 (Nat.le_of_ble_eq_true rfl) rfl (sn_iload (i := 4) (by decide +kernel) (sn_callVi (n := 1) (idx := 131) (ci := 10) (i_X10_hasRinger G hst) (Nat.le_of_ble_eq_true rfl) cs_X10_hasRinger ⟨wm_1115, wm_1116, wm_84⟩ ⟨⟨_, rfl, rfl⟩, (Nat.le_of_ble_eq_true rfl)⟩ (by decide +kernel) (sn_ifeq (off := 13) (tgt := 61) (by decide +kernel) rfl (s_X11_readOrder_61 G hst kc hk) (sn_iload_n (i := 2) (n := 2) (by decide +kernel) rfl (sn_iload (i := 4) (by decide +kernel) (sn_callSi (n := 2) (idx := 163) (i_X11_bit G hst) (Nat.le_of_ble_eq_true rfl) cs_X11_bit ⟨wm_257, Or.inl wm_92⟩ (by decide +kernel) (sn_iconst (n := 1) (v := 1) (by decide +kernel) rfl (sn_icne (off := 8) (tgt := 66) (by decide +kernel) rfl (s_X11_readOrder_66 G hst kc hk) (s_X11_readOrder_61 G hst kc hk))))))))))))))))))))))))))
noncomputable def B_X11_readOrder_0 (kc : Nat → en_B) : en_B := (op_calli O_X11_inPlaceOrder 0 (op_istore 1 (op_const (0 : Int32) (op_istore 2 (op_const (0 : Int32) (op_istore 3 (kc 8)))))))
set_option maxRecDepth 20000 in
theorem s_X11_readOrder_0 (G : en_G) (hst : G.2.2.2.2.2 = true) (kc : Nat → en_B) (hk : ∀ t, en_Snd G M_X11_readOrder t (kc t)) : en_Snd G M_X11_readOrder 0 (B_X11_readOrder_0 kc) := (sn_callSi (n := 0) (idx := 371) (i_X11_inPlaceOrder G hst) (Nat.le_of_ble_eq_true rfl) cs_X11_inPlaceOrder ⟨wm_282, Or.inl wm_319⟩ (by decide +kernel) (sn_istore_n (i := 1) (n := 1) (by decide +kernel) rfl (Nat.le_of_ble_eq_true rfl) (sn_iconst (n := 0) (v := 0) (by decide +kernel) rfl (sn_istore_n (i := 2) (n := 2) (by decide +kernel) rfl (Nat.le_of_ble_eq_true rfl) (sn_iconst (n := 0) (v := 0) (by decide +kernel) rfl (sn_istore_n (i := 3) (n := 3) (by decide +kernel) rfl (Nat.le_of_ble_eq_true rfl) (hk 8)))))))
noncomputable def LK_X11_readOrder : Nat → Nat → en_B
  | 0, _ => en_no
  | n + 1, t => if t = 8 then B_X11_readOrder_8 (LK_X11_readOrder n) else en_no
theorem l_X11_readOrder (G : en_G) (hst : G.2.2.2.2.2 = true) : ∀ n t, en_Snd G M_X11_readOrder t (LK_X11_readOrder n t)
  | 0, _ => sn_no
  | n + 1, t => by
    show en_Snd G M_X11_readOrder t (if t = 8 then B_X11_readOrder_8 (LK_X11_readOrder n) else en_no)
    by_cases h_8 : t = 8
    · rw [if_pos h_8, h_8]; exact s_X11_readOrder_8 G hst _ (l_X11_readOrder G hst n)
    rw [if_neg h_8]
    exact sn_no
noncomputable def T_X11_readOrder_0 (σ : en_M) : en_R := B_X11_readOrder_0 (LK_X11_readOrder en_FU) [.inr (0, 11, 0, 0), en_un, en_un, en_un, en_un] [] en_zz σ
noncomputable def T_X11_readOrder_8 (n : Nat) (x1 : Int32) (x2 : Int32) (x3 : Int32) (u4 : en_V) (σ : en_M) : en_R := LK_X11_readOrder n 8 [.inr (0, 11, 0, 0), .inl x1, .inl x2, .inl x3, u4] [] en_zz σ
set_option maxRecDepth 400000 in
set_option maxHeartbeats 4000000 in
theorem t_X11_readOrder_0 (σ : en_M) : T_X11_readOrder_0 σ = ((O_X11_inPlaceOrder [] σ).bind fun r1 => T_X11_readOrder_8 en_FU r1.1 (0 : Int32) (0 : Int32) (en_un) r1.2) := rfl
set_option maxRecDepth 400000 in
set_option maxHeartbeats 4000000 in
theorem t_X11_readOrder_8 (n : Nat) (x1 : Int32) (x2 : Int32) (x3 : Int32) (u4 : en_V) (σ : en_M) : T_X11_readOrder_8 (n + 1) x1 x2 x3 u4 σ = (if x3 < (σ 5 3) then ((O_X8_at [.inr (1, 8, 0, 0), .inl x3, .inl (σ 5 3)] σ).bind fun r4 => (O_X10_hasRinger [.inr (5, 10, 0, 0), .inl (r4.1 - (97 : Int32))] r4.2).bind fun r5 => if r5.1 = 0 then ((O_X11_cannotStand [.inl x3] r5.2).bind fun r6 => en_ri r6.1 r6.2) else ((O_X11_bit [.inl x2, .inl (r4.1 - (97 : Int32))] r5.2).bind fun r7 => if r7.1 = (1 : Int32) then ((O_X11_cannotStand [.inl x3] r7.2).bind fun r9 => en_ri r9.1 r9.2) else ((O_X11_withBell [.inl x1, .inl x3, .inl (r4.1 - (97 : Int32))] r7.2).bind fun r8 => T_X11_readOrder_8 n r8.1 (x2 ||| (en_shl (1 : Int32) (r4.1 - (97 : Int32)))) (x3 + (1 : Int32)) (.inl (r4.1 - (97 : Int32))) r8.2))) else ((O_X8_at [.inr (1, 8, 0, 0), .inl (σ 5 3), .inl (σ 5 3)] σ).bind fun r2 => if r2.1 = (-1 : Int32) then (en_ri x1 r2.2) else ((O_X11_cannotStand [.inl (r2.2 5 3)] r2.2).bind fun r3 => en_ri r3.1 r3.2))) := rfl
noncomputable def P_X11_readOrder : List en_V → en_M → Option (Int32 × en_M) := fun av σ => match av with
  | [.inr (0, 11, 0, 0)] => en_oi (T_X11_readOrder_0 σ)
  | _ => none
theorem ox_X11_readOrder : ∃ f, f = P_X11_readOrder := ⟨_, rfl⟩
noncomputable def O_X11_readOrder : List en_V → en_M → Option (Int32 × en_M) := Classical.choose ox_X11_readOrder
theorem oe_X11_readOrder : O_X11_readOrder = P_X11_readOrder := Classical.choose_spec ox_X11_readOrder
theorem o_X11_readOrder (σ : en_M) : O_X11_readOrder [.inr (0, 11, 0, 0)] σ = en_oi (T_X11_readOrder_0 σ) := by rw [oe_X11_readOrder]; rfl
theorem i_X11_readOrder (G : en_G) (hst : G.2.2.2.2.2 = true) : en_I G 3 yX11_readOrder cX11_readOrder 5 (some .int) 0 0 (en_wi (O_X11_readOrder)) := en_of_i (M := M_X11_readOrder) hst (s_X11_readOrder_0 G hst _ (l_X11_readOrder G hst en_FU)) (plainFor_of_name (by decide +kernel)) rfl rfl rfl (Or.inl ⟨rfl, rfl⟩) (fun av σ x σ' h => by
  rw [oe_X11_readOrder] at h; unfold P_X11_readOrder at h
  split at h
  · exact ⟨(Nat.le_of_ble_eq_true rfl), en_oi_some h⟩
  · cases h)
-- EachMayMissOne.comes()I
def M_X11_comes : en_Me := (cX11_comes, RX11, 5, false, 5, false)
theorem cs_X11_comes : en_cs yX11_comes cX11_comes 5 (some .int) 0 := ⟨wm_155, wm_2, ⟨(by decide +kernel), (by decide +kernel), (by decide +kernel)⟩, (Nat.le_of_ble_eq_true rfl)⟩
noncomputable def B_X11_comes_111 (kc : Nat → en_B) : en_B := (op_aload 0 (op_gets 11 3 (9, 0, 0) (op_rcv 9 0 (op_callv O_X9_begin 1 (op_aload 0 (op_gets 11 3 (9, 0, 0) (op_iload 3 (op_rcv 9 1 (op_callv O_X9_add 2 (op_iload 2 op_iret))))))))))
set_option maxRecDepth 20000 in
theorem s_X11_comes_111 (G : en_G) (hst : G.2.2.2.2.2 = true) (kc : Nat → en_B) (hk : ∀ t, en_Snd G M_X11_comes t (kc t)) : en_Snd G M_X11_comes 111 (B_X11_comes_111 kc) := (sn_aload_n (i := 0) (n := 0) (by decide +kernel) rfl (sn_gets (ci := 11) (j := 1) (off := 3) hst en_c11 of_11_3 (Nat.le_of_ble_eq_true rfl) (by decide +kernel) wm_13 (Nat.le_of_ble_eq_true rfl) rfl (sn_callVv (n := 0) (idx := 205) (ci := 9) (i_X9_begin G hst) (Nat.le_of_ble_eq_true rfl) cs_X9_begin ⟨wm_1086, wm_1087, wm_115⟩ ⟨⟨_, rfl, rfl⟩, (Nat.le_of_ble_eq_true rfl)⟩ (by decide +kernel) (sn_aload_n (i := 0) (n := 0) (by decide +kernel) rfl (sn_gets (ci := 11) (j := 1) (off := 3) hst en_c11 of_11_3 (Nat.le_of_ble_eq_true rfl) (by decide +kernel) wm_13 (Nat.le_of_ble_eq_true rfl) rfl (sn_iload_n (i := 3) (n := 3) (by decide +kernel) rfl (sn_callVv (n := 1) (idx := 209) (ci := 9) (i_X9_add G hst) (Nat.le_of_ble_eq_true rfl) cs_X9_add ⟨wm_1090, wm_1091, wm_117⟩ ⟨⟨_, rfl, rfl⟩, (Nat.le_of_ble_eq_true rfl)⟩ (by decide +kernel) (sn_iload_n (i := 2) (n := 2) (by decide +kernel) rfl (sn_iret (by decide +kernel) rfl)))))))))
noncomputable def B_X11_comes_103 (kc : Nat → en_B) : en_B := (op_bin (fun (x y : Int32) => x + y) (op_istore 3 (op_iinc 4 (1 : Int32) (kc 64))))
set_option maxRecDepth 20000 in
theorem s_X11_comes_103 (G : en_G) (hst : G.2.2.2.2.2 = true) (kc : Nat → en_B) (hk : ∀ t, en_Snd G M_X11_comes t (kc t)) : en_Snd G M_X11_comes 103 (B_X11_comes_103 kc) := (sn_iadd (by decide +kernel) (sn_istore_n (i := 3) (n := 3) (by decide +kernel) rfl (Nat.le_of_ble_eq_true rfl) (sn_iinc (i := 4) (n := 1) (v := 1) (by decide +kernel) rfl (sn_goto (off := -44) (tgt := 64) (by decide +kernel) rfl (hk 64)))))
noncomputable def B_X11_comes_102 (kc : Nat → en_B) : en_B := (op_const (0 : Int32) (B_X11_comes_103 kc))
set_option maxRecDepth 20000 in
theorem s_X11_comes_102 (G : en_G) (hst : G.2.2.2.2.2 = true) (kc : Nat → en_B) (hk : ∀ t, en_Snd G M_X11_comes t (kc t)) : en_Snd G M_X11_comes 102 (B_X11_comes_102 kc) := (sn_iconst (n := 0) (v := 0) (by decide +kernel) rfl (s_X11_comes_103 G hst kc hk))
noncomputable def B_X11_comes_64 (kc : Nat → en_B) : en_B := (op_iload 4 (op_aload 0 (op_gets 11 5 (10, 0, 0) (op_geti 10 3 (op_iclt (op_iload 3 (op_iload 1 (op_iload 4 (op_calli O_X11_bellAt 2 (op_aload 0 (op_gets 11 15 (7, 0, 0) (op_geti 7 4 (op_iload 4 (op_calli O_X11_bellAt 2 (op_iceq (op_const (1 : Int32) (B_X11_comes_103 kc)) (B_X11_comes_102 kc))))))))))) (B_X11_comes_111 kc))))))
set_option maxRecDepth 20000 in
theorem s_X11_comes_64 (G : en_G) (hst : G.2.2.2.2.2 = true) (kc : Nat → en_B) (hk : ∀ t, en_Snd G M_X11_comes t (kc t)) : en_Snd G M_X11_comes 64 (B_X11_comes_64 kc) := (sn_iload (i := 4) (by decide +kernel) (sn_aload_n (i := 0) (n := 0) (by decide +kernel) rfl (sn_gets (ci := 11) (j := 2) (off := 5) hst en_c11 of_11_5 (Nat.le_of_ble_eq_true rfl) (by decide +kernel) wm_18 (Nat.le_of_ble_eq_true rfl) rfl (sn_geti (ci := 10) (j := 3) en_c10 (by decide +kernel) wm_74 (Nat.le_of_ble_eq_true rfl) rfl (sn_icge (off := 38) (tgt := 111) (by decide +kernel) rfl (s_X11_comes_111 G hst kc hk) (sn_iload_n (i := 3) (n := 3) (by decide +kernel) rfl (sn_iload_n (i := 1) (n := 1) (by decide +kernel) rfl (sn_iload (i := 4) (by decide +kernel) (sn_callSi (n := 2) (idx := 174) (i_X11_bellAt G hst) (Nat.le_of_ble_eq_true rfl) cs_X11_bellAt ⟨wm_276, Or.inl wm_97⟩ (by decide +kernel) (sn_aload_n (i := 0) (n := 0) (by decide +kernel) rfl (sn_gets (ci := 11) (j := 3) (off := 15) hst en_c11 of_11_15 (Nat.le_of_ble_eq_true rfl) (by decide +kernel) wm_23 (Nat.le_of_ble_eq_true rfl) rfl (sn_geti (ci := 7) (j := 4) en_c7 (by decide +kernel) wm_89 (Nat.le_of_ble_eq_true rfl) rfl (sn_iload (i := 4) (by decide +kernel) (sn_callSi (n := 2) (idx := 174) (i_X11_bellAt G hst) (Nat.le_of_ble_eq_true rfl) cs_X11_bellAt ⟨wm_276, Or.inl wm_97⟩ (by decide +kernel) (sn_icne (off := 7) (tgt := 102) (by decide +kernel) rfl (s_X11_comes_102 G hst kc hk) (sn_iconst (n := 1) (v := 1) (by decide +kernel) rfl (sn_goto (off := 4) (tgt := 103) (by decide +kernel) rfl (s_X11_comes_103 G hst kc hk))))))))))))))))))
noncomputable def B_X11_comes_59 (kc : Nat → en_B) : en_B := (op_const (0 : Int32) (op_istore 3 (op_const (0 : Int32) (op_istore 4 (kc 64)))))
set_option maxRecDepth 20000 in
theorem s_X11_comes_59 (G : en_G) (hst : G.2.2.2.2.2 = true) (kc : Nat → en_B) (hk : ∀ t, en_Snd G M_X11_comes t (kc t)) : en_Snd G M_X11_comes 59 (B_X11_comes_59 kc) := (sn_iconst (n := 0) (v := 0) (by decide +kernel) rfl (sn_istore_n (i := 3) (n := 3) (by decide +kernel) rfl (Nat.le_of_ble_eq_true rfl) (sn_iconst (n := 0) (v := 0) (by decide +kernel) rfl (sn_istore (i := 4) (by decide +kernel) (Nat.le_of_ble_eq_true rfl) (hk 64)))))
noncomputable def B_X11_comes_33 (kc : Nat → en_B) : en_B := (op_aload 0 (op_const (200 : Int32) (op_rcv 11 1 (op_callv O_X11_lookAhead 2 (op_aload 0 (op_iload 1 (op_const (201 : Int32) (op_rcv 11 2 (op_calli O_X11_firstAhead 3 (op_istore 2 (op_iload 2 (op_const (200 : Int32) (op_icgt (op_const (-2 : Int32) op_iret) (B_X11_comes_59 kc))))))))))))))
set_option maxRecDepth 20000 in
theorem s_X11_comes_33 (G : en_G) (hst : G.2.2.2.2.2 = true) (kc : Nat → en_B) (hk : ∀ t, en_Snd G M_X11_comes t (kc t)) : en_Snd G M_X11_comes 33 (B_X11_comes_33 kc) := (sn_aload_n (i := 0) (n := 0) (by decide +kernel) rfl (sn_sipush (n := 200) (v := 200) (by decide +kernel) rfl (sn_callVv (n := 1) (idx := 242) (ci := 11) (i_X11_lookAhead G hst) (Nat.le_of_ble_eq_true rfl) cs_X11_lookAhead ⟨wm_287, wm_288, wm_143⟩ ⟨⟨_, rfl, rfl⟩, (Nat.le_of_ble_eq_true rfl)⟩ (by decide +kernel) (sn_aload_n (i := 0) (n := 0) (by decide +kernel) rfl (sn_iload_n (i := 1) (n := 1) (by decide +kernel) rfl (sn_sipush (n := 201) (v := 201) (by decide +kernel) rfl (sn_callVi (n := 2) (idx := 245) (ci := 11) (i_X11_firstAhead G hst) (Nat.le_of_ble_eq_true rfl) cs_X11_firstAhead ⟨wm_291, wm_292, wm_147⟩ ⟨⟨_, rfl, rfl⟩, (Nat.le_of_ble_eq_true rfl)⟩ (by decide +kernel) (sn_istore_n (i := 2) (n := 2) (by decide +kernel) rfl (Nat.le_of_ble_eq_true rfl) (sn_iload_n (i := 2) (n := 2) (by decide +kernel) rfl (sn_sipush (n := 200) (v := 200) (by decide +kernel) rfl (sn_icle (off := 6) (tgt := 59) (by decide +kernel) rfl (s_X11_comes_59 G hst kc hk) (sn_bipush (n := -2) (v := -2) (by decide +kernel) rfl (sn_iret (by decide +kernel) rfl)))))))))))))
noncomputable def B_X11_comes_19 (kc : Nat → en_B) : en_B := (op_istore 1 (op_aload 0 (op_gets 11 1 (8, 0, 0) (op_rcv 8 0 (op_callv O_X8_clear 1 (op_iload 1 (op_iflt (op_iload 1 op_iret) (B_X11_comes_33 kc))))))))
set_option maxRecDepth 20000 in
theorem s_X11_comes_19 (G : en_G) (hst : G.2.2.2.2.2 = true) (kc : Nat → en_B) (hk : ∀ t, en_Snd G M_X11_comes t (kc t)) : en_Snd G M_X11_comes 19 (B_X11_comes_19 kc) := (sn_istore_n (i := 1) (n := 1) (by decide +kernel) rfl (Nat.le_of_ble_eq_true rfl) (sn_aload_n (i := 0) (n := 0) (by decide +kernel) rfl (sn_gets (ci := 11) (j := 0) (off := 1) hst en_c11 of_11_1 (Nat.le_of_ble_eq_true rfl) (by decide +kernel) wm_8 (Nat.le_of_ble_eq_true rfl) rfl (sn_callVv (n := 0) (idx := 100) (ci := 8) (i_X8_clear G hst) (Nat.le_of_ble_eq_true rfl) cs_X8_clear ⟨wm_1076, wm_1077, wm_66⟩ ⟨⟨_, rfl, rfl⟩, (Nat.le_of_ble_eq_true rfl)⟩ (by decide +kernel) (sn_iload_n (i := 1) (n := 1) (by decide +kernel) rfl (sn_ifge (off := 5) (tgt := 33) (by decide +kernel) rfl (s_X11_comes_33 G hst kc hk) (sn_iload_n (i := 1) (n := 1) (by decide +kernel) rfl (sn_iret (by decide +kernel) rfl))))))))
noncomputable def B_X11_comes_15 (kc : Nat → en_B) : en_B := (op_aload 0 (op_rcv 11 0 (op_calli O_X11_readOrder 1 (B_X11_comes_19 kc))))
set_option maxRecDepth 20000 in
theorem s_X11_comes_15 (G : en_G) (hst : G.2.2.2.2.2 = true) (kc : Nat → en_B) (hk : ∀ t, en_Snd G M_X11_comes t (kc t)) : en_Snd G M_X11_comes 15 (B_X11_comes_15 kc) := (sn_aload_n (i := 0) (n := 0) (by decide +kernel) rfl (sn_callVi (n := 0) (idx := 252) (ci := 11) (i_X11_readOrder G hst) (Nat.le_of_ble_eq_true rfl) cs_X11_readOrder ⟨wm_317, wm_318, wm_158⟩ ⟨⟨_, rfl, rfl⟩, (Nat.le_of_ble_eq_true rfl)⟩ (by decide +kernel) (s_X11_comes_19 G hst kc hk)))
noncomputable def B_X11_comes_0 (kc : Nat → en_B) : en_B := (op_aload 0 (op_gets 11 5 (10, 0, 0) (op_geti 10 3 (op_ifeq (op_const (-100 : Int32) (B_X11_comes_19 kc)) (B_X11_comes_15 kc)))))
set_option maxRecDepth 20000 in
theorem s_X11_comes_0 (G : en_G) (hst : G.2.2.2.2.2 = true) (kc : Nat → en_B) (hk : ∀ t, en_Snd G M_X11_comes t (kc t)) : en_Snd G M_X11_comes 0 (B_X11_comes_0 kc) := (sn_aload_n (i := 0) (n := 0) (by decide +kernel) rfl (sn_gets (ci := 11) (j := 2) (off := 5) hst en_c11 of_11_5 (Nat.le_of_ble_eq_true rfl) (by decide +kernel) wm_18 (Nat.le_of_ble_eq_true rfl) rfl (sn_geti (ci := 10) (j := 3) en_c10 (by decide +kernel) wm_74 (Nat.le_of_ble_eq_true rfl) rfl (sn_ifne (off := 8) (tgt := 15) (by decide +kernel) rfl (s_X11_comes_15 G hst kc hk) (sn_bipush (n := -100) (v := -100) (by decide +kernel) rfl (sn_goto (off := 7) (tgt := 19) (by decide +kernel) rfl (s_X11_comes_19 G hst kc hk)))))))
noncomputable def LK_X11_comes : Nat → Nat → en_B
  | 0, _ => en_no
  | n + 1, t => if t = 64 then B_X11_comes_64 (LK_X11_comes n) else en_no
theorem l_X11_comes (G : en_G) (hst : G.2.2.2.2.2 = true) : ∀ n t, en_Snd G M_X11_comes t (LK_X11_comes n t)
  | 0, _ => sn_no
  | n + 1, t => by
    show en_Snd G M_X11_comes t (if t = 64 then B_X11_comes_64 (LK_X11_comes n) else en_no)
    by_cases h_64 : t = 64
    · rw [if_pos h_64, h_64]; exact s_X11_comes_64 G hst _ (l_X11_comes G hst n)
    rw [if_neg h_64]
    exact sn_no
noncomputable def T_X11_comes_0 (σ : en_M) : en_R := B_X11_comes_0 (LK_X11_comes en_FU) [.inr (0, 11, 0, 0), en_un, en_un, en_un, en_un] [] en_zz σ
noncomputable def T_X11_comes_64 (n : Nat) (x1 : Int32) (x2 : Int32) (x3 : Int32) (x4 : Int32) (σ : en_M) : en_R := LK_X11_comes n 64 [.inr (0, 11, 0, 0), .inl x1, .inl x2, .inl x3, .inl x4] [] en_zz σ
set_option maxRecDepth 400000 in
set_option maxHeartbeats 4000000 in
theorem t_X11_comes_0 (σ : en_M) : T_X11_comes_0 σ = (if (σ 5 3) = 0 then ((O_X8_clear [.inr (1, 8, 0, 0)] σ).bind fun r5 => if (-100 : Int32) < 0 then (en_ri (-100 : Int32) r5) else ((O_X11_lookAhead [.inr (0, 11, 0, 0), .inl (200 : Int32)] r5).bind fun r6 => (O_X11_firstAhead [.inr (0, 11, 0, 0), .inl (-100 : Int32), .inl (201 : Int32)] r6).bind fun r7 => if (200 : Int32) < r7.1 then (en_ri (-2 : Int32) r7.2) else (T_X11_comes_64 en_FU (-100 : Int32) r7.1 (0 : Int32) (0 : Int32) r7.2))) else ((O_X11_readOrder [.inr (0, 11, 0, 0)] σ).bind fun r1 => (O_X8_clear [.inr (1, 8, 0, 0)] r1.2).bind fun r2 => if r1.1 < 0 then (en_ri r1.1 r2) else ((O_X11_lookAhead [.inr (0, 11, 0, 0), .inl (200 : Int32)] r2).bind fun r3 => (O_X11_firstAhead [.inr (0, 11, 0, 0), .inl r1.1, .inl (201 : Int32)] r3).bind fun r4 => if (200 : Int32) < r4.1 then (en_ri (-2 : Int32) r4.2) else (T_X11_comes_64 en_FU r1.1 r4.1 (0 : Int32) (0 : Int32) r4.2)))) := rfl
set_option maxRecDepth 400000 in
set_option maxHeartbeats 4000000 in
theorem t_X11_comes_64 (n : Nat) (x1 : Int32) (x2 : Int32) (x3 : Int32) (x4 : Int32) (σ : en_M) : T_X11_comes_64 (n + 1) x1 x2 x3 x4 σ = (if x4 < (σ 5 3) then ((O_X11_bellAt [.inl x1, .inl x4] σ).bind fun r10 => (O_X11_bellAt [.inl (r10.2 15 4), .inl x4] r10.2).bind fun r11 => if r10.1 = r11.1 then (T_X11_comes_64 n x1 x2 (x3 + (1 : Int32)) (x4 + (1 : Int32)) r11.2) else (T_X11_comes_64 n x1 x2 (x3 + (0 : Int32)) (x4 + (1 : Int32)) r11.2)) else ((O_X9_begin [.inr (3, 9, 0, 0)] σ).bind fun r8 => (O_X9_add [.inr (3, 9, 0, 0), .inl x3] r8).bind fun r9 => en_ri x2 r9)) := rfl
noncomputable def P_X11_comes : List en_V → en_M → Option (Int32 × en_M) := fun av σ => match av with
  | [.inr (0, 11, 0, 0)] => en_oi (T_X11_comes_0 σ)
  | _ => none
theorem ox_X11_comes : ∃ f, f = P_X11_comes := ⟨_, rfl⟩
noncomputable def O_X11_comes : List en_V → en_M → Option (Int32 × en_M) := Classical.choose ox_X11_comes
theorem oe_X11_comes : O_X11_comes = P_X11_comes := Classical.choose_spec ox_X11_comes
theorem o_X11_comes (σ : en_M) : O_X11_comes [.inr (0, 11, 0, 0)] σ = en_oi (T_X11_comes_0 σ) := by rw [oe_X11_comes]; rfl
theorem i_X11_comes (G : en_G) (hst : G.2.2.2.2.2 = true) : en_I G 5 yX11_comes cX11_comes 5 (some .int) 0 0 (en_wi (O_X11_comes)) := en_of_i (M := M_X11_comes) hst (s_X11_comes_0 G hst _ (l_X11_comes G hst en_FU)) (plainFor_of_name (by decide +kernel)) rfl rfl rfl (Or.inl ⟨rfl, rfl⟩) (fun av σ x σ' h => by
  rw [oe_X11_comes] at h; unfold P_X11_comes at h
  split at h
  · exact ⟨(Nat.le_of_ble_eq_true rfl), en_oi_some h⟩
  · cases h)
