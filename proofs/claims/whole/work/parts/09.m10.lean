-- EachMayMissOne.night()I
def M_X11_night : en_Me := (cX11_night, RX11, 5, false, 7, false)
theorem cs_X11_night : en_cs yX11_night cX11_night 5 (some .int) 0 := ⟨wm_128, wm_2, ⟨(by decide +kernel), (by decide +kernel), (by decide +kernel)⟩, (Nat.le_of_ble_eq_true rfl)⟩
noncomputable def B_X11_night_115 (kc : Nat → en_B) : en_B := (op_rcv 9 1 (op_callv O_X9_add 2 (op_aload 0 (op_gets 11 3 (9, 0, 0) (op_aload 0 (op_gets 11 15 (7, 0, 0) (op_geti 7 6 (op_iload 2 (op_bin (fun (x y : Int32) => x - y) (op_rcv 9 1 (op_callv O_X9_add 2 (op_aload 0 (op_gets 11 3 (9, 0, 0) (op_aload 0 (op_gets 11 15 (7, 0, 0) (op_gets 7 3 (20, 7, 0) (op_calli O_X11_sum 1 (op_iload 3 (op_bin (fun (x y : Int32) => x - y) (op_rcv 9 1 (op_callv O_X9_add 2 (op_iload 4 op_iret))))))))))))))))))))))
set_option maxRecDepth 20000 in
theorem s_X11_night_115 (G : en_G) (hst : G.2.2.2.2.2 = true) (kc : Nat → en_B) (hk : ∀ t, en_Snd G M_X11_night t (kc t)) : en_Snd G M_X11_night 115 (B_X11_night_115 kc) := (sn_callVv (n := 1) (idx := 209) (ci := 9) (i_X9_add G hst) (Nat.le_of_ble_eq_true rfl) cs_X9_add ⟨wm_1090, wm_1091, wm_117⟩ ⟨⟨_, rfl, rfl⟩, (Nat.le_of_ble_eq_true rfl)⟩ (by decide +kernel) (sn_aload_n (i := 0) (n := 0) (by decide +kernel) rfl (sn_gets (ci := 11) (j := 1) (off := 3) hst en_c11 of_11_3 (Nat.le_of_ble_eq_true rfl) (by decide +kernel) wm_13 (Nat.le_of_ble_eq_true rfl) rfl (sn_aload_n (i := 0) (n := 0) (by decide +kernel) rfl (sn_gets (ci := 11) (j := 3) (off := 15) hst en_c11 of_11_15 (Nat.le_of_ble_eq_true rfl) (by decide +kernel) wm_23 (Nat.le_of_ble_eq_true rfl) rfl (sn_geti (ci := 7) (j := 6) en_c7 (by decide +kernel) wm_133 (Nat.le_of_ble_eq_true rfl) rfl (sn_iload_n (i := 2) (n := 2) (by decide +kernel) rfl (sn_isub (by decide +kernel) (sn_callVv (n := 1) (idx := 209) (ci := 9) (i_X9_add G hst) (Nat.le_of_ble_eq_true rfl) cs_X9_add ⟨wm_1090, wm_1091, wm_117⟩ ⟨⟨_, rfl, rfl⟩, (Nat.le_of_ble_eq_true rfl)⟩ (by decide +kernel) (sn_aload_n (i := 0) (n := 0) (by decide +kernel) rfl (sn_gets (ci := 11) (j := 1) (off := 3) hst en_c11 of_11_3 (Nat.le_of_ble_eq_true rfl) (by decide +kernel) wm_13 (Nat.le_of_ble_eq_true rfl) rfl (sn_aload_n (i := 0) (n := 0) (by decide +kernel) rfl (sn_gets (ci := 11) (j := 3) (off := 15) hst en_c11 of_11_15 (Nat.le_of_ble_eq_true rfl) (by decide +kernel) wm_23 (Nat.le_of_ble_eq_true rfl) rfl (sn_gets (ci := 7) (j := 2) (off := 3) hst en_c7 of_7_3 (Nat.le_of_ble_eq_true rfl) (by decide +kernel) wm_88 (Nat.le_of_ble_eq_true rfl) rfl (sn_callSi (n := 1) (idx := 190) (i_X11_sum G hst) (Nat.le_of_ble_eq_true rfl) cs_X11_sum ⟨wm_272, Or.inl wm_108⟩ (by decide +kernel) (sn_iload_n (i := 3) (n := 3) (by decide +kernel) rfl (sn_isub (by decide +kernel) (sn_callVv (n := 1) (idx := 209) (ci := 9) (i_X9_add G hst) (Nat.le_of_ble_eq_true rfl) cs_X9_add ⟨wm_1090, wm_1091, wm_117⟩ ⟨⟨_, rfl, rfl⟩, (Nat.le_of_ble_eq_true rfl)⟩ (by decide +kernel) (sn_iload (i := 4) (by decide +kernel) (sn_iret (by decide +kernel) rfl))))))))))))))))))))
noncomputable def B_X11_night_114 (kc : Nat → en_B) : en_B := (op_const (0 : Int32) (B_X11_night_115 kc))
set_option maxRecDepth 20000 in
theorem s_X11_night_114 (G : en_G) (hst : G.2.2.2.2.2 = true) (kc : Nat → en_B) (hk : ∀ t, en_Snd G M_X11_night t (kc t)) : en_Snd G M_X11_night 114 (B_X11_night_114 kc) := (sn_iconst (n := 0) (v := 0) (by decide +kernel) rfl (s_X11_night_115 G hst kc hk))
noncomputable def B_X11_night_93 (kc : Nat → en_B) : en_B := (op_aload 0 (op_gets 11 3 (9, 0, 0) (op_rcv 9 0 (op_callv O_X9_begin 1 (op_aload 0 (op_gets 11 3 (9, 0, 0) (op_iload 4 (op_iload 1 (op_iclt (op_const (1 : Int32) (B_X11_night_115 kc)) (B_X11_night_114 kc))))))))))
set_option maxRecDepth 20000 in
theorem s_X11_night_93 (G : en_G) (hst : G.2.2.2.2.2 = true) (kc : Nat → en_B) (hk : ∀ t, en_Snd G M_X11_night t (kc t)) : en_Snd G M_X11_night 93 (B_X11_night_93 kc) := (sn_aload_n (i := 0) (n := 0) (by decide +kernel) rfl (sn_gets (ci := 11) (j := 1) (off := 3) hst en_c11 of_11_3 (Nat.le_of_ble_eq_true rfl) (by decide +kernel) wm_13 (Nat.le_of_ble_eq_true rfl) rfl (sn_callVv (n := 0) (idx := 205) (ci := 9) (i_X9_begin G hst) (Nat.le_of_ble_eq_true rfl) cs_X9_begin ⟨wm_1086, wm_1087, wm_115⟩ ⟨⟨_, rfl, rfl⟩, (Nat.le_of_ble_eq_true rfl)⟩ (by decide +kernel) (sn_aload_n (i := 0) (n := 0) (by decide +kernel) rfl (sn_gets (ci := 11) (j := 1) (off := 3) hst en_c11 of_11_3 (Nat.le_of_ble_eq_true rfl) (by decide +kernel) wm_13 (Nat.le_of_ble_eq_true rfl) rfl (sn_iload (i := 4) (by decide +kernel) (sn_iload_n (i := 1) (n := 1) (by decide +kernel) rfl (sn_icge (off := 7) (tgt := 114) (by decide +kernel) rfl (s_X11_night_114 G hst kc hk) (sn_iconst (n := 1) (v := 1) (by decide +kernel) rfl (sn_goto (off := 4) (tgt := 115) (by decide +kernel) rfl (s_X11_night_115 G hst kc hk)))))))))))
noncomputable def B_X11_night_66 (kc : Nat → en_B) : en_B := (op_iload 4 (op_iload 1 (op_iclt (op_aload 0 (op_iload 4 (op_rcv 11 1 (op_calli O_X11_canBeDone 2 (op_ifeq (B_X11_night_93 kc) (op_aload 0 (op_iload 4 (op_rcv 11 1 (op_callv O_X11_doAct 2 (op_iinc 4 (1 : Int32) (kc 66))))))))))) (B_X11_night_93 kc))))
set_option maxRecDepth 20000 in
theorem s_X11_night_66 (G : en_G) (hst : G.2.2.2.2.2 = true) (kc : Nat → en_B) (hk : ∀ t, en_Snd G M_X11_night t (kc t)) : en_Snd G M_X11_night 66 (B_X11_night_66 kc) := (sn_iload (i := 4) (by decide +kernel) (sn_iload_n (i := 1) (n := 1) (by decide +kernel) rfl (sn_icge (off := 24) (tgt := 93) (by decide +kernel) rfl (s_X11_night_93 G hst kc hk) (sn_aload_n (i := 0) (n := 0) (by decide +kernel) rfl (sn_iload (i := 4) (by decide +kernel) (sn_callVi (n := 1) (idx := 226) (ci := 11) (i_X11_canBeDone G hst) (Nat.le_of_ble_eq_true rfl) cs_X11_canBeDone ⟨wm_308, wm_309, wm_132⟩ ⟨⟨_, rfl, rfl⟩, (Nat.le_of_ble_eq_true rfl)⟩ (by decide +kernel) (sn_ifeq (off := 15) (tgt := 93) (by decide +kernel) rfl (s_X11_night_93 G hst kc hk) (sn_aload_n (i := 0) (n := 0) (by decide +kernel) rfl (sn_iload (i := 4) (by decide +kernel) (sn_callVv (n := 1) (idx := 232) (ci := 11) (i_X11_doAct G hst) (Nat.le_of_ble_eq_true rfl) cs_X11_doAct ⟨wm_314, wm_315, wm_134⟩ ⟨⟨_, rfl, rfl⟩, (Nat.le_of_ble_eq_true rfl)⟩ (by decide +kernel) (sn_iinc (i := 4) (n := 1) (v := 1) (by decide +kernel) rfl (sn_goto (off := -24) (tgt := 66) (by decide +kernel) rfl (hk 66)))))))))))))
noncomputable def B_X11_night_44 (kc : Nat → en_B) : en_B := (op_aload 0 (op_gets 11 15 (7, 0, 0) (op_geti 7 6 (op_istore 2 (op_aload 0 (op_gets 11 15 (7, 0, 0) (op_gets 7 3 (20, 7, 0) (op_calli O_X11_sum 1 (op_istore 3 (op_const (0 : Int32) (op_istore 4 (kc 66))))))))))))
set_option maxRecDepth 20000 in
theorem s_X11_night_44 (G : en_G) (hst : G.2.2.2.2.2 = true) (kc : Nat → en_B) (hk : ∀ t, en_Snd G M_X11_night t (kc t)) : en_Snd G M_X11_night 44 (B_X11_night_44 kc) := (sn_aload_n (i := 0) (n := 0) (by decide +kernel) rfl (sn_gets (ci := 11) (j := 3) (off := 15) hst en_c11 of_11_15 (Nat.le_of_ble_eq_true rfl) (by decide +kernel) wm_23 (Nat.le_of_ble_eq_true rfl) rfl (sn_geti (ci := 7) (j := 6) en_c7 (by decide +kernel) wm_133 (Nat.le_of_ble_eq_true rfl) rfl (sn_istore_n (i := 2) (n := 2) (by decide +kernel) rfl (Nat.le_of_ble_eq_true rfl) (sn_aload_n (i := 0) (n := 0) (by decide +kernel) rfl (sn_gets (ci := 11) (j := 3) (off := 15) hst en_c11 of_11_15 (Nat.le_of_ble_eq_true rfl) (by decide +kernel) wm_23 (Nat.le_of_ble_eq_true rfl) rfl (sn_gets (ci := 7) (j := 2) (off := 3) hst en_c7 of_7_3 (Nat.le_of_ble_eq_true rfl) (by decide +kernel) wm_88 (Nat.le_of_ble_eq_true rfl) rfl (sn_callSi (n := 1) (idx := 190) (i_X11_sum G hst) (Nat.le_of_ble_eq_true rfl) cs_X11_sum ⟨wm_272, Or.inl wm_108⟩ (by decide +kernel) (sn_istore_n (i := 3) (n := 3) (by decide +kernel) rfl (Nat.le_of_ble_eq_true rfl) (sn_iconst (n := 0) (v := 0) (by decide +kernel) rfl (sn_istore (i := 4) (by decide +kernel) (Nat.le_of_ble_eq_true rfl) (hk 66))))))))))))
noncomputable def B_X11_night_25 (kc : Nat → en_B) : en_B := (op_aload 0 (op_const (0 : Int32) (op_rcv 11 1 (op_calli O_X11_canBeDone 2 (op_ifeq (B_X11_night_44 kc) (op_aload 0 (op_gets 11 25 (4, 0, 0) (op_aload 0 (op_gets 11 15 (7, 0, 0) (op_rcv 4 1 (op_callv O_X4_push 2 (B_X11_night_44 kc))))))))))))
set_option maxRecDepth 20000 in
theorem s_X11_night_25 (G : en_G) (hst : G.2.2.2.2.2 = true) (kc : Nat → en_B) (hk : ∀ t, en_Snd G M_X11_night t (kc t)) : en_Snd G M_X11_night 25 (B_X11_night_25 kc) := (sn_aload_n (i := 0) (n := 0) (by decide +kernel) rfl (sn_iconst (n := 0) (v := 0) (by decide +kernel) rfl (sn_callVi (n := 1) (idx := 226) (ci := 11) (i_X11_canBeDone G hst) (Nat.le_of_ble_eq_true rfl) cs_X11_canBeDone ⟨wm_308, wm_309, wm_132⟩ ⟨⟨_, rfl, rfl⟩, (Nat.le_of_ble_eq_true rfl)⟩ (by decide +kernel) (sn_ifeq (off := 14) (tgt := 44) (by decide +kernel) rfl (s_X11_night_44 G hst kc hk) (sn_aload_n (i := 0) (n := 0) (by decide +kernel) rfl (sn_gets (ci := 11) (j := 5) (off := 25) hst en_c11 of_11_25 (Nat.le_of_ble_eq_true rfl) (by decide +kernel) wm_29 (Nat.le_of_ble_eq_true rfl) rfl (sn_aload_n (i := 0) (n := 0) (by decide +kernel) rfl (sn_gets (ci := 11) (j := 3) (off := 15) hst en_c11 of_11_15 (Nat.le_of_ble_eq_true rfl) (by decide +kernel) wm_23 (Nat.le_of_ble_eq_true rfl) rfl (sn_callVv (n := 1) (idx := 197) (ci := 4) (i_X4_push G hst) (Nat.le_of_ble_eq_true rfl) cs_X4_push ⟨wm_857, wm_858, wm_113⟩ ⟨⟨_, rfl, rfl⟩, (Nat.le_of_ble_eq_true rfl)⟩ (by decide +kernel) (s_X11_night_44 G hst kc hk))))))))))
noncomputable def B_X11_night_0 (kc : Nat → en_B) : en_B := (op_aload 0 (op_gets 11 100 (2, 0, 0) (op_aload 0 (op_gets 11 1 (8, 0, 0) (op_rcv 2 1 (op_calli O_X2_read 2 (op_istore 1 (op_aload 0 (op_gets 11 1 (8, 0, 0) (op_rcv 8 0 (op_callv O_X8_clear 1 (op_iload 1 (op_iflt (op_iload 1 op_iret) (B_X11_night_25 kc))))))))))))))
set_option maxRecDepth 20000 in
theorem s_X11_night_0 (G : en_G) (hst : G.2.2.2.2.2 = true) (kc : Nat → en_B) (hk : ∀ t, en_Snd G M_X11_night t (kc t)) : en_Snd G M_X11_night 0 (B_X11_night_0 kc) := (sn_aload_n (i := 0) (n := 0) (by decide +kernel) rfl (sn_gets (ci := 11) (j := 7) (off := 100) hst en_c11 of_11_100 (Nat.le_of_ble_eq_true rfl) (by decide +kernel) wm_39 (Nat.le_of_ble_eq_true rfl) rfl (sn_aload_n (i := 0) (n := 0) (by decide +kernel) rfl (sn_gets (ci := 11) (j := 0) (off := 1) hst en_c11 of_11_1 (Nat.le_of_ble_eq_true rfl) (by decide +kernel) wm_8 (Nat.le_of_ble_eq_true rfl) rfl (sn_callVi (n := 1) (idx := 225) (ci := 2) (i_X2_read G hst) (Nat.le_of_ble_eq_true rfl) cs_X2_read ⟨wm_785, wm_786, wm_131⟩ ⟨⟨_, rfl, rfl⟩, (Nat.le_of_ble_eq_true rfl)⟩ (by decide +kernel) (sn_istore_n (i := 1) (n := 1) (by decide +kernel) rfl (Nat.le_of_ble_eq_true rfl) (sn_aload_n (i := 0) (n := 0) (by decide +kernel) rfl (sn_gets (ci := 11) (j := 0) (off := 1) hst en_c11 of_11_1 (Nat.le_of_ble_eq_true rfl) (by decide +kernel) wm_8 (Nat.le_of_ble_eq_true rfl) rfl (sn_callVv (n := 0) (idx := 100) (ci := 8) (i_X8_clear G hst) (Nat.le_of_ble_eq_true rfl) cs_X8_clear ⟨wm_1076, wm_1077, wm_66⟩ ⟨⟨_, rfl, rfl⟩, (Nat.le_of_ble_eq_true rfl)⟩ (by decide +kernel) (sn_iload_n (i := 1) (n := 1) (by decide +kernel) rfl (sn_ifge (off := 5) (tgt := 25) (by decide +kernel) rfl (s_X11_night_25 G hst kc hk) (sn_iload_n (i := 1) (n := 1) (by decide +kernel) rfl (sn_iret (by decide +kernel) rfl)))))))))))))
noncomputable def LK_X11_night : Nat → Nat → en_B
  | 0, _ => en_no
  | n + 1, t => if t = 66 then B_X11_night_66 (LK_X11_night n) else en_no
theorem l_X11_night (G : en_G) (hst : G.2.2.2.2.2 = true) : ∀ n t, en_Snd G M_X11_night t (LK_X11_night n t)
  | 0, _ => sn_no
  | n + 1, t => by
    show en_Snd G M_X11_night t (if t = 66 then B_X11_night_66 (LK_X11_night n) else en_no)
    by_cases h_66 : t = 66
    · rw [if_pos h_66, h_66]; exact s_X11_night_66 G hst _ (l_X11_night G hst n)
    rw [if_neg h_66]
    exact sn_no
noncomputable def T_X11_night_0 (σ : en_M) : en_R := B_X11_night_0 (LK_X11_night en_FU) [.inr (0, 11, 0, 0), en_un, en_un, en_un, en_un] [] en_zz σ
noncomputable def T_X11_night_66 (n : Nat) (x1 : Int32) (x2 : Int32) (x3 : Int32) (x4 : Int32) (σ : en_M) : en_R := LK_X11_night n 66 [.inr (0, 11, 0, 0), .inl x1, .inl x2, .inl x3, .inl x4] [] en_zz σ
set_option maxRecDepth 20000 in
set_option maxHeartbeats 2000000 in
theorem t_X11_night_0 (σ : en_M) : T_X11_night_0 σ = ((O_X2_read [.inr (100, 2, 0, 0), .inr (1, 8, 0, 0)] σ).bind fun r1 => (O_X8_clear [.inr (1, 8, 0, 0)] r1.2).bind fun r2 => if r1.1 < 0 then (en_ri r1.1 r2) else ((O_X11_canBeDone [.inr (0, 11, 0, 0), .inl (0 : Int32)] r2).bind fun r3 => if r3.1 = 0 then ((O_X11_sum [.inr (18, 20, 7, 0)] r3.2).bind fun r4 => T_X11_night_66 en_FU r1.1 (r3.2 15 6) r4.1 (0 : Int32) r4.2) else ((O_X4_push [.inr (25, 4, 0, 0), .inr (15, 7, 0, 0)] r3.2).bind fun r5 => (O_X11_sum [.inr (18, 20, 7, 0)] r5).bind fun r6 => T_X11_night_66 en_FU r1.1 (r5 15 6) r6.1 (0 : Int32) r6.2))) := rfl
set_option maxRecDepth 20000 in
set_option maxHeartbeats 2000000 in
theorem t_X11_night_66 (n : Nat) (x1 : Int32) (x2 : Int32) (x3 : Int32) (x4 : Int32) (σ : en_M) : T_X11_night_66 (n + 1) x1 x2 x3 x4 σ = (if x4 < x1 then ((O_X11_canBeDone [.inr (0, 11, 0, 0), .inl x4] σ).bind fun r16 => if r16.1 = 0 then ((O_X9_begin [.inr (3, 9, 0, 0)] r16.2).bind fun r17 => if x4 < x1 then ((O_X9_add [.inr (3, 9, 0, 0), .inl (1 : Int32)] r17).bind fun r22 => (O_X9_add [.inr (3, 9, 0, 0), .inl ((r22 15 6) - x2)] r22).bind fun r23 => (O_X11_sum [.inr (18, 20, 7, 0)] r23).bind fun r24 => (O_X9_add [.inr (3, 9, 0, 0), .inl (r24.1 - x3)] r24.2).bind fun r25 => en_ri x4 r25) else ((O_X9_add [.inr (3, 9, 0, 0), .inl (0 : Int32)] r17).bind fun r18 => (O_X9_add [.inr (3, 9, 0, 0), .inl ((r18 15 6) - x2)] r18).bind fun r19 => (O_X11_sum [.inr (18, 20, 7, 0)] r19).bind fun r20 => (O_X9_add [.inr (3, 9, 0, 0), .inl (r20.1 - x3)] r20.2).bind fun r21 => en_ri x4 r21)) else ((O_X11_doAct [.inr (0, 11, 0, 0), .inl x4] r16.2).bind fun r26 => T_X11_night_66 n x1 x2 x3 (x4 + (1 : Int32)) r26)) else ((O_X9_begin [.inr (3, 9, 0, 0)] σ).bind fun r7 => if x4 < x1 then ((O_X9_add [.inr (3, 9, 0, 0), .inl (1 : Int32)] r7).bind fun r12 => (O_X9_add [.inr (3, 9, 0, 0), .inl ((r12 15 6) - x2)] r12).bind fun r13 => (O_X11_sum [.inr (18, 20, 7, 0)] r13).bind fun r14 => (O_X9_add [.inr (3, 9, 0, 0), .inl (r14.1 - x3)] r14.2).bind fun r15 => en_ri x4 r15) else ((O_X9_add [.inr (3, 9, 0, 0), .inl (0 : Int32)] r7).bind fun r8 => (O_X9_add [.inr (3, 9, 0, 0), .inl ((r8 15 6) - x2)] r8).bind fun r9 => (O_X11_sum [.inr (18, 20, 7, 0)] r9).bind fun r10 => (O_X9_add [.inr (3, 9, 0, 0), .inl (r10.1 - x3)] r10.2).bind fun r11 => en_ri x4 r11))) := rfl
noncomputable def P_X11_night : List en_V → en_M → Option (Int32 × en_M) := fun av σ => match av with
  | [.inr (0, 11, 0, 0)] => en_oi (T_X11_night_0 σ)
  | _ => none
theorem ox_X11_night : ∃ f, f = P_X11_night := ⟨_, rfl⟩
noncomputable def O_X11_night : List en_V → en_M → Option (Int32 × en_M) := Classical.choose ox_X11_night
theorem oe_X11_night : O_X11_night = P_X11_night := Classical.choose_spec ox_X11_night
theorem o_X11_night (σ : en_M) : O_X11_night [.inr (0, 11, 0, 0)] σ = en_oi (T_X11_night_0 σ) := by rw [oe_X11_night]; rfl
theorem i_X11_night (G : en_G) (hst : G.2.2.2.2.2 = true) : en_I G 7 yX11_night cX11_night 5 (some .int) 0 0 (en_wi (O_X11_night)) := en_of_i (M := M_X11_night) hst (s_X11_night_0 G hst _ (l_X11_night G hst en_FU)) (plainFor_of_name (by decide +kernel)) rfl rfl rfl (Or.inl ⟨rfl, rfl⟩) (fun av σ x σ' h => by
  rw [oe_X11_night] at h; unfold P_X11_night at h
  split at h
  · exact ⟨(Nat.le_of_ble_eq_true rfl), en_oi_some h⟩
  · cases h)
-- EachMayMissOne.undo()I
def M_X11_undo : en_Me := (cX11_undo, RX11, 1, false, 3, false)
theorem cs_X11_undo : en_cs yX11_undo cX11_undo 1 (some .int) 0 := ⟨wm_135, wm_2, ⟨(by decide +kernel), (by decide +kernel), (by decide +kernel)⟩, (Nat.le_of_ble_eq_true rfl)⟩
noncomputable def B_X11_undo_25 (kc : Nat → en_B) : en_B := op_iret
set_option maxRecDepth 20000 in
theorem s_X11_undo_25 (G : en_G) (hst : G.2.2.2.2.2 = true) (kc : Nat → en_B) (hk : ∀ t, en_Snd G M_X11_undo t (kc t)) : en_Snd G M_X11_undo 25 (B_X11_undo_25 kc) := (sn_iret (by decide +kernel) rfl)
noncomputable def B_X11_undo_24 (kc : Nat → en_B) : en_B := (op_const (-1 : Int32) (B_X11_undo_25 kc))
set_option maxRecDepth 20000 in
theorem s_X11_undo_24 (G : en_G) (hst : G.2.2.2.2.2 = true) (kc : Nat → en_B) (hk : ∀ t, en_Snd G M_X11_undo t (kc t)) : en_Snd G M_X11_undo 24 (B_X11_undo_24 kc) := (sn_iconst (n := -1) (v := -1) (by decide +kernel) rfl (s_X11_undo_25 G hst kc hk))
noncomputable def B_X11_undo_0 (kc : Nat → en_B) : en_B := (op_aload 0 (op_gets 11 25 (4, 0, 0) (op_aload 0 (op_gets 11 15 (7, 0, 0) (op_rcv 4 1 (op_calli O_X4_pop 2 (op_ifeq (B_X11_undo_24 kc) (op_aload 0 (op_gets 11 25 (4, 0, 0) (op_geti 4 2 (B_X11_undo_25 kc)))))))))))
set_option maxRecDepth 20000 in
theorem s_X11_undo_0 (G : en_G) (hst : G.2.2.2.2.2 = true) (kc : Nat → en_B) (hk : ∀ t, en_Snd G M_X11_undo t (kc t)) : en_Snd G M_X11_undo 0 (B_X11_undo_0 kc) := (sn_aload_n (i := 0) (n := 0) (by decide +kernel) rfl (sn_gets (ci := 11) (j := 5) (off := 25) hst en_c11 of_11_25 (Nat.le_of_ble_eq_true rfl) (by decide +kernel) wm_29 (Nat.le_of_ble_eq_true rfl) rfl (sn_aload_n (i := 0) (n := 0) (by decide +kernel) rfl (sn_gets (ci := 11) (j := 3) (off := 15) hst en_c11 of_11_15 (Nat.le_of_ble_eq_true rfl) (by decide +kernel) wm_23 (Nat.le_of_ble_eq_true rfl) rfl (sn_callVi (n := 1) (idx := 235) (ci := 4) (i_X4_pop G hst) (Nat.le_of_ble_eq_true rfl) cs_X4_pop ⟨wm_863, wm_864, wm_138⟩ ⟨⟨_, rfl, rfl⟩, (Nat.le_of_ble_eq_true rfl)⟩ (by decide +kernel) (sn_ifeq (off := 13) (tgt := 24) (by decide +kernel) rfl (s_X11_undo_24 G hst kc hk) (sn_aload_n (i := 0) (n := 0) (by decide +kernel) rfl (sn_gets (ci := 11) (j := 5) (off := 25) hst en_c11 of_11_25 (Nat.le_of_ble_eq_true rfl) (by decide +kernel) wm_29 (Nat.le_of_ble_eq_true rfl) rfl (sn_geti (ci := 4) (j := 2) en_c4 (by decide +kernel) wm_139 (Nat.le_of_ble_eq_true rfl) rfl (sn_goto (off := 4) (tgt := 25) (by decide +kernel) rfl (s_X11_undo_25 G hst kc hk)))))))))))
noncomputable def LK_X11_undo : Nat → Nat → en_B
  | 0, _ => en_no
  | n + 1, t => en_no
theorem l_X11_undo (G : en_G) (hst : G.2.2.2.2.2 = true) : ∀ n t, en_Snd G M_X11_undo t (LK_X11_undo n t)
  | 0, _ => sn_no
  | n + 1, t => by
    show en_Snd G M_X11_undo t (en_no)
    exact sn_no
noncomputable def T_X11_undo_0 (σ : en_M) : en_R := B_X11_undo_0 (LK_X11_undo en_FU) [.inr (0, 11, 0, 0)] [] en_zz σ
set_option maxRecDepth 20000 in
set_option maxHeartbeats 2000000 in
theorem t_X11_undo_0 (σ : en_M) : T_X11_undo_0 σ = ((O_X4_pop [.inr (25, 4, 0, 0), .inr (15, 7, 0, 0)] σ).bind fun r1 => if r1.1 = 0 then (en_ri (-1 : Int32) r1.2) else (en_ri (r1.2 25 2) r1.2)) := rfl
noncomputable def P_X11_undo : List en_V → en_M → Option (Int32 × en_M) := fun av σ => match av with
  | [.inr (0, 11, 0, 0)] => en_oi (T_X11_undo_0 σ)
  | _ => none
theorem ox_X11_undo : ∃ f, f = P_X11_undo := ⟨_, rfl⟩
noncomputable def O_X11_undo : List en_V → en_M → Option (Int32 × en_M) := Classical.choose ox_X11_undo
theorem oe_X11_undo : O_X11_undo = P_X11_undo := Classical.choose_spec ox_X11_undo
theorem o_X11_undo (σ : en_M) : O_X11_undo [.inr (0, 11, 0, 0)] σ = en_oi (T_X11_undo_0 σ) := by rw [oe_X11_undo]; rfl
theorem i_X11_undo (G : en_G) (hst : G.2.2.2.2.2 = true) : en_I G 3 yX11_undo cX11_undo 1 (some .int) 0 0 (en_wi (O_X11_undo)) := en_of_i (M := M_X11_undo) hst (s_X11_undo_0 G hst _ (l_X11_undo G hst en_FU)) (plainFor_of_name (by decide +kernel)) rfl rfl rfl (Or.inl ⟨rfl, rfl⟩) (fun av σ x σ' h => by
  rw [oe_X11_undo] at h; unfold P_X11_undo at h
  split at h
  · exact ⟨(Nat.le_of_ble_eq_true rfl), en_oi_some h⟩
  · cases h)
-- EachMayMissOne.lookAhead(I)V
def M_X11_lookAhead : en_Me := (cX11_lookAhead, RX11, 3, false, 4, false)
theorem cs_X11_lookAhead : en_cs yX11_lookAhead cX11_lookAhead 3 none 1 := ⟨wm_286, wm_2, ⟨(by decide +kernel), (by decide +kernel), (by decide +kernel)⟩, (Nat.le_of_ble_eq_true rfl)⟩
noncomputable def B_X11_lookAhead_73 (kc : Nat → en_B) : en_B := op_vret
set_option maxRecDepth 20000 in
theorem s_X11_lookAhead_73 (G : en_G) (hst : G.2.2.2.2.2 = true) (kc : Nat → en_B) (hk : ∀ t, en_Snd G M_X11_lookAhead t (kc t)) : en_Snd G M_X11_lookAhead 73 (B_X11_lookAhead_73 kc) := (sn_vret (by decide +kernel))
noncomputable def B_X11_lookAhead_15 (kc : Nat → en_B) : en_B := (op_iload 2 (op_iload 1 (op_iclt (op_iload 2 (op_const (200 : Int32) (op_iclt (op_aload 0 (op_gets 11 182 (20, 201, 0) (op_iload 2 (op_const (1 : Int32) (op_bin (fun (x y : Int32) => x + y) (op_aload 0 (op_gets 11 5 (10, 0, 0) (op_gets 10 2 (0, 0, 0) (op_aload 0 (op_gets 11 182 (20, 201, 0) (op_iload 2 (op_ald 20 (op_aload 0 (op_gets 11 5 (10, 0, 0) (op_geti 10 3 (op_aload 0 (op_gets 11 15 (7, 0, 0) (op_geti 7 5 (op_iload 2 (op_bin (fun (x y : Int32) => x + y) (op_rcv 0 3 (op_calli O_X0_next 4 (op_ast 20 (fun (x : Int32) => x) (op_iinc 2 (1 : Int32) (kc 15))))))))))))))))))))))))) (B_X11_lookAhead_73 kc)))) (B_X11_lookAhead_73 kc))))
set_option maxRecDepth 20000 in
theorem s_X11_lookAhead_15 (G : en_G) (hst : G.2.2.2.2.2 = true) (kc : Nat → en_B) (hk : ∀ t, en_Snd G M_X11_lookAhead t (kc t)) : en_Snd G M_X11_lookAhead 15 (B_X11_lookAhead_15 kc) := (sn_iload_n (i := 2) (n := 2) (by decide +kernel) rfl (sn_iload_n (i := 1) (n := 1) (by decide +kernel) rfl (sn_icge (off := 56) (tgt := 73) (by decide +kernel) rfl (s_X11_lookAhead_73 G hst kc hk) (sn_iload_n (i := 2) (n := 2) (by decide +kernel) rfl (sn_sipush (n := 200) (v := 200) (by decide +kernel) rfl (sn_icge (off := 49) (tgt := 73) (by decide +kernel) rfl (s_X11_lookAhead_73 G hst kc hk) (sn_aload_n (i := 0) (n := 0) (by decide +kernel) rfl (sn_gets (ci := 11) (j := 10) (off := 182) hst en_c11 of_11_182 (Nat.le_of_ble_eq_true rfl) (by decide +kernel) wm_50 (Nat.le_of_ble_eq_true rfl) rfl (sn_iload_n (i := 2) (n := 2) (by decide +kernel) rfl (sn_iconst (n := 1) (v := 1) (by decide +kernel) rfl (sn_iadd (by decide +kernel) (sn_aload_n (i := 0) (n := 0) (by decide +kernel) rfl (sn_gets (ci := 11) (j := 2) (off := 5) hst en_c11 of_11_5 (Nat.le_of_ble_eq_true rfl) (by decide +kernel) wm_18 (Nat.le_of_ble_eq_true rfl) rfl (sn_gets (ci := 10) (j := 1) (off := 2) hst en_c10 of_10_2 (Nat.le_of_ble_eq_true rfl) (by decide +kernel) wm_73 (Nat.le_of_ble_eq_true rfl) rfl (sn_aload_n (i := 0) (n := 0) (by decide +kernel) rfl (sn_gets (ci := 11) (j := 10) (off := 182) hst en_c11 of_11_182 (Nat.le_of_ble_eq_true rfl) (by decide +kernel) wm_50 (Nat.le_of_ble_eq_true rfl) rfl (sn_iload_n (i := 2) (n := 2) (by decide +kernel) rfl (sn_iald (by decide +kernel) (sn_aload_n (i := 0) (n := 0) (by decide +kernel) rfl (sn_gets (ci := 11) (j := 2) (off := 5) hst en_c11 of_11_5 (Nat.le_of_ble_eq_true rfl) (by decide +kernel) wm_18 (Nat.le_of_ble_eq_true rfl) rfl (sn_geti (ci := 10) (j := 3) en_c10 (by decide +kernel) wm_74 (Nat.le_of_ble_eq_true rfl) rfl (sn_aload_n (i := 0) (n := 0) (by decide +kernel) rfl (sn_gets (ci := 11) (j := 3) (off := 15) hst en_c11 of_11_15 (Nat.le_of_ble_eq_true rfl) (by decide +kernel) wm_23 (Nat.le_of_ble_eq_true rfl) rfl (sn_geti (ci := 7) (j := 5) en_c7 (by decide +kernel) wm_123 (Nat.le_of_ble_eq_true rfl) rfl (sn_iload_n (i := 2) (n := 2) (by decide +kernel) rfl (sn_iadd (by decide +kernel) (sn_callVi (n := 3) (idx := 354) (ci := 0) (i_X0_next G hst) (Nat.le_of_ble_eq_true rfl) cs_X0_next ⟨wm_758, wm_759, wm_289⟩ ⟨⟨_, rfl, rfl⟩, (Nat.le_of_ble_eq_true rfl)⟩ (by decide +kernel) (sn_iast (by decide +kernel) (sn_iinc (i := 2) (n := 1) (v := 1) (by decide +kernel) rfl (sn_goto (off := -55) (tgt := 15) (by decide +kernel) rfl (hk 15)))))))))))))))))))))))))))))))
noncomputable def B_X11_lookAhead_0 (kc : Nat → en_B) : en_B := (op_aload 0 (op_gets 11 182 (20, 201, 0) (op_const (0 : Int32) (op_aload 0 (op_gets 11 15 (7, 0, 0) (op_geti 7 4 (op_ast 20 (fun (x : Int32) => x) (op_const (0 : Int32) (op_istore 2 (kc 15))))))))))
set_option maxRecDepth 20000 in
theorem s_X11_lookAhead_0 (G : en_G) (hst : G.2.2.2.2.2 = true) (kc : Nat → en_B) (hk : ∀ t, en_Snd G M_X11_lookAhead t (kc t)) : en_Snd G M_X11_lookAhead 0 (B_X11_lookAhead_0 kc) := (sn_aload_n (i := 0) (n := 0) (by decide +kernel) rfl (sn_gets (ci := 11) (j := 10) (off := 182) hst en_c11 of_11_182 (Nat.le_of_ble_eq_true rfl) (by decide +kernel) wm_50 (Nat.le_of_ble_eq_true rfl) rfl (sn_iconst (n := 0) (v := 0) (by decide +kernel) rfl (sn_aload_n (i := 0) (n := 0) (by decide +kernel) rfl (sn_gets (ci := 11) (j := 3) (off := 15) hst en_c11 of_11_15 (Nat.le_of_ble_eq_true rfl) (by decide +kernel) wm_23 (Nat.le_of_ble_eq_true rfl) rfl (sn_geti (ci := 7) (j := 4) en_c7 (by decide +kernel) wm_89 (Nat.le_of_ble_eq_true rfl) rfl (sn_iast (by decide +kernel) (sn_iconst (n := 0) (v := 0) (by decide +kernel) rfl (sn_istore_n (i := 2) (n := 2) (by decide +kernel) rfl (Nat.le_of_ble_eq_true rfl) (hk 15))))))))))
noncomputable def LK_X11_lookAhead : Nat → Nat → en_B
  | 0, _ => en_no
  | n + 1, t => if t = 15 then B_X11_lookAhead_15 (LK_X11_lookAhead n) else en_no
theorem l_X11_lookAhead (G : en_G) (hst : G.2.2.2.2.2 = true) : ∀ n t, en_Snd G M_X11_lookAhead t (LK_X11_lookAhead n t)
  | 0, _ => sn_no
  | n + 1, t => by
    show en_Snd G M_X11_lookAhead t (if t = 15 then B_X11_lookAhead_15 (LK_X11_lookAhead n) else en_no)
    by_cases h_15 : t = 15
    · rw [if_pos h_15, h_15]; exact s_X11_lookAhead_15 G hst _ (l_X11_lookAhead G hst n)
    rw [if_neg h_15]
    exact sn_no
noncomputable def T_X11_lookAhead_0 (x1 : Int32) (σ : en_M) : en_R := B_X11_lookAhead_0 (LK_X11_lookAhead en_FU) [.inr (0, 11, 0, 0), .inl x1, en_un] [] en_zz σ
noncomputable def T_X11_lookAhead_15 (n : Nat) (x1 : Int32) (x2 : Int32) (σ : en_M) : en_R := LK_X11_lookAhead n 15 [.inr (0, 11, 0, 0), .inl x1, .inl x2] [] en_zz σ
set_option maxRecDepth 20000 in
set_option maxHeartbeats 2000000 in
theorem t_X11_lookAhead_0 (x1 : Int32) (σ : en_M) : T_X11_lookAhead_0 x1 σ = ((en_ix (0 : Int32) 201).bind fun j1 => T_X11_lookAhead_15 en_FU x1 (0 : Int32) (en_up σ 182 j1 (σ 15 4))) := rfl
set_option maxRecDepth 20000 in
set_option maxHeartbeats 2000000 in
theorem t_X11_lookAhead_15 (n : Nat) (x1 : Int32) (x2 : Int32) (σ : en_M) : T_X11_lookAhead_15 (n + 1) x1 x2 σ = (if x2 < x1 then (if x2 < (200 : Int32) then ((en_ix x2 201).bind fun j2 => (O_X0_next [.inr (7, 0, 0, 0), .inl (σ 182 j2), .inl (σ 5 3), .inl ((σ 15 5) + x2)] σ).bind fun r3 => (en_ix (x2 + (1 : Int32)) 201).bind fun j4 => T_X11_lookAhead_15 n x1 (x2 + (1 : Int32)) (en_up r3.2 182 j4 r3.1)) else (en_rv σ)) else (en_rv σ)) := rfl
noncomputable def P_X11_lookAhead : List en_V → en_M → Option en_M := fun av σ => match av with
  | [.inr (0, 11, 0, 0), .inl x1] => en_ov (T_X11_lookAhead_0 x1 σ)
  | _ => none
theorem ox_X11_lookAhead : ∃ f, f = P_X11_lookAhead := ⟨_, rfl⟩
noncomputable def O_X11_lookAhead : List en_V → en_M → Option en_M := Classical.choose ox_X11_lookAhead
theorem oe_X11_lookAhead : O_X11_lookAhead = P_X11_lookAhead := Classical.choose_spec ox_X11_lookAhead
theorem o_X11_lookAhead (x1 : Int32) (σ : en_M) : O_X11_lookAhead [.inr (0, 11, 0, 0), .inl x1] σ = en_ov (T_X11_lookAhead_0 x1 σ) := by rw [oe_X11_lookAhead]; rfl
theorem i_X11_lookAhead (G : en_G) (hst : G.2.2.2.2.2 = true) : en_I G 4 yX11_lookAhead cX11_lookAhead 3 none 0 0 (en_wv (O_X11_lookAhead)) := en_of_v (M := M_X11_lookAhead) hst (s_X11_lookAhead_0 G hst _ (l_X11_lookAhead G hst en_FU)) (plainFor_of_name (by decide +kernel)) rfl rfl rfl (fun av σ σ' h => by
  rw [oe_X11_lookAhead] at h; unfold P_X11_lookAhead at h
  split at h
  · exact ⟨(Nat.le_of_ble_eq_true rfl), en_ov_some h⟩
  · cases h)
-- EachMayMissOne.order(I)I
def M_X11_order : en_Me := (cX11_order, RX11, 3, false, 5, false)
theorem cs_X11_order : en_cs yX11_order cX11_order 3 (some .int) 1 := ⟨wm_140, wm_2, ⟨(by decide +kernel), (by decide +kernel), (by decide +kernel)⟩, (Nat.le_of_ble_eq_true rfl)⟩
noncomputable def B_X11_order_74 (kc : Nat → en_B) : en_B := (op_aload 0 (op_gets 11 182 (20, 201, 0) (op_iload 1 (op_ald 20 (op_const (0 : Int32) (op_calli O_X11_bellAt 2 op_iret))))))
set_option maxRecDepth 20000 in
theorem s_X11_order_74 (G : en_G) (hst : G.2.2.2.2.2 = true) (kc : Nat → en_B) (hk : ∀ t, en_Snd G M_X11_order t (kc t)) : en_Snd G M_X11_order 74 (B_X11_order_74 kc) := (sn_aload_n (i := 0) (n := 0) (by decide +kernel) rfl (sn_gets (ci := 11) (j := 10) (off := 182) hst en_c11 of_11_182 (Nat.le_of_ble_eq_true rfl) (by decide +kernel) wm_50 (Nat.le_of_ble_eq_true rfl) rfl (sn_iload_n (i := 1) (n := 1) (by decide +kernel) rfl (sn_iald (by decide +kernel) (sn_iconst (n := 0) (v := 0) (by decide +kernel) rfl (sn_callSi (n := 2) (idx := 174) (i_X11_bellAt G hst) (Nat.le_of_ble_eq_true rfl) cs_X11_bellAt ⟨wm_276, Or.inl wm_97⟩ (by decide +kernel) (sn_iret (by decide +kernel) rfl)))))))
noncomputable def B_X11_order_40 (kc : Nat → en_B) : en_B := (op_iload 2 (op_aload 0 (op_gets 11 5 (10, 0, 0) (op_geti 10 3 (op_iclt (op_aload 0 (op_gets 11 3 (9, 0, 0) (op_aload 0 (op_gets 11 182 (20, 201, 0) (op_iload 1 (op_ald 20 (op_iload 2 (op_calli O_X11_bellAt 2 (op_rcv 9 1 (op_callv O_X9_add 2 (op_iinc 2 (1 : Int32) (kc 40)))))))))))) (B_X11_order_74 kc))))))
set_option maxRecDepth 20000 in
theorem s_X11_order_40 (G : en_G) (hst : G.2.2.2.2.2 = true) (kc : Nat → en_B) (hk : ∀ t, en_Snd G M_X11_order t (kc t)) : en_Snd G M_X11_order 40 (B_X11_order_40 kc) := (sn_iload_n (i := 2) (n := 2) (by decide +kernel) rfl (sn_aload_n (i := 0) (n := 0) (by decide +kernel) rfl (sn_gets (ci := 11) (j := 2) (off := 5) hst en_c11 of_11_5 (Nat.le_of_ble_eq_true rfl) (by decide +kernel) wm_18 (Nat.le_of_ble_eq_true rfl) rfl (sn_geti (ci := 10) (j := 3) en_c10 (by decide +kernel) wm_74 (Nat.le_of_ble_eq_true rfl) rfl (sn_icge (off := 26) (tgt := 74) (by decide +kernel) rfl (s_X11_order_74 G hst kc hk) (sn_aload_n (i := 0) (n := 0) (by decide +kernel) rfl (sn_gets (ci := 11) (j := 1) (off := 3) hst en_c11 of_11_3 (Nat.le_of_ble_eq_true rfl) (by decide +kernel) wm_13 (Nat.le_of_ble_eq_true rfl) rfl (sn_aload_n (i := 0) (n := 0) (by decide +kernel) rfl (sn_gets (ci := 11) (j := 10) (off := 182) hst en_c11 of_11_182 (Nat.le_of_ble_eq_true rfl) (by decide +kernel) wm_50 (Nat.le_of_ble_eq_true rfl) rfl (sn_iload_n (i := 1) (n := 1) (by decide +kernel) rfl (sn_iald (by decide +kernel) (sn_iload_n (i := 2) (n := 2) (by decide +kernel) rfl (sn_callSi (n := 2) (idx := 174) (i_X11_bellAt G hst) (Nat.le_of_ble_eq_true rfl) cs_X11_bellAt ⟨wm_276, Or.inl wm_97⟩ (by decide +kernel) (sn_callVv (n := 1) (idx := 209) (ci := 9) (i_X9_add G hst) (Nat.le_of_ble_eq_true rfl) cs_X9_add ⟨wm_1090, wm_1091, wm_117⟩ ⟨⟨_, rfl, rfl⟩, (Nat.le_of_ble_eq_true rfl)⟩ (by decide +kernel) (sn_iinc (i := 2) (n := 1) (v := 1) (by decide +kernel) rfl (sn_goto (off := -31) (tgt := 40) (by decide +kernel) rfl (hk 40)))))))))))))))))
noncomputable def B_X11_order_26 (kc : Nat → en_B) : en_B := (op_aload 0 (op_iload 1 (op_rcv 11 1 (op_callv O_X11_lookAhead 2 (op_aload 0 (op_gets 11 3 (9, 0, 0) (op_rcv 9 0 (op_callv O_X9_begin 1 (op_const (0 : Int32) (op_istore 2 (kc 40)))))))))))
set_option maxRecDepth 20000 in
theorem s_X11_order_26 (G : en_G) (hst : G.2.2.2.2.2 = true) (kc : Nat → en_B) (hk : ∀ t, en_Snd G M_X11_order t (kc t)) : en_Snd G M_X11_order 26 (B_X11_order_26 kc) := (sn_aload_n (i := 0) (n := 0) (by decide +kernel) rfl (sn_iload_n (i := 1) (n := 1) (by decide +kernel) rfl (sn_callVv (n := 1) (idx := 242) (ci := 11) (i_X11_lookAhead G hst) (Nat.le_of_ble_eq_true rfl) cs_X11_lookAhead ⟨wm_287, wm_288, wm_143⟩ ⟨⟨_, rfl, rfl⟩, (Nat.le_of_ble_eq_true rfl)⟩ (by decide +kernel) (sn_aload_n (i := 0) (n := 0) (by decide +kernel) rfl (sn_gets (ci := 11) (j := 1) (off := 3) hst en_c11 of_11_3 (Nat.le_of_ble_eq_true rfl) (by decide +kernel) wm_13 (Nat.le_of_ble_eq_true rfl) rfl (sn_callVv (n := 0) (idx := 205) (ci := 9) (i_X9_begin G hst) (Nat.le_of_ble_eq_true rfl) cs_X9_begin ⟨wm_1086, wm_1087, wm_115⟩ ⟨⟨_, rfl, rfl⟩, (Nat.le_of_ble_eq_true rfl)⟩ (by decide +kernel) (sn_iconst (n := 0) (v := 0) (by decide +kernel) rfl (sn_istore_n (i := 2) (n := 2) (by decide +kernel) rfl (Nat.le_of_ble_eq_true rfl) (hk 40)))))))))
noncomputable def B_X11_order_24 (kc : Nat → en_B) : en_B := (op_const (-1 : Int32) op_iret)
set_option maxRecDepth 20000 in
theorem s_X11_order_24 (G : en_G) (hst : G.2.2.2.2.2 = true) (kc : Nat → en_B) (hk : ∀ t, en_Snd G M_X11_order t (kc t)) : en_Snd G M_X11_order 24 (B_X11_order_24 kc) := (sn_iconst (n := -1) (v := -1) (by decide +kernel) rfl (sn_iret (by decide +kernel) rfl))
noncomputable def B_X11_order_13 (kc : Nat → en_B) : en_B := (op_iload 1 (op_iflt (B_X11_order_24 kc) (op_iload 1 (op_const (200 : Int32) (op_icgt (B_X11_order_24 kc) (B_X11_order_26 kc))))))
set_option maxRecDepth 20000 in
theorem s_X11_order_13 (G : en_G) (hst : G.2.2.2.2.2 = true) (kc : Nat → en_B) (hk : ∀ t, en_Snd G M_X11_order t (kc t)) : en_Snd G M_X11_order 13 (B_X11_order_13 kc) := (sn_iload_n (i := 1) (n := 1) (by decide +kernel) rfl (sn_iflt (off := 10) (tgt := 24) (by decide +kernel) rfl (s_X11_order_24 G hst kc hk) (sn_iload_n (i := 1) (n := 1) (by decide +kernel) rfl (sn_sipush (n := 200) (v := 200) (by decide +kernel) rfl (sn_icle (off := 5) (tgt := 26) (by decide +kernel) rfl (s_X11_order_26 G hst kc hk) (s_X11_order_24 G hst kc hk))))))
noncomputable def B_X11_order_0 (kc : Nat → en_B) : en_B := (op_aload 0 (op_gets 11 5 (10, 0, 0) (op_geti 10 3 (op_ifeq (op_const (-2 : Int32) op_iret) (B_X11_order_13 kc)))))
set_option maxRecDepth 20000 in
theorem s_X11_order_0 (G : en_G) (hst : G.2.2.2.2.2 = true) (kc : Nat → en_B) (hk : ∀ t, en_Snd G M_X11_order t (kc t)) : en_Snd G M_X11_order 0 (B_X11_order_0 kc) := (sn_aload_n (i := 0) (n := 0) (by decide +kernel) rfl (sn_gets (ci := 11) (j := 2) (off := 5) hst en_c11 of_11_5 (Nat.le_of_ble_eq_true rfl) (by decide +kernel) wm_18 (Nat.le_of_ble_eq_true rfl) rfl (sn_geti (ci := 10) (j := 3) en_c10 (by decide +kernel) wm_74 (Nat.le_of_ble_eq_true rfl) rfl (sn_ifne (off := 6) (tgt := 13) (by decide +kernel) rfl (s_X11_order_13 G hst kc hk) (sn_bipush (n := -2) (v := -2) (by decide +kernel) rfl (sn_iret (by decide +kernel) rfl))))))
noncomputable def LK_X11_order : Nat → Nat → en_B
  | 0, _ => en_no
  | n + 1, t => if t = 40 then B_X11_order_40 (LK_X11_order n) else en_no
theorem l_X11_order (G : en_G) (hst : G.2.2.2.2.2 = true) : ∀ n t, en_Snd G M_X11_order t (LK_X11_order n t)
  | 0, _ => sn_no
  | n + 1, t => by
    show en_Snd G M_X11_order t (if t = 40 then B_X11_order_40 (LK_X11_order n) else en_no)
    by_cases h_40 : t = 40
    · rw [if_pos h_40, h_40]; exact s_X11_order_40 G hst _ (l_X11_order G hst n)
    rw [if_neg h_40]
    exact sn_no
noncomputable def T_X11_order_0 (x1 : Int32) (σ : en_M) : en_R := B_X11_order_0 (LK_X11_order en_FU) [.inr (0, 11, 0, 0), .inl x1, en_un] [] en_zz σ
noncomputable def T_X11_order_40 (n : Nat) (x1 : Int32) (x2 : Int32) (σ : en_M) : en_R := LK_X11_order n 40 [.inr (0, 11, 0, 0), .inl x1, .inl x2] [] en_zz σ
set_option maxRecDepth 20000 in
set_option maxHeartbeats 2000000 in
theorem t_X11_order_0 (x1 : Int32) (σ : en_M) : T_X11_order_0 x1 σ = (if (σ 5 3) = 0 then (en_ri (-2 : Int32) σ) else (if x1 < 0 then (en_ri (-1 : Int32) σ) else (if (200 : Int32) < x1 then (en_ri (-1 : Int32) σ) else ((O_X11_lookAhead [.inr (0, 11, 0, 0), .inl x1] σ).bind fun r1 => (O_X9_begin [.inr (3, 9, 0, 0)] r1).bind fun r2 => T_X11_order_40 en_FU x1 (0 : Int32) r2)))) := rfl
set_option maxRecDepth 20000 in
set_option maxHeartbeats 2000000 in
theorem t_X11_order_40 (n : Nat) (x1 : Int32) (x2 : Int32) (σ : en_M) : T_X11_order_40 (n + 1) x1 x2 σ = (if x2 < (σ 5 3) then ((en_ix x1 201).bind fun j5 => (O_X11_bellAt [.inl (σ 182 j5), .inl x2] σ).bind fun r6 => (O_X9_add [.inr (3, 9, 0, 0), .inl r6.1] r6.2).bind fun r7 => T_X11_order_40 n x1 (x2 + (1 : Int32)) r7) else ((en_ix x1 201).bind fun j3 => (O_X11_bellAt [.inl (σ 182 j3), .inl (0 : Int32)] σ).bind fun r4 => en_ri r4.1 r4.2)) := rfl
noncomputable def P_X11_order : List en_V → en_M → Option (Int32 × en_M) := fun av σ => match av with
  | [.inr (0, 11, 0, 0), .inl x1] => en_oi (T_X11_order_0 x1 σ)
  | _ => none
theorem ox_X11_order : ∃ f, f = P_X11_order := ⟨_, rfl⟩
noncomputable def O_X11_order : List en_V → en_M → Option (Int32 × en_M) := Classical.choose ox_X11_order
theorem oe_X11_order : O_X11_order = P_X11_order := Classical.choose_spec ox_X11_order
theorem o_X11_order (x1 : Int32) (σ : en_M) : O_X11_order [.inr (0, 11, 0, 0), .inl x1] σ = en_oi (T_X11_order_0 x1 σ) := by rw [oe_X11_order]; rfl
theorem i_X11_order (G : en_G) (hst : G.2.2.2.2.2 = true) : en_I G 5 yX11_order cX11_order 3 (some .int) 0 0 (en_wi (O_X11_order)) := en_of_i (M := M_X11_order) hst (s_X11_order_0 G hst _ (l_X11_order G hst en_FU)) (plainFor_of_name (by decide +kernel)) rfl rfl rfl (Or.inl ⟨rfl, rfl⟩) (fun av σ x σ' h => by
  rw [oe_X11_order] at h; unfold P_X11_order at h
  split at h
  · exact ⟨(Nat.le_of_ble_eq_true rfl), en_oi_some h⟩
  · cases h)
-- EachMayMissOne.firstAhead(II)I
def M_X11_firstAhead : en_Me := (cX11_firstAhead, RX11, 4, false, 1, false)
theorem cs_X11_firstAhead : en_cs yX11_firstAhead cX11_firstAhead 4 (some .int) 2 := ⟨wm_290, wm_2, ⟨(by decide +kernel), (by decide +kernel), (by decide +kernel)⟩, (Nat.le_of_ble_eq_true rfl)⟩
noncomputable def B_X11_firstAhead_30 (kc : Nat → en_B) : en_B := (op_iload 3 op_iret)
set_option maxRecDepth 20000 in
theorem s_X11_firstAhead_30 (G : en_G) (hst : G.2.2.2.2.2 = true) (kc : Nat → en_B) (hk : ∀ t, en_Snd G M_X11_firstAhead t (kc t)) : en_Snd G M_X11_firstAhead 30 (B_X11_firstAhead_30 kc) := (sn_iload_n (i := 3) (n := 3) (by decide +kernel) rfl (sn_iret (by decide +kernel) rfl))
noncomputable def B_X11_firstAhead_2 (kc : Nat → en_B) : en_B := (op_iload 3 (op_iload 2 (op_iclt (op_iload 3 (op_const (200 : Int32) (op_icgt (B_X11_firstAhead_30 kc) (op_aload 0 (op_gets 11 182 (20, 201, 0) (op_iload 3 (op_ald 20 (op_iload 1 (op_iceq (B_X11_firstAhead_30 kc) (op_iinc 3 (1 : Int32) (kc 2))))))))))) (B_X11_firstAhead_30 kc))))
set_option maxRecDepth 20000 in
theorem s_X11_firstAhead_2 (G : en_G) (hst : G.2.2.2.2.2 = true) (kc : Nat → en_B) (hk : ∀ t, en_Snd G M_X11_firstAhead t (kc t)) : en_Snd G M_X11_firstAhead 2 (B_X11_firstAhead_2 kc) := (sn_iload_n (i := 3) (n := 3) (by decide +kernel) rfl (sn_iload_n (i := 2) (n := 2) (by decide +kernel) rfl (sn_icge (off := 26) (tgt := 30) (by decide +kernel) rfl (s_X11_firstAhead_30 G hst kc hk) (sn_iload_n (i := 3) (n := 3) (by decide +kernel) rfl (sn_sipush (n := 200) (v := 200) (by decide +kernel) rfl (sn_icgt (off := 19) (tgt := 30) (by decide +kernel) rfl (s_X11_firstAhead_30 G hst kc hk) (sn_aload_n (i := 0) (n := 0) (by decide +kernel) rfl (sn_gets (ci := 11) (j := 10) (off := 182) hst en_c11 of_11_182 (Nat.le_of_ble_eq_true rfl) (by decide +kernel) wm_50 (Nat.le_of_ble_eq_true rfl) rfl (sn_iload_n (i := 3) (n := 3) (by decide +kernel) rfl (sn_iald (by decide +kernel) (sn_iload_n (i := 1) (n := 1) (by decide +kernel) rfl (sn_iceq (off := 9) (tgt := 30) (by decide +kernel) rfl (s_X11_firstAhead_30 G hst kc hk) (sn_iinc (i := 3) (n := 1) (v := 1) (by decide +kernel) rfl (sn_goto (off := -25) (tgt := 2) (by decide +kernel) rfl (hk 2)))))))))))))))
noncomputable def B_X11_firstAhead_0 (kc : Nat → en_B) : en_B := (op_const (0 : Int32) (op_istore 3 (kc 2)))
set_option maxRecDepth 20000 in
theorem s_X11_firstAhead_0 (G : en_G) (hst : G.2.2.2.2.2 = true) (kc : Nat → en_B) (hk : ∀ t, en_Snd G M_X11_firstAhead t (kc t)) : en_Snd G M_X11_firstAhead 0 (B_X11_firstAhead_0 kc) := (sn_iconst (n := 0) (v := 0) (by decide +kernel) rfl (sn_istore_n (i := 3) (n := 3) (by decide +kernel) rfl (Nat.le_of_ble_eq_true rfl) (hk 2)))
noncomputable def LK_X11_firstAhead : Nat → Nat → en_B
  | 0, _ => en_no
  | n + 1, t => if t = 2 then B_X11_firstAhead_2 (LK_X11_firstAhead n) else en_no
theorem l_X11_firstAhead (G : en_G) (hst : G.2.2.2.2.2 = true) : ∀ n t, en_Snd G M_X11_firstAhead t (LK_X11_firstAhead n t)
  | 0, _ => sn_no
  | n + 1, t => by
    show en_Snd G M_X11_firstAhead t (if t = 2 then B_X11_firstAhead_2 (LK_X11_firstAhead n) else en_no)
    by_cases h_2 : t = 2
    · rw [if_pos h_2, h_2]; exact s_X11_firstAhead_2 G hst _ (l_X11_firstAhead G hst n)
    rw [if_neg h_2]
    exact sn_no
noncomputable def T_X11_firstAhead_0 (x1 : Int32) (x2 : Int32) (σ : en_M) : en_R := B_X11_firstAhead_0 (LK_X11_firstAhead en_FU) [.inr (0, 11, 0, 0), .inl x1, .inl x2, en_un] [] en_zz σ
noncomputable def T_X11_firstAhead_2 (n : Nat) (x1 : Int32) (x2 : Int32) (x3 : Int32) (σ : en_M) : en_R := LK_X11_firstAhead n 2 [.inr (0, 11, 0, 0), .inl x1, .inl x2, .inl x3] [] en_zz σ
set_option maxRecDepth 20000 in
set_option maxHeartbeats 2000000 in
theorem t_X11_firstAhead_0 (x1 : Int32) (x2 : Int32) (σ : en_M) : T_X11_firstAhead_0 x1 x2 σ = (T_X11_firstAhead_2 en_FU x1 x2 (0 : Int32) σ) := rfl
set_option maxRecDepth 20000 in
set_option maxHeartbeats 2000000 in
theorem t_X11_firstAhead_2 (n : Nat) (x1 : Int32) (x2 : Int32) (x3 : Int32) (σ : en_M) : T_X11_firstAhead_2 (n + 1) x1 x2 x3 σ = (if x3 < x2 then (if (200 : Int32) < x3 then (en_ri x3 σ) else ((en_ix x3 201).bind fun j1 => if (σ 182 j1) = x1 then (en_ri x3 σ) else (T_X11_firstAhead_2 n x1 x2 (x3 + (1 : Int32)) σ))) else (en_ri x3 σ)) := rfl
noncomputable def P_X11_firstAhead : List en_V → en_M → Option (Int32 × en_M) := fun av σ => match av with
  | [.inr (0, 11, 0, 0), .inl x1, .inl x2] => en_oi (T_X11_firstAhead_0 x1 x2 σ)
  | _ => none
theorem ox_X11_firstAhead : ∃ f, f = P_X11_firstAhead := ⟨_, rfl⟩
noncomputable def O_X11_firstAhead : List en_V → en_M → Option (Int32 × en_M) := Classical.choose ox_X11_firstAhead
theorem oe_X11_firstAhead : O_X11_firstAhead = P_X11_firstAhead := Classical.choose_spec ox_X11_firstAhead
theorem o_X11_firstAhead (x1 : Int32) (x2 : Int32) (σ : en_M) : O_X11_firstAhead [.inr (0, 11, 0, 0), .inl x1, .inl x2] σ = en_oi (T_X11_firstAhead_0 x1 x2 σ) := by rw [oe_X11_firstAhead]; rfl
theorem i_X11_firstAhead (G : en_G) (hst : G.2.2.2.2.2 = true) : en_I G 1 yX11_firstAhead cX11_firstAhead 4 (some .int) 0 0 (en_wi (O_X11_firstAhead)) := en_of_i (M := M_X11_firstAhead) hst (s_X11_firstAhead_0 G hst _ (l_X11_firstAhead G hst en_FU)) (plainFor_of_name (by decide +kernel)) rfl rfl rfl (Or.inl ⟨rfl, rfl⟩) (fun av σ x σ' h => by
  rw [oe_X11_firstAhead] at h; unfold P_X11_firstAhead at h
  split at h
  · exact ⟨(Nat.le_of_ble_eq_true rfl), en_oi_some h⟩
  · cases h)
-- EachMayMissOne.truth()I
def M_X11_truth : en_Me := (cX11_truth, RX11, 3, false, 5, false)
theorem cs_X11_truth : en_cs yX11_truth cX11_truth 3 (some .int) 0 := ⟨wm_144, wm_2, ⟨(by decide +kernel), (by decide +kernel), (by decide +kernel)⟩, (Nat.le_of_ble_eq_true rfl)⟩
noncomputable def B_X11_truth_69 (kc : Nat → en_B) : en_B := (op_const (-2 : Int32) op_iret)
set_option maxRecDepth 20000 in
theorem s_X11_truth_69 (G : en_G) (hst : G.2.2.2.2.2 = true) (kc : Nat → en_B) (hk : ∀ t, en_Snd G M_X11_truth t (kc t)) : en_Snd G M_X11_truth 69 (B_X11_truth_69 kc) := (sn_bipush (n := -2) (v := -2) (by decide +kernel) rfl (sn_iret (by decide +kernel) rfl))
noncomputable def B_X11_truth_63 (kc : Nat → en_B) : en_B := (op_iinc 1 (1 : Int32) (kc 22))
set_option maxRecDepth 20000 in
theorem s_X11_truth_63 (G : en_G) (hst : G.2.2.2.2.2 = true) (kc : Nat → en_B) (hk : ∀ t, en_Snd G M_X11_truth t (kc t)) : en_Snd G M_X11_truth 63 (B_X11_truth_63 kc) := (sn_iinc (i := 1) (n := 1) (v := 1) (by decide +kernel) rfl (sn_goto (off := -44) (tgt := 22) (by decide +kernel) rfl (hk 22)))
noncomputable def B_X11_truth_22 (kc : Nat → en_B) : en_B := (op_iload 1 (op_const (200 : Int32) (op_icgt (B_X11_truth_69 kc) (op_aload 0 (op_aload 0 (op_gets 11 182 (20, 201, 0) (op_iload 1 (op_ald 20 (op_iload 1 (op_rcv 11 2 (op_calli O_X11_firstAhead 3 (op_istore 2 (op_iload 2 (op_iload 1 (op_iclt (op_aload 0 (op_gets 11 3 (9, 0, 0) (op_rcv 9 0 (op_callv O_X9_begin 1 (op_aload 0 (op_gets 11 3 (9, 0, 0) (op_iload 2 (op_rcv 9 1 (op_callv O_X9_add 2 (op_iload 1 op_iret)))))))))) (B_X11_truth_63 kc))))))))))))))))
set_option maxRecDepth 20000 in
theorem s_X11_truth_22 (G : en_G) (hst : G.2.2.2.2.2 = true) (kc : Nat → en_B) (hk : ∀ t, en_Snd G M_X11_truth t (kc t)) : en_Snd G M_X11_truth 22 (B_X11_truth_22 kc) := (sn_iload_n (i := 1) (n := 1) (by decide +kernel) rfl (sn_sipush (n := 200) (v := 200) (by decide +kernel) rfl (sn_icgt (off := 43) (tgt := 69) (by decide +kernel) rfl (s_X11_truth_69 G hst kc hk) (sn_aload_n (i := 0) (n := 0) (by decide +kernel) rfl (sn_aload_n (i := 0) (n := 0) (by decide +kernel) rfl (sn_gets (ci := 11) (j := 10) (off := 182) hst en_c11 of_11_182 (Nat.le_of_ble_eq_true rfl) (by decide +kernel) wm_50 (Nat.le_of_ble_eq_true rfl) rfl (sn_iload_n (i := 1) (n := 1) (by decide +kernel) rfl (sn_iald (by decide +kernel) (sn_iload_n (i := 1) (n := 1) (by decide +kernel) rfl (sn_callVi (n := 2) (idx := 245) (ci := 11) (i_X11_firstAhead G hst) (Nat.le_of_ble_eq_true rfl) cs_X11_firstAhead ⟨wm_291, wm_292, wm_147⟩ ⟨⟨_, rfl, rfl⟩, (Nat.le_of_ble_eq_true rfl)⟩ (by decide +kernel) (sn_istore_n (i := 2) (n := 2) (by decide +kernel) rfl (Nat.le_of_ble_eq_true rfl) (sn_iload_n (i := 2) (n := 2) (by decide +kernel) rfl (sn_iload_n (i := 1) (n := 1) (by decide +kernel) rfl (sn_icge (off := 20) (tgt := 63) (by decide +kernel) rfl (s_X11_truth_63 G hst kc hk) (sn_aload_n (i := 0) (n := 0) (by decide +kernel) rfl (sn_gets (ci := 11) (j := 1) (off := 3) hst en_c11 of_11_3 (Nat.le_of_ble_eq_true rfl) (by decide +kernel) wm_13 (Nat.le_of_ble_eq_true rfl) rfl (sn_callVv (n := 0) (idx := 205) (ci := 9) (i_X9_begin G hst) (Nat.le_of_ble_eq_true rfl) cs_X9_begin ⟨wm_1086, wm_1087, wm_115⟩ ⟨⟨_, rfl, rfl⟩, (Nat.le_of_ble_eq_true rfl)⟩ (by decide +kernel) (sn_aload_n (i := 0) (n := 0) (by decide +kernel) rfl (sn_gets (ci := 11) (j := 1) (off := 3) hst en_c11 of_11_3 (Nat.le_of_ble_eq_true rfl) (by decide +kernel) wm_13 (Nat.le_of_ble_eq_true rfl) rfl (sn_iload_n (i := 2) (n := 2) (by decide +kernel) rfl (sn_callVv (n := 1) (idx := 209) (ci := 9) (i_X9_add G hst) (Nat.le_of_ble_eq_true rfl) cs_X9_add ⟨wm_1090, wm_1091, wm_117⟩ ⟨⟨_, rfl, rfl⟩, (Nat.le_of_ble_eq_true rfl)⟩ (by decide +kernel) (sn_iload_n (i := 1) (n := 1) (by decide +kernel) rfl (sn_iret (by decide +kernel) rfl)))))))))))))))))))))))
noncomputable def B_X11_truth_13 (kc : Nat → en_B) : en_B := (op_aload 0 (op_const (200 : Int32) (op_rcv 11 1 (op_callv O_X11_lookAhead 2 (op_const (1 : Int32) (op_istore 1 (kc 22)))))))
set_option maxRecDepth 20000 in
theorem s_X11_truth_13 (G : en_G) (hst : G.2.2.2.2.2 = true) (kc : Nat → en_B) (hk : ∀ t, en_Snd G M_X11_truth t (kc t)) : en_Snd G M_X11_truth 13 (B_X11_truth_13 kc) := (sn_aload_n (i := 0) (n := 0) (by decide +kernel) rfl (sn_sipush (n := 200) (v := 200) (by decide +kernel) rfl (sn_callVv (n := 1) (idx := 242) (ci := 11) (i_X11_lookAhead G hst) (Nat.le_of_ble_eq_true rfl) cs_X11_lookAhead ⟨wm_287, wm_288, wm_143⟩ ⟨⟨_, rfl, rfl⟩, (Nat.le_of_ble_eq_true rfl)⟩ (by decide +kernel) (sn_iconst (n := 1) (v := 1) (by decide +kernel) rfl (sn_istore_n (i := 1) (n := 1) (by decide +kernel) rfl (Nat.le_of_ble_eq_true rfl) (hk 22))))))
noncomputable def B_X11_truth_0 (kc : Nat → en_B) : en_B := (op_aload 0 (op_gets 11 5 (10, 0, 0) (op_geti 10 3 (op_ifeq (op_const (-2 : Int32) op_iret) (B_X11_truth_13 kc)))))
set_option maxRecDepth 20000 in
theorem s_X11_truth_0 (G : en_G) (hst : G.2.2.2.2.2 = true) (kc : Nat → en_B) (hk : ∀ t, en_Snd G M_X11_truth t (kc t)) : en_Snd G M_X11_truth 0 (B_X11_truth_0 kc) := (sn_aload_n (i := 0) (n := 0) (by decide +kernel) rfl (sn_gets (ci := 11) (j := 2) (off := 5) hst en_c11 of_11_5 (Nat.le_of_ble_eq_true rfl) (by decide +kernel) wm_18 (Nat.le_of_ble_eq_true rfl) rfl (sn_geti (ci := 10) (j := 3) en_c10 (by decide +kernel) wm_74 (Nat.le_of_ble_eq_true rfl) rfl (sn_ifne (off := 6) (tgt := 13) (by decide +kernel) rfl (s_X11_truth_13 G hst kc hk) (sn_bipush (n := -2) (v := -2) (by decide +kernel) rfl (sn_iret (by decide +kernel) rfl))))))
noncomputable def LK_X11_truth : Nat → Nat → en_B
  | 0, _ => en_no
  | n + 1, t => if t = 22 then B_X11_truth_22 (LK_X11_truth n) else en_no
theorem l_X11_truth (G : en_G) (hst : G.2.2.2.2.2 = true) : ∀ n t, en_Snd G M_X11_truth t (LK_X11_truth n t)
  | 0, _ => sn_no
  | n + 1, t => by
    show en_Snd G M_X11_truth t (if t = 22 then B_X11_truth_22 (LK_X11_truth n) else en_no)
    by_cases h_22 : t = 22
    · rw [if_pos h_22, h_22]; exact s_X11_truth_22 G hst _ (l_X11_truth G hst n)
    rw [if_neg h_22]
    exact sn_no
noncomputable def T_X11_truth_0 (σ : en_M) : en_R := B_X11_truth_0 (LK_X11_truth en_FU) [.inr (0, 11, 0, 0), en_un, en_un] [] en_zz σ
noncomputable def T_X11_truth_22 (n : Nat) (x1 : Int32) (u2 : en_V) (σ : en_M) : en_R := LK_X11_truth n 22 [.inr (0, 11, 0, 0), .inl x1, u2] [] en_zz σ
set_option maxRecDepth 20000 in
set_option maxHeartbeats 2000000 in
theorem t_X11_truth_0 (σ : en_M) : T_X11_truth_0 σ = (if (σ 5 3) = 0 then (en_ri (-2 : Int32) σ) else ((O_X11_lookAhead [.inr (0, 11, 0, 0), .inl (200 : Int32)] σ).bind fun r1 => T_X11_truth_22 en_FU (1 : Int32) (en_un) r1)) := rfl
set_option maxRecDepth 20000 in
set_option maxHeartbeats 2000000 in
theorem t_X11_truth_22 (n : Nat) (x1 : Int32) (u2 : en_V) (σ : en_M) : T_X11_truth_22 (n + 1) x1 u2 σ = (if (200 : Int32) < x1 then (en_ri (-2 : Int32) σ) else ((en_ix x1 201).bind fun j2 => (O_X11_firstAhead [.inr (0, 11, 0, 0), .inl (σ 182 j2), .inl x1] σ).bind fun r3 => if r3.1 < x1 then ((O_X9_begin [.inr (3, 9, 0, 0)] r3.2).bind fun r4 => (O_X9_add [.inr (3, 9, 0, 0), .inl r3.1] r4).bind fun r5 => en_ri x1 r5) else (T_X11_truth_22 n (x1 + (1 : Int32)) (.inl r3.1) r3.2))) := rfl
noncomputable def P_X11_truth : List en_V → en_M → Option (Int32 × en_M) := fun av σ => match av with
  | [.inr (0, 11, 0, 0)] => en_oi (T_X11_truth_0 σ)
  | _ => none
theorem ox_X11_truth : ∃ f, f = P_X11_truth := ⟨_, rfl⟩
noncomputable def O_X11_truth : List en_V → en_M → Option (Int32 × en_M) := Classical.choose ox_X11_truth
theorem oe_X11_truth : O_X11_truth = P_X11_truth := Classical.choose_spec ox_X11_truth
theorem o_X11_truth (σ : en_M) : O_X11_truth [.inr (0, 11, 0, 0)] σ = en_oi (T_X11_truth_0 σ) := by rw [oe_X11_truth]; rfl
theorem i_X11_truth (G : en_G) (hst : G.2.2.2.2.2 = true) : en_I G 5 yX11_truth cX11_truth 3 (some .int) 0 0 (en_wi (O_X11_truth)) := en_of_i (M := M_X11_truth) hst (s_X11_truth_0 G hst _ (l_X11_truth G hst en_FU)) (plainFor_of_name (by decide +kernel)) rfl rfl rfl (Or.inl ⟨rfl, rfl⟩) (fun av σ x σ' h => by
  rw [oe_X11_truth] at h; unfold P_X11_truth at h
  split at h
  · exact ⟨(Nat.le_of_ble_eq_true rfl), en_oi_some h⟩
  · cases h)
-- EachMayMissOne.lead()I
def M_X11_lead : en_Me := (cX11_lead, RX11, 2, false, 5, false)
theorem cs_X11_lead : en_cs yX11_lead cX11_lead 2 (some .int) 0 := ⟨wm_148, wm_2, ⟨(by decide +kernel), (by decide +kernel), (by decide +kernel)⟩, (Nat.le_of_ble_eq_true rfl)⟩
noncomputable def B_X11_lead_82 (kc : Nat → en_B) : en_B := (op_const (-2 : Int32) op_iret)
set_option maxRecDepth 20000 in
theorem s_X11_lead_82 (G : en_G) (hst : G.2.2.2.2.2 = true) (kc : Nat → en_B) (hk : ∀ t, en_Snd G M_X11_lead t (kc t)) : en_Snd G M_X11_lead 82 (B_X11_lead_82 kc) := (sn_bipush (n := -2) (v := -2) (by decide +kernel) rfl (sn_iret (by decide +kernel) rfl))
noncomputable def B_X11_lead_76 (kc : Nat → en_B) : en_B := (op_iinc 1 (1 : Int32) (kc 22))
set_option maxRecDepth 20000 in
theorem s_X11_lead_76 (G : en_G) (hst : G.2.2.2.2.2 = true) (kc : Nat → en_B) (hk : ∀ t, en_Snd G M_X11_lead t (kc t)) : en_Snd G M_X11_lead 76 (B_X11_lead_76 kc) := (sn_iinc (i := 1) (n := 1) (v := 1) (by decide +kernel) rfl (sn_goto (off := -57) (tgt := 22) (by decide +kernel) rfl (hk 22)))
noncomputable def B_X11_lead_22 (kc : Nat → en_B) : en_B := (op_iload 1 (op_const (200 : Int32) (op_icgt (B_X11_lead_82 kc) (op_aload 0 (op_gets 11 182 (20, 201, 0) (op_iload 1 (op_ald 20 (op_aload 0 (op_gets 11 15 (7, 0, 0) (op_geti 7 4 (op_iceq (op_aload 0 (op_gets 11 5 (10, 0, 0) (op_gets 10 2 (0, 0, 0) (op_aload 0 (op_gets 11 15 (7, 0, 0) (op_geti 7 5 (op_aload 0 (op_gets 11 15 (7, 0, 0) (op_geti 7 5 (op_iload 1 (op_bin (fun (x y : Int32) => x + y) (op_rcv 0 2 (op_calli O_X0_sameChange 3 (op_ifeq (B_X11_lead_76 kc) (op_iload 1 op_iret))))))))))))))) (B_X11_lead_76 kc))))))))))))
set_option maxRecDepth 20000 in
theorem s_X11_lead_22 (G : en_G) (hst : G.2.2.2.2.2 = true) (kc : Nat → en_B) (hk : ∀ t, en_Snd G M_X11_lead t (kc t)) : en_Snd G M_X11_lead 22 (B_X11_lead_22 kc) := (sn_iload_n (i := 1) (n := 1) (by decide +kernel) rfl (sn_sipush (n := 200) (v := 200) (by decide +kernel) rfl (sn_icgt (off := 56) (tgt := 82) (by decide +kernel) rfl (s_X11_lead_82 G hst kc hk) (sn_aload_n (i := 0) (n := 0) (by decide +kernel) rfl (sn_gets (ci := 11) (j := 10) (off := 182) hst en_c11 of_11_182 (Nat.le_of_ble_eq_true rfl) (by decide +kernel) wm_50 (Nat.le_of_ble_eq_true rfl) rfl (sn_iload_n (i := 1) (n := 1) (by decide +kernel) rfl (sn_iald (by decide +kernel) (sn_aload_n (i := 0) (n := 0) (by decide +kernel) rfl (sn_gets (ci := 11) (j := 3) (off := 15) hst en_c11 of_11_15 (Nat.le_of_ble_eq_true rfl) (by decide +kernel) wm_23 (Nat.le_of_ble_eq_true rfl) rfl (sn_geti (ci := 7) (j := 4) en_c7 (by decide +kernel) wm_89 (Nat.le_of_ble_eq_true rfl) rfl (sn_icne (off := 34) (tgt := 76) (by decide +kernel) rfl (s_X11_lead_76 G hst kc hk) (sn_aload_n (i := 0) (n := 0) (by decide +kernel) rfl (sn_gets (ci := 11) (j := 2) (off := 5) hst en_c11 of_11_5 (Nat.le_of_ble_eq_true rfl) (by decide +kernel) wm_18 (Nat.le_of_ble_eq_true rfl) rfl (sn_gets (ci := 10) (j := 1) (off := 2) hst en_c10 of_10_2 (Nat.le_of_ble_eq_true rfl) (by decide +kernel) wm_73 (Nat.le_of_ble_eq_true rfl) rfl (sn_aload_n (i := 0) (n := 0) (by decide +kernel) rfl (sn_gets (ci := 11) (j := 3) (off := 15) hst en_c11 of_11_15 (Nat.le_of_ble_eq_true rfl) (by decide +kernel) wm_23 (Nat.le_of_ble_eq_true rfl) rfl (sn_geti (ci := 7) (j := 5) en_c7 (by decide +kernel) wm_123 (Nat.le_of_ble_eq_true rfl) rfl (sn_aload_n (i := 0) (n := 0) (by decide +kernel) rfl (sn_gets (ci := 11) (j := 3) (off := 15) hst en_c11 of_11_15 (Nat.le_of_ble_eq_true rfl) (by decide +kernel) wm_23 (Nat.le_of_ble_eq_true rfl) rfl (sn_geti (ci := 7) (j := 5) en_c7 (by decide +kernel) wm_123 (Nat.le_of_ble_eq_true rfl) rfl (sn_iload_n (i := 1) (n := 1) (by decide +kernel) rfl (sn_iadd (by decide +kernel) (sn_callVi (n := 2) (idx := 248) (ci := 0) (i_X0_sameChange G hst) (Nat.le_of_ble_eq_true rfl) cs_X0_sameChange ⟨wm_754, wm_755, wm_151⟩ ⟨⟨_, rfl, rfl⟩, (Nat.le_of_ble_eq_true rfl)⟩ (by decide +kernel) (sn_ifeq (off := 5) (tgt := 76) (by decide +kernel) rfl (s_X11_lead_76 G hst kc hk) (sn_iload_n (i := 1) (n := 1) (by decide +kernel) rfl (sn_iret (by decide +kernel) rfl))))))))))))))))))))))))))
noncomputable def B_X11_lead_13 (kc : Nat → en_B) : en_B := (op_aload 0 (op_const (200 : Int32) (op_rcv 11 1 (op_callv O_X11_lookAhead 2 (op_const (1 : Int32) (op_istore 1 (kc 22)))))))
set_option maxRecDepth 20000 in
theorem s_X11_lead_13 (G : en_G) (hst : G.2.2.2.2.2 = true) (kc : Nat → en_B) (hk : ∀ t, en_Snd G M_X11_lead t (kc t)) : en_Snd G M_X11_lead 13 (B_X11_lead_13 kc) := (sn_aload_n (i := 0) (n := 0) (by decide +kernel) rfl (sn_sipush (n := 200) (v := 200) (by decide +kernel) rfl (sn_callVv (n := 1) (idx := 242) (ci := 11) (i_X11_lookAhead G hst) (Nat.le_of_ble_eq_true rfl) cs_X11_lookAhead ⟨wm_287, wm_288, wm_143⟩ ⟨⟨_, rfl, rfl⟩, (Nat.le_of_ble_eq_true rfl)⟩ (by decide +kernel) (sn_iconst (n := 1) (v := 1) (by decide +kernel) rfl (sn_istore_n (i := 1) (n := 1) (by decide +kernel) rfl (Nat.le_of_ble_eq_true rfl) (hk 22))))))
noncomputable def B_X11_lead_0 (kc : Nat → en_B) : en_B := (op_aload 0 (op_gets 11 5 (10, 0, 0) (op_geti 10 3 (op_ifeq (op_const (-2 : Int32) op_iret) (B_X11_lead_13 kc)))))
set_option maxRecDepth 20000 in
theorem s_X11_lead_0 (G : en_G) (hst : G.2.2.2.2.2 = true) (kc : Nat → en_B) (hk : ∀ t, en_Snd G M_X11_lead t (kc t)) : en_Snd G M_X11_lead 0 (B_X11_lead_0 kc) := (sn_aload_n (i := 0) (n := 0) (by decide +kernel) rfl (sn_gets (ci := 11) (j := 2) (off := 5) hst en_c11 of_11_5 (Nat.le_of_ble_eq_true rfl) (by decide +kernel) wm_18 (Nat.le_of_ble_eq_true rfl) rfl (sn_geti (ci := 10) (j := 3) en_c10 (by decide +kernel) wm_74 (Nat.le_of_ble_eq_true rfl) rfl (sn_ifne (off := 6) (tgt := 13) (by decide +kernel) rfl (s_X11_lead_13 G hst kc hk) (sn_bipush (n := -2) (v := -2) (by decide +kernel) rfl (sn_iret (by decide +kernel) rfl))))))
noncomputable def LK_X11_lead : Nat → Nat → en_B
  | 0, _ => en_no
  | n + 1, t => if t = 22 then B_X11_lead_22 (LK_X11_lead n) else en_no
theorem l_X11_lead (G : en_G) (hst : G.2.2.2.2.2 = true) : ∀ n t, en_Snd G M_X11_lead t (LK_X11_lead n t)
  | 0, _ => sn_no
  | n + 1, t => by
    show en_Snd G M_X11_lead t (if t = 22 then B_X11_lead_22 (LK_X11_lead n) else en_no)
    by_cases h_22 : t = 22
    · rw [if_pos h_22, h_22]; exact s_X11_lead_22 G hst _ (l_X11_lead G hst n)
    rw [if_neg h_22]
    exact sn_no
noncomputable def T_X11_lead_0 (σ : en_M) : en_R := B_X11_lead_0 (LK_X11_lead en_FU) [.inr (0, 11, 0, 0), en_un] [] en_zz σ
noncomputable def T_X11_lead_22 (n : Nat) (x1 : Int32) (σ : en_M) : en_R := LK_X11_lead n 22 [.inr (0, 11, 0, 0), .inl x1] [] en_zz σ
set_option maxRecDepth 20000 in
set_option maxHeartbeats 2000000 in
theorem t_X11_lead_0 (σ : en_M) : T_X11_lead_0 σ = (if (σ 5 3) = 0 then (en_ri (-2 : Int32) σ) else ((O_X11_lookAhead [.inr (0, 11, 0, 0), .inl (200 : Int32)] σ).bind fun r1 => T_X11_lead_22 en_FU (1 : Int32) r1)) := rfl
set_option maxRecDepth 20000 in
set_option maxHeartbeats 2000000 in
theorem t_X11_lead_22 (n : Nat) (x1 : Int32) (σ : en_M) : T_X11_lead_22 (n + 1) x1 σ = (if (200 : Int32) < x1 then (en_ri (-2 : Int32) σ) else ((en_ix x1 201).bind fun j2 => if (σ 182 j2) = (σ 15 4) then ((O_X0_sameChange [.inr (7, 0, 0, 0), .inl (σ 15 5), .inl ((σ 15 5) + x1)] σ).bind fun r3 => if r3.1 = 0 then (T_X11_lead_22 n (x1 + (1 : Int32)) r3.2) else (en_ri x1 r3.2)) else (T_X11_lead_22 n (x1 + (1 : Int32)) σ))) := rfl
noncomputable def P_X11_lead : List en_V → en_M → Option (Int32 × en_M) := fun av σ => match av with
  | [.inr (0, 11, 0, 0)] => en_oi (T_X11_lead_0 σ)
  | _ => none
theorem ox_X11_lead : ∃ f, f = P_X11_lead := ⟨_, rfl⟩
noncomputable def O_X11_lead : List en_V → en_M → Option (Int32 × en_M) := Classical.choose ox_X11_lead
theorem oe_X11_lead : O_X11_lead = P_X11_lead := Classical.choose_spec ox_X11_lead
theorem o_X11_lead (σ : en_M) : O_X11_lead [.inr (0, 11, 0, 0)] σ = en_oi (T_X11_lead_0 σ) := by rw [oe_X11_lead]; rfl
theorem i_X11_lead (G : en_G) (hst : G.2.2.2.2.2 = true) : en_I G 5 yX11_lead cX11_lead 2 (some .int) 0 0 (en_wi (O_X11_lead)) := en_of_i (M := M_X11_lead) hst (s_X11_lead_0 G hst _ (l_X11_lead G hst en_FU)) (plainFor_of_name (by decide +kernel)) rfl rfl rfl (Or.inl ⟨rfl, rfl⟩) (fun av σ x σ' h => by
  rw [oe_X11_lead] at h; unfold P_X11_lead at h
  split at h
  · exact ⟨(Nat.le_of_ble_eq_true rfl), en_oi_some h⟩
  · cases h)
-- EachMayMissOne.leads(II)I
def M_X11_leads : en_Me := (cX11_leads, RX11, 6, false, 5, false)
theorem cs_X11_leads : en_cs yX11_leads cX11_leads 6 (some .int) 2 := ⟨wm_152, wm_2, ⟨(by decide +kernel), (by decide +kernel), (by decide +kernel)⟩, (Nat.le_of_ble_eq_true rfl)⟩
noncomputable def B_X11_leads_106 (kc : Nat → en_B) : en_B := (op_aload 0 (op_gets 11 3 (9, 0, 0) (op_rcv 9 0 (op_callv O_X9_begin 1 (op_aload 0 (op_gets 11 3 (9, 0, 0) (op_iload 4 (op_rcv 9 1 (op_callv O_X9_add 2 (op_iload 3 op_iret))))))))))
set_option maxRecDepth 20000 in
theorem s_X11_leads_106 (G : en_G) (hst : G.2.2.2.2.2 = true) (kc : Nat → en_B) (hk : ∀ t, en_Snd G M_X11_leads t (kc t)) : en_Snd G M_X11_leads 106 (B_X11_leads_106 kc) := (sn_aload_n (i := 0) (n := 0) (by decide +kernel) rfl (sn_gets (ci := 11) (j := 1) (off := 3) hst en_c11 of_11_3 (Nat.le_of_ble_eq_true rfl) (by decide +kernel) wm_13 (Nat.le_of_ble_eq_true rfl) rfl (sn_callVv (n := 0) (idx := 205) (ci := 9) (i_X9_begin G hst) (Nat.le_of_ble_eq_true rfl) cs_X9_begin ⟨wm_1086, wm_1087, wm_115⟩ ⟨⟨_, rfl, rfl⟩, (Nat.le_of_ble_eq_true rfl)⟩ (by decide +kernel) (sn_aload_n (i := 0) (n := 0) (by decide +kernel) rfl (sn_gets (ci := 11) (j := 1) (off := 3) hst en_c11 of_11_3 (Nat.le_of_ble_eq_true rfl) (by decide +kernel) wm_13 (Nat.le_of_ble_eq_true rfl) rfl (sn_iload (i := 4) (by decide +kernel) (sn_callVv (n := 1) (idx := 209) (ci := 9) (i_X9_add G hst) (Nat.le_of_ble_eq_true rfl) cs_X9_add ⟨wm_1090, wm_1091, wm_117⟩ ⟨⟨_, rfl, rfl⟩, (Nat.le_of_ble_eq_true rfl)⟩ (by decide +kernel) (sn_iload_n (i := 3) (n := 3) (by decide +kernel) rfl (sn_iret (by decide +kernel) rfl)))))))))
noncomputable def B_X11_leads_98 (kc : Nat → en_B) : en_B := (op_iload 3 (op_const (-1 : Int32) (op_iceq (op_const (-2 : Int32) op_iret) (B_X11_leads_106 kc))))
set_option maxRecDepth 20000 in
theorem s_X11_leads_98 (G : en_G) (hst : G.2.2.2.2.2 = true) (kc : Nat → en_B) (hk : ∀ t, en_Snd G M_X11_leads t (kc t)) : en_Snd G M_X11_leads 98 (B_X11_leads_98 kc) := (sn_iload_n (i := 3) (n := 3) (by decide +kernel) rfl (sn_iconst (n := -1) (v := -1) (by decide +kernel) rfl (sn_icne (off := 6) (tgt := 106) (by decide +kernel) rfl (s_X11_leads_106 G hst kc hk) (sn_bipush (n := -2) (v := -2) (by decide +kernel) rfl (sn_iret (by decide +kernel) rfl)))))
noncomputable def B_X11_leads_92 (kc : Nat → en_B) : en_B := (op_iinc 5 (1 : Int32) (kc 39))
set_option maxRecDepth 20000 in
theorem s_X11_leads_92 (G : en_G) (hst : G.2.2.2.2.2 = true) (kc : Nat → en_B) (hk : ∀ t, en_Snd G M_X11_leads t (kc t)) : en_Snd G M_X11_leads 92 (B_X11_leads_92 kc) := (sn_iinc (i := 5) (n := 1) (v := 1) (by decide +kernel) rfl (sn_goto (off := -56) (tgt := 39) (by decide +kernel) rfl (hk 39)))
noncomputable def B_X11_leads_89 (kc : Nat → en_B) : en_B := (op_bin (fun (x y : Int32) => x + y) (op_istore 4 (B_X11_leads_92 kc)))
set_option maxRecDepth 20000 in
theorem s_X11_leads_89 (G : en_G) (hst : G.2.2.2.2.2 = true) (kc : Nat → en_B) (hk : ∀ t, en_Snd G M_X11_leads t (kc t)) : en_Snd G M_X11_leads 89 (B_X11_leads_89 kc) := (sn_iadd (by decide +kernel) (sn_istore (i := 4) (by decide +kernel) (Nat.le_of_ble_eq_true rfl) (s_X11_leads_92 G hst kc hk)))
noncomputable def B_X11_leads_88 (kc : Nat → en_B) : en_B := (op_const (0 : Int32) (B_X11_leads_89 kc))
set_option maxRecDepth 20000 in
theorem s_X11_leads_88 (G : en_G) (hst : G.2.2.2.2.2 = true) (kc : Nat → en_B) (hk : ∀ t, en_Snd G M_X11_leads t (kc t)) : en_Snd G M_X11_leads 88 (B_X11_leads_88 kc) := (sn_iconst (n := 0) (v := 0) (by decide +kernel) rfl (s_X11_leads_89 G hst kc hk))
noncomputable def B_X11_leads_73 (kc : Nat → en_B) : en_B := (op_istore 3 (op_iload 4 (op_iload 5 (op_const (200 : Int32) (op_iclt (op_const (1 : Int32) (B_X11_leads_89 kc)) (B_X11_leads_88 kc))))))
set_option maxRecDepth 20000 in
theorem s_X11_leads_73 (G : en_G) (hst : G.2.2.2.2.2 = true) (kc : Nat → en_B) (hk : ∀ t, en_Snd G M_X11_leads t (kc t)) : en_Snd G M_X11_leads 73 (B_X11_leads_73 kc) := (sn_istore_n (i := 3) (n := 3) (by decide +kernel) rfl (Nat.le_of_ble_eq_true rfl) (sn_iload (i := 4) (by decide +kernel) (sn_iload (i := 5) (by decide +kernel) (sn_sipush (n := 200) (v := 200) (by decide +kernel) rfl (sn_icge (off := 7) (tgt := 88) (by decide +kernel) rfl (s_X11_leads_88 G hst kc hk) (sn_iconst (n := 1) (v := 1) (by decide +kernel) rfl (sn_goto (off := 4) (tgt := 89) (by decide +kernel) rfl (s_X11_leads_89 G hst kc hk))))))))
noncomputable def B_X11_leads_72 (kc : Nat → en_B) : en_B := (op_iload 3 (B_X11_leads_73 kc))
set_option maxRecDepth 20000 in
theorem s_X11_leads_72 (G : en_G) (hst : G.2.2.2.2.2 = true) (kc : Nat → en_B) (hk : ∀ t, en_Snd G M_X11_leads t (kc t)) : en_Snd G M_X11_leads 72 (B_X11_leads_72 kc) := (sn_iload_n (i := 3) (n := 3) (by decide +kernel) rfl (s_X11_leads_73 G hst kc hk))
noncomputable def B_X11_leads_39 (kc : Nat → en_B) : en_B := (op_iload 5 (op_const (200 : Int32) (op_icgt (B_X11_leads_98 kc) (op_aload 0 (op_gets 11 182 (20, 201, 0) (op_iload 5 (op_ald 20 (op_iload 2 (op_calli O_X11_bellAt 2 (op_iload 1 (op_iceq (op_iload 3 (op_const (-1 : Int32) (op_iceq (op_iload 5 (B_X11_leads_73 kc)) (B_X11_leads_72 kc)))) (B_X11_leads_92 kc))))))))))))
set_option maxRecDepth 20000 in
theorem s_X11_leads_39 (G : en_G) (hst : G.2.2.2.2.2 = true) (kc : Nat → en_B) (hk : ∀ t, en_Snd G M_X11_leads t (kc t)) : en_Snd G M_X11_leads 39 (B_X11_leads_39 kc) := (sn_iload (i := 5) (by decide +kernel) (sn_sipush (n := 200) (v := 200) (by decide +kernel) rfl (sn_icgt (off := 54) (tgt := 98) (by decide +kernel) rfl (s_X11_leads_98 G hst kc hk) (sn_aload_n (i := 0) (n := 0) (by decide +kernel) rfl (sn_gets (ci := 11) (j := 10) (off := 182) hst en_c11 of_11_182 (Nat.le_of_ble_eq_true rfl) (by decide +kernel) wm_50 (Nat.le_of_ble_eq_true rfl) rfl (sn_iload (i := 5) (by decide +kernel) (sn_iald (by decide +kernel) (sn_iload_n (i := 2) (n := 2) (by decide +kernel) rfl (sn_callSi (n := 2) (idx := 174) (i_X11_bellAt G hst) (Nat.le_of_ble_eq_true rfl) cs_X11_bellAt ⟨wm_276, Or.inl wm_97⟩ (by decide +kernel) (sn_iload_n (i := 1) (n := 1) (by decide +kernel) rfl (sn_icne (off := 33) (tgt := 92) (by decide +kernel) rfl (s_X11_leads_92 G hst kc hk) (sn_iload_n (i := 3) (n := 3) (by decide +kernel) rfl (sn_iconst (n := -1) (v := -1) (by decide +kernel) rfl (sn_icne (off := 8) (tgt := 72) (by decide +kernel) rfl (s_X11_leads_72 G hst kc hk) (sn_iload (i := 5) (by decide +kernel) (sn_goto (off := 4) (tgt := 73) (by decide +kernel) rfl (s_X11_leads_73 G hst kc hk)))))))))))))))))
noncomputable def B_X11_leads_24 (kc : Nat → en_B) : en_B := (op_aload 0 (op_const (200 : Int32) (op_rcv 11 1 (op_callv O_X11_lookAhead 2 (op_const (-1 : Int32) (op_istore 3 (op_const (0 : Int32) (op_istore 4 (op_const (0 : Int32) (op_istore 5 (kc 39)))))))))))
set_option maxRecDepth 20000 in
theorem s_X11_leads_24 (G : en_G) (hst : G.2.2.2.2.2 = true) (kc : Nat → en_B) (hk : ∀ t, en_Snd G M_X11_leads t (kc t)) : en_Snd G M_X11_leads 24 (B_X11_leads_24 kc) := (sn_aload_n (i := 0) (n := 0) (by decide +kernel) rfl (sn_sipush (n := 200) (v := 200) (by decide +kernel) rfl (sn_callVv (n := 1) (idx := 242) (ci := 11) (i_X11_lookAhead G hst) (Nat.le_of_ble_eq_true rfl) cs_X11_lookAhead ⟨wm_287, wm_288, wm_143⟩ ⟨⟨_, rfl, rfl⟩, (Nat.le_of_ble_eq_true rfl)⟩ (by decide +kernel) (sn_iconst (n := -1) (v := -1) (by decide +kernel) rfl (sn_istore_n (i := 3) (n := 3) (by decide +kernel) rfl (Nat.le_of_ble_eq_true rfl) (sn_iconst (n := 0) (v := 0) (by decide +kernel) rfl (sn_istore (i := 4) (by decide +kernel) (Nat.le_of_ble_eq_true rfl) (sn_iconst (n := 0) (v := 0) (by decide +kernel) rfl (sn_istore (i := 5) (by decide +kernel) (Nat.le_of_ble_eq_true rfl) (hk 39))))))))))
noncomputable def B_X11_leads_22 (kc : Nat → en_B) : en_B := (op_const (-1 : Int32) op_iret)
set_option maxRecDepth 20000 in
theorem s_X11_leads_22 (G : en_G) (hst : G.2.2.2.2.2 = true) (kc : Nat → en_B) (hk : ∀ t, en_Snd G M_X11_leads t (kc t)) : en_Snd G M_X11_leads 22 (B_X11_leads_22 kc) := (sn_iconst (n := -1) (v := -1) (by decide +kernel) rfl (sn_iret (by decide +kernel) rfl))
noncomputable def B_X11_leads_0 (kc : Nat → en_B) : en_B := (op_aload 0 (op_gets 11 5 (10, 0, 0) (op_iload 1 (op_rcv 10 1 (op_calli O_X10_hasRinger 2 (op_ifeq (B_X11_leads_22 kc) (op_aload 0 (op_gets 11 5 (10, 0, 0) (op_iload 2 (op_rcv 10 1 (op_calli O_X10_hasRinger 2 (op_ifeq (B_X11_leads_22 kc) (B_X11_leads_24 kc)))))))))))))
set_option maxRecDepth 20000 in
theorem s_X11_leads_0 (G : en_G) (hst : G.2.2.2.2.2 = true) (kc : Nat → en_B) (hk : ∀ t, en_Snd G M_X11_leads t (kc t)) : en_Snd G M_X11_leads 0 (B_X11_leads_0 kc) := (sn_aload_n (i := 0) (n := 0) (by decide +kernel) rfl (sn_gets (ci := 11) (j := 2) (off := 5) hst en_c11 of_11_5 (Nat.le_of_ble_eq_true rfl) (by decide +kernel) wm_18 (Nat.le_of_ble_eq_true rfl) rfl (sn_iload_n (i := 1) (n := 1) (by decide +kernel) rfl (sn_callVi (n := 1) (idx := 131) (ci := 10) (i_X10_hasRinger G hst) (Nat.le_of_ble_eq_true rfl) cs_X10_hasRinger ⟨wm_1115, wm_1116, wm_84⟩ ⟨⟨_, rfl, rfl⟩, (Nat.le_of_ble_eq_true rfl)⟩ (by decide +kernel) (sn_ifeq (off := 14) (tgt := 22) (by decide +kernel) rfl (s_X11_leads_22 G hst kc hk) (sn_aload_n (i := 0) (n := 0) (by decide +kernel) rfl (sn_gets (ci := 11) (j := 2) (off := 5) hst en_c11 of_11_5 (Nat.le_of_ble_eq_true rfl) (by decide +kernel) wm_18 (Nat.le_of_ble_eq_true rfl) rfl (sn_iload_n (i := 2) (n := 2) (by decide +kernel) rfl (sn_callVi (n := 1) (idx := 131) (ci := 10) (i_X10_hasRinger G hst) (Nat.le_of_ble_eq_true rfl) cs_X10_hasRinger ⟨wm_1115, wm_1116, wm_84⟩ ⟨⟨_, rfl, rfl⟩, (Nat.le_of_ble_eq_true rfl)⟩ (by decide +kernel) (sn_ifne (off := 5) (tgt := 24) (by decide +kernel) rfl (s_X11_leads_24 G hst kc hk) (s_X11_leads_22 G hst kc hk)))))))))))
noncomputable def LK_X11_leads : Nat → Nat → en_B
  | 0, _ => en_no
  | n + 1, t => if t = 39 then B_X11_leads_39 (LK_X11_leads n) else en_no
theorem l_X11_leads (G : en_G) (hst : G.2.2.2.2.2 = true) : ∀ n t, en_Snd G M_X11_leads t (LK_X11_leads n t)
  | 0, _ => sn_no
  | n + 1, t => by
    show en_Snd G M_X11_leads t (if t = 39 then B_X11_leads_39 (LK_X11_leads n) else en_no)
    by_cases h_39 : t = 39
    · rw [if_pos h_39, h_39]; exact s_X11_leads_39 G hst _ (l_X11_leads G hst n)
    rw [if_neg h_39]
    exact sn_no
noncomputable def T_X11_leads_0 (x1 : Int32) (x2 : Int32) (σ : en_M) : en_R := B_X11_leads_0 (LK_X11_leads en_FU) [.inr (0, 11, 0, 0), .inl x1, .inl x2, en_un, en_un, en_un] [] en_zz σ
noncomputable def T_X11_leads_39 (n : Nat) (x1 : Int32) (x2 : Int32) (x3 : Int32) (x4 : Int32) (x5 : Int32) (σ : en_M) : en_R := LK_X11_leads n 39 [.inr (0, 11, 0, 0), .inl x1, .inl x2, .inl x3, .inl x4, .inl x5] [] en_zz σ
set_option maxRecDepth 20000 in
set_option maxHeartbeats 2000000 in
theorem t_X11_leads_0 (x1 : Int32) (x2 : Int32) (σ : en_M) : T_X11_leads_0 x1 x2 σ = ((O_X10_hasRinger [.inr (5, 10, 0, 0), .inl x1] σ).bind fun r1 => if r1.1 = 0 then (en_ri (-1 : Int32) r1.2) else ((O_X10_hasRinger [.inr (5, 10, 0, 0), .inl x2] r1.2).bind fun r2 => if r2.1 = 0 then (en_ri (-1 : Int32) r2.2) else ((O_X11_lookAhead [.inr (0, 11, 0, 0), .inl (200 : Int32)] r2.2).bind fun r3 => T_X11_leads_39 en_FU x1 x2 (-1 : Int32) (0 : Int32) (0 : Int32) r3))) := rfl
set_option maxRecDepth 20000 in
set_option maxHeartbeats 2000000 in
theorem t_X11_leads_39 (n : Nat) (x1 : Int32) (x2 : Int32) (x3 : Int32) (x4 : Int32) (x5 : Int32) (σ : en_M) : T_X11_leads_39 (n + 1) x1 x2 x3 x4 x5 σ = (if (200 : Int32) < x5 then (if x3 = (-1 : Int32) then (en_ri (-2 : Int32) σ) else ((O_X9_begin [.inr (3, 9, 0, 0)] σ).bind fun r4 => (O_X9_add [.inr (3, 9, 0, 0), .inl x4] r4).bind fun r5 => en_ri x3 r5)) else ((en_ix x5 201).bind fun j6 => (O_X11_bellAt [.inl (σ 182 j6), .inl x2] σ).bind fun r7 => if r7.1 = x1 then (if x3 = (-1 : Int32) then (if x5 < (200 : Int32) then (T_X11_leads_39 n x1 x2 x5 (x4 + (1 : Int32)) (x5 + (1 : Int32)) r7.2) else (T_X11_leads_39 n x1 x2 x5 (x4 + (0 : Int32)) (x5 + (1 : Int32)) r7.2)) else (if x5 < (200 : Int32) then (T_X11_leads_39 n x1 x2 x3 (x4 + (1 : Int32)) (x5 + (1 : Int32)) r7.2) else (T_X11_leads_39 n x1 x2 x3 (x4 + (0 : Int32)) (x5 + (1 : Int32)) r7.2))) else (T_X11_leads_39 n x1 x2 x3 x4 (x5 + (1 : Int32)) r7.2))) := rfl
noncomputable def P_X11_leads : List en_V → en_M → Option (Int32 × en_M) := fun av σ => match av with
  | [.inr (0, 11, 0, 0), .inl x1, .inl x2] => en_oi (T_X11_leads_0 x1 x2 σ)
  | _ => none
theorem ox_X11_leads : ∃ f, f = P_X11_leads := ⟨_, rfl⟩
noncomputable def O_X11_leads : List en_V → en_M → Option (Int32 × en_M) := Classical.choose ox_X11_leads
theorem oe_X11_leads : O_X11_leads = P_X11_leads := Classical.choose_spec ox_X11_leads
theorem o_X11_leads (x1 : Int32) (x2 : Int32) (σ : en_M) : O_X11_leads [.inr (0, 11, 0, 0), .inl x1, .inl x2] σ = en_oi (T_X11_leads_0 x1 x2 σ) := by rw [oe_X11_leads]; rfl
theorem i_X11_leads (G : en_G) (hst : G.2.2.2.2.2 = true) : en_I G 5 yX11_leads cX11_leads 6 (some .int) 0 0 (en_wi (O_X11_leads)) := en_of_i (M := M_X11_leads) hst (s_X11_leads_0 G hst _ (l_X11_leads G hst en_FU)) (plainFor_of_name (by decide +kernel)) rfl rfl rfl (Or.inl ⟨rfl, rfl⟩) (fun av σ x σ' h => by
  rw [oe_X11_leads] at h; unfold P_X11_leads at h
  split at h
  · exact ⟨(Nat.le_of_ble_eq_true rfl), en_oi_some h⟩
  · cases h)
