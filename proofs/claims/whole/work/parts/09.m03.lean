-- EachMayMissOne$Tower.readWeights(LEachMayMissOne$Text;)I
def M_X10_readWeights : en_Me := (cX10_readWeights, RX10, 5, false, 2, false)
theorem cs_X10_readWeights : en_cs yX10_readWeights cX10_readWeights 5 (some .int) 1 := ⟨wm_1107, wm_16, ⟨(by decide +kernel), (by decide +kernel), (by decide +kernel)⟩, (Nat.le_of_ble_eq_true rfl)⟩
noncomputable def B_X10_readWeights_132 (kc : Nat → en_B) : en_B := (op_aload 0 (op_gets 10 2 (0, 0, 0) (op_rcv 0 0 (op_callv O_X0_useX 1 (op_iload 2 op_iret)))))
set_option maxRecDepth 20000 in
theorem s_X10_readWeights_132 (G : en_G) (hst : G.2.2.2.2.2 = true) (kc : Nat → en_B) (hk : ∀ t, en_Snd G M_X10_readWeights t (kc t)) : en_Snd G M_X10_readWeights 132 (B_X10_readWeights_132 kc) := (sn_aload_n (i := 0) (n := 0) (by decide +kernel) rfl (sn_gets (ci := 10) (j := 1) (off := 2) hst en_c10 of_10_2 (Nat.le_of_ble_eq_true rfl) (by decide +kernel) wm_1099 (Nat.le_of_ble_eq_true rfl) rfl (sn_callVv (n := 0) (idx := 52) (ci := 0) (i_X0_useX G hst) (Nat.le_of_ble_eq_true rfl) cs_X0_useX ⟨wm_745, wm_746, wm_1113⟩ ⟨⟨_, rfl, rfl⟩, (Nat.le_of_ble_eq_true rfl)⟩ (by decide +kernel) (sn_iload_n (i := 2) (n := 2) (by decide +kernel) rfl (sn_iret (by decide +kernel) rfl)))))
noncomputable def B_X10_readWeights_123 (kc : Nat → en_B) : en_B := (op_puti 10 4 (op_iinc 4 (1 : Int32) (kc 70)))
set_option maxRecDepth 20000 in
theorem s_X10_readWeights_123 (G : en_G) (hst : G.2.2.2.2.2 = true) (kc : Nat → en_B) (hk : ∀ t, en_Snd G M_X10_readWeights t (kc t)) : en_Snd G M_X10_readWeights 123 (B_X10_readWeights_123 kc) := (sn_puti (ci := 10) (j := 4) en_c10 (by decide +kernel) wm_1104 (Nat.le_of_ble_eq_true rfl) rfl rfl rfl (sn_iinc (i := 4) (n := 1) (v := 1) (by decide +kernel) rfl (sn_goto (off := -59) (tgt := 70) (by decide +kernel) rfl (hk 70))))
noncomputable def B_X10_readWeights_119 (kc : Nat → en_B) : en_B := (op_aload 0 (op_geti 10 4 (B_X10_readWeights_123 kc)))
set_option maxRecDepth 20000 in
theorem s_X10_readWeights_119 (G : en_G) (hst : G.2.2.2.2.2 = true) (kc : Nat → en_B) (hk : ∀ t, en_Snd G M_X10_readWeights t (kc t)) : en_Snd G M_X10_readWeights 119 (B_X10_readWeights_119 kc) := (sn_aload_n (i := 0) (n := 0) (by decide +kernel) rfl (sn_geti (ci := 10) (j := 4) en_c10 (by decide +kernel) wm_1104 (Nat.le_of_ble_eq_true rfl) rfl (s_X10_readWeights_123 G hst kc hk)))
noncomputable def B_X10_readWeights_70 (kc : Nat → en_B) : en_B := (op_iload 4 (op_iload 2 (op_iclt (op_aload 0 (op_gets 10 1 (20, 7, 0) (op_iload 4 (op_aload 1 (op_iload 4 (op_const (7 : Int32) (op_rcv 8 2 (op_calli O_X8_at 3 (op_const (48 : Int32) (op_bin (fun (x y : Int32) => x - y) (op_ast 20 (fun (x : Int32) => x) (op_aload 0 (op_aload 0 (op_gets 10 1 (20, 7, 0) (op_iload 4 (op_ald 20 (op_aload 0 (op_gets 10 1 (20, 7, 0) (op_aload 0 (op_geti 10 4 (op_ald 20 (op_iclt (B_X10_readWeights_119 kc) (op_iload 4 (B_X10_readWeights_123 kc)))))))))))))))))))))))) (B_X10_readWeights_132 kc))))
set_option maxRecDepth 20000 in
theorem s_X10_readWeights_70 (G : en_G) (hst : G.2.2.2.2.2 = true) (kc : Nat → en_B) (hk : ∀ t, en_Snd G M_X10_readWeights t (kc t)) : en_Snd G M_X10_readWeights 70 (B_X10_readWeights_70 kc) := (sn_iload (i := 4) (by decide +kernel) (sn_iload_n (i := 2) (n := 2) (by decide +kernel) rfl (sn_icge (off := 59) (tgt := 132) (by decide +kernel) rfl (s_X10_readWeights_132 G hst kc hk) (sn_aload_n (i := 0) (n := 0) (by decide +kernel) rfl (sn_gets (ci := 10) (j := 0) (off := 1) hst en_c10 of_10_1 (Nat.le_of_ble_eq_true rfl) (by decide +kernel) wm_1095 (Nat.le_of_ble_eq_true rfl) rfl (sn_iload (i := 4) (by decide +kernel) (sn_aload_n (i := 1) (n := 1) (by decide +kernel) rfl (sn_iload (i := 4) (by decide +kernel) (sn_bipush (n := 7) (v := 7) (by decide +kernel) rfl (sn_callVi (n := 2) (idx := 39) (ci := 8) (i_X8_at G hst) (Nat.le_of_ble_eq_true rfl) cs_X8_at ⟨wm_1079, wm_1080, wm_1110⟩ ⟨⟨_, rfl, rfl⟩, (Nat.le_of_ble_eq_true rfl)⟩ (by decide +kernel) (sn_bipush (n := 48) (v := 48) (by decide +kernel) rfl (sn_isub (by decide +kernel) (sn_iast (by decide +kernel) (sn_aload_n (i := 0) (n := 0) (by decide +kernel) rfl (sn_aload_n (i := 0) (n := 0) (by decide +kernel) rfl (sn_gets (ci := 10) (j := 0) (off := 1) hst en_c10 of_10_1 (Nat.le_of_ble_eq_true rfl) (by decide +kernel) wm_1095 (Nat.le_of_ble_eq_true rfl) rfl (sn_iload (i := 4) (by decide +kernel) (sn_iald (by decide +kernel) (sn_aload_n (i := 0) (n := 0) (by decide +kernel) rfl (sn_gets (ci := 10) (j := 0) (off := 1) hst en_c10 of_10_1 (Nat.le_of_ble_eq_true rfl) (by decide +kernel) wm_1095 (Nat.le_of_ble_eq_true rfl) rfl (sn_aload_n (i := 0) (n := 0) (by decide +kernel) rfl (sn_geti (ci := 10) (j := 4) en_c10 (by decide +kernel) wm_1104 (Nat.le_of_ble_eq_true rfl) rfl (sn_iald (by decide +kernel) (sn_iclt (off := 8) (tgt := 119) (by decide +kernel) rfl (s_X10_readWeights_119 G hst kc hk) (sn_iload (i := 4) (by decide +kernel) (sn_goto (off := 7) (tgt := 123) (by decide +kernel) rfl (s_X10_readWeights_123 G hst kc hk)))))))))))))))))))))))))))
noncomputable def B_X10_readWeights_57 (kc : Nat → en_B) : en_B := (op_aload 0 (op_iload 2 (op_puti 10 3 (op_aload 0 (op_const (0 : Int32) (op_puti 10 4 (op_const (0 : Int32) (op_istore 4 (kc 70)))))))))
set_option maxRecDepth 20000 in
theorem s_X10_readWeights_57 (G : en_G) (hst : G.2.2.2.2.2 = true) (kc : Nat → en_B) (hk : ∀ t, en_Snd G M_X10_readWeights t (kc t)) : en_Snd G M_X10_readWeights 57 (B_X10_readWeights_57 kc) := (sn_aload_n (i := 0) (n := 0) (by decide +kernel) rfl (sn_iload_n (i := 2) (n := 2) (by decide +kernel) rfl (sn_puti (ci := 10) (j := 3) en_c10 (by decide +kernel) wm_1112 (Nat.le_of_ble_eq_true rfl) rfl rfl rfl (sn_aload_n (i := 0) (n := 0) (by decide +kernel) rfl (sn_iconst (n := 0) (v := 0) (by decide +kernel) rfl (sn_puti (ci := 10) (j := 4) en_c10 (by decide +kernel) wm_1104 (Nat.le_of_ble_eq_true rfl) rfl rfl rfl (sn_iconst (n := 0) (v := 0) (by decide +kernel) rfl (sn_istore (i := 4) (by decide +kernel) (Nat.le_of_ble_eq_true rfl) (hk 70)))))))))
noncomputable def B_X10_readWeights_52 (kc : Nat → en_B) : en_B := (op_iload 2 (op_calli O_X11_cannotStand 1 op_iret))
set_option maxRecDepth 20000 in
theorem s_X10_readWeights_52 (G : en_G) (hst : G.2.2.2.2.2 = true) (kc : Nat → en_B) (hk : ∀ t, en_Snd G M_X10_readWeights t (kc t)) : en_Snd G M_X10_readWeights 52 (B_X10_readWeights_52 kc) := (sn_iload_n (i := 2) (n := 2) (by decide +kernel) rfl (sn_callSi (n := 1) (idx := 45) (i_X11_cannotStand G hst) (Nat.le_of_ble_eq_true rfl) cs_X11_cannotStand ⟨wm_274, Or.inr (by decide +kernel)⟩ (by decide +kernel) (sn_iret (by decide +kernel) rfl)))
noncomputable def B_X10_readWeights_42 (kc : Nat → en_B) : en_B := (op_iload 3 (op_const (-1 : Int32) (op_iceq (op_iload 2 (op_const (3 : Int32) (op_iclt (B_X10_readWeights_52 kc) (B_X10_readWeights_57 kc)))) (B_X10_readWeights_52 kc))))
set_option maxRecDepth 20000 in
theorem s_X10_readWeights_42 (G : en_G) (hst : G.2.2.2.2.2 = true) (kc : Nat → en_B) (hk : ∀ t, en_Snd G M_X10_readWeights t (kc t)) : en_Snd G M_X10_readWeights 42 (B_X10_readWeights_42 kc) := (sn_iload_n (i := 3) (n := 3) (by decide +kernel) rfl (sn_iconst (n := -1) (v := -1) (by decide +kernel) rfl (sn_icne (off := 8) (tgt := 52) (by decide +kernel) rfl (s_X10_readWeights_52 G hst kc hk) (sn_iload_n (i := 2) (n := 2) (by decide +kernel) rfl (sn_iconst (n := 3) (v := 3) (by decide +kernel) rfl (sn_icge (off := 8) (tgt := 57) (by decide +kernel) rfl (s_X10_readWeights_57 G hst kc hk) (s_X10_readWeights_52 G hst kc hk)))))))
noncomputable def B_X10_readWeights_10 (kc : Nat → en_B) : en_B := (op_iload 2 (op_const (7 : Int32) (op_iclt (op_iload 3 (op_const (49 : Int32) (op_iclt (B_X10_readWeights_42 kc) (op_iload 3 (op_const (57 : Int32) (op_icgt (B_X10_readWeights_42 kc) (op_iinc 2 (1 : Int32) (op_aload 1 (op_iload 2 (op_const (7 : Int32) (op_rcv 8 2 (op_calli O_X8_at 3 (op_istore 3 (kc 10)))))))))))))) (B_X10_readWeights_42 kc))))
set_option maxRecDepth 20000 in
theorem s_X10_readWeights_10 (G : en_G) (hst : G.2.2.2.2.2 = true) (kc : Nat → en_B) (hk : ∀ t, en_Snd G M_X10_readWeights t (kc t)) : en_Snd G M_X10_readWeights 10 (B_X10_readWeights_10 kc) := (sn_iload_n (i := 2) (n := 2) (by decide +kernel) rfl (sn_bipush (n := 7) (v := 7) (by decide +kernel) rfl (sn_icge (off := 29) (tgt := 42) (by decide +kernel) rfl (s_X10_readWeights_42 G hst kc hk) (sn_iload_n (i := 3) (n := 3) (by decide +kernel) rfl (sn_bipush (n := 49) (v := 49) (by decide +kernel) rfl (sn_iclt (off := 23) (tgt := 42) (by decide +kernel) rfl (s_X10_readWeights_42 G hst kc hk) (sn_iload_n (i := 3) (n := 3) (by decide +kernel) rfl (sn_bipush (n := 57) (v := 57) (by decide +kernel) rfl (sn_icgt (off := 17) (tgt := 42) (by decide +kernel) rfl (s_X10_readWeights_42 G hst kc hk) (sn_iinc (i := 2) (n := 1) (v := 1) (by decide +kernel) rfl (sn_aload_n (i := 1) (n := 1) (by decide +kernel) rfl (sn_iload_n (i := 2) (n := 2) (by decide +kernel) rfl (sn_bipush (n := 7) (v := 7) (by decide +kernel) rfl (sn_callVi (n := 2) (idx := 39) (ci := 8) (i_X8_at G hst) (Nat.le_of_ble_eq_true rfl) cs_X8_at ⟨wm_1079, wm_1080, wm_1110⟩ ⟨⟨_, rfl, rfl⟩, (Nat.le_of_ble_eq_true rfl)⟩ (by decide +kernel) (sn_istore_n (i := 3) (n := 3) (by decide +kernel) rfl (Nat.le_of_ble_eq_true rfl) (sn_goto (off := -29) (tgt := 10) (by decide +kernel) rfl (hk 10)))))))))))))))))
noncomputable def B_X10_readWeights_0 (kc : Nat → en_B) : en_B := (op_const (0 : Int32) (op_istore 2 (op_aload 1 (op_iload 2 (op_const (7 : Int32) (op_rcv 8 2 (op_calli O_X8_at 3 (op_istore 3 (kc 10)))))))))
set_option maxRecDepth 20000 in
theorem s_X10_readWeights_0 (G : en_G) (hst : G.2.2.2.2.2 = true) (kc : Nat → en_B) (hk : ∀ t, en_Snd G M_X10_readWeights t (kc t)) : en_Snd G M_X10_readWeights 0 (B_X10_readWeights_0 kc) := (sn_iconst (n := 0) (v := 0) (by decide +kernel) rfl (sn_istore_n (i := 2) (n := 2) (by decide +kernel) rfl (Nat.le_of_ble_eq_true rfl) (sn_aload_n (i := 1) (n := 1) (by decide +kernel) rfl (sn_iload_n (i := 2) (n := 2) (by decide +kernel) rfl (sn_bipush (n := 7) (v := 7) (by decide +kernel) rfl (sn_callVi (n := 2) (idx := 39) (ci := 8) (i_X8_at G hst) (Nat.le_of_ble_eq_true rfl) cs_X8_at ⟨wm_1079, wm_1080, wm_1110⟩ ⟨⟨_, rfl, rfl⟩, (Nat.le_of_ble_eq_true rfl)⟩ (by decide +kernel) (sn_istore_n (i := 3) (n := 3) (by decide +kernel) rfl (Nat.le_of_ble_eq_true rfl) (hk 10))))))))
noncomputable def LK_X10_readWeights : Nat → Nat → en_B
  | 0, _ => en_no
  | n + 1, t => if t = 10 then B_X10_readWeights_10 (LK_X10_readWeights n) else if t = 70 then B_X10_readWeights_70 (LK_X10_readWeights n) else en_no
theorem l_X10_readWeights (G : en_G) (hst : G.2.2.2.2.2 = true) : ∀ n t, en_Snd G M_X10_readWeights t (LK_X10_readWeights n t)
  | 0, _ => sn_no
  | n + 1, t => by
    show en_Snd G M_X10_readWeights t (if t = 10 then B_X10_readWeights_10 (LK_X10_readWeights n) else if t = 70 then B_X10_readWeights_70 (LK_X10_readWeights n) else en_no)
    by_cases h_10 : t = 10
    · rw [if_pos h_10, h_10]; exact s_X10_readWeights_10 G hst _ (l_X10_readWeights G hst n)
    rw [if_neg h_10]
    by_cases h_70 : t = 70
    · rw [if_pos h_70, h_70]; exact s_X10_readWeights_70 G hst _ (l_X10_readWeights G hst n)
    rw [if_neg h_70]
    exact sn_no
noncomputable def T_X10_readWeights_0 (σ : en_M) : en_R := B_X10_readWeights_0 (LK_X10_readWeights en_FU) [.inr (5, 10, 0, 0), .inr (1, 8, 0, 0), en_un, en_un, en_un] [] en_zz σ
noncomputable def T_X10_readWeights_10 (n : Nat) (x2 : Int32) (x3 : Int32) (σ : en_M) : en_R := LK_X10_readWeights n 10 [.inr (5, 10, 0, 0), .inr (1, 8, 0, 0), .inl x2, .inl x3, en_un] [] en_zz σ
noncomputable def T_X10_readWeights_70 (n : Nat) (x2 : Int32) (x3 : Int32) (x4 : Int32) (σ : en_M) : en_R := LK_X10_readWeights n 70 [.inr (5, 10, 0, 0), .inr (1, 8, 0, 0), .inl x2, .inl x3, .inl x4] [] en_zz σ
set_option maxRecDepth 20000 in
set_option maxHeartbeats 2000000 in
theorem t_X10_readWeights_0 (σ : en_M) : T_X10_readWeights_0 σ = ((O_X8_at [.inr (1, 8, 0, 0), .inl (0 : Int32), .inl (7 : Int32)] σ).bind fun r1 => T_X10_readWeights_10 en_FU (0 : Int32) r1.1 r1.2) := rfl
set_option maxRecDepth 20000 in
set_option maxHeartbeats 2000000 in
theorem t_X10_readWeights_10 (n : Nat) (x2 : Int32) (x3 : Int32) (σ : en_M) : T_X10_readWeights_10 (n + 1) x2 x3 σ = (if x2 < (7 : Int32) then (if x3 < (49 : Int32) then (if x3 = (-1 : Int32) then (if x2 < (3 : Int32) then ((O_X11_cannotStand [.inl x2] σ).bind fun r5 => en_ri r5.1 r5.2) else (T_X10_readWeights_70 n x2 x3 (0 : Int32) (en_up (en_up σ 5 3 x2) 5 4 (0 : Int32)))) else ((O_X11_cannotStand [.inl x2] σ).bind fun r4 => en_ri r4.1 r4.2)) else (if (57 : Int32) < x3 then (if x3 = (-1 : Int32) then (if x2 < (3 : Int32) then ((O_X11_cannotStand [.inl x2] σ).bind fun r7 => en_ri r7.1 r7.2) else (T_X10_readWeights_70 n x2 x3 (0 : Int32) (en_up (en_up σ 5 3 x2) 5 4 (0 : Int32)))) else ((O_X11_cannotStand [.inl x2] σ).bind fun r6 => en_ri r6.1 r6.2)) else ((O_X8_at [.inr (1, 8, 0, 0), .inl (x2 + (1 : Int32)), .inl (7 : Int32)] σ).bind fun r8 => T_X10_readWeights_10 n (x2 + (1 : Int32)) r8.1 r8.2))) else (if x3 = (-1 : Int32) then (if x2 < (3 : Int32) then ((O_X11_cannotStand [.inl x2] σ).bind fun r3 => en_ri r3.1 r3.2) else (T_X10_readWeights_70 n x2 x3 (0 : Int32) (en_up (en_up σ 5 3 x2) 5 4 (0 : Int32)))) else ((O_X11_cannotStand [.inl x2] σ).bind fun r2 => en_ri r2.1 r2.2))) := rfl
set_option maxRecDepth 20000 in
set_option maxHeartbeats 2000000 in
theorem t_X10_readWeights_70 (n : Nat) (x2 : Int32) (x3 : Int32) (x4 : Int32) (σ : en_M) : T_X10_readWeights_70 (n + 1) x2 x3 x4 σ = (if x4 < x2 then ((O_X8_at [.inr (1, 8, 0, 0), .inl x4, .inl (7 : Int32)] σ).bind fun r10 => (en_ix x4 7).bind fun j11 => (en_ix x4 7).bind fun j12 => (en_ix (r10.2 5 4) 7).bind fun j13 => if ((en_up r10.2 6 j11 (r10.1 - (48 : Int32))) 6 j12) < ((en_up r10.2 6 j11 (r10.1 - (48 : Int32))) 6 j13) then (T_X10_readWeights_70 n x2 x3 (x4 + (1 : Int32)) (en_up (en_up r10.2 6 j11 (r10.1 - (48 : Int32))) 5 4 (r10.2 5 4))) else (T_X10_readWeights_70 n x2 x3 (x4 + (1 : Int32)) (en_up (en_up r10.2 6 j11 (r10.1 - (48 : Int32))) 5 4 x4))) else ((O_X0_useX [.inr (7, 0, 0, 0)] σ).bind fun r9 => en_ri x2 r9)) := rfl
noncomputable def P_X10_readWeights : List en_V → en_M → Option (Int32 × en_M) := fun av σ => match av with
  | [.inr (5, 10, 0, 0), .inr (1, 8, 0, 0)] => en_oi (T_X10_readWeights_0 σ)
  | _ => none
theorem ox_X10_readWeights : ∃ f, f = P_X10_readWeights := ⟨_, rfl⟩
noncomputable def O_X10_readWeights : List en_V → en_M → Option (Int32 × en_M) := Classical.choose ox_X10_readWeights
theorem oe_X10_readWeights : O_X10_readWeights = P_X10_readWeights := Classical.choose_spec ox_X10_readWeights
theorem o_X10_readWeights (σ : en_M) : O_X10_readWeights [.inr (5, 10, 0, 0), .inr (1, 8, 0, 0)] σ = en_oi (T_X10_readWeights_0 σ) := by rw [oe_X10_readWeights]; rfl
theorem i_X10_readWeights (G : en_G) (hst : G.2.2.2.2.2 = true) : en_I G 2 yX10_readWeights cX10_readWeights 5 (some .int) 0 0 (en_wi (O_X10_readWeights)) := en_of_i (M := M_X10_readWeights) hst (s_X10_readWeights_0 G hst _ (l_X10_readWeights G hst en_FU)) (plainFor_of_name (by decide +kernel)) rfl rfl rfl (Or.inl ⟨rfl, rfl⟩) (fun av σ x σ' h => by
  rw [oe_X10_readWeights] at h; unfold P_X10_readWeights at h
  split at h
  · exact ⟨(Nat.le_of_ble_eq_true rfl), en_oi_some h⟩
  · cases h)
-- EachMayMissOne$Tower.hasRinger(I)Z
def M_X10_hasRinger : en_Me := (cX10_hasRinger, RX10, 2, false, 1, true)
theorem cs_X10_hasRinger : en_cs yX10_hasRinger cX10_hasRinger 2 (some .boolean) 1 := ⟨wm_1114, wm_16, ⟨(by decide +kernel), (by decide +kernel), (by decide +kernel)⟩, (Nat.le_of_ble_eq_true rfl)⟩
noncomputable def B_X10_hasRinger_17 (kc : Nat → en_B) : en_B := op_zret
set_option maxRecDepth 20000 in
theorem s_X10_hasRinger_17 (G : en_G) (hst : G.2.2.2.2.2 = true) (kc : Nat → en_B) (hk : ∀ t, en_Snd G M_X10_hasRinger t (kc t)) : en_Snd G M_X10_hasRinger 17 (B_X10_hasRinger_17 kc) := (sn_zret (by decide +kernel))
noncomputable def B_X10_hasRinger_16 (kc : Nat → en_B) : en_B := (op_const (0 : Int32) (B_X10_hasRinger_17 kc))
set_option maxRecDepth 20000 in
theorem s_X10_hasRinger_16 (G : en_G) (hst : G.2.2.2.2.2 = true) (kc : Nat → en_B) (hk : ∀ t, en_Snd G M_X10_hasRinger t (kc t)) : en_Snd G M_X10_hasRinger 16 (B_X10_hasRinger_16 kc) := (sn_iconst (n := 0) (v := 0) (by decide +kernel) rfl (s_X10_hasRinger_17 G hst kc hk))
noncomputable def B_X10_hasRinger_0 (kc : Nat → en_B) : en_B := (op_iload 1 (op_iflt (B_X10_hasRinger_16 kc) (op_iload 1 (op_aload 0 (op_geti 10 3 (op_iclt (op_const (1 : Int32) (B_X10_hasRinger_17 kc)) (B_X10_hasRinger_16 kc)))))))
set_option maxRecDepth 20000 in
theorem s_X10_hasRinger_0 (G : en_G) (hst : G.2.2.2.2.2 = true) (kc : Nat → en_B) (hk : ∀ t, en_Snd G M_X10_hasRinger t (kc t)) : en_Snd G M_X10_hasRinger 0 (B_X10_hasRinger_0 kc) := (sn_iload_n (i := 1) (n := 1) (by decide +kernel) rfl (sn_iflt (off := 15) (tgt := 16) (by decide +kernel) rfl (s_X10_hasRinger_16 G hst kc hk) (sn_iload_n (i := 1) (n := 1) (by decide +kernel) rfl (sn_aload_n (i := 0) (n := 0) (by decide +kernel) rfl (sn_geti (ci := 10) (j := 3) en_c10 (by decide +kernel) wm_1112 (Nat.le_of_ble_eq_true rfl) rfl (sn_icge (off := 7) (tgt := 16) (by decide +kernel) rfl (s_X10_hasRinger_16 G hst kc hk) (sn_iconst (n := 1) (v := 1) (by decide +kernel) rfl (sn_goto (off := 4) (tgt := 17) (by decide +kernel) rfl (s_X10_hasRinger_17 G hst kc hk)))))))))
noncomputable def LK_X10_hasRinger : Nat → Nat → en_B
  | 0, _ => en_no
  | n + 1, t => en_no
theorem l_X10_hasRinger (G : en_G) (hst : G.2.2.2.2.2 = true) : ∀ n t, en_Snd G M_X10_hasRinger t (LK_X10_hasRinger n t)
  | 0, _ => sn_no
  | n + 1, t => by
    show en_Snd G M_X10_hasRinger t (en_no)
    exact sn_no
noncomputable def T_X10_hasRinger_0 (x1 : Int32) (σ : en_M) : en_R := B_X10_hasRinger_0 (LK_X10_hasRinger en_FU) [.inr (5, 10, 0, 0), .inl x1] [] en_zz σ
set_option maxRecDepth 20000 in
set_option maxHeartbeats 2000000 in
theorem t_X10_hasRinger_0 (x1 : Int32) (σ : en_M) : T_X10_hasRinger_0 x1 σ = (if x1 < 0 then (if (0 : Int32) = 0 ∨ (0 : Int32) = 1 then en_ri (0 : Int32) σ else none) else (if x1 < (σ 5 3) then (if (1 : Int32) = 0 ∨ (1 : Int32) = 1 then en_ri (1 : Int32) σ else none) else (if (0 : Int32) = 0 ∨ (0 : Int32) = 1 then en_ri (0 : Int32) σ else none))) := rfl
noncomputable def P_X10_hasRinger : List en_V → en_M → Option (Int32 × en_M) := fun av σ => match av with
  | [.inr (5, 10, 0, 0), .inl x1] => en_oi (T_X10_hasRinger_0 x1 σ)
  | _ => none
theorem ox_X10_hasRinger : ∃ f, f = P_X10_hasRinger := ⟨_, rfl⟩
noncomputable def O_X10_hasRinger : List en_V → en_M → Option (Int32 × en_M) := Classical.choose ox_X10_hasRinger
theorem oe_X10_hasRinger : O_X10_hasRinger = P_X10_hasRinger := Classical.choose_spec ox_X10_hasRinger
theorem o_X10_hasRinger (x1 : Int32) (σ : en_M) : O_X10_hasRinger [.inr (5, 10, 0, 0), .inl x1] σ = en_oi (T_X10_hasRinger_0 x1 σ) := by rw [oe_X10_hasRinger]; rfl
theorem i_X10_hasRinger (G : en_G) (hst : G.2.2.2.2.2 = true) : en_I G 1 yX10_hasRinger cX10_hasRinger 2 (some .boolean) 0 0 (en_wi (O_X10_hasRinger)) := en_of_i (M := M_X10_hasRinger) hst (s_X10_hasRinger_0 G hst _ (l_X10_hasRinger G hst en_FU)) (plainFor_of_name (by decide +kernel)) rfl rfl rfl (Or.inr ⟨rfl, rfl⟩) (fun av σ x σ' h => by
  rw [oe_X10_hasRinger] at h; unfold P_X10_hasRinger at h
  split at h
  · exact ⟨(Nat.le_of_ble_eq_true rfl), en_oi_some h⟩
  · cases h)
-- EachMayMissOne$Tower.hasTwo(II)Z
def M_X10_hasTwo : en_Me := (cX10_hasTwo, RX10, 3, false, 2, true)
theorem cs_X10_hasTwo : en_cs yX10_hasTwo cX10_hasTwo 3 (some .boolean) 2 := ⟨wm_1117, wm_16, ⟨(by decide +kernel), (by decide +kernel), (by decide +kernel)⟩, (Nat.le_of_ble_eq_true rfl)⟩
noncomputable def B_X10_hasTwo_26 (kc : Nat → en_B) : en_B := op_zret
set_option maxRecDepth 20000 in
theorem s_X10_hasTwo_26 (G : en_G) (hst : G.2.2.2.2.2 = true) (kc : Nat → en_B) (hk : ∀ t, en_Snd G M_X10_hasTwo t (kc t)) : en_Snd G M_X10_hasTwo 26 (B_X10_hasTwo_26 kc) := (sn_zret (by decide +kernel))
noncomputable def B_X10_hasTwo_25 (kc : Nat → en_B) : en_B := (op_const (0 : Int32) (B_X10_hasTwo_26 kc))
set_option maxRecDepth 20000 in
theorem s_X10_hasTwo_25 (G : en_G) (hst : G.2.2.2.2.2 = true) (kc : Nat → en_B) (hk : ∀ t, en_Snd G M_X10_hasTwo t (kc t)) : en_Snd G M_X10_hasTwo 25 (B_X10_hasTwo_25 kc) := (sn_iconst (n := 0) (v := 0) (by decide +kernel) rfl (s_X10_hasTwo_26 G hst kc hk))
noncomputable def B_X10_hasTwo_0 (kc : Nat → en_B) : en_B := (op_aload 0 (op_iload 1 (op_rcv 10 1 (op_calli O_X10_hasRinger 2 (op_ifeq (B_X10_hasTwo_25 kc) (op_aload 0 (op_iload 2 (op_rcv 10 1 (op_calli O_X10_hasRinger 2 (op_ifeq (B_X10_hasTwo_25 kc) (op_iload 1 (op_iload 2 (op_iceq (B_X10_hasTwo_25 kc) (op_const (1 : Int32) (B_X10_hasTwo_26 kc)))))))))))))))
set_option maxRecDepth 20000 in
theorem s_X10_hasTwo_0 (G : en_G) (hst : G.2.2.2.2.2 = true) (kc : Nat → en_B) (hk : ∀ t, en_Snd G M_X10_hasTwo t (kc t)) : en_Snd G M_X10_hasTwo 0 (B_X10_hasTwo_0 kc) := (sn_aload_n (i := 0) (n := 0) (by decide +kernel) rfl (sn_iload_n (i := 1) (n := 1) (by decide +kernel) rfl (sn_callVi (n := 1) (idx := 55) (ci := 10) (i_X10_hasRinger G hst) (Nat.le_of_ble_eq_true rfl) cs_X10_hasRinger ⟨wm_1115, wm_1116, wm_1120⟩ ⟨⟨_, rfl, rfl⟩, (Nat.le_of_ble_eq_true rfl)⟩ (by decide +kernel) (sn_ifeq (off := 20) (tgt := 25) (by decide +kernel) rfl (s_X10_hasTwo_25 G hst kc hk) (sn_aload_n (i := 0) (n := 0) (by decide +kernel) rfl (sn_iload_n (i := 2) (n := 2) (by decide +kernel) rfl (sn_callVi (n := 1) (idx := 55) (ci := 10) (i_X10_hasRinger G hst) (Nat.le_of_ble_eq_true rfl) cs_X10_hasRinger ⟨wm_1115, wm_1116, wm_1120⟩ ⟨⟨_, rfl, rfl⟩, (Nat.le_of_ble_eq_true rfl)⟩ (by decide +kernel) (sn_ifeq (off := 12) (tgt := 25) (by decide +kernel) rfl (s_X10_hasTwo_25 G hst kc hk) (sn_iload_n (i := 1) (n := 1) (by decide +kernel) rfl (sn_iload_n (i := 2) (n := 2) (by decide +kernel) rfl (sn_iceq (off := 7) (tgt := 25) (by decide +kernel) rfl (s_X10_hasTwo_25 G hst kc hk) (sn_iconst (n := 1) (v := 1) (by decide +kernel) rfl (sn_goto (off := 4) (tgt := 26) (by decide +kernel) rfl (s_X10_hasTwo_26 G hst kc hk))))))))))))))
noncomputable def LK_X10_hasTwo : Nat → Nat → en_B
  | 0, _ => en_no
  | n + 1, t => en_no
theorem l_X10_hasTwo (G : en_G) (hst : G.2.2.2.2.2 = true) : ∀ n t, en_Snd G M_X10_hasTwo t (LK_X10_hasTwo n t)
  | 0, _ => sn_no
  | n + 1, t => by
    show en_Snd G M_X10_hasTwo t (en_no)
    exact sn_no
noncomputable def T_X10_hasTwo_0 (x1 : Int32) (x2 : Int32) (σ : en_M) : en_R := B_X10_hasTwo_0 (LK_X10_hasTwo en_FU) [.inr (5, 10, 0, 0), .inl x1, .inl x2] [] en_zz σ
set_option maxRecDepth 20000 in
set_option maxHeartbeats 2000000 in
theorem t_X10_hasTwo_0 (x1 : Int32) (x2 : Int32) (σ : en_M) : T_X10_hasTwo_0 x1 x2 σ = ((O_X10_hasRinger [.inr (5, 10, 0, 0), .inl x1] σ).bind fun r1 => if r1.1 = 0 then (if (0 : Int32) = 0 ∨ (0 : Int32) = 1 then en_ri (0 : Int32) r1.2 else none) else ((O_X10_hasRinger [.inr (5, 10, 0, 0), .inl x2] r1.2).bind fun r2 => if r2.1 = 0 then (if (0 : Int32) = 0 ∨ (0 : Int32) = 1 then en_ri (0 : Int32) r2.2 else none) else (if x1 = x2 then (if (0 : Int32) = 0 ∨ (0 : Int32) = 1 then en_ri (0 : Int32) r2.2 else none) else (if (1 : Int32) = 0 ∨ (1 : Int32) = 1 then en_ri (1 : Int32) r2.2 else none)))) := rfl
noncomputable def P_X10_hasTwo : List en_V → en_M → Option (Int32 × en_M) := fun av σ => match av with
  | [.inr (5, 10, 0, 0), .inl x1, .inl x2] => en_oi (T_X10_hasTwo_0 x1 x2 σ)
  | _ => none
theorem ox_X10_hasTwo : ∃ f, f = P_X10_hasTwo := ⟨_, rfl⟩
noncomputable def O_X10_hasTwo : List en_V → en_M → Option (Int32 × en_M) := Classical.choose ox_X10_hasTwo
theorem oe_X10_hasTwo : O_X10_hasTwo = P_X10_hasTwo := Classical.choose_spec ox_X10_hasTwo
theorem o_X10_hasTwo (x1 : Int32) (x2 : Int32) (σ : en_M) : O_X10_hasTwo [.inr (5, 10, 0, 0), .inl x1, .inl x2] σ = en_oi (T_X10_hasTwo_0 x1 x2 σ) := by rw [oe_X10_hasTwo]; rfl
theorem i_X10_hasTwo (G : en_G) (hst : G.2.2.2.2.2 = true) : en_I G 2 yX10_hasTwo cX10_hasTwo 3 (some .boolean) 0 0 (en_wi (O_X10_hasTwo)) := en_of_i (M := M_X10_hasTwo) hst (s_X10_hasTwo_0 G hst _ (l_X10_hasTwo G hst en_FU)) (plainFor_of_name (by decide +kernel)) rfl rfl rfl (Or.inr ⟨rfl, rfl⟩) (fun av σ x σ' h => by
  rw [oe_X10_hasTwo] at h; unfold P_X10_hasTwo at h
  split at h
  · exact ⟨(Nat.le_of_ble_eq_true rfl), en_oi_some h⟩
  · cases h)
-- EachMayMissOne$Tower.hasAll(I)Z
def M_X10_hasAll : en_Me := (cX10_hasAll, RX10, 2, false, 1, true)
theorem cs_X10_hasAll : en_cs yX10_hasAll cX10_hasAll 2 (some .boolean) 1 := ⟨wm_1121, wm_16, ⟨(by decide +kernel), (by decide +kernel), (by decide +kernel)⟩, (Nat.le_of_ble_eq_true rfl)⟩
noncomputable def B_X10_hasAll_19 (kc : Nat → en_B) : en_B := op_zret
set_option maxRecDepth 20000 in
theorem s_X10_hasAll_19 (G : en_G) (hst : G.2.2.2.2.2 = true) (kc : Nat → en_B) (hk : ∀ t, en_Snd G M_X10_hasAll t (kc t)) : en_Snd G M_X10_hasAll 19 (B_X10_hasAll_19 kc) := (sn_zret (by decide +kernel))
noncomputable def B_X10_hasAll_18 (kc : Nat → en_B) : en_B := (op_const (0 : Int32) (B_X10_hasAll_19 kc))
set_option maxRecDepth 20000 in
theorem s_X10_hasAll_18 (G : en_G) (hst : G.2.2.2.2.2 = true) (kc : Nat → en_B) (hk : ∀ t, en_Snd G M_X10_hasAll t (kc t)) : en_Snd G M_X10_hasAll 18 (B_X10_hasAll_18 kc) := (sn_iconst (n := 0) (v := 0) (by decide +kernel) rfl (s_X10_hasAll_19 G hst kc hk))
noncomputable def B_X10_hasAll_0 (kc : Nat → en_B) : en_B := (op_iload 1 (op_iflt (B_X10_hasAll_18 kc) (op_iload 1 (op_const (1 : Int32) (op_aload 0 (op_geti 10 3 (op_bin en_shl (op_iclt (op_const (1 : Int32) (B_X10_hasAll_19 kc)) (B_X10_hasAll_18 kc)))))))))
set_option maxRecDepth 20000 in
theorem s_X10_hasAll_0 (G : en_G) (hst : G.2.2.2.2.2 = true) (kc : Nat → en_B) (hk : ∀ t, en_Snd G M_X10_hasAll t (kc t)) : en_Snd G M_X10_hasAll 0 (B_X10_hasAll_0 kc) := (sn_iload_n (i := 1) (n := 1) (by decide +kernel) rfl (sn_iflt (off := 17) (tgt := 18) (by decide +kernel) rfl (s_X10_hasAll_18 G hst kc hk) (sn_iload_n (i := 1) (n := 1) (by decide +kernel) rfl (sn_iconst (n := 1) (v := 1) (by decide +kernel) rfl (sn_aload_n (i := 0) (n := 0) (by decide +kernel) rfl (sn_geti (ci := 10) (j := 3) en_c10 (by decide +kernel) wm_1112 (Nat.le_of_ble_eq_true rfl) rfl (sn_ishl (by decide +kernel) (sn_icge (off := 7) (tgt := 18) (by decide +kernel) rfl (s_X10_hasAll_18 G hst kc hk) (sn_iconst (n := 1) (v := 1) (by decide +kernel) rfl (sn_goto (off := 4) (tgt := 19) (by decide +kernel) rfl (s_X10_hasAll_19 G hst kc hk)))))))))))
noncomputable def LK_X10_hasAll : Nat → Nat → en_B
  | 0, _ => en_no
  | n + 1, t => en_no
theorem l_X10_hasAll (G : en_G) (hst : G.2.2.2.2.2 = true) : ∀ n t, en_Snd G M_X10_hasAll t (LK_X10_hasAll n t)
  | 0, _ => sn_no
  | n + 1, t => by
    show en_Snd G M_X10_hasAll t (en_no)
    exact sn_no
noncomputable def T_X10_hasAll_0 (x1 : Int32) (σ : en_M) : en_R := B_X10_hasAll_0 (LK_X10_hasAll en_FU) [.inr (5, 10, 0, 0), .inl x1] [] en_zz σ
set_option maxRecDepth 20000 in
set_option maxHeartbeats 2000000 in
theorem t_X10_hasAll_0 (x1 : Int32) (σ : en_M) : T_X10_hasAll_0 x1 σ = (if x1 < 0 then (if (0 : Int32) = 0 ∨ (0 : Int32) = 1 then en_ri (0 : Int32) σ else none) else (if x1 < (en_shl (1 : Int32) (σ 5 3)) then (if (1 : Int32) = 0 ∨ (1 : Int32) = 1 then en_ri (1 : Int32) σ else none) else (if (0 : Int32) = 0 ∨ (0 : Int32) = 1 then en_ri (0 : Int32) σ else none))) := rfl
noncomputable def P_X10_hasAll : List en_V → en_M → Option (Int32 × en_M) := fun av σ => match av with
  | [.inr (5, 10, 0, 0), .inl x1] => en_oi (T_X10_hasAll_0 x1 σ)
  | _ => none
theorem ox_X10_hasAll : ∃ f, f = P_X10_hasAll := ⟨_, rfl⟩
noncomputable def O_X10_hasAll : List en_V → en_M → Option (Int32 × en_M) := Classical.choose ox_X10_hasAll
theorem oe_X10_hasAll : O_X10_hasAll = P_X10_hasAll := Classical.choose_spec ox_X10_hasAll
theorem o_X10_hasAll (x1 : Int32) (σ : en_M) : O_X10_hasAll [.inr (5, 10, 0, 0), .inl x1] σ = en_oi (T_X10_hasAll_0 x1 σ) := by rw [oe_X10_hasAll]; rfl
theorem i_X10_hasAll (G : en_G) (hst : G.2.2.2.2.2 = true) : en_I G 1 yX10_hasAll cX10_hasAll 2 (some .boolean) 0 0 (en_wi (O_X10_hasAll)) := en_of_i (M := M_X10_hasAll) hst (s_X10_hasAll_0 G hst _ (l_X10_hasAll G hst en_FU)) (plainFor_of_name (by decide +kernel)) rfl rfl rfl (Or.inr ⟨rfl, rfl⟩) (fun av σ x σ' h => by
  rw [oe_X10_hasAll] at h; unfold P_X10_hasAll at h
  split at h
  · exact ⟨(Nat.le_of_ble_eq_true rfl), en_oi_some h⟩
  · cases h)
-- java/lang/Integer.bitCount(I)I
def M_J6_bitCount_0f7a4 : en_Me := (cJ6_bitCount_0f7a4, RJ6, 1, false, 1, false)
theorem cs_J6_bitCount_0f7a4 : en_cs yJ6_bitCount_0f7a4 cJ6_bitCount_0f7a4 1 (some .int) 1 := ⟨wm_510, wm_512, ⟨(by decide +kernel), (by decide +kernel), (by decide +kernel)⟩, (Nat.le_of_ble_eq_true rfl)⟩
noncomputable def B_J6_bitCount_0f7a4_0 (kc : Nat → en_B) : en_B := (op_iload 0 (op_iload 0 (op_const (1 : Int32) (op_bin en_ush (op_const (1431655765 : Int32) (op_bin (fun (x y : Int32) => x &&& y) (op_bin (fun (x y : Int32) => x - y) (op_istore 0 (op_iload 0 (op_const (858993459 : Int32) (op_bin (fun (x y : Int32) => x &&& y) (op_iload 0 (op_const (2 : Int32) (op_bin en_ush (op_const (858993459 : Int32) (op_bin (fun (x y : Int32) => x &&& y) (op_bin (fun (x y : Int32) => x + y) (op_istore 0 (op_iload 0 (op_iload 0 (op_const (4 : Int32) (op_bin en_ush (op_bin (fun (x y : Int32) => x + y) (op_const (252645135 : Int32) (op_bin (fun (x y : Int32) => x &&& y) (op_istore 0 (op_iload 0 (op_iload 0 (op_const (8 : Int32) (op_bin en_ush (op_bin (fun (x y : Int32) => x + y) (op_istore 0 (op_iload 0 (op_iload 0 (op_const (16 : Int32) (op_bin en_ush (op_bin (fun (x y : Int32) => x + y) (op_istore 0 (op_iload 0 (op_const (63 : Int32) (op_bin (fun (x y : Int32) => x &&& y) op_iret)))))))))))))))))))))))))))))))))))))))))
set_option maxRecDepth 20000 in
theorem s_J6_bitCount_0f7a4_0 (G : en_G) (hst : G.2.2.2.2.2 = true) (kc : Nat → en_B) (hk : ∀ t, en_Snd G M_J6_bitCount_0f7a4 t (kc t)) : en_Snd G M_J6_bitCount_0f7a4 0 (B_J6_bitCount_0f7a4_0 kc) := (sn_iload_n (i := 0) (n := 0) (by decide +kernel) rfl (sn_iload_n (i := 0) (n := 0) (by decide +kernel) rfl (sn_iconst (n := 1) (v := 1) (by decide +kernel) rfl (sn_iushr (by decide +kernel) (sn_ldcw (n := 265) (v := 1431655765) wm_1252 (by decide +kernel) (sn_iand (by decide +kernel) (sn_isub (by decide +kernel) (sn_istore_n (i := 0) (n := 0) (by decide +kernel) rfl (Nat.le_of_ble_eq_true rfl) (sn_iload_n (i := 0) (n := 0) (by decide +kernel) rfl (sn_ldcw (n := 266) (v := 858993459) wm_1253 (by decide +kernel) (sn_iand (by decide +kernel) (sn_iload_n (i := 0) (n := 0) (by decide +kernel) rfl (sn_iconst (n := 2) (v := 2) (by decide +kernel) rfl (sn_iushr (by decide +kernel) (sn_ldcw (n := 266) (v := 858993459) wm_1253 (by decide +kernel) (sn_iand (by decide +kernel) (sn_iadd (by decide +kernel) (sn_istore_n (i := 0) (n := 0) (by decide +kernel) rfl (Nat.le_of_ble_eq_true rfl) (sn_iload_n (i := 0) (n := 0) (by decide +kernel) rfl (sn_iload_n (i := 0) (n := 0) (by decide +kernel) rfl (sn_iconst (n := 4) (v := 4) (by decide +kernel) rfl (sn_iushr (by decide +kernel) (sn_iadd (by decide +kernel) (sn_ldcw (n := 267) (v := 252645135) wm_1254 (by decide +kernel) (sn_iand (by decide +kernel) (sn_istore_n (i := 0) (n := 0) (by decide +kernel) rfl (Nat.le_of_ble_eq_true rfl) (sn_iload_n (i := 0) (n := 0) (by decide +kernel) rfl (sn_iload_n (i := 0) (n := 0) (by decide +kernel) rfl (sn_bipush (n := 8) (v := 8) (by decide +kernel) rfl (sn_iushr (by decide +kernel) (sn_iadd (by decide +kernel) (sn_istore_n (i := 0) (n := 0) (by decide +kernel) rfl (Nat.le_of_ble_eq_true rfl) (sn_iload_n (i := 0) (n := 0) (by decide +kernel) rfl (sn_iload_n (i := 0) (n := 0) (by decide +kernel) rfl (sn_bipush (n := 16) (v := 16) (by decide +kernel) rfl (sn_iushr (by decide +kernel) (sn_iadd (by decide +kernel) (sn_istore_n (i := 0) (n := 0) (by decide +kernel) rfl (Nat.le_of_ble_eq_true rfl) (sn_iload_n (i := 0) (n := 0) (by decide +kernel) rfl (sn_bipush (n := 63) (v := 63) (by decide +kernel) rfl (sn_iand (by decide +kernel) (sn_iret (by decide +kernel) rfl))))))))))))))))))))))))))))))))))))))))))
noncomputable def LK_J6_bitCount_0f7a4 : Nat → Nat → en_B
  | 0, _ => en_no
  | n + 1, t => en_no
theorem l_J6_bitCount_0f7a4 (G : en_G) (hst : G.2.2.2.2.2 = true) : ∀ n t, en_Snd G M_J6_bitCount_0f7a4 t (LK_J6_bitCount_0f7a4 n t)
  | 0, _ => sn_no
  | n + 1, t => by
    show en_Snd G M_J6_bitCount_0f7a4 t (en_no)
    exact sn_no
noncomputable def T_J6_bitCount_0f7a4_0 (x0 : Int32) (σ : en_M) : en_R := B_J6_bitCount_0f7a4_0 (LK_J6_bitCount_0f7a4 en_FU) [.inl x0] [] en_zz σ
set_option maxRecDepth 20000 in
set_option maxHeartbeats 2000000 in
theorem t_J6_bitCount_0f7a4_0 (x0 : Int32) (σ : en_M) : T_J6_bitCount_0f7a4_0 x0 σ = (en_ri ((((((((x0 - ((en_ush x0 (1 : Int32)) &&& (1431655765 : Int32))) &&& (858993459 : Int32)) + ((en_ush (x0 - ((en_ush x0 (1 : Int32)) &&& (1431655765 : Int32))) (2 : Int32)) &&& (858993459 : Int32))) + (en_ush (((x0 - ((en_ush x0 (1 : Int32)) &&& (1431655765 : Int32))) &&& (858993459 : Int32)) + ((en_ush (x0 - ((en_ush x0 (1 : Int32)) &&& (1431655765 : Int32))) (2 : Int32)) &&& (858993459 : Int32))) (4 : Int32))) &&& (252645135 : Int32)) + (en_ush (((((x0 - ((en_ush x0 (1 : Int32)) &&& (1431655765 : Int32))) &&& (858993459 : Int32)) + ((en_ush (x0 - ((en_ush x0 (1 : Int32)) &&& (1431655765 : Int32))) (2 : Int32)) &&& (858993459 : Int32))) + (en_ush (((x0 - ((en_ush x0 (1 : Int32)) &&& (1431655765 : Int32))) &&& (858993459 : Int32)) + ((en_ush (x0 - ((en_ush x0 (1 : Int32)) &&& (1431655765 : Int32))) (2 : Int32)) &&& (858993459 : Int32))) (4 : Int32))) &&& (252645135 : Int32)) (8 : Int32))) + (en_ush ((((((x0 - ((en_ush x0 (1 : Int32)) &&& (1431655765 : Int32))) &&& (858993459 : Int32)) + ((en_ush (x0 - ((en_ush x0 (1 : Int32)) &&& (1431655765 : Int32))) (2 : Int32)) &&& (858993459 : Int32))) + (en_ush (((x0 - ((en_ush x0 (1 : Int32)) &&& (1431655765 : Int32))) &&& (858993459 : Int32)) + ((en_ush (x0 - ((en_ush x0 (1 : Int32)) &&& (1431655765 : Int32))) (2 : Int32)) &&& (858993459 : Int32))) (4 : Int32))) &&& (252645135 : Int32)) + (en_ush (((((x0 - ((en_ush x0 (1 : Int32)) &&& (1431655765 : Int32))) &&& (858993459 : Int32)) + ((en_ush (x0 - ((en_ush x0 (1 : Int32)) &&& (1431655765 : Int32))) (2 : Int32)) &&& (858993459 : Int32))) + (en_ush (((x0 - ((en_ush x0 (1 : Int32)) &&& (1431655765 : Int32))) &&& (858993459 : Int32)) + ((en_ush (x0 - ((en_ush x0 (1 : Int32)) &&& (1431655765 : Int32))) (2 : Int32)) &&& (858993459 : Int32))) (4 : Int32))) &&& (252645135 : Int32)) (8 : Int32))) (16 : Int32))) &&& (63 : Int32)) σ) := rfl
noncomputable def P_J6_bitCount_0f7a4 : List en_V → en_M → Option (Int32 × en_M) := fun av σ => match av with
  | [.inl x0] => en_oi (T_J6_bitCount_0f7a4_0 x0 σ)
  | _ => none
theorem ox_J6_bitCount_0f7a4 : ∃ f, f = P_J6_bitCount_0f7a4 := ⟨_, rfl⟩
noncomputable def O_J6_bitCount_0f7a4 : List en_V → en_M → Option (Int32 × en_M) := Classical.choose ox_J6_bitCount_0f7a4
theorem oe_J6_bitCount_0f7a4 : O_J6_bitCount_0f7a4 = P_J6_bitCount_0f7a4 := Classical.choose_spec ox_J6_bitCount_0f7a4
theorem o_J6_bitCount_0f7a4 (x0 : Int32) (σ : en_M) : O_J6_bitCount_0f7a4 [.inl x0] σ = en_oi (T_J6_bitCount_0f7a4_0 x0 σ) := by rw [oe_J6_bitCount_0f7a4]; rfl
theorem i_J6_bitCount_0f7a4 (G : en_G) (hst : G.2.2.2.2.2 = true) : en_I G 1 yJ6_bitCount_0f7a4 cJ6_bitCount_0f7a4 1 (some .int) 0 0 (en_wi (O_J6_bitCount_0f7a4)) := en_of_i (M := M_J6_bitCount_0f7a4) hst (s_J6_bitCount_0f7a4_0 G hst _ (l_J6_bitCount_0f7a4 G hst en_FU)) (plainFor_of_name (by decide +kernel)) rfl rfl rfl (Or.inl ⟨rfl, rfl⟩) (fun av σ x σ' h => by
  rw [oe_J6_bitCount_0f7a4] at h; unfold P_J6_bitCount_0f7a4 at h
  split at h
  · exact ⟨(Nat.le_of_ble_eq_true rfl), en_oi_some h⟩
  · cases h)
-- EachMayMissOne.placesOf(II)I
def M_X11_placesOf : en_Me := (cX11_placesOf, RX11, 4, false, 2, false)
theorem cs_X11_placesOf : en_cs yX11_placesOf cX11_placesOf 4 (some .int) 2 := ⟨wm_284, wm_2, ⟨(by decide +kernel), (by decide +kernel), (by decide +kernel)⟩, (Nat.le_of_ble_eq_true rfl)⟩
noncomputable def B_X11_placesOf_30 (kc : Nat → en_B) : en_B := (op_iload 2 op_iret)
set_option maxRecDepth 20000 in
theorem s_X11_placesOf_30 (G : en_G) (hst : G.2.2.2.2.2 = true) (kc : Nat → en_B) (hk : ∀ t, en_Snd G M_X11_placesOf t (kc t)) : en_Snd G M_X11_placesOf 30 (B_X11_placesOf_30 kc) := (sn_iload_n (i := 2) (n := 2) (by decide +kernel) rfl (sn_iret (by decide +kernel) rfl))
noncomputable def B_X11_placesOf_4 (kc : Nat → en_B) : en_B := (op_iload 3 (op_const (7 : Int32) (op_iclt (op_iload 2 (op_iload 1 (op_iload 0 (op_iload 3 (op_calli O_X11_bellAt 2 (op_calli O_X11_bit 2 (op_iload 3 (op_bin en_shl (op_bin (fun (x y : Int32) => x ||| y) (op_istore 2 (op_iinc 3 (1 : Int32) (kc 4)))))))))))) (B_X11_placesOf_30 kc))))
set_option maxRecDepth 20000 in
theorem s_X11_placesOf_4 (G : en_G) (hst : G.2.2.2.2.2 = true) (kc : Nat → en_B) (hk : ∀ t, en_Snd G M_X11_placesOf t (kc t)) : en_Snd G M_X11_placesOf 4 (B_X11_placesOf_4 kc) := (sn_iload_n (i := 3) (n := 3) (by decide +kernel) rfl (sn_bipush (n := 7) (v := 7) (by decide +kernel) rfl (sn_icge (off := 23) (tgt := 30) (by decide +kernel) rfl (s_X11_placesOf_30 G hst kc hk) (sn_iload_n (i := 2) (n := 2) (by decide +kernel) rfl (sn_iload_n (i := 1) (n := 1) (by decide +kernel) rfl (sn_iload_n (i := 0) (n := 0) (by decide +kernel) rfl (sn_iload_n (i := 3) (n := 3) (by decide +kernel) rfl (sn_callSi (n := 2) (idx := 174) (i_X11_bellAt G hst) (Nat.le_of_ble_eq_true rfl) cs_X11_bellAt ⟨wm_276, Or.inl wm_97⟩ (by decide +kernel) (sn_callSi (n := 2) (idx := 163) (i_X11_bit G hst) (Nat.le_of_ble_eq_true rfl) cs_X11_bit ⟨wm_257, Or.inl wm_92⟩ (by decide +kernel) (sn_iload_n (i := 3) (n := 3) (by decide +kernel) rfl (sn_ishl (by decide +kernel) (sn_ior (by decide +kernel) (sn_istore_n (i := 2) (n := 2) (by decide +kernel) rfl (Nat.le_of_ble_eq_true rfl) (sn_iinc (i := 3) (n := 1) (v := 1) (by decide +kernel) rfl (sn_goto (off := -23) (tgt := 4) (by decide +kernel) rfl (hk 4))))))))))))))))
noncomputable def B_X11_placesOf_0 (kc : Nat → en_B) : en_B := (op_const (0 : Int32) (op_istore 2 (op_const (0 : Int32) (op_istore 3 (kc 4)))))
set_option maxRecDepth 20000 in
theorem s_X11_placesOf_0 (G : en_G) (hst : G.2.2.2.2.2 = true) (kc : Nat → en_B) (hk : ∀ t, en_Snd G M_X11_placesOf t (kc t)) : en_Snd G M_X11_placesOf 0 (B_X11_placesOf_0 kc) := (sn_iconst (n := 0) (v := 0) (by decide +kernel) rfl (sn_istore_n (i := 2) (n := 2) (by decide +kernel) rfl (Nat.le_of_ble_eq_true rfl) (sn_iconst (n := 0) (v := 0) (by decide +kernel) rfl (sn_istore_n (i := 3) (n := 3) (by decide +kernel) rfl (Nat.le_of_ble_eq_true rfl) (hk 4)))))
noncomputable def LK_X11_placesOf : Nat → Nat → en_B
  | 0, _ => en_no
  | n + 1, t => if t = 4 then B_X11_placesOf_4 (LK_X11_placesOf n) else en_no
theorem l_X11_placesOf (G : en_G) (hst : G.2.2.2.2.2 = true) : ∀ n t, en_Snd G M_X11_placesOf t (LK_X11_placesOf n t)
  | 0, _ => sn_no
  | n + 1, t => by
    show en_Snd G M_X11_placesOf t (if t = 4 then B_X11_placesOf_4 (LK_X11_placesOf n) else en_no)
    by_cases h_4 : t = 4
    · rw [if_pos h_4, h_4]; exact s_X11_placesOf_4 G hst _ (l_X11_placesOf G hst n)
    rw [if_neg h_4]
    exact sn_no
noncomputable def T_X11_placesOf_0 (x0 : Int32) (x1 : Int32) (σ : en_M) : en_R := B_X11_placesOf_0 (LK_X11_placesOf en_FU) [.inl x0, .inl x1, en_un, en_un] [] en_zz σ
noncomputable def T_X11_placesOf_4 (n : Nat) (x0 : Int32) (x1 : Int32) (x2 : Int32) (x3 : Int32) (σ : en_M) : en_R := LK_X11_placesOf n 4 [.inl x0, .inl x1, .inl x2, .inl x3] [] en_zz σ
set_option maxRecDepth 20000 in
set_option maxHeartbeats 2000000 in
theorem t_X11_placesOf_0 (x0 : Int32) (x1 : Int32) (σ : en_M) : T_X11_placesOf_0 x0 x1 σ = (T_X11_placesOf_4 en_FU x0 x1 (0 : Int32) (0 : Int32) σ) := rfl
set_option maxRecDepth 20000 in
set_option maxHeartbeats 2000000 in
theorem t_X11_placesOf_4 (n : Nat) (x0 : Int32) (x1 : Int32) (x2 : Int32) (x3 : Int32) (σ : en_M) : T_X11_placesOf_4 (n + 1) x0 x1 x2 x3 σ = (if x3 < (7 : Int32) then ((O_X11_bellAt [.inl x0, .inl x3] σ).bind fun r1 => (O_X11_bit [.inl x1, .inl r1.1] r1.2).bind fun r2 => T_X11_placesOf_4 n x0 x1 (x2 ||| (en_shl r2.1 x3)) (x3 + (1 : Int32)) r2.2) else (en_ri x2 σ)) := rfl
noncomputable def P_X11_placesOf : List en_V → en_M → Option (Int32 × en_M) := fun av σ => match av with
  | [.inl x0, .inl x1] => en_oi (T_X11_placesOf_0 x0 x1 σ)
  | _ => none
theorem ox_X11_placesOf : ∃ f, f = P_X11_placesOf := ⟨_, rfl⟩
noncomputable def O_X11_placesOf : List en_V → en_M → Option (Int32 × en_M) := Classical.choose ox_X11_placesOf
theorem oe_X11_placesOf : O_X11_placesOf = P_X11_placesOf := Classical.choose_spec ox_X11_placesOf
theorem o_X11_placesOf (x0 : Int32) (x1 : Int32) (σ : en_M) : O_X11_placesOf [.inl x0, .inl x1] σ = en_oi (T_X11_placesOf_0 x0 x1 σ) := by rw [oe_X11_placesOf]; rfl
theorem i_X11_placesOf (G : en_G) (hst : G.2.2.2.2.2 = true) : en_I G 2 yX11_placesOf cX11_placesOf 4 (some .int) 0 0 (en_wi (O_X11_placesOf)) := en_of_i (M := M_X11_placesOf) hst (s_X11_placesOf_0 G hst _ (l_X11_placesOf G hst en_FU)) (plainFor_of_name (by decide +kernel)) rfl rfl rfl (Or.inl ⟨rfl, rfl⟩) (fun av σ x σ' h => by
  rw [oe_X11_placesOf] at h; unfold P_X11_placesOf at h
  split at h
  · exact ⟨(Nat.le_of_ble_eq_true rfl), en_oi_some h⟩
  · cases h)
-- EachMayMissOne$Tower.breach(IIIII)I
def M_X10_breach : en_Me := (cX10_breach, RX10, 7, false, 3, false)
theorem cs_X10_breach : en_cs yX10_breach cX10_breach 7 (some .int) 5 := ⟨wm_1124, wm_16, ⟨(by decide +kernel), (by decide +kernel), (by decide +kernel)⟩, (Nat.le_of_ble_eq_true rfl)⟩
noncomputable def B_X10_breach_82 (kc : Nat → en_B) : en_B := op_iret
set_option maxRecDepth 20000 in
theorem s_X10_breach_82 (G : en_G) (hst : G.2.2.2.2.2 = true) (kc : Nat → en_B) (hk : ∀ t, en_Snd G M_X10_breach t (kc t)) : en_Snd G M_X10_breach 82 (B_X10_breach_82 kc) := (sn_iret (by decide +kernel) rfl)
noncomputable def B_X10_breach_81 (kc : Nat → en_B) : en_B := (op_const (0 : Int32) (B_X10_breach_82 kc))
set_option maxRecDepth 20000 in
theorem s_X10_breach_81 (G : en_G) (hst : G.2.2.2.2.2 = true) (kc : Nat → en_B) (hk : ∀ t, en_Snd G M_X10_breach t (kc t)) : en_Snd G M_X10_breach 81 (B_X10_breach_81 kc) := (sn_iconst (n := 0) (v := 0) (by decide +kernel) rfl (s_X10_breach_82 G hst kc hk))
noncomputable def B_X10_breach_51 (kc : Nat → en_B) : en_B := (op_iload 2 (op_const (7 : Int32) (op_div (fun (x y : Int32) => x - x / y * y) (op_ifeq (op_aload 0 (op_geti 10 4 (op_iflt (B_X10_breach_81 kc) (op_iload 3 (op_aload 0 (op_geti 10 4 (op_calli O_X11_bit 2 (op_const (1 : Int32) (op_iceq (op_const (5 : Int32) (B_X10_breach_82 kc)) (B_X10_breach_81 kc)))))))))) (B_X10_breach_81 kc)))))
set_option maxRecDepth 20000 in
theorem s_X10_breach_51 (G : en_G) (hst : G.2.2.2.2.2 = true) (kc : Nat → en_B) (hk : ∀ t, en_Snd G M_X10_breach t (kc t)) : en_Snd G M_X10_breach 51 (B_X10_breach_51 kc) := (sn_iload_n (i := 2) (n := 2) (by decide +kernel) rfl (sn_bipush (n := 7) (v := 7) (by decide +kernel) rfl (sn_irem (by decide +kernel) (sn_ifne (off := 26) (tgt := 81) (by decide +kernel) rfl (s_X10_breach_81 G hst kc hk) (sn_aload_n (i := 0) (n := 0) (by decide +kernel) rfl (sn_geti (ci := 10) (j := 4) en_c10 (by decide +kernel) wm_1104 (Nat.le_of_ble_eq_true rfl) rfl (sn_iflt (off := 19) (tgt := 81) (by decide +kernel) rfl (s_X10_breach_81 G hst kc hk) (sn_iload_n (i := 3) (n := 3) (by decide +kernel) rfl (sn_aload_n (i := 0) (n := 0) (by decide +kernel) rfl (sn_geti (ci := 10) (j := 4) en_c10 (by decide +kernel) wm_1104 (Nat.le_of_ble_eq_true rfl) rfl (sn_callSi (n := 2) (idx := 67) (i_X11_bit G hst) (Nat.le_of_ble_eq_true rfl) cs_X11_bit ⟨wm_257, Or.inr (by decide +kernel)⟩ (by decide +kernel) (sn_iconst (n := 1) (v := 1) (by decide +kernel) rfl (sn_icne (off := 7) (tgt := 81) (by decide +kernel) rfl (s_X10_breach_81 G hst kc hk) (sn_iconst (n := 5) (v := 5) (by decide +kernel) rfl (sn_goto (off := 4) (tgt := 82) (by decide +kernel) rfl (s_X10_breach_82 G hst kc hk))))))))))))))))
noncomputable def B_X10_breach_41 (kc : Nat → en_B) : en_B := (op_iload 6 (op_iload 5 (op_bin (fun (x y : Int32) => x &&& y) (op_ifeq (B_X10_breach_51 kc) (op_const (4 : Int32) op_iret)))))
set_option maxRecDepth 20000 in
theorem s_X10_breach_41 (G : en_G) (hst : G.2.2.2.2.2 = true) (kc : Nat → en_B) (hk : ∀ t, en_Snd G M_X10_breach t (kc t)) : en_Snd G M_X10_breach 41 (B_X10_breach_41 kc) := (sn_iload (i := 6) (by decide +kernel) (sn_iload (i := 5) (by decide +kernel) (sn_iand (by decide +kernel) (sn_ifeq (off := 5) (tgt := 51) (by decide +kernel) rfl (s_X10_breach_51 G hst kc hk) (sn_iconst (n := 4) (v := 4) (by decide +kernel) rfl (sn_iret (by decide +kernel) rfl))))))
noncomputable def B_X10_breach_22 (kc : Nat → en_B) : en_B := (op_iload 1 (op_iload 3 (op_calli O_X11_placesOf 2 (op_istore 6 (op_iload 6 (op_iload 6 (op_const (1 : Int32) (op_bin en_shr (op_bin (fun (x y : Int32) => x &&& y) (op_ifeq (B_X10_breach_41 kc) (op_const (3 : Int32) op_iret)))))))))))
set_option maxRecDepth 20000 in
theorem s_X10_breach_22 (G : en_G) (hst : G.2.2.2.2.2 = true) (kc : Nat → en_B) (hk : ∀ t, en_Snd G M_X10_breach t (kc t)) : en_Snd G M_X10_breach 22 (B_X10_breach_22 kc) := (sn_iload_n (i := 1) (n := 1) (by decide +kernel) rfl (sn_iload_n (i := 3) (n := 3) (by decide +kernel) rfl (sn_callSi (n := 2) (idx := 64) (i_X11_placesOf G hst) (Nat.le_of_ble_eq_true rfl) cs_X11_placesOf ⟨wm_285, Or.inr (by decide +kernel)⟩ (by decide +kernel) (sn_istore (i := 6) (by decide +kernel) (Nat.le_of_ble_eq_true rfl) (sn_iload (i := 6) (by decide +kernel) (sn_iload (i := 6) (by decide +kernel) (sn_iconst (n := 1) (v := 1) (by decide +kernel) rfl (sn_ishr (by decide +kernel) (sn_iand (by decide +kernel) (sn_ifeq (off := 5) (tgt := 41) (by decide +kernel) rfl (s_X10_breach_41 G hst kc hk) (sn_iconst (n := 3) (v := 3) (by decide +kernel) rfl (sn_iret (by decide +kernel) rfl))))))))))))
noncomputable def B_X10_breach_13 (kc : Nat → en_B) : en_B := (op_iload 3 (op_iload 4 (op_bin (fun (x y : Int32) => x &&& y) (op_ifeq (B_X10_breach_22 kc) (op_const (2 : Int32) op_iret)))))
set_option maxRecDepth 20000 in
theorem s_X10_breach_13 (G : en_G) (hst : G.2.2.2.2.2 = true) (kc : Nat → en_B) (hk : ∀ t, en_Snd G M_X10_breach t (kc t)) : en_Snd G M_X10_breach 13 (B_X10_breach_13 kc) := (sn_iload_n (i := 3) (n := 3) (by decide +kernel) rfl (sn_iload (i := 4) (by decide +kernel) (sn_iand (by decide +kernel) (sn_ifeq (off := 5) (tgt := 22) (by decide +kernel) rfl (s_X10_breach_22 G hst kc hk) (sn_iconst (n := 2) (v := 2) (by decide +kernel) rfl (sn_iret (by decide +kernel) rfl))))))
noncomputable def B_X10_breach_0 (kc : Nat → en_B) : en_B := (op_iload 3 (op_calli O_J6_bitCount_0f7a4 1 (op_aload 0 (op_geti 10 5 (op_icgt (op_const (1 : Int32) op_iret) (B_X10_breach_13 kc))))))
set_option maxRecDepth 20000 in
theorem s_X10_breach_0 (G : en_G) (hst : G.2.2.2.2.2 = true) (kc : Nat → en_B) (hk : ∀ t, en_Snd G M_X10_breach t (kc t)) : en_Snd G M_X10_breach 0 (B_X10_breach_0 kc) := (sn_iload_n (i := 3) (n := 3) (by decide +kernel) rfl (sn_callSi (n := 1) (idx := 59) (i_J6_bitCount_0f7a4 G hst) (Nat.le_of_ble_eq_true rfl) cs_J6_bitCount_0f7a4 ⟨wm_511, Or.inl wm_1127⟩ (by decide +kernel) (sn_aload_n (i := 0) (n := 0) (by decide +kernel) rfl (sn_geti (ci := 10) (j := 5) en_c10 (by decide +kernel) wm_1105 (Nat.le_of_ble_eq_true rfl) rfl (sn_icle (off := 5) (tgt := 13) (by decide +kernel) rfl (s_X10_breach_13 G hst kc hk) (sn_iconst (n := 1) (v := 1) (by decide +kernel) rfl (sn_iret (by decide +kernel) rfl)))))))
noncomputable def LK_X10_breach : Nat → Nat → en_B
  | 0, _ => en_no
  | n + 1, t => en_no
theorem l_X10_breach (G : en_G) (hst : G.2.2.2.2.2 = true) : ∀ n t, en_Snd G M_X10_breach t (LK_X10_breach n t)
  | 0, _ => sn_no
  | n + 1, t => by
    show en_Snd G M_X10_breach t (en_no)
    exact sn_no
noncomputable def T_X10_breach_0 (x1 : Int32) (x2 : Int32) (x3 : Int32) (x4 : Int32) (x5 : Int32) (σ : en_M) : en_R := B_X10_breach_0 (LK_X10_breach en_FU) [.inr (5, 10, 0, 0), .inl x1, .inl x2, .inl x3, .inl x4, .inl x5, en_un] [] en_zz σ
set_option maxRecDepth 20000 in
set_option maxHeartbeats 2000000 in
theorem t_X10_breach_0 (x1 : Int32) (x2 : Int32) (x3 : Int32) (x4 : Int32) (x5 : Int32) (σ : en_M) : T_X10_breach_0 x1 x2 x3 x4 x5 σ = ((O_J6_bitCount_0f7a4 [.inl x3] σ).bind fun r1 => if (r1.2 5 5) < r1.1 then (en_ri (1 : Int32) r1.2) else (if (x3 &&& x4) = 0 then ((O_X11_placesOf [.inl x1, .inl x3] r1.2).bind fun r2 => if (r2.1 &&& (en_shr r2.1 (1 : Int32))) = 0 then (if (r2.1 &&& x5) = 0 then (if (7 : Int32) = 0 then none else (if (x2 - x2 / (7 : Int32) * (7 : Int32)) = 0 then (if (r2.2 5 4) < 0 then (en_ri (0 : Int32) r2.2) else ((O_X11_bit [.inl x3, .inl (r2.2 5 4)] r2.2).bind fun r3 => if r3.1 = (1 : Int32) then (en_ri (5 : Int32) r3.2) else (en_ri (0 : Int32) r3.2))) else (en_ri (0 : Int32) r2.2))) else (en_ri (4 : Int32) r2.2)) else (en_ri (3 : Int32) r2.2)) else (en_ri (2 : Int32) r1.2))) := rfl
noncomputable def P_X10_breach : List en_V → en_M → Option (Int32 × en_M) := fun av σ => match av with
  | [.inr (5, 10, 0, 0), .inl x1, .inl x2, .inl x3, .inl x4, .inl x5] => en_oi (T_X10_breach_0 x1 x2 x3 x4 x5 σ)
  | _ => none
theorem ox_X10_breach : ∃ f, f = P_X10_breach := ⟨_, rfl⟩
noncomputable def O_X10_breach : List en_V → en_M → Option (Int32 × en_M) := Classical.choose ox_X10_breach
theorem oe_X10_breach : O_X10_breach = P_X10_breach := Classical.choose_spec ox_X10_breach
theorem o_X10_breach (x1 : Int32) (x2 : Int32) (x3 : Int32) (x4 : Int32) (x5 : Int32) (σ : en_M) : O_X10_breach [.inr (5, 10, 0, 0), .inl x1, .inl x2, .inl x3, .inl x4, .inl x5] σ = en_oi (T_X10_breach_0 x1 x2 x3 x4 x5 σ) := by rw [oe_X10_breach]; rfl
theorem i_X10_breach (G : en_G) (hst : G.2.2.2.2.2 = true) : en_I G 3 yX10_breach cX10_breach 7 (some .int) 0 0 (en_wi (O_X10_breach)) := en_of_i (M := M_X10_breach) hst (s_X10_breach_0 G hst _ (l_X10_breach G hst en_FU)) (plainFor_of_name (by decide +kernel)) rfl rfl rfl (Or.inl ⟨rfl, rfl⟩) (fun av σ x σ' h => by
  rw [oe_X10_breach] at h; unfold P_X10_breach at h
  split at h
  · exact ⟨(Nat.le_of_ble_eq_true rfl), en_oi_some h⟩
  · cases h)
-- EachMayMissOne.placeOf(II)I
def M_X11_placeOf : en_Me := (cX11_placeOf, RX11, 3, false, 2, false)
theorem cs_X11_placeOf : en_cs yX11_placeOf cX11_placeOf 3 (some .int) 2 := ⟨wm_279, wm_2, ⟨(by decide +kernel), (by decide +kernel), (by decide +kernel)⟩, (Nat.le_of_ble_eq_true rfl)⟩
noncomputable def B_X11_placeOf_23 (kc : Nat → en_B) : en_B := (op_iload 2 op_iret)
set_option maxRecDepth 20000 in
theorem s_X11_placeOf_23 (G : en_G) (hst : G.2.2.2.2.2 = true) (kc : Nat → en_B) (hk : ∀ t, en_Snd G M_X11_placeOf t (kc t)) : en_Snd G M_X11_placeOf 23 (B_X11_placeOf_23 kc) := (sn_iload_n (i := 2) (n := 2) (by decide +kernel) rfl (sn_iret (by decide +kernel) rfl))
noncomputable def B_X11_placeOf_2 (kc : Nat → en_B) : en_B := (op_iload 2 (op_const (6 : Int32) (op_iclt (op_iload 0 (op_iload 2 (op_calli O_X11_bellAt 2 (op_iload 1 (op_iceq (B_X11_placeOf_23 kc) (op_iinc 2 (1 : Int32) (kc 2))))))) (B_X11_placeOf_23 kc))))
set_option maxRecDepth 20000 in
theorem s_X11_placeOf_2 (G : en_G) (hst : G.2.2.2.2.2 = true) (kc : Nat → en_B) (hk : ∀ t, en_Snd G M_X11_placeOf t (kc t)) : en_Snd G M_X11_placeOf 2 (B_X11_placeOf_2 kc) := (sn_iload_n (i := 2) (n := 2) (by decide +kernel) rfl (sn_bipush (n := 6) (v := 6) (by decide +kernel) rfl (sn_icge (off := 18) (tgt := 23) (by decide +kernel) rfl (s_X11_placeOf_23 G hst kc hk) (sn_iload_n (i := 0) (n := 0) (by decide +kernel) rfl (sn_iload_n (i := 2) (n := 2) (by decide +kernel) rfl (sn_callSi (n := 2) (idx := 174) (i_X11_bellAt G hst) (Nat.le_of_ble_eq_true rfl) cs_X11_bellAt ⟨wm_276, Or.inl wm_97⟩ (by decide +kernel) (sn_iload_n (i := 1) (n := 1) (by decide +kernel) rfl (sn_iceq (off := 9) (tgt := 23) (by decide +kernel) rfl (s_X11_placeOf_23 G hst kc hk) (sn_iinc (i := 2) (n := 1) (v := 1) (by decide +kernel) rfl (sn_goto (off := -18) (tgt := 2) (by decide +kernel) rfl (hk 2)))))))))))
noncomputable def B_X11_placeOf_0 (kc : Nat → en_B) : en_B := (op_const (0 : Int32) (op_istore 2 (kc 2)))
set_option maxRecDepth 20000 in
theorem s_X11_placeOf_0 (G : en_G) (hst : G.2.2.2.2.2 = true) (kc : Nat → en_B) (hk : ∀ t, en_Snd G M_X11_placeOf t (kc t)) : en_Snd G M_X11_placeOf 0 (B_X11_placeOf_0 kc) := (sn_iconst (n := 0) (v := 0) (by decide +kernel) rfl (sn_istore_n (i := 2) (n := 2) (by decide +kernel) rfl (Nat.le_of_ble_eq_true rfl) (hk 2)))
noncomputable def LK_X11_placeOf : Nat → Nat → en_B
  | 0, _ => en_no
  | n + 1, t => if t = 2 then B_X11_placeOf_2 (LK_X11_placeOf n) else en_no
theorem l_X11_placeOf (G : en_G) (hst : G.2.2.2.2.2 = true) : ∀ n t, en_Snd G M_X11_placeOf t (LK_X11_placeOf n t)
  | 0, _ => sn_no
  | n + 1, t => by
    show en_Snd G M_X11_placeOf t (if t = 2 then B_X11_placeOf_2 (LK_X11_placeOf n) else en_no)
    by_cases h_2 : t = 2
    · rw [if_pos h_2, h_2]; exact s_X11_placeOf_2 G hst _ (l_X11_placeOf G hst n)
    rw [if_neg h_2]
    exact sn_no
noncomputable def T_X11_placeOf_0 (x0 : Int32) (x1 : Int32) (σ : en_M) : en_R := B_X11_placeOf_0 (LK_X11_placeOf en_FU) [.inl x0, .inl x1, en_un] [] en_zz σ
noncomputable def T_X11_placeOf_2 (n : Nat) (x0 : Int32) (x1 : Int32) (x2 : Int32) (σ : en_M) : en_R := LK_X11_placeOf n 2 [.inl x0, .inl x1, .inl x2] [] en_zz σ
set_option maxRecDepth 20000 in
set_option maxHeartbeats 2000000 in
theorem t_X11_placeOf_0 (x0 : Int32) (x1 : Int32) (σ : en_M) : T_X11_placeOf_0 x0 x1 σ = (T_X11_placeOf_2 en_FU x0 x1 (0 : Int32) σ) := rfl
set_option maxRecDepth 20000 in
set_option maxHeartbeats 2000000 in
theorem t_X11_placeOf_2 (n : Nat) (x0 : Int32) (x1 : Int32) (x2 : Int32) (σ : en_M) : T_X11_placeOf_2 (n + 1) x0 x1 x2 σ = (if x2 < (6 : Int32) then ((O_X11_bellAt [.inl x0, .inl x2] σ).bind fun r1 => if r1.1 = x1 then (en_ri x2 r1.2) else (T_X11_placeOf_2 n x0 x1 (x2 + (1 : Int32)) r1.2)) else (en_ri x2 σ)) := rfl
noncomputable def P_X11_placeOf : List en_V → en_M → Option (Int32 × en_M) := fun av σ => match av with
  | [.inl x0, .inl x1] => en_oi (T_X11_placeOf_0 x0 x1 σ)
  | _ => none
theorem ox_X11_placeOf : ∃ f, f = P_X11_placeOf := ⟨_, rfl⟩
noncomputable def O_X11_placeOf : List en_V → en_M → Option (Int32 × en_M) := Classical.choose ox_X11_placeOf
theorem oe_X11_placeOf : O_X11_placeOf = P_X11_placeOf := Classical.choose_spec ox_X11_placeOf
theorem o_X11_placeOf (x0 : Int32) (x1 : Int32) (σ : en_M) : O_X11_placeOf [.inl x0, .inl x1] σ = en_oi (T_X11_placeOf_0 x0 x1 σ) := by rw [oe_X11_placeOf]; rfl
theorem i_X11_placeOf (G : en_G) (hst : G.2.2.2.2.2 = true) : en_I G 2 yX11_placeOf cX11_placeOf 3 (some .int) 0 0 (en_wi (O_X11_placeOf)) := en_of_i (M := M_X11_placeOf) hst (s_X11_placeOf_0 G hst _ (l_X11_placeOf G hst en_FU)) (plainFor_of_name (by decide +kernel)) rfl rfl rfl (Or.inl ⟨rfl, rfl⟩) (fun av σ x σ' h => by
  rw [oe_X11_placeOf] at h; unfold P_X11_placeOf at h
  split at h
  · exact ⟨(Nat.le_of_ble_eq_true rfl), en_oi_some h⟩
  · cases h)
-- EachMayMissOne.put(I)I
def M_X11_put : en_Me := (cX11_put, RX11, 1, false, 2, false)
theorem cs_X11_put : en_cs yX11_put cX11_put 1 (some .int) 1 := ⟨wm_260, wm_2, ⟨(by decide +kernel), (by decide +kernel), (by decide +kernel)⟩, (Nat.le_of_ble_eq_true rfl)⟩
noncomputable def B_X11_put_0 (kc : Nat → en_B) : en_B := (op_const (0 : Int32) (op_const (99 : Int32) (op_iload 0 (op_calli O_J9_min_7cf53 2 (op_calli O_J9_max_7cf53 2 op_iret)))))
set_option maxRecDepth 20000 in
theorem s_X11_put_0 (G : en_G) (hst : G.2.2.2.2.2 = true) (kc : Nat → en_B) (hk : ∀ t, en_Snd G M_X11_put t (kc t)) : en_Snd G M_X11_put 0 (B_X11_put_0 kc) := (sn_iconst (n := 0) (v := 0) (by decide +kernel) rfl (sn_bipush (n := 99) (v := 99) (by decide +kernel) rfl (sn_iload_n (i := 0) (n := 0) (by decide +kernel) rfl (sn_callSi (n := 2) (idx := 343) (i_J9_min_7cf53 G hst) (Nat.le_of_ble_eq_true rfl) cs_J9_min_7cf53 ⟨wm_263, Or.inl wm_265⟩ (by decide +kernel) (sn_callSi (n := 2) (idx := 348) (i_J9_max_7cf53 G hst) (Nat.le_of_ble_eq_true rfl) cs_J9_max_7cf53 ⟨wm_267, Or.inl wm_268⟩ (by decide +kernel) (sn_iret (by decide +kernel) rfl))))))
noncomputable def LK_X11_put : Nat → Nat → en_B
  | 0, _ => en_no
  | n + 1, t => en_no
theorem l_X11_put (G : en_G) (hst : G.2.2.2.2.2 = true) : ∀ n t, en_Snd G M_X11_put t (LK_X11_put n t)
  | 0, _ => sn_no
  | n + 1, t => by
    show en_Snd G M_X11_put t (en_no)
    exact sn_no
noncomputable def T_X11_put_0 (x0 : Int32) (σ : en_M) : en_R := B_X11_put_0 (LK_X11_put en_FU) [.inl x0] [] en_zz σ
set_option maxRecDepth 20000 in
set_option maxHeartbeats 2000000 in
theorem t_X11_put_0 (x0 : Int32) (σ : en_M) : T_X11_put_0 x0 σ = ((O_J9_min_7cf53 [.inl (99 : Int32), .inl x0] σ).bind fun r1 => (O_J9_max_7cf53 [.inl (0 : Int32), .inl r1.1] r1.2).bind fun r2 => en_ri r2.1 r2.2) := rfl
noncomputable def P_X11_put : List en_V → en_M → Option (Int32 × en_M) := fun av σ => match av with
  | [.inl x0] => en_oi (T_X11_put_0 x0 σ)
  | _ => none
theorem ox_X11_put : ∃ f, f = P_X11_put := ⟨_, rfl⟩
noncomputable def O_X11_put : List en_V → en_M → Option (Int32 × en_M) := Classical.choose ox_X11_put
theorem oe_X11_put : O_X11_put = P_X11_put := Classical.choose_spec ox_X11_put
theorem o_X11_put (x0 : Int32) (σ : en_M) : O_X11_put [.inl x0] σ = en_oi (T_X11_put_0 x0 σ) := by rw [oe_X11_put]; rfl
theorem i_X11_put (G : en_G) (hst : G.2.2.2.2.2 = true) : en_I G 2 yX11_put cX11_put 1 (some .int) 0 0 (en_wi (O_X11_put)) := en_of_i (M := M_X11_put) hst (s_X11_put_0 G hst _ (l_X11_put G hst en_FU)) (plainFor_of_name (by decide +kernel)) rfl rfl rfl (Or.inl ⟨rfl, rfl⟩) (fun av σ x σ' h => by
  rw [oe_X11_put] at h; unfold P_X11_put at h
  split at h
  · exact ⟨(Nat.le_of_ble_eq_true rfl), en_oi_some h⟩
  · cases h)
-- EachMayMissOne$Tower.moreTired(LEachMayMissOne$State;II)I
def M_X10_moreTired : en_Me := (cX10_moreTired, RX10, 4, false, 3, false)
theorem cs_X10_moreTired : en_cs yX10_moreTired cX10_moreTired 4 (some .int) 3 := ⟨wm_1130, wm_16, ⟨(by decide +kernel), (by decide +kernel), (by decide +kernel)⟩, (Nat.le_of_ble_eq_true rfl)⟩
noncomputable def B_X10_moreTired_0 (kc : Nat → en_B) : en_B := (op_aload 0 (op_gets 10 5 (6, 0, 0) (op_gets 6 4 (20, 7, 0) (op_const (0 : Int32) (op_aload 0 (op_gets 10 1 (20, 7, 0) (op_iload 2 (op_ald 20 (op_ast 20 (fun (x : Int32) => x) (op_aload 0 (op_gets 10 5 (6, 0, 0) (op_gets 6 4 (20, 7, 0) (op_const (1 : Int32) (op_aload 1 (op_gets 7 1 (20, 7, 0) (op_iload 2 (op_ald 20 (op_ast 20 (fun (x : Int32) => x) (op_aload 0 (op_gets 10 5 (6, 0, 0) (op_gets 6 4 (20, 7, 0) (op_const (2 : Int32) (op_aload 1 (op_geti 7 4 (op_iload 2 (op_calli O_X11_placeOf 2 (op_ast 20 (fun (x : Int32) => x) (op_aload 0 (op_gets 10 5 (6, 0, 0) (op_gets 6 4 (20, 7, 0) (op_const (3 : Int32) (op_aload 1 (op_geti 7 5 (op_ast 20 (fun (x : Int32) => x) (op_aload 0 (op_gets 10 5 (6, 0, 0) (op_gets 6 4 (20, 7, 0) (op_const (4 : Int32) (op_iload 2 (op_ast 20 (fun (x : Int32) => x) (op_aload 0 (op_gets 10 5 (6, 0, 0) (op_gets 6 4 (20, 7, 0) (op_const (5 : Int32) (op_aload 1 (op_gets 7 2 (20, 7, 0) (op_iload 2 (op_ald 20 (op_ast 20 (fun (x : Int32) => x) (op_aload 0 (op_gets 10 5 (6, 0, 0) (op_gets 6 4 (20, 7, 0) (op_const (6 : Int32) (op_iload 3 (op_ast 20 (fun (x : Int32) => x) (op_aload 0 (op_gets 10 5 (6, 0, 0) (op_rcv 6 0 (op_calli O_X6_value 1 (op_calli O_X11_put 1 op_iret))))))))))))))))))))))))))))))))))))))))))))))))))))))))))))
set_option maxRecDepth 20000 in
theorem s_X10_moreTired_0 (G : en_G) (hst : G.2.2.2.2.2 = true) (kc : Nat → en_B) (hk : ∀ t, en_Snd G M_X10_moreTired t (kc t)) : en_Snd G M_X10_moreTired 0 (B_X10_moreTired_0 kc) := (sn_aload_n (i := 0) (n := 0) (by decide +kernel) rfl (sn_gets (ci := 10) (j := 2) (off := 5) hst en_c10 of_10_5 (Nat.le_of_ble_eq_true rfl) (by decide +kernel) wm_1103 (Nat.le_of_ble_eq_true rfl) rfl (sn_gets (ci := 6) (j := 3) (off := 4) hst en_c6 of_6_4 (Nat.le_of_ble_eq_true rfl) (by decide +kernel) wm_1133 (Nat.le_of_ble_eq_true rfl) rfl (sn_iconst (n := 0) (v := 0) (by decide +kernel) rfl (sn_aload_n (i := 0) (n := 0) (by decide +kernel) rfl (sn_gets (ci := 10) (j := 0) (off := 1) hst en_c10 of_10_1 (Nat.le_of_ble_eq_true rfl) (by decide +kernel) wm_1095 (Nat.le_of_ble_eq_true rfl) rfl (sn_iload_n (i := 2) (n := 2) (by decide +kernel) rfl (sn_iald (by decide +kernel) (sn_iast (by decide +kernel) (sn_aload_n (i := 0) (n := 0) (by decide +kernel) rfl (sn_gets (ci := 10) (j := 2) (off := 5) hst en_c10 of_10_5 (Nat.le_of_ble_eq_true rfl) (by decide +kernel) wm_1103 (Nat.le_of_ble_eq_true rfl) rfl (sn_gets (ci := 6) (j := 3) (off := 4) hst en_c6 of_6_4 (Nat.le_of_ble_eq_true rfl) (by decide +kernel) wm_1133 (Nat.le_of_ble_eq_true rfl) rfl (sn_iconst (n := 1) (v := 1) (by decide +kernel) rfl (sn_aload_n (i := 1) (n := 1) (by decide +kernel) rfl (sn_gets (ci := 7) (j := 0) (off := 1) hst en_c7 of_7_1 (Nat.le_of_ble_eq_true rfl) (by decide +kernel) wm_1134 (Nat.le_of_ble_eq_true rfl) rfl (sn_iload_n (i := 2) (n := 2) (by decide +kernel) rfl (sn_iald (by decide +kernel) (sn_iast (by decide +kernel) (sn_aload_n (i := 0) (n := 0) (by decide +kernel) rfl (sn_gets (ci := 10) (j := 2) (off := 5) hst en_c10 of_10_5 (Nat.le_of_ble_eq_true rfl) (by decide +kernel) wm_1103 (Nat.le_of_ble_eq_true rfl) rfl (sn_gets (ci := 6) (j := 3) (off := 4) hst en_c6 of_6_4 (Nat.le_of_ble_eq_true rfl) (by decide +kernel) wm_1133 (Nat.le_of_ble_eq_true rfl) rfl (sn_iconst (n := 2) (v := 2) (by decide +kernel) rfl (sn_aload_n (i := 1) (n := 1) (by decide +kernel) rfl (sn_geti (ci := 7) (j := 4) en_c7 (by decide +kernel) wm_1135 (Nat.le_of_ble_eq_true rfl) rfl (sn_iload_n (i := 2) (n := 2) (by decide +kernel) rfl (sn_callSi (n := 2) (idx := 81) (i_X11_placeOf G hst) (Nat.le_of_ble_eq_true rfl) cs_X11_placeOf ⟨wm_280, Or.inr (by decide +kernel)⟩ (by decide +kernel) (sn_iast (by decide +kernel) (sn_aload_n (i := 0) (n := 0) (by decide +kernel) rfl (sn_gets (ci := 10) (j := 2) (off := 5) hst en_c10 of_10_5 (Nat.le_of_ble_eq_true rfl) (by decide +kernel) wm_1103 (Nat.le_of_ble_eq_true rfl) rfl (sn_gets (ci := 6) (j := 3) (off := 4) hst en_c6 of_6_4 (Nat.le_of_ble_eq_true rfl) (by decide +kernel) wm_1133 (Nat.le_of_ble_eq_true rfl) rfl (sn_iconst (n := 3) (v := 3) (by decide +kernel) rfl (sn_aload_n (i := 1) (n := 1) (by decide +kernel) rfl (sn_geti (ci := 7) (j := 5) en_c7 (by decide +kernel) wm_1137 (Nat.le_of_ble_eq_true rfl) rfl (sn_iast (by decide +kernel) (sn_aload_n (i := 0) (n := 0) (by decide +kernel) rfl (sn_gets (ci := 10) (j := 2) (off := 5) hst en_c10 of_10_5 (Nat.le_of_ble_eq_true rfl) (by decide +kernel) wm_1103 (Nat.le_of_ble_eq_true rfl) rfl (sn_gets (ci := 6) (j := 3) (off := 4) hst en_c6 of_6_4 (Nat.le_of_ble_eq_true rfl) (by decide +kernel) wm_1133 (Nat.le_of_ble_eq_true rfl) rfl (sn_iconst (n := 4) (v := 4) (by decide +kernel) rfl (sn_iload_n (i := 2) (n := 2) (by decide +kernel) rfl (sn_iast (by decide +kernel) (sn_aload_n (i := 0) (n := 0) (by decide +kernel) rfl (sn_gets (ci := 10) (j := 2) (off := 5) hst en_c10 of_10_5 (Nat.le_of_ble_eq_true rfl) (by decide +kernel) wm_1103 (Nat.le_of_ble_eq_true rfl) rfl (sn_gets (ci := 6) (j := 3) (off := 4) hst en_c6 of_6_4 (Nat.le_of_ble_eq_true rfl) (by decide +kernel) wm_1133 (Nat.le_of_ble_eq_true rfl) rfl (sn_iconst (n := 5) (v := 5) (by decide +kernel) rfl (sn_aload_n (i := 1) (n := 1) (by decide +kernel) rfl (sn_gets (ci := 7) (j := 1) (off := 2) hst en_c7 of_7_2 (Nat.le_of_ble_eq_true rfl) (by decide +kernel) wm_1138 (Nat.le_of_ble_eq_true rfl) rfl (sn_iload_n (i := 2) (n := 2) (by decide +kernel) rfl (sn_iald (by decide +kernel) (sn_iast (by decide +kernel) (sn_aload_n (i := 0) (n := 0) (by decide +kernel) rfl (sn_gets (ci := 10) (j := 2) (off := 5) hst en_c10 of_10_5 (Nat.le_of_ble_eq_true rfl) (by decide +kernel) wm_1103 (Nat.le_of_ble_eq_true rfl) rfl (sn_gets (ci := 6) (j := 3) (off := 4) hst en_c6 of_6_4 (Nat.le_of_ble_eq_true rfl) (by decide +kernel) wm_1133 (Nat.le_of_ble_eq_true rfl) rfl (sn_bipush (n := 6) (v := 6) (by decide +kernel) rfl (sn_iload_n (i := 3) (n := 3) (by decide +kernel) rfl (sn_iast (by decide +kernel) (sn_aload_n (i := 0) (n := 0) (by decide +kernel) rfl (sn_gets (ci := 10) (j := 2) (off := 5) hst en_c10 of_10_5 (Nat.le_of_ble_eq_true rfl) (by decide +kernel) wm_1103 (Nat.le_of_ble_eq_true rfl) rfl (sn_callVi (n := 0) (idx := 90) (ci := 6) (i_X6_value G hst) (Nat.le_of_ble_eq_true rfl) cs_X6_value ⟨wm_1018, wm_1019, wm_1139⟩ ⟨⟨_, rfl, rfl⟩, (Nat.le_of_ble_eq_true rfl)⟩ (by decide +kernel) (sn_callSi (n := 1) (idx := 94) (i_X11_put G hst) (Nat.le_of_ble_eq_true rfl) cs_X11_put ⟨wm_261, Or.inr (by decide +kernel)⟩ (by decide +kernel) (sn_iret (by decide +kernel) rfl))))))))))))))))))))))))))))))))))))))))))))))))))))))))))))
noncomputable def LK_X10_moreTired : Nat → Nat → en_B
  | 0, _ => en_no
  | n + 1, t => en_no
theorem l_X10_moreTired (G : en_G) (hst : G.2.2.2.2.2 = true) : ∀ n t, en_Snd G M_X10_moreTired t (LK_X10_moreTired n t)
  | 0, _ => sn_no
  | n + 1, t => by
    show en_Snd G M_X10_moreTired t (en_no)
    exact sn_no
noncomputable def T_X10_moreTired_0 (k1 : Nat) (x2 : Int32) (x3 : Int32) (σ : en_M) : en_R := B_X10_moreTired_0 (LK_X10_moreTired en_FU) [.inr (5, 10, 0, 0), .inr (k1, 7, 0, 0), .inl x2, .inl x3] [] en_zz σ
set_option maxRecDepth 20000 in
set_option maxHeartbeats 2000000 in
theorem t_X10_moreTired_0 (k1 : Nat) (x2 : Int32) (x3 : Int32) (σ : en_M) : T_X10_moreTired_0 k1 x2 x3 σ = ((en_ix x2 7).bind fun j1 => (en_ix (0 : Int32) 7).bind fun j2 => (en_ix x2 7).bind fun j3 => (en_ix (1 : Int32) 7).bind fun j4 => (O_X11_placeOf [.inl ((en_up (en_up σ 14 j2 (σ 6 j1)) 14 j4 ((en_up σ 14 j2 (σ 6 j1)) (k1 + 1) j3)) k1 4), .inl x2] (en_up (en_up σ 14 j2 (σ 6 j1)) 14 j4 ((en_up σ 14 j2 (σ 6 j1)) (k1 + 1) j3))).bind fun r5 => (en_ix (2 : Int32) 7).bind fun j6 => (en_ix (3 : Int32) 7).bind fun j7 => (en_ix (4 : Int32) 7).bind fun j8 => (en_ix x2 7).bind fun j9 => (en_ix (5 : Int32) 7).bind fun j10 => (en_ix (6 : Int32) 7).bind fun j11 => (O_X6_value [.inr (10, 6, 0, 0)] (en_up (en_up (en_up (en_up (en_up r5.2 14 j6 r5.1) 14 j7 ((en_up r5.2 14 j6 r5.1) k1 5)) 14 j8 x2) 14 j10 ((en_up (en_up (en_up r5.2 14 j6 r5.1) 14 j7 ((en_up r5.2 14 j6 r5.1) k1 5)) 14 j8 x2) (k1 + 2) j9)) 14 j11 x3)).bind fun r12 => (O_X11_put [.inl r12.1] r12.2).bind fun r13 => en_ri r13.1 r13.2) := rfl
noncomputable def P_X10_moreTired : List en_V → en_M → Option (Int32 × en_M) := fun av σ => match av with
  | [.inr (5, 10, 0, 0), .inr (k1, 7, 0, 0), .inl x2, .inl x3] => en_oi (T_X10_moreTired_0 k1 x2 x3 σ)
  | _ => none
theorem ox_X10_moreTired : ∃ f, f = P_X10_moreTired := ⟨_, rfl⟩
noncomputable def O_X10_moreTired : List en_V → en_M → Option (Int32 × en_M) := Classical.choose ox_X10_moreTired
theorem oe_X10_moreTired : O_X10_moreTired = P_X10_moreTired := Classical.choose_spec ox_X10_moreTired
theorem o_X10_moreTired (k1 : Nat) (x2 : Int32) (x3 : Int32) (σ : en_M) : O_X10_moreTired [.inr (5, 10, 0, 0), .inr (k1, 7, 0, 0), .inl x2, .inl x3] σ = en_oi (T_X10_moreTired_0 k1 x2 x3 σ) := by rw [oe_X10_moreTired]; rfl
theorem i_X10_moreTired (G : en_G) (hst : G.2.2.2.2.2 = true) : en_I G 3 yX10_moreTired cX10_moreTired 4 (some .int) 0 0 (en_wi (O_X10_moreTired)) := en_of_i (M := M_X10_moreTired) hst (s_X10_moreTired_0 G hst _ (l_X10_moreTired G hst en_FU)) (plainFor_of_name (by decide +kernel)) rfl rfl rfl (Or.inl ⟨rfl, rfl⟩) (fun av σ x σ' h => by
  rw [oe_X10_moreTired] at h; unfold P_X10_moreTired at h
  split at h
  · exact ⟨(Nat.le_of_ble_eq_true rfl), en_oi_some h⟩
  · cases h)
