-- EachMayMissOne.firstDrift(Z)I
def M_X11_firstDrift : en_Me := (cX11_firstDrift, RX11, 3, false, 5, false)
theorem cs_X11_firstDrift : en_cs yX11_firstDrift cX11_firstDrift 3 (some .int) 1 := ⟨wm_325, wm_2, ⟨(by decide +kernel), (by decide +kernel), (by decide +kernel)⟩, (Nat.le_of_ble_eq_true rfl)⟩
noncomputable def B_X11_firstDrift_103 (kc : Nat → en_B) : en_B := (op_const (-2 : Int32) op_iret)
set_option maxRecDepth 20000 in
theorem s_X11_firstDrift_103 (G : en_G) (hst : G.2.2.2.2.2 = true) (kc : Nat → en_B) (hk : ∀ t, en_Snd G M_X11_firstDrift t (kc t)) : en_Snd G M_X11_firstDrift 103 (B_X11_firstDrift_103 kc) := (sn_bipush (n := -2) (v := -2) (by decide +kernel) rfl (sn_iret (by decide +kernel) rfl))
noncomputable def B_X11_firstDrift_97 (kc : Nat → en_B) : en_B := (op_iinc 2 (1 : Int32) (kc 26))
set_option maxRecDepth 20000 in
theorem s_X11_firstDrift_97 (G : en_G) (hst : G.2.2.2.2.2 = true) (kc : Nat → en_B) (hk : ∀ t, en_Snd G M_X11_firstDrift t (kc t)) : en_Snd G M_X11_firstDrift 97 (B_X11_firstDrift_97 kc) := (sn_iinc (i := 2) (n := 1) (v := 1) (by decide +kernel) rfl (sn_goto (off := -74) (tgt := 26) (by decide +kernel) rfl (hk 26)))
noncomputable def B_X11_firstDrift_60 (kc : Nat → en_B) : en_B := (op_rcv 10 2 (op_calli O_X10_ring 3 (op_pop (op_aload 0 (op_gets 11 20 (7, 0, 0) (op_geti 7 9 (op_ifeq (B_X11_firstDrift_97 kc) (op_aload 0 (op_gets 11 3 (9, 0, 0) (op_rcv 9 0 (op_callv O_X9_begin 1 (op_aload 0 (op_gets 11 3 (9, 0, 0) (op_aload 0 (op_gets 11 20 (7, 0, 0) (op_geti 7 9 (op_rcv 9 1 (op_callv O_X9_add 2 (op_iload 2 op_iret)))))))))))))))))))
set_option maxRecDepth 20000 in
theorem s_X11_firstDrift_60 (G : en_G) (hst : G.2.2.2.2.2 = true) (kc : Nat → en_B) (hk : ∀ t, en_Snd G M_X11_firstDrift t (kc t)) : en_Snd G M_X11_firstDrift 60 (B_X11_firstDrift_60 kc) := (sn_callVi (n := 2) (idx := 201) (ci := 10) (i_X10_ring G hst) (Nat.le_of_ble_eq_true rfl) cs_X10_ring ⟨wm_1142, wm_1143, wm_114⟩ ⟨⟨_, rfl, rfl⟩, (Nat.le_of_ble_eq_true rfl)⟩ (by decide +kernel) (sn_pop (by decide +kernel) (sn_aload_n (i := 0) (n := 0) (by decide +kernel) rfl (sn_gets (ci := 11) (j := 4) (off := 20) hst en_c11 of_11_20 (Nat.le_of_ble_eq_true rfl) (by decide +kernel) wm_24 (Nat.le_of_ble_eq_true rfl) rfl (sn_geti (ci := 7) (j := 9) en_c7 (by decide +kernel) wm_118 (Nat.le_of_ble_eq_true rfl) rfl (sn_ifeq (off := 26) (tgt := 97) (by decide +kernel) rfl (s_X11_firstDrift_97 G hst kc hk) (sn_aload_n (i := 0) (n := 0) (by decide +kernel) rfl (sn_gets (ci := 11) (j := 1) (off := 3) hst en_c11 of_11_3 (Nat.le_of_ble_eq_true rfl) (by decide +kernel) wm_13 (Nat.le_of_ble_eq_true rfl) rfl (sn_callVv (n := 0) (idx := 205) (ci := 9) (i_X9_begin G hst) (Nat.le_of_ble_eq_true rfl) cs_X9_begin ⟨wm_1086, wm_1087, wm_115⟩ ⟨⟨_, rfl, rfl⟩, (Nat.le_of_ble_eq_true rfl)⟩ (by decide +kernel) (sn_aload_n (i := 0) (n := 0) (by decide +kernel) rfl (sn_gets (ci := 11) (j := 1) (off := 3) hst en_c11 of_11_3 (Nat.le_of_ble_eq_true rfl) (by decide +kernel) wm_13 (Nat.le_of_ble_eq_true rfl) rfl (sn_aload_n (i := 0) (n := 0) (by decide +kernel) rfl (sn_gets (ci := 11) (j := 4) (off := 20) hst en_c11 of_11_20 (Nat.le_of_ble_eq_true rfl) (by decide +kernel) wm_24 (Nat.le_of_ble_eq_true rfl) rfl (sn_geti (ci := 7) (j := 9) en_c7 (by decide +kernel) wm_118 (Nat.le_of_ble_eq_true rfl) rfl (sn_callVv (n := 1) (idx := 209) (ci := 9) (i_X9_add G hst) (Nat.le_of_ble_eq_true rfl) cs_X9_add ⟨wm_1090, wm_1091, wm_117⟩ ⟨⟨_, rfl, rfl⟩, (Nat.le_of_ble_eq_true rfl)⟩ (by decide +kernel) (sn_iload_n (i := 2) (n := 2) (by decide +kernel) rfl (sn_iret (by decide +kernel) rfl)))))))))))))))))
noncomputable def B_X11_firstDrift_59 (kc : Nat → en_B) : en_B := (op_const (0 : Int32) (B_X11_firstDrift_60 kc))
set_option maxRecDepth 20000 in
theorem s_X11_firstDrift_59 (G : en_G) (hst : G.2.2.2.2.2 = true) (kc : Nat → en_B) (hk : ∀ t, en_Snd G M_X11_firstDrift t (kc t)) : en_Snd G M_X11_firstDrift 59 (B_X11_firstDrift_59 kc) := (sn_iconst (n := 0) (v := 0) (by decide +kernel) rfl (s_X11_firstDrift_60 G hst kc hk))
noncomputable def B_X11_firstDrift_26 (kc : Nat → en_B) : en_B := (op_iload 2 (op_const (200 : Int32) (op_icgt (B_X11_firstDrift_103 kc) (op_aload 0 (op_gets 11 5 (10, 0, 0) (op_aload 0 (op_gets 11 20 (7, 0, 0) (op_iload 1 (op_ifeq (B_X11_firstDrift_59 kc) (op_aload 0 (op_gets 11 5 (10, 0, 0) (op_aload 0 (op_gets 11 20 (7, 0, 0) (op_rcv 10 1 (op_calli O_X10_mostTiredThatMay 2 (B_X11_firstDrift_60 kc))))))))))))))))
set_option maxRecDepth 20000 in
theorem s_X11_firstDrift_26 (G : en_G) (hst : G.2.2.2.2.2 = true) (kc : Nat → en_B) (hk : ∀ t, en_Snd G M_X11_firstDrift t (kc t)) : en_Snd G M_X11_firstDrift 26 (B_X11_firstDrift_26 kc) := (sn_iload_n (i := 2) (n := 2) (by decide +kernel) rfl (sn_sipush (n := 200) (v := 200) (by decide +kernel) rfl (sn_icgt (off := 73) (tgt := 103) (by decide +kernel) rfl (s_X11_firstDrift_103 G hst kc hk) (sn_aload_n (i := 0) (n := 0) (by decide +kernel) rfl (sn_gets (ci := 11) (j := 2) (off := 5) hst en_c11 of_11_5 (Nat.le_of_ble_eq_true rfl) (by decide +kernel) wm_18 (Nat.le_of_ble_eq_true rfl) rfl (sn_aload_n (i := 0) (n := 0) (by decide +kernel) rfl (sn_gets (ci := 11) (j := 4) (off := 20) hst en_c11 of_11_20 (Nat.le_of_ble_eq_true rfl) (by decide +kernel) wm_24 (Nat.le_of_ble_eq_true rfl) rfl (sn_iload_n (i := 1) (n := 1) (by decide +kernel) rfl (sn_ifeq (off := 17) (tgt := 59) (by decide +kernel) rfl (s_X11_firstDrift_59 G hst kc hk) (sn_aload_n (i := 0) (n := 0) (by decide +kernel) rfl (sn_gets (ci := 11) (j := 2) (off := 5) hst en_c11 of_11_5 (Nat.le_of_ble_eq_true rfl) (by decide +kernel) wm_18 (Nat.le_of_ble_eq_true rfl) rfl (sn_aload_n (i := 0) (n := 0) (by decide +kernel) rfl (sn_gets (ci := 11) (j := 4) (off := 20) hst en_c11 of_11_20 (Nat.le_of_ble_eq_true rfl) (by decide +kernel) wm_24 (Nat.le_of_ble_eq_true rfl) rfl (sn_callVi (n := 1) (idx := 380) (ci := 10) (i_X10_mostTiredThatMay G hst) (Nat.le_of_ble_eq_true rfl) cs_X10_mostTiredThatMay ⟨wm_1156, wm_1157, wm_328⟩ ⟨⟨_, rfl, rfl⟩, (Nat.le_of_ble_eq_true rfl)⟩ (by decide +kernel) (sn_goto (off := 4) (tgt := 60) (by decide +kernel) rfl (s_X11_firstDrift_60 G hst kc hk))))))))))))))))
noncomputable def B_X11_firstDrift_13 (kc : Nat → en_B) : en_B := (op_aload 0 (op_gets 11 20 (7, 0, 0) (op_aload 0 (op_gets 11 15 (7, 0, 0) (op_rcv 7 1 (op_callv O_X7_copy 2 (op_const (1 : Int32) (op_istore 2 (kc 26)))))))))
set_option maxRecDepth 20000 in
theorem s_X11_firstDrift_13 (G : en_G) (hst : G.2.2.2.2.2 = true) (kc : Nat → en_B) (hk : ∀ t, en_Snd G M_X11_firstDrift t (kc t)) : en_Snd G M_X11_firstDrift 13 (B_X11_firstDrift_13 kc) := (sn_aload_n (i := 0) (n := 0) (by decide +kernel) rfl (sn_gets (ci := 11) (j := 4) (off := 20) hst en_c11 of_11_20 (Nat.le_of_ble_eq_true rfl) (by decide +kernel) wm_24 (Nat.le_of_ble_eq_true rfl) rfl (sn_aload_n (i := 0) (n := 0) (by decide +kernel) rfl (sn_gets (ci := 11) (j := 3) (off := 15) hst en_c11 of_11_15 (Nat.le_of_ble_eq_true rfl) (by decide +kernel) wm_23 (Nat.le_of_ble_eq_true rfl) rfl (sn_callVv (n := 1) (idx := 318) (ci := 7) (i_X7_copy G hst) (Nat.le_of_ble_eq_true rfl) cs_X7_copy ⟨wm_1042, wm_1043, wm_232⟩ ⟨⟨_, rfl, rfl⟩, (Nat.le_of_ble_eq_true rfl)⟩ (by decide +kernel) (sn_iconst (n := 1) (v := 1) (by decide +kernel) rfl (sn_istore_n (i := 2) (n := 2) (by decide +kernel) rfl (Nat.le_of_ble_eq_true rfl) (hk 26))))))))
noncomputable def B_X11_firstDrift_0 (kc : Nat → en_B) : en_B := (op_aload 0 (op_gets 11 5 (10, 0, 0) (op_geti 10 3 (op_ifeq (op_const (-2 : Int32) op_iret) (B_X11_firstDrift_13 kc)))))
set_option maxRecDepth 20000 in
theorem s_X11_firstDrift_0 (G : en_G) (hst : G.2.2.2.2.2 = true) (kc : Nat → en_B) (hk : ∀ t, en_Snd G M_X11_firstDrift t (kc t)) : en_Snd G M_X11_firstDrift 0 (B_X11_firstDrift_0 kc) := (sn_aload_n (i := 0) (n := 0) (by decide +kernel) rfl (sn_gets (ci := 11) (j := 2) (off := 5) hst en_c11 of_11_5 (Nat.le_of_ble_eq_true rfl) (by decide +kernel) wm_18 (Nat.le_of_ble_eq_true rfl) rfl (sn_geti (ci := 10) (j := 3) en_c10 (by decide +kernel) wm_74 (Nat.le_of_ble_eq_true rfl) rfl (sn_ifne (off := 6) (tgt := 13) (by decide +kernel) rfl (s_X11_firstDrift_13 G hst kc hk) (sn_bipush (n := -2) (v := -2) (by decide +kernel) rfl (sn_iret (by decide +kernel) rfl))))))
noncomputable def LK_X11_firstDrift : Nat → Nat → en_B
  | 0, _ => en_no
  | n + 1, t => if t = 26 then B_X11_firstDrift_26 (LK_X11_firstDrift n) else en_no
theorem l_X11_firstDrift (G : en_G) (hst : G.2.2.2.2.2 = true) : ∀ n t, en_Snd G M_X11_firstDrift t (LK_X11_firstDrift n t)
  | 0, _ => sn_no
  | n + 1, t => by
    show en_Snd G M_X11_firstDrift t (if t = 26 then B_X11_firstDrift_26 (LK_X11_firstDrift n) else en_no)
    by_cases h_26 : t = 26
    · rw [if_pos h_26, h_26]; exact s_X11_firstDrift_26 G hst _ (l_X11_firstDrift G hst n)
    rw [if_neg h_26]
    exact sn_no
noncomputable def T_X11_firstDrift_0 (x1 : Int32) (σ : en_M) : en_R := B_X11_firstDrift_0 (LK_X11_firstDrift en_FU) [.inr (0, 11, 0, 0), .inl x1, en_un] [] en_zz σ
noncomputable def T_X11_firstDrift_26 (n : Nat) (x1 : Int32) (x2 : Int32) (σ : en_M) : en_R := LK_X11_firstDrift n 26 [.inr (0, 11, 0, 0), .inl x1, .inl x2] [] en_zz σ
set_option maxRecDepth 20000 in
set_option maxHeartbeats 2000000 in
theorem t_X11_firstDrift_0 (x1 : Int32) (σ : en_M) : T_X11_firstDrift_0 x1 σ = (if (σ 5 3) = 0 then (en_ri (-2 : Int32) σ) else ((O_X7_copy [.inr (20, 7, 0, 0), .inr (15, 7, 0, 0)] σ).bind fun r1 => T_X11_firstDrift_26 en_FU x1 (1 : Int32) r1)) := rfl
set_option maxRecDepth 20000 in
set_option maxHeartbeats 2000000 in
theorem t_X11_firstDrift_26 (n : Nat) (x1 : Int32) (x2 : Int32) (σ : en_M) : T_X11_firstDrift_26 (n + 1) x1 x2 σ = (if (200 : Int32) < x2 then (en_ri (-2 : Int32) σ) else (if x1 = 0 then ((O_X10_ring [.inr (5, 10, 0, 0), .inr (20, 7, 0, 0), .inl (0 : Int32)] σ).bind fun r2 => if (r2.2 20 9) = 0 then (T_X11_firstDrift_26 n x1 (x2 + (1 : Int32)) r2.2) else ((O_X9_begin [.inr (3, 9, 0, 0)] r2.2).bind fun r3 => (O_X9_add [.inr (3, 9, 0, 0), .inl (r3 20 9)] r3).bind fun r4 => en_ri x2 r4)) else ((O_X10_mostTiredThatMay [.inr (5, 10, 0, 0), .inr (20, 7, 0, 0)] σ).bind fun r5 => (O_X10_ring [.inr (5, 10, 0, 0), .inr (20, 7, 0, 0), .inl r5.1] r5.2).bind fun r6 => if (r6.2 20 9) = 0 then (T_X11_firstDrift_26 n x1 (x2 + (1 : Int32)) r6.2) else ((O_X9_begin [.inr (3, 9, 0, 0)] r6.2).bind fun r7 => (O_X9_add [.inr (3, 9, 0, 0), .inl (r7 20 9)] r7).bind fun r8 => en_ri x2 r8)))) := rfl
noncomputable def P_X11_firstDrift : List en_V → en_M → Option (Int32 × en_M) := fun av σ => match av with
  | [.inr (0, 11, 0, 0), .inl x1] => en_oi (T_X11_firstDrift_0 x1 σ)
  | _ => none
theorem ox_X11_firstDrift : ∃ f, f = P_X11_firstDrift := ⟨_, rfl⟩
noncomputable def O_X11_firstDrift : List en_V → en_M → Option (Int32 × en_M) := Classical.choose ox_X11_firstDrift
theorem oe_X11_firstDrift : O_X11_firstDrift = P_X11_firstDrift := Classical.choose_spec ox_X11_firstDrift
theorem o_X11_firstDrift (x1 : Int32) (σ : en_M) : O_X11_firstDrift [.inr (0, 11, 0, 0), .inl x1] σ = en_oi (T_X11_firstDrift_0 x1 σ) := by rw [oe_X11_firstDrift]; rfl
theorem i_X11_firstDrift (G : en_G) (hst : G.2.2.2.2.2 = true) : en_I G 5 yX11_firstDrift cX11_firstDrift 3 (some .int) 0 0 (en_wi (O_X11_firstDrift)) := en_of_i (M := M_X11_firstDrift) hst (s_X11_firstDrift_0 G hst _ (l_X11_firstDrift G hst en_FU)) (plainFor_of_name (by decide +kernel)) rfl rfl rfl (Or.inl ⟨rfl, rfl⟩) (fun av σ x σ' h => by
  rw [oe_X11_firstDrift] at h; unfold P_X11_firstDrift at h
  split at h
  · exact ⟨(Nat.le_of_ble_eq_true rfl), en_oi_some h⟩
  · cases h)
-- EachMayMissOne.fails()I
def M_X11_fails : en_Me := (cX11_fails, RX11, 1, false, 6, false)
theorem cs_X11_fails : en_cs yX11_fails cX11_fails 1 (some .int) 0 := ⟨wm_218, wm_2, ⟨(by decide +kernel), (by decide +kernel), (by decide +kernel)⟩, (Nat.le_of_ble_eq_true rfl)⟩
noncomputable def B_X11_fails_0 (kc : Nat → en_B) : en_B := (op_aload 0 (op_const (0 : Int32) (op_rcv 11 1 (op_calli O_X11_firstDrift 2 op_iret))))
set_option maxRecDepth 20000 in
theorem s_X11_fails_0 (G : en_G) (hst : G.2.2.2.2.2 = true) (kc : Nat → en_B) (hk : ∀ t, en_Snd G M_X11_fails t (kc t)) : en_Snd G M_X11_fails 0 (B_X11_fails_0 kc) := (sn_aload_n (i := 0) (n := 0) (by decide +kernel) rfl (sn_iconst (n := 0) (v := 0) (by decide +kernel) rfl (sn_callVi (n := 1) (idx := 311) (ci := 11) (i_X11_firstDrift G hst) (Nat.le_of_ble_eq_true rfl) cs_X11_firstDrift ⟨wm_326, wm_327, wm_221⟩ ⟨⟨_, rfl, rfl⟩, (Nat.le_of_ble_eq_true rfl)⟩ (by decide +kernel) (sn_iret (by decide +kernel) rfl))))
noncomputable def LK_X11_fails : Nat → Nat → en_B
  | 0, _ => en_no
  | n + 1, t => en_no
theorem l_X11_fails (G : en_G) (hst : G.2.2.2.2.2 = true) : ∀ n t, en_Snd G M_X11_fails t (LK_X11_fails n t)
  | 0, _ => sn_no
  | n + 1, t => by
    show en_Snd G M_X11_fails t (en_no)
    exact sn_no
noncomputable def T_X11_fails_0 (σ : en_M) : en_R := B_X11_fails_0 (LK_X11_fails en_FU) [.inr (0, 11, 0, 0)] [] en_zz σ
set_option maxRecDepth 20000 in
set_option maxHeartbeats 2000000 in
theorem t_X11_fails_0 (σ : en_M) : T_X11_fails_0 σ = ((O_X11_firstDrift [.inr (0, 11, 0, 0), .inl (0 : Int32)] σ).bind fun r1 => en_ri r1.1 r1.2) := rfl
noncomputable def P_X11_fails : List en_V → en_M → Option (Int32 × en_M) := fun av σ => match av with
  | [.inr (0, 11, 0, 0)] => en_oi (T_X11_fails_0 σ)
  | _ => none
theorem ox_X11_fails : ∃ f, f = P_X11_fails := ⟨_, rfl⟩
noncomputable def O_X11_fails : List en_V → en_M → Option (Int32 × en_M) := Classical.choose ox_X11_fails
theorem oe_X11_fails : O_X11_fails = P_X11_fails := Classical.choose_spec ox_X11_fails
theorem o_X11_fails (σ : en_M) : O_X11_fails [.inr (0, 11, 0, 0)] σ = en_oi (T_X11_fails_0 σ) := by rw [oe_X11_fails]; rfl
theorem i_X11_fails (G : en_G) (hst : G.2.2.2.2.2 = true) : en_I G 6 yX11_fails cX11_fails 1 (some .int) 0 0 (en_wi (O_X11_fails)) := en_of_i (M := M_X11_fails) hst (s_X11_fails_0 G hst _ (l_X11_fails G hst en_FU)) (plainFor_of_name (by decide +kernel)) rfl rfl rfl (Or.inl ⟨rfl, rfl⟩) (fun av σ x σ' h => by
  rw [oe_X11_fails] at h; unfold P_X11_fails at h
  split at h
  · exact ⟨(Nat.le_of_ble_eq_true rfl), en_oi_some h⟩
  · cases h)
-- EachMayMissOne.lasts()I
def M_X11_lasts : en_Me := (cX11_lasts, RX11, 1, false, 6, false)
theorem cs_X11_lasts : en_cs yX11_lasts cX11_lasts 1 (some .int) 0 := ⟨wm_222, wm_2, ⟨(by decide +kernel), (by decide +kernel), (by decide +kernel)⟩, (Nat.le_of_ble_eq_true rfl)⟩
noncomputable def B_X11_lasts_0 (kc : Nat → en_B) : en_B := (op_aload 0 (op_const (1 : Int32) (op_rcv 11 1 (op_calli O_X11_firstDrift 2 op_iret))))
set_option maxRecDepth 20000 in
theorem s_X11_lasts_0 (G : en_G) (hst : G.2.2.2.2.2 = true) (kc : Nat → en_B) (hk : ∀ t, en_Snd G M_X11_lasts t (kc t)) : en_Snd G M_X11_lasts 0 (B_X11_lasts_0 kc) := (sn_aload_n (i := 0) (n := 0) (by decide +kernel) rfl (sn_iconst (n := 1) (v := 1) (by decide +kernel) rfl (sn_callVi (n := 1) (idx := 311) (ci := 11) (i_X11_firstDrift G hst) (Nat.le_of_ble_eq_true rfl) cs_X11_firstDrift ⟨wm_326, wm_327, wm_221⟩ ⟨⟨_, rfl, rfl⟩, (Nat.le_of_ble_eq_true rfl)⟩ (by decide +kernel) (sn_iret (by decide +kernel) rfl))))
noncomputable def LK_X11_lasts : Nat → Nat → en_B
  | 0, _ => en_no
  | n + 1, t => en_no
theorem l_X11_lasts (G : en_G) (hst : G.2.2.2.2.2 = true) : ∀ n t, en_Snd G M_X11_lasts t (LK_X11_lasts n t)
  | 0, _ => sn_no
  | n + 1, t => by
    show en_Snd G M_X11_lasts t (en_no)
    exact sn_no
noncomputable def T_X11_lasts_0 (σ : en_M) : en_R := B_X11_lasts_0 (LK_X11_lasts en_FU) [.inr (0, 11, 0, 0)] [] en_zz σ
set_option maxRecDepth 20000 in
set_option maxHeartbeats 2000000 in
theorem t_X11_lasts_0 (σ : en_M) : T_X11_lasts_0 σ = ((O_X11_firstDrift [.inr (0, 11, 0, 0), .inl (1 : Int32)] σ).bind fun r1 => en_ri r1.1 r1.2) := rfl
noncomputable def P_X11_lasts : List en_V → en_M → Option (Int32 × en_M) := fun av σ => match av with
  | [.inr (0, 11, 0, 0)] => en_oi (T_X11_lasts_0 σ)
  | _ => none
theorem ox_X11_lasts : ∃ f, f = P_X11_lasts := ⟨_, rfl⟩
noncomputable def O_X11_lasts : List en_V → en_M → Option (Int32 × en_M) := Classical.choose ox_X11_lasts
theorem oe_X11_lasts : O_X11_lasts = P_X11_lasts := Classical.choose_spec ox_X11_lasts
theorem o_X11_lasts (σ : en_M) : O_X11_lasts [.inr (0, 11, 0, 0)] σ = en_oi (T_X11_lasts_0 σ) := by rw [oe_X11_lasts]; rfl
theorem i_X11_lasts (G : en_G) (hst : G.2.2.2.2.2 = true) : en_I G 6 yX11_lasts cX11_lasts 1 (some .int) 0 0 (en_wi (O_X11_lasts)) := en_of_i (M := M_X11_lasts) hst (s_X11_lasts_0 G hst _ (l_X11_lasts G hst en_FU)) (plainFor_of_name (by decide +kernel)) rfl rfl rfl (Or.inl ⟨rfl, rfl⟩) (fun av σ x σ' h => by
  rw [oe_X11_lasts] at h; unfold P_X11_lasts at h
  split at h
  · exact ⟨(Nat.le_of_ble_eq_true rfl), en_oi_some h⟩
  · cases h)
-- EachMayMissOne.driftingAfter(II)I
def M_X11_driftingAfter : en_Me := (cX11_driftingAfter, RX11, 5, false, 6, false)
theorem cs_X11_driftingAfter : en_cs yX11_driftingAfter cX11_driftingAfter 5 (some .int) 2 := ⟨wm_329, wm_2, ⟨(by decide +kernel), (by decide +kernel), (by decide +kernel)⟩, (Nat.le_of_ble_eq_true rfl)⟩
noncomputable def B_X11_driftingAfter_53 (kc : Nat → en_B) : en_B := (op_aload 0 (op_aload 0 (op_gets 11 20 (7, 0, 0) (op_iload 2 (op_rcv 11 2 (op_calli O_X11_ringAll 3 op_iret))))))
set_option maxRecDepth 20000 in
theorem s_X11_driftingAfter_53 (G : en_G) (hst : G.2.2.2.2.2 = true) (kc : Nat → en_B) (hk : ∀ t, en_Snd G M_X11_driftingAfter t (kc t)) : en_Snd G M_X11_driftingAfter 53 (B_X11_driftingAfter_53 kc) := (sn_aload_n (i := 0) (n := 0) (by decide +kernel) rfl (sn_aload_n (i := 0) (n := 0) (by decide +kernel) rfl (sn_gets (ci := 11) (j := 4) (off := 20) hst en_c11 of_11_20 (Nat.le_of_ble_eq_true rfl) (by decide +kernel) wm_24 (Nat.le_of_ble_eq_true rfl) rfl (sn_iload_n (i := 2) (n := 2) (by decide +kernel) rfl (sn_callVi (n := 2) (idx := 216) (ci := 11) (i_X11_ringAll G hst) (Nat.le_of_ble_eq_true rfl) cs_X11_ringAll ⟨wm_305, wm_306, wm_122⟩ ⟨⟨_, rfl, rfl⟩, (Nat.le_of_ble_eq_true rfl)⟩ (by decide +kernel) (sn_iret (by decide +kernel) rfl))))))
noncomputable def B_X11_driftingAfter_47 (kc : Nat → en_B) : en_B := (op_iinc 3 (1 : Int32) (kc 13))
set_option maxRecDepth 20000 in
theorem s_X11_driftingAfter_47 (G : en_G) (hst : G.2.2.2.2.2 = true) (kc : Nat → en_B) (hk : ∀ t, en_Snd G M_X11_driftingAfter t (kc t)) : en_Snd G M_X11_driftingAfter 47 (B_X11_driftingAfter_47 kc) := (sn_iinc (i := 3) (n := 1) (v := 1) (by decide +kernel) rfl (sn_goto (off := -37) (tgt := 13) (by decide +kernel) rfl (hk 13)))
noncomputable def B_X11_driftingAfter_27 (kc : Nat → en_B) : en_B := (op_iload 4 (op_iload 1 (op_iclt (op_aload 0 (op_gets 11 20 (7, 0, 0) (op_iload 3 (op_rcv 7 1 (op_callv O_X7_drink 2 (op_iinc 4 (1 : Int32) (kc 27))))))) (B_X11_driftingAfter_47 kc))))
set_option maxRecDepth 20000 in
theorem s_X11_driftingAfter_27 (G : en_G) (hst : G.2.2.2.2.2 = true) (kc : Nat → en_B) (hk : ∀ t, en_Snd G M_X11_driftingAfter t (kc t)) : en_Snd G M_X11_driftingAfter 27 (B_X11_driftingAfter_27 kc) := (sn_iload (i := 4) (by decide +kernel) (sn_iload_n (i := 1) (n := 1) (by decide +kernel) rfl (sn_icge (off := 17) (tgt := 47) (by decide +kernel) rfl (s_X11_driftingAfter_47 G hst kc hk) (sn_aload_n (i := 0) (n := 0) (by decide +kernel) rfl (sn_gets (ci := 11) (j := 4) (off := 20) hst en_c11 of_11_20 (Nat.le_of_ble_eq_true rfl) (by decide +kernel) wm_24 (Nat.le_of_ble_eq_true rfl) rfl (sn_iload_n (i := 3) (n := 3) (by decide +kernel) rfl (sn_callVv (n := 1) (idx := 222) (ci := 7) (i_X7_drink G hst) (Nat.le_of_ble_eq_true rfl) cs_X7_drink ⟨wm_1046, wm_1047, wm_127⟩ ⟨⟨_, rfl, rfl⟩, (Nat.le_of_ble_eq_true rfl)⟩ (by decide +kernel) (sn_iinc (i := 4) (n := 1) (v := 1) (by decide +kernel) rfl (sn_goto (off := -17) (tgt := 27) (by decide +kernel) rfl (hk 27))))))))))
noncomputable def B_X11_driftingAfter_13 (kc : Nat → en_B) : en_B := (op_iload 3 (op_aload 0 (op_gets 11 5 (10, 0, 0) (op_geti 10 3 (op_iclt (op_const (0 : Int32) (op_istore 4 (kc 27))) (B_X11_driftingAfter_53 kc))))))
set_option maxRecDepth 20000 in
theorem s_X11_driftingAfter_13 (G : en_G) (hst : G.2.2.2.2.2 = true) (kc : Nat → en_B) (hk : ∀ t, en_Snd G M_X11_driftingAfter t (kc t)) : en_Snd G M_X11_driftingAfter 13 (B_X11_driftingAfter_13 kc) := (sn_iload_n (i := 3) (n := 3) (by decide +kernel) rfl (sn_aload_n (i := 0) (n := 0) (by decide +kernel) rfl (sn_gets (ci := 11) (j := 2) (off := 5) hst en_c11 of_11_5 (Nat.le_of_ble_eq_true rfl) (by decide +kernel) wm_18 (Nat.le_of_ble_eq_true rfl) rfl (sn_geti (ci := 10) (j := 3) en_c10 (by decide +kernel) wm_74 (Nat.le_of_ble_eq_true rfl) rfl (sn_icge (off := 32) (tgt := 53) (by decide +kernel) rfl (s_X11_driftingAfter_53 G hst kc hk) (sn_iconst (n := 0) (v := 0) (by decide +kernel) rfl (sn_istore (i := 4) (by decide +kernel) (Nat.le_of_ble_eq_true rfl) (hk 27))))))))
noncomputable def B_X11_driftingAfter_0 (kc : Nat → en_B) : en_B := (op_aload 0 (op_gets 11 20 (7, 0, 0) (op_aload 0 (op_gets 11 15 (7, 0, 0) (op_rcv 7 1 (op_callv O_X7_copy 2 (op_const (0 : Int32) (op_istore 3 (kc 13)))))))))
set_option maxRecDepth 20000 in
theorem s_X11_driftingAfter_0 (G : en_G) (hst : G.2.2.2.2.2 = true) (kc : Nat → en_B) (hk : ∀ t, en_Snd G M_X11_driftingAfter t (kc t)) : en_Snd G M_X11_driftingAfter 0 (B_X11_driftingAfter_0 kc) := (sn_aload_n (i := 0) (n := 0) (by decide +kernel) rfl (sn_gets (ci := 11) (j := 4) (off := 20) hst en_c11 of_11_20 (Nat.le_of_ble_eq_true rfl) (by decide +kernel) wm_24 (Nat.le_of_ble_eq_true rfl) rfl (sn_aload_n (i := 0) (n := 0) (by decide +kernel) rfl (sn_gets (ci := 11) (j := 3) (off := 15) hst en_c11 of_11_15 (Nat.le_of_ble_eq_true rfl) (by decide +kernel) wm_23 (Nat.le_of_ble_eq_true rfl) rfl (sn_callVv (n := 1) (idx := 318) (ci := 7) (i_X7_copy G hst) (Nat.le_of_ble_eq_true rfl) cs_X7_copy ⟨wm_1042, wm_1043, wm_232⟩ ⟨⟨_, rfl, rfl⟩, (Nat.le_of_ble_eq_true rfl)⟩ (by decide +kernel) (sn_iconst (n := 0) (v := 0) (by decide +kernel) rfl (sn_istore_n (i := 3) (n := 3) (by decide +kernel) rfl (Nat.le_of_ble_eq_true rfl) (hk 13))))))))
noncomputable def LK_X11_driftingAfter : Nat → Nat → en_B
  | 0, _ => en_no
  | n + 1, t => if t = 13 then B_X11_driftingAfter_13 (LK_X11_driftingAfter n) else if t = 27 then B_X11_driftingAfter_27 (LK_X11_driftingAfter n) else en_no
theorem l_X11_driftingAfter (G : en_G) (hst : G.2.2.2.2.2 = true) : ∀ n t, en_Snd G M_X11_driftingAfter t (LK_X11_driftingAfter n t)
  | 0, _ => sn_no
  | n + 1, t => by
    show en_Snd G M_X11_driftingAfter t (if t = 13 then B_X11_driftingAfter_13 (LK_X11_driftingAfter n) else if t = 27 then B_X11_driftingAfter_27 (LK_X11_driftingAfter n) else en_no)
    by_cases h_13 : t = 13
    · rw [if_pos h_13, h_13]; exact s_X11_driftingAfter_13 G hst _ (l_X11_driftingAfter G hst n)
    rw [if_neg h_13]
    by_cases h_27 : t = 27
    · rw [if_pos h_27, h_27]; exact s_X11_driftingAfter_27 G hst _ (l_X11_driftingAfter G hst n)
    rw [if_neg h_27]
    exact sn_no
noncomputable def T_X11_driftingAfter_0 (x1 : Int32) (x2 : Int32) (σ : en_M) : en_R := B_X11_driftingAfter_0 (LK_X11_driftingAfter en_FU) [.inr (0, 11, 0, 0), .inl x1, .inl x2, en_un, en_un] [] en_zz σ
noncomputable def T_X11_driftingAfter_13 (n : Nat) (x1 : Int32) (x2 : Int32) (x3 : Int32) (u4 : en_V) (σ : en_M) : en_R := LK_X11_driftingAfter n 13 [.inr (0, 11, 0, 0), .inl x1, .inl x2, .inl x3, u4] [] en_zz σ
noncomputable def T_X11_driftingAfter_27 (n : Nat) (x1 : Int32) (x2 : Int32) (x3 : Int32) (x4 : Int32) (σ : en_M) : en_R := LK_X11_driftingAfter n 27 [.inr (0, 11, 0, 0), .inl x1, .inl x2, .inl x3, .inl x4] [] en_zz σ
set_option maxRecDepth 20000 in
set_option maxHeartbeats 2000000 in
theorem t_X11_driftingAfter_0 (x1 : Int32) (x2 : Int32) (σ : en_M) : T_X11_driftingAfter_0 x1 x2 σ = ((O_X7_copy [.inr (20, 7, 0, 0), .inr (15, 7, 0, 0)] σ).bind fun r1 => T_X11_driftingAfter_13 en_FU x1 x2 (0 : Int32) (en_un) r1) := rfl
set_option maxRecDepth 20000 in
set_option maxHeartbeats 2000000 in
theorem t_X11_driftingAfter_13 (n : Nat) (x1 : Int32) (x2 : Int32) (x3 : Int32) (u4 : en_V) (σ : en_M) : T_X11_driftingAfter_13 (n + 1) x1 x2 x3 u4 σ = (if x3 < (σ 5 3) then (T_X11_driftingAfter_27 n x1 x2 x3 (0 : Int32) σ) else ((O_X11_ringAll [.inr (0, 11, 0, 0), .inr (20, 7, 0, 0), .inl x2] σ).bind fun r2 => en_ri r2.1 r2.2)) := rfl
set_option maxRecDepth 20000 in
set_option maxHeartbeats 2000000 in
theorem t_X11_driftingAfter_27 (n : Nat) (x1 : Int32) (x2 : Int32) (x3 : Int32) (x4 : Int32) (σ : en_M) : T_X11_driftingAfter_27 (n + 1) x1 x2 x3 x4 σ = (if x4 < x1 then ((O_X7_drink [.inr (20, 7, 0, 0), .inl x3] σ).bind fun r3 => T_X11_driftingAfter_27 n x1 x2 x3 (x4 + (1 : Int32)) r3) else (T_X11_driftingAfter_13 n x1 x2 (x3 + (1 : Int32)) (.inl x4) σ)) := rfl
noncomputable def P_X11_driftingAfter : List en_V → en_M → Option (Int32 × en_M) := fun av σ => match av with
  | [.inr (0, 11, 0, 0), .inl x1, .inl x2] => en_oi (T_X11_driftingAfter_0 x1 x2 σ)
  | _ => none
theorem ox_X11_driftingAfter : ∃ f, f = P_X11_driftingAfter := ⟨_, rfl⟩
noncomputable def O_X11_driftingAfter : List en_V → en_M → Option (Int32 × en_M) := Classical.choose ox_X11_driftingAfter
theorem oe_X11_driftingAfter : O_X11_driftingAfter = P_X11_driftingAfter := Classical.choose_spec ox_X11_driftingAfter
theorem o_X11_driftingAfter (x1 : Int32) (x2 : Int32) (σ : en_M) : O_X11_driftingAfter [.inr (0, 11, 0, 0), .inl x1, .inl x2] σ = en_oi (T_X11_driftingAfter_0 x1 x2 σ) := by rw [oe_X11_driftingAfter]; rfl
theorem i_X11_driftingAfter (G : en_G) (hst : G.2.2.2.2.2 = true) : en_I G 6 yX11_driftingAfter cX11_driftingAfter 5 (some .int) 0 0 (en_wi (O_X11_driftingAfter)) := en_of_i (M := M_X11_driftingAfter) hst (s_X11_driftingAfter_0 G hst _ (l_X11_driftingAfter G hst en_FU)) (plainFor_of_name (by decide +kernel)) rfl rfl rfl (Or.inl ⟨rfl, rfl⟩) (fun av σ x σ' h => by
  rw [oe_X11_driftingAfter] at h; unfold P_X11_driftingAfter at h
  split at h
  · exact ⟨(Nat.le_of_ble_eq_true rfl), en_oi_some h⟩
  · cases h)
-- EachMayMissOne.stout(I)I
def M_X11_stout : en_Me := (cX11_stout, RX11, 7, false, 7, false)
theorem cs_X11_stout : en_cs yX11_stout cX11_stout 7 (some .int) 1 := ⟨wm_225, wm_2, ⟨(by decide +kernel), (by decide +kernel), (by decide +kernel)⟩, (Nat.le_of_ble_eq_true rfl)⟩
noncomputable def B_X11_stout_175 (kc : Nat → en_B) : en_B := (op_iload 3 op_iret)
set_option maxRecDepth 20000 in
theorem s_X11_stout_175 (G : en_G) (hst : G.2.2.2.2.2 = true) (kc : Nat → en_B) (hk : ∀ t, en_Snd G M_X11_stout t (kc t)) : en_Snd G M_X11_stout 175 (B_X11_stout_175 kc) := (sn_iload_n (i := 3) (n := 3) (by decide +kernel) rfl (sn_iret (by decide +kernel) rfl))
noncomputable def B_X11_stout_143 (kc : Nat → en_B) : en_B := (op_iload 4 (op_aload 0 (op_gets 11 5 (10, 0, 0) (op_geti 10 3 (op_iclt (op_aload 0 (op_gets 11 3 (9, 0, 0) (op_aload 0 (op_gets 11 184 (20, 7, 0) (op_iload 4 (op_ald 20 (op_rcv 9 1 (op_callv O_X9_add 2 (op_iinc 4 (1 : Int32) (kc 143)))))))))) (B_X11_stout_175 kc))))))
set_option maxRecDepth 20000 in
theorem s_X11_stout_143 (G : en_G) (hst : G.2.2.2.2.2 = true) (kc : Nat → en_B) (hk : ∀ t, en_Snd G M_X11_stout t (kc t)) : en_Snd G M_X11_stout 143 (B_X11_stout_143 kc) := (sn_iload (i := 4) (by decide +kernel) (sn_aload_n (i := 0) (n := 0) (by decide +kernel) rfl (sn_gets (ci := 11) (j := 2) (off := 5) hst en_c11 of_11_5 (Nat.le_of_ble_eq_true rfl) (by decide +kernel) wm_18 (Nat.le_of_ble_eq_true rfl) rfl (sn_geti (ci := 10) (j := 3) en_c10 (by decide +kernel) wm_74 (Nat.le_of_ble_eq_true rfl) rfl (sn_icge (off := 23) (tgt := 175) (by decide +kernel) rfl (s_X11_stout_175 G hst kc hk) (sn_aload_n (i := 0) (n := 0) (by decide +kernel) rfl (sn_gets (ci := 11) (j := 1) (off := 3) hst en_c11 of_11_3 (Nat.le_of_ble_eq_true rfl) (by decide +kernel) wm_13 (Nat.le_of_ble_eq_true rfl) rfl (sn_aload_n (i := 0) (n := 0) (by decide +kernel) rfl (sn_gets (ci := 11) (j := 12) (off := 184) hst en_c11 of_11_184 (Nat.le_of_ble_eq_true rfl) (by decide +kernel) wm_52 (Nat.le_of_ble_eq_true rfl) rfl (sn_iload (i := 4) (by decide +kernel) (sn_iald (by decide +kernel) (sn_callVv (n := 1) (idx := 209) (ci := 9) (i_X9_add G hst) (Nat.le_of_ble_eq_true rfl) cs_X9_add ⟨wm_1090, wm_1091, wm_117⟩ ⟨⟨_, rfl, rfl⟩, (Nat.le_of_ble_eq_true rfl)⟩ (by decide +kernel) (sn_iinc (i := 4) (n := 1) (v := 1) (by decide +kernel) rfl (sn_goto (off := -29) (tgt := 143) (by decide +kernel) rfl (hk 143)))))))))))))))
noncomputable def B_X11_stout_133 (kc : Nat → en_B) : en_B := (op_aload 0 (op_gets 11 3 (9, 0, 0) (op_rcv 9 0 (op_callv O_X9_begin 1 (op_const (0 : Int32) (op_istore 4 (kc 143)))))))
set_option maxRecDepth 20000 in
theorem s_X11_stout_133 (G : en_G) (hst : G.2.2.2.2.2 = true) (kc : Nat → en_B) (hk : ∀ t, en_Snd G M_X11_stout t (kc t)) : en_Snd G M_X11_stout 133 (B_X11_stout_133 kc) := (sn_aload_n (i := 0) (n := 0) (by decide +kernel) rfl (sn_gets (ci := 11) (j := 1) (off := 3) hst en_c11 of_11_3 (Nat.le_of_ble_eq_true rfl) (by decide +kernel) wm_13 (Nat.le_of_ble_eq_true rfl) rfl (sn_callVv (n := 0) (idx := 205) (ci := 9) (i_X9_begin G hst) (Nat.le_of_ble_eq_true rfl) cs_X9_begin ⟨wm_1086, wm_1087, wm_115⟩ ⟨⟨_, rfl, rfl⟩, (Nat.le_of_ble_eq_true rfl)⟩ (by decide +kernel) (sn_iconst (n := 0) (v := 0) (by decide +kernel) rfl (sn_istore (i := 4) (by decide +kernel) (Nat.le_of_ble_eq_true rfl) (hk 143))))))
noncomputable def B_X11_stout_126 (kc : Nat → en_B) : en_B := (op_iload 2 (op_ifeq (B_X11_stout_133 kc) (op_const (-2 : Int32) op_iret)))
set_option maxRecDepth 20000 in
theorem s_X11_stout_126 (G : en_G) (hst : G.2.2.2.2.2 = true) (kc : Nat → en_B) (hk : ∀ t, en_Snd G M_X11_stout t (kc t)) : en_Snd G M_X11_stout 126 (B_X11_stout_126 kc) := (sn_iload_n (i := 2) (n := 2) (by decide +kernel) rfl (sn_ifeq (off := 6) (tgt := 133) (by decide +kernel) rfl (s_X11_stout_133 G hst kc hk) (sn_bipush (n := -2) (v := -2) (by decide +kernel) rfl (sn_iret (by decide +kernel) rfl))))
noncomputable def B_X11_stout_115 (kc : Nat → en_B) : en_B := (op_iload 2 (op_iload 5 (op_bin (fun (x y : Int32) => x &&& y) (op_istore 2 (op_iinc 4 (1 : Int32) (kc 40))))))
set_option maxRecDepth 20000 in
theorem s_X11_stout_115 (G : en_G) (hst : G.2.2.2.2.2 = true) (kc : Nat → en_B) (hk : ∀ t, en_Snd G M_X11_stout t (kc t)) : en_Snd G M_X11_stout 115 (B_X11_stout_115 kc) := (sn_iload_n (i := 2) (n := 2) (by decide +kernel) rfl (sn_iload (i := 5) (by decide +kernel) (sn_iand (by decide +kernel) (sn_istore_n (i := 2) (n := 2) (by decide +kernel) rfl (Nat.le_of_ble_eq_true rfl) (sn_iinc (i := 4) (n := 1) (v := 1) (by decide +kernel) rfl (sn_goto (off := -83) (tgt := 40) (by decide +kernel) rfl (hk 40)))))))
noncomputable def B_X11_stout_109 (kc : Nat → en_B) : en_B := (op_iinc 6 (1 : Int32) (kc 63))
set_option maxRecDepth 20000 in
theorem s_X11_stout_109 (G : en_G) (hst : G.2.2.2.2.2 = true) (kc : Nat → en_B) (hk : ∀ t, en_Snd G M_X11_stout t (kc t)) : en_Snd G M_X11_stout 109 (B_X11_stout_109 kc) := (sn_iinc (i := 6) (n := 1) (v := 1) (by decide +kernel) rfl (sn_goto (off := -49) (tgt := 63) (by decide +kernel) rfl (hk 63)))
noncomputable def B_X11_stout_63 (kc : Nat → en_B) : en_B := (op_iload 6 (op_aload 0 (op_gets 11 5 (10, 0, 0) (op_geti 10 3 (op_iclt (op_iload 2 (op_iload 6 (op_calli O_X11_bit 2 (op_const (1 : Int32) (op_iceq (op_iload 5 (op_iload 6 (op_calli O_X11_bit 2 (op_ifeq (op_aload 0 (op_gets 11 184 (20, 7, 0) (op_iload 6 (op_iload 4 (op_ast 20 (fun (x : Int32) => x) (op_iload 3 (op_iload 4 (op_bin (fun (x y : Int32) => x + y) (op_istore 3 (B_X11_stout_109 kc)))))))))) (B_X11_stout_109 kc))))) (B_X11_stout_109 kc)))))) (B_X11_stout_115 kc))))))
set_option maxRecDepth 20000 in
theorem s_X11_stout_63 (G : en_G) (hst : G.2.2.2.2.2 = true) (kc : Nat → en_B) (hk : ∀ t, en_Snd G M_X11_stout t (kc t)) : en_Snd G M_X11_stout 63 (B_X11_stout_63 kc) := (sn_iload (i := 6) (by decide +kernel) (sn_aload_n (i := 0) (n := 0) (by decide +kernel) rfl (sn_gets (ci := 11) (j := 2) (off := 5) hst en_c11 of_11_5 (Nat.le_of_ble_eq_true rfl) (by decide +kernel) wm_18 (Nat.le_of_ble_eq_true rfl) rfl (sn_geti (ci := 10) (j := 3) en_c10 (by decide +kernel) wm_74 (Nat.le_of_ble_eq_true rfl) rfl (sn_icge (off := 43) (tgt := 115) (by decide +kernel) rfl (s_X11_stout_115 G hst kc hk) (sn_iload_n (i := 2) (n := 2) (by decide +kernel) rfl (sn_iload (i := 6) (by decide +kernel) (sn_callSi (n := 2) (idx := 163) (i_X11_bit G hst) (Nat.le_of_ble_eq_true rfl) cs_X11_bit ⟨wm_257, Or.inl wm_92⟩ (by decide +kernel) (sn_iconst (n := 1) (v := 1) (by decide +kernel) rfl (sn_icne (off := 27) (tgt := 109) (by decide +kernel) rfl (s_X11_stout_109 G hst kc hk) (sn_iload (i := 5) (by decide +kernel) (sn_iload (i := 6) (by decide +kernel) (sn_callSi (n := 2) (idx := 163) (i_X11_bit G hst) (Nat.le_of_ble_eq_true rfl) cs_X11_bit ⟨wm_257, Or.inl wm_92⟩ (by decide +kernel) (sn_ifne (off := 17) (tgt := 109) (by decide +kernel) rfl (s_X11_stout_109 G hst kc hk) (sn_aload_n (i := 0) (n := 0) (by decide +kernel) rfl (sn_gets (ci := 11) (j := 12) (off := 184) hst en_c11 of_11_184 (Nat.le_of_ble_eq_true rfl) (by decide +kernel) wm_52 (Nat.le_of_ble_eq_true rfl) rfl (sn_iload (i := 6) (by decide +kernel) (sn_iload (i := 4) (by decide +kernel) (sn_iast (by decide +kernel) (sn_iload_n (i := 3) (n := 3) (by decide +kernel) rfl (sn_iload (i := 4) (by decide +kernel) (sn_iadd (by decide +kernel) (sn_istore_n (i := 3) (n := 3) (by decide +kernel) rfl (Nat.le_of_ble_eq_true rfl) (s_X11_stout_109 G hst kc hk))))))))))))))))))))))))
noncomputable def B_X11_stout_40 (kc : Nat → en_B) : en_B := (op_iload 4 (op_const (10 : Int32) (op_icgt (B_X11_stout_126 kc) (op_iload 2 (op_ifeq (B_X11_stout_126 kc) (op_aload 0 (op_iload 4 (op_iload 1 (op_rcv 11 2 (op_calli O_X11_driftingAfter 3 (op_istore 5 (op_const (0 : Int32) (op_istore 6 (kc 63))))))))))))))
set_option maxRecDepth 20000 in
theorem s_X11_stout_40 (G : en_G) (hst : G.2.2.2.2.2 = true) (kc : Nat → en_B) (hk : ∀ t, en_Snd G M_X11_stout t (kc t)) : en_Snd G M_X11_stout 40 (B_X11_stout_40 kc) := (sn_iload (i := 4) (by decide +kernel) (sn_bipush (n := 10) (v := 10) (by decide +kernel) rfl (sn_icgt (off := 82) (tgt := 126) (by decide +kernel) rfl (s_X11_stout_126 G hst kc hk) (sn_iload_n (i := 2) (n := 2) (by decide +kernel) rfl (sn_ifeq (off := 78) (tgt := 126) (by decide +kernel) rfl (s_X11_stout_126 G hst kc hk) (sn_aload_n (i := 0) (n := 0) (by decide +kernel) rfl (sn_iload (i := 4) (by decide +kernel) (sn_iload_n (i := 1) (n := 1) (by decide +kernel) rfl (sn_callVi (n := 2) (idx := 315) (ci := 11) (i_X11_driftingAfter G hst) (Nat.le_of_ble_eq_true rfl) cs_X11_driftingAfter ⟨wm_330, wm_331, wm_228⟩ ⟨⟨_, rfl, rfl⟩, (Nat.le_of_ble_eq_true rfl)⟩ (by decide +kernel) (sn_istore (i := 5) (by decide +kernel) (Nat.le_of_ble_eq_true rfl) (sn_iconst (n := 0) (v := 0) (by decide +kernel) rfl (sn_istore (i := 6) (by decide +kernel) (Nat.le_of_ble_eq_true rfl) (hk 63)))))))))))))
noncomputable def B_X11_stout_23 (kc : Nat → en_B) : en_B := (op_const (1 : Int32) (op_aload 0 (op_gets 11 5 (10, 0, 0) (op_geti 10 3 (op_bin en_shl (op_const (1 : Int32) (op_bin (fun (x y : Int32) => x - y) (op_istore 2 (op_const (0 : Int32) (op_istore 3 (op_const (0 : Int32) (op_istore 4 (kc 40)))))))))))))
set_option maxRecDepth 20000 in
theorem s_X11_stout_23 (G : en_G) (hst : G.2.2.2.2.2 = true) (kc : Nat → en_B) (hk : ∀ t, en_Snd G M_X11_stout t (kc t)) : en_Snd G M_X11_stout 23 (B_X11_stout_23 kc) := (sn_iconst (n := 1) (v := 1) (by decide +kernel) rfl (sn_aload_n (i := 0) (n := 0) (by decide +kernel) rfl (sn_gets (ci := 11) (j := 2) (off := 5) hst en_c11 of_11_5 (Nat.le_of_ble_eq_true rfl) (by decide +kernel) wm_18 (Nat.le_of_ble_eq_true rfl) rfl (sn_geti (ci := 10) (j := 3) en_c10 (by decide +kernel) wm_74 (Nat.le_of_ble_eq_true rfl) rfl (sn_ishl (by decide +kernel) (sn_iconst (n := 1) (v := 1) (by decide +kernel) rfl (sn_isub (by decide +kernel) (sn_istore_n (i := 2) (n := 2) (by decide +kernel) rfl (Nat.le_of_ble_eq_true rfl) (sn_iconst (n := 0) (v := 0) (by decide +kernel) rfl (sn_istore_n (i := 3) (n := 3) (by decide +kernel) rfl (Nat.le_of_ble_eq_true rfl) (sn_iconst (n := 0) (v := 0) (by decide +kernel) rfl (sn_istore (i := 4) (by decide +kernel) (Nat.le_of_ble_eq_true rfl) (hk 40)))))))))))))
noncomputable def B_X11_stout_21 (kc : Nat → en_B) : en_B := (op_const (-1 : Int32) op_iret)
set_option maxRecDepth 20000 in
theorem s_X11_stout_21 (G : en_G) (hst : G.2.2.2.2.2 = true) (kc : Nat → en_B) (hk : ∀ t, en_Snd G M_X11_stout t (kc t)) : en_Snd G M_X11_stout 21 (B_X11_stout_21 kc) := (sn_iconst (n := -1) (v := -1) (by decide +kernel) rfl (sn_iret (by decide +kernel) rfl))
noncomputable def B_X11_stout_0 (kc : Nat → en_B) : en_B := (op_aload 0 (op_gets 11 5 (10, 0, 0) (op_geti 10 3 (op_ifeq (B_X11_stout_21 kc) (op_iload 1 (op_const (1 : Int32) (op_iclt (B_X11_stout_21 kc) (op_iload 1 (op_const (60 : Int32) (op_icgt (B_X11_stout_21 kc) (B_X11_stout_23 kc)))))))))))
set_option maxRecDepth 20000 in
theorem s_X11_stout_0 (G : en_G) (hst : G.2.2.2.2.2 = true) (kc : Nat → en_B) (hk : ∀ t, en_Snd G M_X11_stout t (kc t)) : en_Snd G M_X11_stout 0 (B_X11_stout_0 kc) := (sn_aload_n (i := 0) (n := 0) (by decide +kernel) rfl (sn_gets (ci := 11) (j := 2) (off := 5) hst en_c11 of_11_5 (Nat.le_of_ble_eq_true rfl) (by decide +kernel) wm_18 (Nat.le_of_ble_eq_true rfl) rfl (sn_geti (ci := 10) (j := 3) en_c10 (by decide +kernel) wm_74 (Nat.le_of_ble_eq_true rfl) rfl (sn_ifeq (off := 14) (tgt := 21) (by decide +kernel) rfl (s_X11_stout_21 G hst kc hk) (sn_iload_n (i := 1) (n := 1) (by decide +kernel) rfl (sn_iconst (n := 1) (v := 1) (by decide +kernel) rfl (sn_iclt (off := 9) (tgt := 21) (by decide +kernel) rfl (s_X11_stout_21 G hst kc hk) (sn_iload_n (i := 1) (n := 1) (by decide +kernel) rfl (sn_bipush (n := 60) (v := 60) (by decide +kernel) rfl (sn_icle (off := 5) (tgt := 23) (by decide +kernel) rfl (s_X11_stout_23 G hst kc hk) (s_X11_stout_21 G hst kc hk)))))))))))
noncomputable def LK_X11_stout : Nat → Nat → en_B
  | 0, _ => en_no
  | n + 1, t => if t = 40 then B_X11_stout_40 (LK_X11_stout n) else if t = 63 then B_X11_stout_63 (LK_X11_stout n) else if t = 143 then B_X11_stout_143 (LK_X11_stout n) else en_no
theorem l_X11_stout (G : en_G) (hst : G.2.2.2.2.2 = true) : ∀ n t, en_Snd G M_X11_stout t (LK_X11_stout n t)
  | 0, _ => sn_no
  | n + 1, t => by
    show en_Snd G M_X11_stout t (if t = 40 then B_X11_stout_40 (LK_X11_stout n) else if t = 63 then B_X11_stout_63 (LK_X11_stout n) else if t = 143 then B_X11_stout_143 (LK_X11_stout n) else en_no)
    by_cases h_40 : t = 40
    · rw [if_pos h_40, h_40]; exact s_X11_stout_40 G hst _ (l_X11_stout G hst n)
    rw [if_neg h_40]
    by_cases h_63 : t = 63
    · rw [if_pos h_63, h_63]; exact s_X11_stout_63 G hst _ (l_X11_stout G hst n)
    rw [if_neg h_63]
    by_cases h_143 : t = 143
    · rw [if_pos h_143, h_143]; exact s_X11_stout_143 G hst _ (l_X11_stout G hst n)
    rw [if_neg h_143]
    exact sn_no
noncomputable def T_X11_stout_0 (x1 : Int32) (σ : en_M) : en_R := B_X11_stout_0 (LK_X11_stout en_FU) [.inr (0, 11, 0, 0), .inl x1, en_un, en_un, en_un, en_un, en_un] [] en_zz σ
noncomputable def T_X11_stout_40 (n : Nat) (x1 : Int32) (x2 : Int32) (x3 : Int32) (x4 : Int32) (u5 : en_V) (u6 : en_V) (σ : en_M) : en_R := LK_X11_stout n 40 [.inr (0, 11, 0, 0), .inl x1, .inl x2, .inl x3, .inl x4, u5, u6] [] en_zz σ
noncomputable def T_X11_stout_63 (n : Nat) (x1 : Int32) (x2 : Int32) (x3 : Int32) (x4 : Int32) (x5 : Int32) (x6 : Int32) (σ : en_M) : en_R := LK_X11_stout n 63 [.inr (0, 11, 0, 0), .inl x1, .inl x2, .inl x3, .inl x4, .inl x5, .inl x6] [] en_zz σ
noncomputable def T_X11_stout_143 (n : Nat) (x1 : Int32) (x2 : Int32) (x3 : Int32) (x4 : Int32) (u5 : en_V) (u6 : en_V) (σ : en_M) : en_R := LK_X11_stout n 143 [.inr (0, 11, 0, 0), .inl x1, .inl x2, .inl x3, .inl x4, u5, u6] [] en_zz σ
set_option maxRecDepth 20000 in
set_option maxHeartbeats 2000000 in
theorem t_X11_stout_0 (x1 : Int32) (σ : en_M) : T_X11_stout_0 x1 σ = (if (σ 5 3) = 0 then (en_ri (-1 : Int32) σ) else (if x1 < (1 : Int32) then (en_ri (-1 : Int32) σ) else (if (60 : Int32) < x1 then (en_ri (-1 : Int32) σ) else (T_X11_stout_40 en_FU x1 ((en_shl (1 : Int32) (σ 5 3)) - (1 : Int32)) (0 : Int32) (0 : Int32) (en_un) (en_un) σ)))) := rfl
set_option maxRecDepth 20000 in
set_option maxHeartbeats 2000000 in
theorem t_X11_stout_40 (n : Nat) (x1 : Int32) (x2 : Int32) (x3 : Int32) (x4 : Int32) (u5 : en_V) (u6 : en_V) (σ : en_M) : T_X11_stout_40 (n + 1) x1 x2 x3 x4 u5 u6 σ = (if (10 : Int32) < x4 then (if x2 = 0 then ((O_X9_begin [.inr (3, 9, 0, 0)] σ).bind fun r1 => T_X11_stout_143 n x1 x2 x3 (0 : Int32) (u5) (u6) r1) else (en_ri (-2 : Int32) σ)) else (if x2 = 0 then (if x2 = 0 then ((O_X9_begin [.inr (3, 9, 0, 0)] σ).bind fun r2 => T_X11_stout_143 n x1 x2 x3 (0 : Int32) (u5) (u6) r2) else (en_ri (-2 : Int32) σ)) else ((O_X11_driftingAfter [.inr (0, 11, 0, 0), .inl x4, .inl x1] σ).bind fun r3 => T_X11_stout_63 n x1 x2 x3 x4 r3.1 (0 : Int32) r3.2))) := rfl
set_option maxRecDepth 20000 in
set_option maxHeartbeats 2000000 in
theorem t_X11_stout_63 (n : Nat) (x1 : Int32) (x2 : Int32) (x3 : Int32) (x4 : Int32) (x5 : Int32) (x6 : Int32) (σ : en_M) : T_X11_stout_63 (n + 1) x1 x2 x3 x4 x5 x6 σ = (if x6 < (σ 5 3) then ((O_X11_bit [.inl x2, .inl x6] σ).bind fun r4 => if r4.1 = (1 : Int32) then ((O_X11_bit [.inl x5, .inl x6] r4.2).bind fun r5 => if r5.1 = 0 then ((en_ix x6 7).bind fun j6 => T_X11_stout_63 n x1 x2 (x3 + x4) x4 x5 (x6 + (1 : Int32)) (en_up r5.2 184 j6 x4)) else (T_X11_stout_63 n x1 x2 x3 x4 x5 (x6 + (1 : Int32)) r5.2)) else (T_X11_stout_63 n x1 x2 x3 x4 x5 (x6 + (1 : Int32)) r4.2)) else (T_X11_stout_40 n x1 (x2 &&& x5) x3 (x4 + (1 : Int32)) (.inl x5) (.inl x6) σ)) := rfl
set_option maxRecDepth 20000 in
set_option maxHeartbeats 2000000 in
theorem t_X11_stout_143 (n : Nat) (x1 : Int32) (x2 : Int32) (x3 : Int32) (x4 : Int32) (u5 : en_V) (u6 : en_V) (σ : en_M) : T_X11_stout_143 (n + 1) x1 x2 x3 x4 u5 u6 σ = (if x4 < (σ 5 3) then ((en_ix x4 7).bind fun j7 => (O_X9_add [.inr (3, 9, 0, 0), .inl (σ 184 j7)] σ).bind fun r8 => T_X11_stout_143 n x1 x2 x3 (x4 + (1 : Int32)) (u5) (u6) r8) else (en_ri x3 σ)) := rfl
noncomputable def P_X11_stout : List en_V → en_M → Option (Int32 × en_M) := fun av σ => match av with
  | [.inr (0, 11, 0, 0), .inl x1] => en_oi (T_X11_stout_0 x1 σ)
  | _ => none
theorem ox_X11_stout : ∃ f, f = P_X11_stout := ⟨_, rfl⟩
noncomputable def O_X11_stout : List en_V → en_M → Option (Int32 × en_M) := Classical.choose ox_X11_stout
theorem oe_X11_stout : O_X11_stout = P_X11_stout := Classical.choose_spec ox_X11_stout
theorem o_X11_stout (x1 : Int32) (σ : en_M) : O_X11_stout [.inr (0, 11, 0, 0), .inl x1] σ = en_oi (T_X11_stout_0 x1 σ) := by rw [oe_X11_stout]; rfl
theorem i_X11_stout (G : en_G) (hst : G.2.2.2.2.2 = true) : en_I G 7 yX11_stout cX11_stout 7 (some .int) 0 0 (en_wi (O_X11_stout)) := en_of_i (M := M_X11_stout) hst (s_X11_stout_0 G hst _ (l_X11_stout G hst en_FU)) (plainFor_of_name (by decide +kernel)) rfl rfl rfl (Or.inl ⟨rfl, rfl⟩) (fun av σ x σ' h => by
  rw [oe_X11_stout] at h; unfold P_X11_stout at h
  split at h
  · exact ⟨(Nat.le_of_ble_eq_true rfl), en_oi_some h⟩
  · cases h)
-- EachMayMissOne.weariness(I)I
def M_X11_weariness : en_Me := (cX11_weariness, RX11, 2, false, 1, false)
theorem cs_X11_weariness : en_cs yX11_weariness cX11_weariness 2 (some .int) 1 := ⟨wm_332, wm_2, ⟨(by decide +kernel), (by decide +kernel), (by decide +kernel)⟩, (Nat.le_of_ble_eq_true rfl)⟩
noncomputable def B_X11_weariness_0 (kc : Nat → en_B) : en_B := (op_aload 0 (op_gets 11 20 (7, 0, 0) (op_gets 7 1 (20, 7, 0) (op_iload 1 (op_ald 20 (op_const (100 : Int32) (op_aload 0 (op_gets 11 20 (7, 0, 0) (op_gets 7 3 (20, 7, 0) (op_iload 1 (op_ald 20 (op_aload 0 (op_gets 11 15 (7, 0, 0) (op_gets 7 3 (20, 7, 0) (op_iload 1 (op_ald 20 (op_bin (fun (x y : Int32) => x - y) (op_bin (fun (x y : Int32) => x * y) (op_bin (fun (x y : Int32) => x + y) op_iret)))))))))))))))))))
set_option maxRecDepth 20000 in
theorem s_X11_weariness_0 (G : en_G) (hst : G.2.2.2.2.2 = true) (kc : Nat → en_B) (hk : ∀ t, en_Snd G M_X11_weariness t (kc t)) : en_Snd G M_X11_weariness 0 (B_X11_weariness_0 kc) := (sn_aload_n (i := 0) (n := 0) (by decide +kernel) rfl (sn_gets (ci := 11) (j := 4) (off := 20) hst en_c11 of_11_20 (Nat.le_of_ble_eq_true rfl) (by decide +kernel) wm_24 (Nat.le_of_ble_eq_true rfl) rfl (sn_gets (ci := 7) (j := 0) (off := 1) hst en_c7 of_7_1 (Nat.le_of_ble_eq_true rfl) (by decide +kernel) wm_86 (Nat.le_of_ble_eq_true rfl) rfl (sn_iload_n (i := 1) (n := 1) (by decide +kernel) rfl (sn_iald (by decide +kernel) (sn_bipush (n := 100) (v := 100) (by decide +kernel) rfl (sn_aload_n (i := 0) (n := 0) (by decide +kernel) rfl (sn_gets (ci := 11) (j := 4) (off := 20) hst en_c11 of_11_20 (Nat.le_of_ble_eq_true rfl) (by decide +kernel) wm_24 (Nat.le_of_ble_eq_true rfl) rfl (sn_gets (ci := 7) (j := 2) (off := 3) hst en_c7 of_7_3 (Nat.le_of_ble_eq_true rfl) (by decide +kernel) wm_88 (Nat.le_of_ble_eq_true rfl) rfl (sn_iload_n (i := 1) (n := 1) (by decide +kernel) rfl (sn_iald (by decide +kernel) (sn_aload_n (i := 0) (n := 0) (by decide +kernel) rfl (sn_gets (ci := 11) (j := 3) (off := 15) hst en_c11 of_11_15 (Nat.le_of_ble_eq_true rfl) (by decide +kernel) wm_23 (Nat.le_of_ble_eq_true rfl) rfl (sn_gets (ci := 7) (j := 2) (off := 3) hst en_c7 of_7_3 (Nat.le_of_ble_eq_true rfl) (by decide +kernel) wm_88 (Nat.le_of_ble_eq_true rfl) rfl (sn_iload_n (i := 1) (n := 1) (by decide +kernel) rfl (sn_iald (by decide +kernel) (sn_isub (by decide +kernel) (sn_imul (by decide +kernel) (sn_iadd (by decide +kernel) (sn_iret (by decide +kernel) rfl))))))))))))))))))))
noncomputable def LK_X11_weariness : Nat → Nat → en_B
  | 0, _ => en_no
  | n + 1, t => en_no
theorem l_X11_weariness (G : en_G) (hst : G.2.2.2.2.2 = true) : ∀ n t, en_Snd G M_X11_weariness t (LK_X11_weariness n t)
  | 0, _ => sn_no
  | n + 1, t => by
    show en_Snd G M_X11_weariness t (en_no)
    exact sn_no
noncomputable def T_X11_weariness_0 (x1 : Int32) (σ : en_M) : en_R := B_X11_weariness_0 (LK_X11_weariness en_FU) [.inr (0, 11, 0, 0), .inl x1] [] en_zz σ
set_option maxRecDepth 20000 in
set_option maxHeartbeats 2000000 in
theorem t_X11_weariness_0 (x1 : Int32) (σ : en_M) : T_X11_weariness_0 x1 σ = ((en_ix x1 7).bind fun j1 => (en_ix x1 7).bind fun j2 => (en_ix x1 7).bind fun j3 => en_ri ((σ 21 j1) + ((100 : Int32) * ((σ 23 j2) - (σ 18 j3)))) σ) := rfl
noncomputable def P_X11_weariness : List en_V → en_M → Option (Int32 × en_M) := fun av σ => match av with
  | [.inr (0, 11, 0, 0), .inl x1] => en_oi (T_X11_weariness_0 x1 σ)
  | _ => none
theorem ox_X11_weariness : ∃ f, f = P_X11_weariness := ⟨_, rfl⟩
noncomputable def O_X11_weariness : List en_V → en_M → Option (Int32 × en_M) := Classical.choose ox_X11_weariness
theorem oe_X11_weariness : O_X11_weariness = P_X11_weariness := Classical.choose_spec ox_X11_weariness
theorem o_X11_weariness (x1 : Int32) (σ : en_M) : O_X11_weariness [.inr (0, 11, 0, 0), .inl x1] σ = en_oi (T_X11_weariness_0 x1 σ) := by rw [oe_X11_weariness]; rfl
theorem i_X11_weariness (G : en_G) (hst : G.2.2.2.2.2 = true) : en_I G 1 yX11_weariness cX11_weariness 2 (some .int) 0 0 (en_wi (O_X11_weariness)) := en_of_i (M := M_X11_weariness) hst (s_X11_weariness_0 G hst _ (l_X11_weariness G hst en_FU)) (plainFor_of_name (by decide +kernel)) rfl rfl rfl (Or.inl ⟨rfl, rfl⟩) (fun av σ x σ' h => by
  rw [oe_X11_weariness] at h; unfold P_X11_weariness at h
  split at h
  · exact ⟨(Nat.le_of_ble_eq_true rfl), en_oi_some h⟩
  · cases h)
-- EachMayMissOne.weariest(I)I
def M_X11_weariest : en_Me := (cX11_weariest, RX11, 4, false, 6, false)
theorem cs_X11_weariest : en_cs yX11_weariest cX11_weariest 4 (some .int) 1 := ⟨wm_229, wm_2, ⟨(by decide +kernel), (by decide +kernel), (by decide +kernel)⟩, (Nat.le_of_ble_eq_true rfl)⟩
noncomputable def B_X11_weariest_83 (kc : Nat → en_B) : en_B := (op_aload 0 (op_gets 11 3 (9, 0, 0) (op_rcv 9 0 (op_callv O_X9_begin 1 (op_aload 0 (op_gets 11 3 (9, 0, 0) (op_aload 0 (op_gets 11 20 (7, 0, 0) (op_gets 7 1 (20, 7, 0) (op_iload 2 (op_ald 20 (op_rcv 9 1 (op_callv O_X9_add 2 (op_aload 0 (op_gets 11 3 (9, 0, 0) (op_aload 0 (op_gets 11 20 (7, 0, 0) (op_gets 7 3 (20, 7, 0) (op_iload 2 (op_ald 20 (op_aload 0 (op_gets 11 15 (7, 0, 0) (op_gets 7 3 (20, 7, 0) (op_iload 2 (op_ald 20 (op_bin (fun (x y : Int32) => x - y) (op_rcv 9 1 (op_callv O_X9_add 2 (op_iload 2 op_iret)))))))))))))))))))))))))))))
set_option maxRecDepth 20000 in
theorem s_X11_weariest_83 (G : en_G) (hst : G.2.2.2.2.2 = true) (kc : Nat → en_B) (hk : ∀ t, en_Snd G M_X11_weariest t (kc t)) : en_Snd G M_X11_weariest 83 (B_X11_weariest_83 kc) := (sn_aload_n (i := 0) (n := 0) (by decide +kernel) rfl (sn_gets (ci := 11) (j := 1) (off := 3) hst en_c11 of_11_3 (Nat.le_of_ble_eq_true rfl) (by decide +kernel) wm_13 (Nat.le_of_ble_eq_true rfl) rfl (sn_callVv (n := 0) (idx := 205) (ci := 9) (i_X9_begin G hst) (Nat.le_of_ble_eq_true rfl) cs_X9_begin ⟨wm_1086, wm_1087, wm_115⟩ ⟨⟨_, rfl, rfl⟩, (Nat.le_of_ble_eq_true rfl)⟩ (by decide +kernel) (sn_aload_n (i := 0) (n := 0) (by decide +kernel) rfl (sn_gets (ci := 11) (j := 1) (off := 3) hst en_c11 of_11_3 (Nat.le_of_ble_eq_true rfl) (by decide +kernel) wm_13 (Nat.le_of_ble_eq_true rfl) rfl (sn_aload_n (i := 0) (n := 0) (by decide +kernel) rfl (sn_gets (ci := 11) (j := 4) (off := 20) hst en_c11 of_11_20 (Nat.le_of_ble_eq_true rfl) (by decide +kernel) wm_24 (Nat.le_of_ble_eq_true rfl) rfl (sn_gets (ci := 7) (j := 0) (off := 1) hst en_c7 of_7_1 (Nat.le_of_ble_eq_true rfl) (by decide +kernel) wm_86 (Nat.le_of_ble_eq_true rfl) rfl (sn_iload_n (i := 2) (n := 2) (by decide +kernel) rfl (sn_iald (by decide +kernel) (sn_callVv (n := 1) (idx := 209) (ci := 9) (i_X9_add G hst) (Nat.le_of_ble_eq_true rfl) cs_X9_add ⟨wm_1090, wm_1091, wm_117⟩ ⟨⟨_, rfl, rfl⟩, (Nat.le_of_ble_eq_true rfl)⟩ (by decide +kernel) (sn_aload_n (i := 0) (n := 0) (by decide +kernel) rfl (sn_gets (ci := 11) (j := 1) (off := 3) hst en_c11 of_11_3 (Nat.le_of_ble_eq_true rfl) (by decide +kernel) wm_13 (Nat.le_of_ble_eq_true rfl) rfl (sn_aload_n (i := 0) (n := 0) (by decide +kernel) rfl (sn_gets (ci := 11) (j := 4) (off := 20) hst en_c11 of_11_20 (Nat.le_of_ble_eq_true rfl) (by decide +kernel) wm_24 (Nat.le_of_ble_eq_true rfl) rfl (sn_gets (ci := 7) (j := 2) (off := 3) hst en_c7 of_7_3 (Nat.le_of_ble_eq_true rfl) (by decide +kernel) wm_88 (Nat.le_of_ble_eq_true rfl) rfl (sn_iload_n (i := 2) (n := 2) (by decide +kernel) rfl (sn_iald (by decide +kernel) (sn_aload_n (i := 0) (n := 0) (by decide +kernel) rfl (sn_gets (ci := 11) (j := 3) (off := 15) hst en_c11 of_11_15 (Nat.le_of_ble_eq_true rfl) (by decide +kernel) wm_23 (Nat.le_of_ble_eq_true rfl) rfl (sn_gets (ci := 7) (j := 2) (off := 3) hst en_c7 of_7_3 (Nat.le_of_ble_eq_true rfl) (by decide +kernel) wm_88 (Nat.le_of_ble_eq_true rfl) rfl (sn_iload_n (i := 2) (n := 2) (by decide +kernel) rfl (sn_iald (by decide +kernel) (sn_isub (by decide +kernel) (sn_callVv (n := 1) (idx := 209) (ci := 9) (i_X9_add G hst) (Nat.le_of_ble_eq_true rfl) cs_X9_add ⟨wm_1090, wm_1091, wm_117⟩ ⟨⟨_, rfl, rfl⟩, (Nat.le_of_ble_eq_true rfl)⟩ (by decide +kernel) (sn_iload_n (i := 2) (n := 2) (by decide +kernel) rfl (sn_iret (by decide +kernel) rfl)))))))))))))))))))))))))))
noncomputable def B_X11_weariest_76 (kc : Nat → en_B) : en_B := (op_istore 2 (op_iinc 3 (1 : Int32) (kc 47)))
set_option maxRecDepth 20000 in
theorem s_X11_weariest_76 (G : en_G) (hst : G.2.2.2.2.2 = true) (kc : Nat → en_B) (hk : ∀ t, en_Snd G M_X11_weariest t (kc t)) : en_Snd G M_X11_weariest 76 (B_X11_weariest_76 kc) := (sn_istore_n (i := 2) (n := 2) (by decide +kernel) rfl (Nat.le_of_ble_eq_true rfl) (sn_iinc (i := 3) (n := 1) (v := 1) (by decide +kernel) rfl (sn_goto (off := -33) (tgt := 47) (by decide +kernel) rfl (hk 47))))
noncomputable def B_X11_weariest_75 (kc : Nat → en_B) : en_B := (op_iload 2 (B_X11_weariest_76 kc))
set_option maxRecDepth 20000 in
theorem s_X11_weariest_75 (G : en_G) (hst : G.2.2.2.2.2 = true) (kc : Nat → en_B) (hk : ∀ t, en_Snd G M_X11_weariest t (kc t)) : en_Snd G M_X11_weariest 75 (B_X11_weariest_75 kc) := (sn_iload_n (i := 2) (n := 2) (by decide +kernel) rfl (s_X11_weariest_76 G hst kc hk))
noncomputable def B_X11_weariest_47 (kc : Nat → en_B) : en_B := (op_iload 3 (op_aload 0 (op_gets 11 5 (10, 0, 0) (op_geti 10 3 (op_iclt (op_aload 0 (op_iload 3 (op_rcv 11 1 (op_calli O_X11_weariness 2 (op_aload 0 (op_iload 2 (op_rcv 11 1 (op_calli O_X11_weariness 2 (op_icgt (op_iload 3 (B_X11_weariest_76 kc)) (B_X11_weariest_75 kc)))))))))) (B_X11_weariest_83 kc))))))
set_option maxRecDepth 20000 in
theorem s_X11_weariest_47 (G : en_G) (hst : G.2.2.2.2.2 = true) (kc : Nat → en_B) (hk : ∀ t, en_Snd G M_X11_weariest t (kc t)) : en_Snd G M_X11_weariest 47 (B_X11_weariest_47 kc) := (sn_iload_n (i := 3) (n := 3) (by decide +kernel) rfl (sn_aload_n (i := 0) (n := 0) (by decide +kernel) rfl (sn_gets (ci := 11) (j := 2) (off := 5) hst en_c11 of_11_5 (Nat.le_of_ble_eq_true rfl) (by decide +kernel) wm_18 (Nat.le_of_ble_eq_true rfl) rfl (sn_geti (ci := 10) (j := 3) en_c10 (by decide +kernel) wm_74 (Nat.le_of_ble_eq_true rfl) rfl (sn_icge (off := 28) (tgt := 83) (by decide +kernel) rfl (s_X11_weariest_83 G hst kc hk) (sn_aload_n (i := 0) (n := 0) (by decide +kernel) rfl (sn_iload_n (i := 3) (n := 3) (by decide +kernel) rfl (sn_callVi (n := 1) (idx := 321) (ci := 11) (i_X11_weariness G hst) (Nat.le_of_ble_eq_true rfl) cs_X11_weariness ⟨wm_333, wm_334, wm_233⟩ ⟨⟨_, rfl, rfl⟩, (Nat.le_of_ble_eq_true rfl)⟩ (by decide +kernel) (sn_aload_n (i := 0) (n := 0) (by decide +kernel) rfl (sn_iload_n (i := 2) (n := 2) (by decide +kernel) rfl (sn_callVi (n := 1) (idx := 321) (ci := 11) (i_X11_weariness G hst) (Nat.le_of_ble_eq_true rfl) cs_X11_weariness ⟨wm_333, wm_334, wm_233⟩ ⟨⟨_, rfl, rfl⟩, (Nat.le_of_ble_eq_true rfl)⟩ (by decide +kernel) (sn_icle (off := 7) (tgt := 75) (by decide +kernel) rfl (s_X11_weariest_75 G hst kc hk) (sn_iload_n (i := 3) (n := 3) (by decide +kernel) rfl (sn_goto (off := 4) (tgt := 76) (by decide +kernel) rfl (s_X11_weariest_76 G hst kc hk)))))))))))))))
noncomputable def B_X11_weariest_22 (kc : Nat → en_B) : en_B := (op_aload 0 (op_gets 11 20 (7, 0, 0) (op_aload 0 (op_gets 11 15 (7, 0, 0) (op_rcv 7 1 (op_callv O_X7_copy 2 (op_aload 0 (op_aload 0 (op_gets 11 20 (7, 0, 0) (op_iload 1 (op_rcv 11 2 (op_calli O_X11_ringAll 3 (op_pop (op_const (0 : Int32) (op_istore 2 (op_const (1 : Int32) (op_istore 3 (kc 47))))))))))))))))))
set_option maxRecDepth 20000 in
theorem s_X11_weariest_22 (G : en_G) (hst : G.2.2.2.2.2 = true) (kc : Nat → en_B) (hk : ∀ t, en_Snd G M_X11_weariest t (kc t)) : en_Snd G M_X11_weariest 22 (B_X11_weariest_22 kc) := (sn_aload_n (i := 0) (n := 0) (by decide +kernel) rfl (sn_gets (ci := 11) (j := 4) (off := 20) hst en_c11 of_11_20 (Nat.le_of_ble_eq_true rfl) (by decide +kernel) wm_24 (Nat.le_of_ble_eq_true rfl) rfl (sn_aload_n (i := 0) (n := 0) (by decide +kernel) rfl (sn_gets (ci := 11) (j := 3) (off := 15) hst en_c11 of_11_15 (Nat.le_of_ble_eq_true rfl) (by decide +kernel) wm_23 (Nat.le_of_ble_eq_true rfl) rfl (sn_callVv (n := 1) (idx := 318) (ci := 7) (i_X7_copy G hst) (Nat.le_of_ble_eq_true rfl) cs_X7_copy ⟨wm_1042, wm_1043, wm_232⟩ ⟨⟨_, rfl, rfl⟩, (Nat.le_of_ble_eq_true rfl)⟩ (by decide +kernel) (sn_aload_n (i := 0) (n := 0) (by decide +kernel) rfl (sn_aload_n (i := 0) (n := 0) (by decide +kernel) rfl (sn_gets (ci := 11) (j := 4) (off := 20) hst en_c11 of_11_20 (Nat.le_of_ble_eq_true rfl) (by decide +kernel) wm_24 (Nat.le_of_ble_eq_true rfl) rfl (sn_iload_n (i := 1) (n := 1) (by decide +kernel) rfl (sn_callVi (n := 2) (idx := 216) (ci := 11) (i_X11_ringAll G hst) (Nat.le_of_ble_eq_true rfl) cs_X11_ringAll ⟨wm_305, wm_306, wm_122⟩ ⟨⟨_, rfl, rfl⟩, (Nat.le_of_ble_eq_true rfl)⟩ (by decide +kernel) (sn_pop (by decide +kernel) (sn_iconst (n := 0) (v := 0) (by decide +kernel) rfl (sn_istore_n (i := 2) (n := 2) (by decide +kernel) rfl (Nat.le_of_ble_eq_true rfl) (sn_iconst (n := 1) (v := 1) (by decide +kernel) rfl (sn_istore_n (i := 3) (n := 3) (by decide +kernel) rfl (Nat.le_of_ble_eq_true rfl) (hk 47))))))))))))))))
noncomputable def B_X11_weariest_20 (kc : Nat → en_B) : en_B := (op_const (-1 : Int32) op_iret)
set_option maxRecDepth 20000 in
theorem s_X11_weariest_20 (G : en_G) (hst : G.2.2.2.2.2 = true) (kc : Nat → en_B) (hk : ∀ t, en_Snd G M_X11_weariest t (kc t)) : en_Snd G M_X11_weariest 20 (B_X11_weariest_20 kc) := (sn_iconst (n := -1) (v := -1) (by decide +kernel) rfl (sn_iret (by decide +kernel) rfl))
noncomputable def B_X11_weariest_0 (kc : Nat → en_B) : en_B := (op_aload 0 (op_gets 11 5 (10, 0, 0) (op_geti 10 3 (op_ifeq (B_X11_weariest_20 kc) (op_iload 1 (op_iflt (B_X11_weariest_20 kc) (op_iload 1 (op_const (60 : Int32) (op_icgt (B_X11_weariest_20 kc) (B_X11_weariest_22 kc))))))))))
set_option maxRecDepth 20000 in
theorem s_X11_weariest_0 (G : en_G) (hst : G.2.2.2.2.2 = true) (kc : Nat → en_B) (hk : ∀ t, en_Snd G M_X11_weariest t (kc t)) : en_Snd G M_X11_weariest 0 (B_X11_weariest_0 kc) := (sn_aload_n (i := 0) (n := 0) (by decide +kernel) rfl (sn_gets (ci := 11) (j := 2) (off := 5) hst en_c11 of_11_5 (Nat.le_of_ble_eq_true rfl) (by decide +kernel) wm_18 (Nat.le_of_ble_eq_true rfl) rfl (sn_geti (ci := 10) (j := 3) en_c10 (by decide +kernel) wm_74 (Nat.le_of_ble_eq_true rfl) rfl (sn_ifeq (off := 13) (tgt := 20) (by decide +kernel) rfl (s_X11_weariest_20 G hst kc hk) (sn_iload_n (i := 1) (n := 1) (by decide +kernel) rfl (sn_iflt (off := 9) (tgt := 20) (by decide +kernel) rfl (s_X11_weariest_20 G hst kc hk) (sn_iload_n (i := 1) (n := 1) (by decide +kernel) rfl (sn_bipush (n := 60) (v := 60) (by decide +kernel) rfl (sn_icle (off := 5) (tgt := 22) (by decide +kernel) rfl (s_X11_weariest_22 G hst kc hk) (s_X11_weariest_20 G hst kc hk))))))))))
noncomputable def LK_X11_weariest : Nat → Nat → en_B
  | 0, _ => en_no
  | n + 1, t => if t = 47 then B_X11_weariest_47 (LK_X11_weariest n) else en_no
theorem l_X11_weariest (G : en_G) (hst : G.2.2.2.2.2 = true) : ∀ n t, en_Snd G M_X11_weariest t (LK_X11_weariest n t)
  | 0, _ => sn_no
  | n + 1, t => by
    show en_Snd G M_X11_weariest t (if t = 47 then B_X11_weariest_47 (LK_X11_weariest n) else en_no)
    by_cases h_47 : t = 47
    · rw [if_pos h_47, h_47]; exact s_X11_weariest_47 G hst _ (l_X11_weariest G hst n)
    rw [if_neg h_47]
    exact sn_no
noncomputable def T_X11_weariest_0 (x1 : Int32) (σ : en_M) : en_R := B_X11_weariest_0 (LK_X11_weariest en_FU) [.inr (0, 11, 0, 0), .inl x1, en_un, en_un] [] en_zz σ
noncomputable def T_X11_weariest_47 (n : Nat) (x1 : Int32) (x2 : Int32) (x3 : Int32) (σ : en_M) : en_R := LK_X11_weariest n 47 [.inr (0, 11, 0, 0), .inl x1, .inl x2, .inl x3] [] en_zz σ
set_option maxRecDepth 20000 in
set_option maxHeartbeats 2000000 in
theorem t_X11_weariest_0 (x1 : Int32) (σ : en_M) : T_X11_weariest_0 x1 σ = (if (σ 5 3) = 0 then (en_ri (-1 : Int32) σ) else (if x1 < 0 then (en_ri (-1 : Int32) σ) else (if (60 : Int32) < x1 then (en_ri (-1 : Int32) σ) else ((O_X7_copy [.inr (20, 7, 0, 0), .inr (15, 7, 0, 0)] σ).bind fun r1 => (O_X11_ringAll [.inr (0, 11, 0, 0), .inr (20, 7, 0, 0), .inl x1] r1).bind fun r2 => T_X11_weariest_47 en_FU x1 (0 : Int32) (1 : Int32) r2.2)))) := rfl
set_option maxRecDepth 20000 in
set_option maxHeartbeats 2000000 in
theorem t_X11_weariest_47 (n : Nat) (x1 : Int32) (x2 : Int32) (x3 : Int32) (σ : en_M) : T_X11_weariest_47 (n + 1) x1 x2 x3 σ = (if x3 < (σ 5 3) then ((O_X11_weariness [.inr (0, 11, 0, 0), .inl x3] σ).bind fun r9 => (O_X11_weariness [.inr (0, 11, 0, 0), .inl x2] r9.2).bind fun r10 => if r10.1 < r9.1 then (T_X11_weariest_47 n x1 x3 (x3 + (1 : Int32)) r10.2) else (T_X11_weariest_47 n x1 x2 (x3 + (1 : Int32)) r10.2)) else ((O_X9_begin [.inr (3, 9, 0, 0)] σ).bind fun r3 => (en_ix x2 7).bind fun j4 => (O_X9_add [.inr (3, 9, 0, 0), .inl (r3 21 j4)] r3).bind fun r5 => (en_ix x2 7).bind fun j6 => (en_ix x2 7).bind fun j7 => (O_X9_add [.inr (3, 9, 0, 0), .inl ((r5 23 j6) - (r5 18 j7))] r5).bind fun r8 => en_ri x2 r8)) := rfl
noncomputable def P_X11_weariest : List en_V → en_M → Option (Int32 × en_M) := fun av σ => match av with
  | [.inr (0, 11, 0, 0), .inl x1] => en_oi (T_X11_weariest_0 x1 σ)
  | _ => none
theorem ox_X11_weariest : ∃ f, f = P_X11_weariest := ⟨_, rfl⟩
noncomputable def O_X11_weariest : List en_V → en_M → Option (Int32 × en_M) := Classical.choose ox_X11_weariest
theorem oe_X11_weariest : O_X11_weariest = P_X11_weariest := Classical.choose_spec ox_X11_weariest
theorem o_X11_weariest (x1 : Int32) (σ : en_M) : O_X11_weariest [.inr (0, 11, 0, 0), .inl x1] σ = en_oi (T_X11_weariest_0 x1 σ) := by rw [oe_X11_weariest]; rfl
theorem i_X11_weariest (G : en_G) (hst : G.2.2.2.2.2 = true) : en_I G 6 yX11_weariest cX11_weariest 4 (some .int) 0 0 (en_wi (O_X11_weariest)) := en_of_i (M := M_X11_weariest) hst (s_X11_weariest_0 G hst _ (l_X11_weariest G hst en_FU)) (plainFor_of_name (by decide +kernel)) rfl rfl rfl (Or.inl ⟨rfl, rfl⟩) (fun av σ x σ' h => by
  rw [oe_X11_weariest] at h; unfold P_X11_weariest at h
  split at h
  · exact ⟨(Nat.le_of_ble_eq_true rfl), en_oi_some h⟩
  · cases h)
