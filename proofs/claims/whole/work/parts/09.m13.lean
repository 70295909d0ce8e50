-- EachMayMissOne.missed(I)I
def M_X11_missed : en_Me := (cX11_missed, RX11, 2, false, 3, false)
theorem cs_X11_missed : en_cs yX11_missed cX11_missed 2 (some .int) 1 := ⟨wm_198, wm_2, ⟨(by decide +kernel), (by decide +kernel), (by decide +kernel)⟩, (Nat.le_of_ble_eq_true rfl)⟩
noncomputable def B_X11_missed_31 (kc : Nat → en_B) : en_B := op_iret
set_option maxRecDepth 20000 in
theorem s_X11_missed_31 (G : en_G) (hst : G.2.2.2.2.2 = true) (kc : Nat → en_B) (hk : ∀ t, en_Snd G M_X11_missed t (kc t)) : en_Snd G M_X11_missed 31 (B_X11_missed_31 kc) := (sn_iret (by decide +kernel) rfl)
noncomputable def B_X11_missed_29 (kc : Nat → en_B) : en_B := (op_const (-2 : Int32) (B_X11_missed_31 kc))
set_option maxRecDepth 20000 in
theorem s_X11_missed_29 (G : en_G) (hst : G.2.2.2.2.2 = true) (kc : Nat → en_B) (hk : ∀ t, en_Snd G M_X11_missed t (kc t)) : en_Snd G M_X11_missed 29 (B_X11_missed_29 kc) := (sn_bipush (n := -2) (v := -2) (by decide +kernel) rfl (s_X11_missed_31 G hst kc hk))
noncomputable def B_X11_missed_7 (kc : Nat → en_B) : en_B := (op_aload 0 (op_gets 11 15 (7, 0, 0) (op_iload 1 (op_rcv 7 1 (op_calli O_X7_knows 2 (op_ifeq (B_X11_missed_29 kc) (op_aload 0 (op_gets 11 15 (7, 0, 0) (op_iload 1 (op_rcv 7 1 (op_calli O_X7_missedIn 2 (B_X11_missed_31 kc))))))))))))
set_option maxRecDepth 20000 in
theorem s_X11_missed_7 (G : en_G) (hst : G.2.2.2.2.2 = true) (kc : Nat → en_B) (hk : ∀ t, en_Snd G M_X11_missed t (kc t)) : en_Snd G M_X11_missed 7 (B_X11_missed_7 kc) := (sn_aload_n (i := 0) (n := 0) (by decide +kernel) rfl (sn_gets (ci := 11) (j := 3) (off := 15) hst en_c11 of_11_15 (Nat.le_of_ble_eq_true rfl) (by decide +kernel) wm_23 (Nat.le_of_ble_eq_true rfl) rfl (sn_iload_n (i := 1) (n := 1) (by decide +kernel) rfl (sn_callVi (n := 1) (idx := 296) (ci := 7) (i_X7_knows G hst) (Nat.le_of_ble_eq_true rfl) cs_X7_knows ⟨wm_1054, wm_1055, wm_201⟩ ⟨⟨_, rfl, rfl⟩, (Nat.le_of_ble_eq_true rfl)⟩ (by decide +kernel) (sn_ifeq (off := 14) (tgt := 29) (by decide +kernel) rfl (s_X11_missed_29 G hst kc hk) (sn_aload_n (i := 0) (n := 0) (by decide +kernel) rfl (sn_gets (ci := 11) (j := 3) (off := 15) hst en_c11 of_11_15 (Nat.le_of_ble_eq_true rfl) (by decide +kernel) wm_23 (Nat.le_of_ble_eq_true rfl) rfl (sn_iload_n (i := 1) (n := 1) (by decide +kernel) rfl (sn_callVi (n := 1) (idx := 299) (ci := 7) (i_X7_missedIn G hst) (Nat.le_of_ble_eq_true rfl) cs_X7_missedIn ⟨wm_1057, wm_1058, wm_202⟩ ⟨⟨_, rfl, rfl⟩, (Nat.le_of_ble_eq_true rfl)⟩ (by decide +kernel) (sn_goto (off := 5) (tgt := 31) (by decide +kernel) rfl (s_X11_missed_31 G hst kc hk)))))))))))
noncomputable def B_X11_missed_0 (kc : Nat → en_B) : en_B := (op_iload 1 (op_const (1 : Int32) (op_iclt (op_const (-1 : Int32) op_iret) (B_X11_missed_7 kc))))
set_option maxRecDepth 20000 in
theorem s_X11_missed_0 (G : en_G) (hst : G.2.2.2.2.2 = true) (kc : Nat → en_B) (hk : ∀ t, en_Snd G M_X11_missed t (kc t)) : en_Snd G M_X11_missed 0 (B_X11_missed_0 kc) := (sn_iload_n (i := 1) (n := 1) (by decide +kernel) rfl (sn_iconst (n := 1) (v := 1) (by decide +kernel) rfl (sn_icge (off := 5) (tgt := 7) (by decide +kernel) rfl (s_X11_missed_7 G hst kc hk) (sn_iconst (n := -1) (v := -1) (by decide +kernel) rfl (sn_iret (by decide +kernel) rfl)))))
noncomputable def LK_X11_missed : Nat → Nat → en_B
  | 0, _ => en_no
  | n + 1, t => en_no
theorem l_X11_missed (G : en_G) (hst : G.2.2.2.2.2 = true) : ∀ n t, en_Snd G M_X11_missed t (LK_X11_missed n t)
  | 0, _ => sn_no
  | n + 1, t => by
    show en_Snd G M_X11_missed t (en_no)
    exact sn_no
noncomputable def T_X11_missed_0 (x1 : Int32) (σ : en_M) : en_R := B_X11_missed_0 (LK_X11_missed en_FU) [.inr (0, 11, 0, 0), .inl x1] [] en_zz σ
set_option maxRecDepth 20000 in
set_option maxHeartbeats 2000000 in
theorem t_X11_missed_0 (x1 : Int32) (σ : en_M) : T_X11_missed_0 x1 σ = (if x1 < (1 : Int32) then (en_ri (-1 : Int32) σ) else ((O_X7_knows [.inr (15, 7, 0, 0), .inl x1] σ).bind fun r1 => if r1.1 = 0 then (en_ri (-2 : Int32) r1.2) else ((O_X7_missedIn [.inr (15, 7, 0, 0), .inl x1] r1.2).bind fun r2 => en_ri r2.1 r2.2))) := rfl
noncomputable def P_X11_missed : List en_V → en_M → Option (Int32 × en_M) := fun av σ => match av with
  | [.inr (0, 11, 0, 0), .inl x1] => en_oi (T_X11_missed_0 x1 σ)
  | _ => none
theorem ox_X11_missed : ∃ f, f = P_X11_missed := ⟨_, rfl⟩
noncomputable def O_X11_missed : List en_V → en_M → Option (Int32 × en_M) := Classical.choose ox_X11_missed
theorem oe_X11_missed : O_X11_missed = P_X11_missed := Classical.choose_spec ox_X11_missed
theorem o_X11_missed (x1 : Int32) (σ : en_M) : O_X11_missed [.inr (0, 11, 0, 0), .inl x1] σ = en_oi (T_X11_missed_0 x1 σ) := by rw [oe_X11_missed]; rfl
theorem i_X11_missed (G : en_G) (hst : G.2.2.2.2.2 = true) : en_I G 3 yX11_missed cX11_missed 2 (some .int) 0 0 (en_wi (O_X11_missed)) := en_of_i (M := M_X11_missed) hst (s_X11_missed_0 G hst _ (l_X11_missed G hst en_FU)) (plainFor_of_name (by decide +kernel)) rfl rfl rfl (Or.inl ⟨rfl, rfl⟩) (fun av σ x σ' h => by
  rw [oe_X11_missed] at h; unfold P_X11_missed at h
  split at h
  · exact ⟨(Nat.le_of_ble_eq_true rfl), en_oi_some h⟩
  · cases h)
-- EachMayMissOne.heard(II)I
def M_X11_heard : en_Me := (cX11_heard, RX11, 5, false, 5, false)
theorem cs_X11_heard : en_cs yX11_heard cX11_heard 5 (some .int) 2 := ⟨wm_203, wm_2, ⟨(by decide +kernel), (by decide +kernel), (by decide +kernel)⟩, (Nat.le_of_ble_eq_true rfl)⟩
noncomputable def B_X11_heard_67 (kc : Nat → en_B) : en_B := (op_aload 0 (op_gets 11 3 (9, 0, 0) (op_rcv 9 0 (op_callv O_X9_begin 1 (op_aload 0 (op_gets 11 3 (9, 0, 0) (op_iload 3 (op_rcv 9 1 (op_callv O_X9_add 2 (op_aload 0 (op_gets 11 182 (20, 201, 0) (op_iload 2 (op_ald 20 (op_iload 1 (op_calli O_X11_bellAt 2 op_iret)))))))))))))))
set_option maxRecDepth 20000 in
theorem s_X11_heard_67 (G : en_G) (hst : G.2.2.2.2.2 = true) (kc : Nat → en_B) (hk : ∀ t, en_Snd G M_X11_heard t (kc t)) : en_Snd G M_X11_heard 67 (B_X11_heard_67 kc) := (sn_aload_n (i := 0) (n := 0) (by decide +kernel) rfl (sn_gets (ci := 11) (j := 1) (off := 3) hst en_c11 of_11_3 (Nat.le_of_ble_eq_true rfl) (by decide +kernel) wm_13 (Nat.le_of_ble_eq_true rfl) rfl (sn_callVv (n := 0) (idx := 205) (ci := 9) (i_X9_begin G hst) (Nat.le_of_ble_eq_true rfl) cs_X9_begin ⟨wm_1086, wm_1087, wm_115⟩ ⟨⟨_, rfl, rfl⟩, (Nat.le_of_ble_eq_true rfl)⟩ (by decide +kernel) (sn_aload_n (i := 0) (n := 0) (by decide +kernel) rfl (sn_gets (ci := 11) (j := 1) (off := 3) hst en_c11 of_11_3 (Nat.le_of_ble_eq_true rfl) (by decide +kernel) wm_13 (Nat.le_of_ble_eq_true rfl) rfl (sn_iload_n (i := 3) (n := 3) (by decide +kernel) rfl (sn_callVv (n := 1) (idx := 209) (ci := 9) (i_X9_add G hst) (Nat.le_of_ble_eq_true rfl) cs_X9_add ⟨wm_1090, wm_1091, wm_117⟩ ⟨⟨_, rfl, rfl⟩, (Nat.le_of_ble_eq_true rfl)⟩ (by decide +kernel) (sn_aload_n (i := 0) (n := 0) (by decide +kernel) rfl (sn_gets (ci := 11) (j := 10) (off := 182) hst en_c11 of_11_182 (Nat.le_of_ble_eq_true rfl) (by decide +kernel) wm_50 (Nat.le_of_ble_eq_true rfl) rfl (sn_iload_n (i := 2) (n := 2) (by decide +kernel) rfl (sn_iald (by decide +kernel) (sn_iload_n (i := 1) (n := 1) (by decide +kernel) rfl (sn_callSi (n := 2) (idx := 174) (i_X11_bellAt G hst) (Nat.le_of_ble_eq_true rfl) cs_X11_bellAt ⟨wm_276, Or.inl wm_97⟩ (by decide +kernel) (sn_iret (by decide +kernel) rfl))))))))))))))
noncomputable def B_X11_heard_36 (kc : Nat → en_B) : en_B := (op_iload 4 (op_iload 2 (op_const (9 : Int32) (op_bin (fun (x y : Int32) => x + y) (op_icgt (B_X11_heard_67 kc) (op_iload 3 (op_const (1 : Int32) (op_aload 0 (op_gets 11 182 (20, 201, 0) (op_iload 4 (op_ald 20 (op_iload 1 (op_calli O_X11_bellAt 2 (op_bin en_shl (op_bin (fun (x y : Int32) => x ||| y) (op_istore 3 (op_iinc 4 (1 : Int32) (kc 36))))))))))))))))))
set_option maxRecDepth 20000 in
theorem s_X11_heard_36 (G : en_G) (hst : G.2.2.2.2.2 = true) (kc : Nat → en_B) (hk : ∀ t, en_Snd G M_X11_heard t (kc t)) : en_Snd G M_X11_heard 36 (B_X11_heard_36 kc) := (sn_iload (i := 4) (by decide +kernel) (sn_iload_n (i := 2) (n := 2) (by decide +kernel) rfl (sn_bipush (n := 9) (v := 9) (by decide +kernel) rfl (sn_iadd (by decide +kernel) (sn_icgt (off := 25) (tgt := 67) (by decide +kernel) rfl (s_X11_heard_67 G hst kc hk) (sn_iload_n (i := 3) (n := 3) (by decide +kernel) rfl (sn_iconst (n := 1) (v := 1) (by decide +kernel) rfl (sn_aload_n (i := 0) (n := 0) (by decide +kernel) rfl (sn_gets (ci := 11) (j := 10) (off := 182) hst en_c11 of_11_182 (Nat.le_of_ble_eq_true rfl) (by decide +kernel) wm_50 (Nat.le_of_ble_eq_true rfl) rfl (sn_iload (i := 4) (by decide +kernel) (sn_iald (by decide +kernel) (sn_iload_n (i := 1) (n := 1) (by decide +kernel) rfl (sn_callSi (n := 2) (idx := 174) (i_X11_bellAt G hst) (Nat.le_of_ble_eq_true rfl) cs_X11_bellAt ⟨wm_276, Or.inl wm_97⟩ (by decide +kernel) (sn_ishl (by decide +kernel) (sn_ior (by decide +kernel) (sn_istore_n (i := 3) (n := 3) (by decide +kernel) rfl (Nat.le_of_ble_eq_true rfl) (sn_iinc (i := 4) (n := 1) (v := 1) (by decide +kernel) rfl (sn_goto (off := -28) (tgt := 36) (by decide +kernel) rfl (hk 36)))))))))))))))))))
noncomputable def B_X11_heard_23 (kc : Nat → en_B) : en_B := (op_aload 0 (op_iload 2 (op_const (9 : Int32) (op_bin (fun (x y : Int32) => x + y) (op_rcv 11 1 (op_callv O_X11_lookAhead 2 (op_const (0 : Int32) (op_istore 3 (op_iload 2 (op_istore 4 (kc 36)))))))))))
set_option maxRecDepth 20000 in
theorem s_X11_heard_23 (G : en_G) (hst : G.2.2.2.2.2 = true) (kc : Nat → en_B) (hk : ∀ t, en_Snd G M_X11_heard t (kc t)) : en_Snd G M_X11_heard 23 (B_X11_heard_23 kc) := (sn_aload_n (i := 0) (n := 0) (by decide +kernel) rfl (sn_iload_n (i := 2) (n := 2) (by decide +kernel) rfl (sn_bipush (n := 9) (v := 9) (by decide +kernel) rfl (sn_iadd (by decide +kernel) (sn_callVv (n := 1) (idx := 242) (ci := 11) (i_X11_lookAhead G hst) (Nat.le_of_ble_eq_true rfl) cs_X11_lookAhead ⟨wm_287, wm_288, wm_143⟩ ⟨⟨_, rfl, rfl⟩, (Nat.le_of_ble_eq_true rfl)⟩ (by decide +kernel) (sn_iconst (n := 0) (v := 0) (by decide +kernel) rfl (sn_istore_n (i := 3) (n := 3) (by decide +kernel) rfl (Nat.le_of_ble_eq_true rfl) (sn_iload_n (i := 2) (n := 2) (by decide +kernel) rfl (sn_istore (i := 4) (by decide +kernel) (Nat.le_of_ble_eq_true rfl) (hk 36))))))))))
noncomputable def B_X11_heard_21 (kc : Nat → en_B) : en_B := (op_const (-1 : Int32) op_iret)
set_option maxRecDepth 20000 in
theorem s_X11_heard_21 (G : en_G) (hst : G.2.2.2.2.2 = true) (kc : Nat → en_B) (hk : ∀ t, en_Snd G M_X11_heard t (kc t)) : en_Snd G M_X11_heard 21 (B_X11_heard_21 kc) := (sn_iconst (n := -1) (v := -1) (by decide +kernel) rfl (sn_iret (by decide +kernel) rfl))
noncomputable def B_X11_heard_0 (kc : Nat → en_B) : en_B := (op_aload 0 (op_gets 11 5 (10, 0, 0) (op_iload 1 (op_rcv 10 1 (op_calli O_X10_hasRinger 2 (op_ifeq (B_X11_heard_21 kc) (op_iload 2 (op_iflt (B_X11_heard_21 kc) (op_iload 2 (op_const (60 : Int32) (op_icgt (B_X11_heard_21 kc) (B_X11_heard_23 kc))))))))))))
set_option maxRecDepth 20000 in
theorem s_X11_heard_0 (G : en_G) (hst : G.2.2.2.2.2 = true) (kc : Nat → en_B) (hk : ∀ t, en_Snd G M_X11_heard t (kc t)) : en_Snd G M_X11_heard 0 (B_X11_heard_0 kc) := (sn_aload_n (i := 0) (n := 0) (by decide +kernel) rfl (sn_gets (ci := 11) (j := 2) (off := 5) hst en_c11 of_11_5 (Nat.le_of_ble_eq_true rfl) (by decide +kernel) wm_18 (Nat.le_of_ble_eq_true rfl) rfl (sn_iload_n (i := 1) (n := 1) (by decide +kernel) rfl (sn_callVi (n := 1) (idx := 131) (ci := 10) (i_X10_hasRinger G hst) (Nat.le_of_ble_eq_true rfl) cs_X10_hasRinger ⟨wm_1115, wm_1116, wm_84⟩ ⟨⟨_, rfl, rfl⟩, (Nat.le_of_ble_eq_true rfl)⟩ (by decide +kernel) (sn_ifeq (off := 13) (tgt := 21) (by decide +kernel) rfl (s_X11_heard_21 G hst kc hk) (sn_iload_n (i := 2) (n := 2) (by decide +kernel) rfl (sn_iflt (off := 9) (tgt := 21) (by decide +kernel) rfl (s_X11_heard_21 G hst kc hk) (sn_iload_n (i := 2) (n := 2) (by decide +kernel) rfl (sn_bipush (n := 60) (v := 60) (by decide +kernel) rfl (sn_icle (off := 5) (tgt := 23) (by decide +kernel) rfl (s_X11_heard_23 G hst kc hk) (s_X11_heard_21 G hst kc hk)))))))))))
noncomputable def LK_X11_heard : Nat → Nat → en_B
  | 0, _ => en_no
  | n + 1, t => if t = 36 then B_X11_heard_36 (LK_X11_heard n) else en_no
theorem l_X11_heard (G : en_G) (hst : G.2.2.2.2.2 = true) : ∀ n t, en_Snd G M_X11_heard t (LK_X11_heard n t)
  | 0, _ => sn_no
  | n + 1, t => by
    show en_Snd G M_X11_heard t (if t = 36 then B_X11_heard_36 (LK_X11_heard n) else en_no)
    by_cases h_36 : t = 36
    · rw [if_pos h_36, h_36]; exact s_X11_heard_36 G hst _ (l_X11_heard G hst n)
    rw [if_neg h_36]
    exact sn_no
noncomputable def T_X11_heard_0 (x1 : Int32) (x2 : Int32) (σ : en_M) : en_R := B_X11_heard_0 (LK_X11_heard en_FU) [.inr (0, 11, 0, 0), .inl x1, .inl x2, en_un, en_un] [] en_zz σ
noncomputable def T_X11_heard_36 (n : Nat) (x1 : Int32) (x2 : Int32) (x3 : Int32) (x4 : Int32) (σ : en_M) : en_R := LK_X11_heard n 36 [.inr (0, 11, 0, 0), .inl x1, .inl x2, .inl x3, .inl x4] [] en_zz σ
set_option maxRecDepth 20000 in
set_option maxHeartbeats 2000000 in
theorem t_X11_heard_0 (x1 : Int32) (x2 : Int32) (σ : en_M) : T_X11_heard_0 x1 x2 σ = ((O_X10_hasRinger [.inr (5, 10, 0, 0), .inl x1] σ).bind fun r1 => if r1.1 = 0 then (en_ri (-1 : Int32) r1.2) else (if x2 < 0 then (en_ri (-1 : Int32) r1.2) else (if (60 : Int32) < x2 then (en_ri (-1 : Int32) r1.2) else ((O_X11_lookAhead [.inr (0, 11, 0, 0), .inl (x2 + (9 : Int32))] r1.2).bind fun r2 => T_X11_heard_36 en_FU x1 x2 (0 : Int32) x2 r2)))) := rfl
set_option maxRecDepth 20000 in
set_option maxHeartbeats 2000000 in
theorem t_X11_heard_36 (n : Nat) (x1 : Int32) (x2 : Int32) (x3 : Int32) (x4 : Int32) (σ : en_M) : T_X11_heard_36 (n + 1) x1 x2 x3 x4 σ = (if (x2 + (9 : Int32)) < x4 then ((O_X9_begin [.inr (3, 9, 0, 0)] σ).bind fun r3 => (O_X9_add [.inr (3, 9, 0, 0), .inl x3] r3).bind fun r4 => (en_ix x2 201).bind fun j5 => (O_X11_bellAt [.inl (r4 182 j5), .inl x1] r4).bind fun r6 => en_ri r6.1 r6.2) else ((en_ix x4 201).bind fun j7 => (O_X11_bellAt [.inl (σ 182 j7), .inl x1] σ).bind fun r8 => T_X11_heard_36 n x1 x2 (x3 ||| (en_shl (1 : Int32) r8.1)) (x4 + (1 : Int32)) r8.2)) := rfl
noncomputable def P_X11_heard : List en_V → en_M → Option (Int32 × en_M) := fun av σ => match av with
  | [.inr (0, 11, 0, 0), .inl x1, .inl x2] => en_oi (T_X11_heard_0 x1 x2 σ)
  | _ => none
theorem ox_X11_heard : ∃ f, f = P_X11_heard := ⟨_, rfl⟩
noncomputable def O_X11_heard : List en_V → en_M → Option (Int32 × en_M) := Classical.choose ox_X11_heard
theorem oe_X11_heard : O_X11_heard = P_X11_heard := Classical.choose_spec ox_X11_heard
theorem o_X11_heard (x1 : Int32) (x2 : Int32) (σ : en_M) : O_X11_heard [.inr (0, 11, 0, 0), .inl x1, .inl x2] σ = en_oi (T_X11_heard_0 x1 x2 σ) := by rw [oe_X11_heard]; rfl
theorem i_X11_heard (G : en_G) (hst : G.2.2.2.2.2 = true) : en_I G 5 yX11_heard cX11_heard 5 (some .int) 0 0 (en_wi (O_X11_heard)) := en_of_i (M := M_X11_heard) hst (s_X11_heard_0 G hst _ (l_X11_heard G hst en_FU)) (plainFor_of_name (by decide +kernel)) rfl rfl rfl (Or.inl ⟨rfl, rfl⟩) (fun av σ x σ' h => by
  rw [oe_X11_heard] at h; unfold P_X11_heard at h
  split at h
  · exact ⟨(Nat.le_of_ble_eq_true rfl), en_oi_some h⟩
  · cases h)
-- EachMayMissOne.readGaps()I
def M_X11_readGaps : en_Me := (cX11_readGaps, RX11, 3, false, 5, false)
theorem cs_X11_readGaps : en_cs yX11_readGaps cX11_readGaps 3 (some .int) 0 := ⟨wm_322, wm_2, ⟨(by decide +kernel), (by decide +kernel), (by decide +kernel)⟩, (Nat.le_of_ble_eq_true rfl)⟩
noncomputable def B_X11_readGaps_110 (kc : Nat → en_B) : en_B := op_iret
set_option maxRecDepth 20000 in
theorem s_X11_readGaps_110 (G : en_G) (hst : G.2.2.2.2.2 = true) (kc : Nat → en_B) (hk : ∀ t, en_Snd G M_X11_readGaps t (kc t)) : en_Snd G M_X11_readGaps 110 (B_X11_readGaps_110 kc) := (sn_iret (by decide +kernel) rfl)
noncomputable def B_X11_readGaps_106 (kc : Nat → en_B) : en_B := (op_iload 1 (op_calli O_X11_cannotStand 1 (B_X11_readGaps_110 kc)))
set_option maxRecDepth 20000 in
theorem s_X11_readGaps_106 (G : en_G) (hst : G.2.2.2.2.2 = true) (kc : Nat → en_B) (hk : ∀ t, en_Snd G M_X11_readGaps t (kc t)) : en_Snd G M_X11_readGaps 106 (B_X11_readGaps_106 kc) := (sn_iload_n (i := 1) (n := 1) (by decide +kernel) rfl (sn_callSi (n := 1) (idx := 377) (i_X11_cannotStand G hst) (Nat.le_of_ble_eq_true rfl) cs_X11_cannotStand ⟨wm_274, Or.inl wm_321⟩ (by decide +kernel) (s_X11_readGaps_110 G hst kc hk)))
noncomputable def B_X11_readGaps_93 (kc : Nat → en_B) : en_B := (op_iload 2 (op_const (-1 : Int32) (op_iceq (op_iload 1 (op_ifgt (op_iload 1 (B_X11_readGaps_110 kc)) (B_X11_readGaps_106 kc))) (B_X11_readGaps_106 kc))))
set_option maxRecDepth 20000 in
theorem s_X11_readGaps_93 (G : en_G) (hst : G.2.2.2.2.2 = true) (kc : Nat → en_B) (hk : ∀ t, en_Snd G M_X11_readGaps t (kc t)) : en_Snd G M_X11_readGaps 93 (B_X11_readGaps_93 kc) := (sn_iload_n (i := 2) (n := 2) (by decide +kernel) rfl (sn_iconst (n := -1) (v := -1) (by decide +kernel) rfl (sn_icne (off := 11) (tgt := 106) (by decide +kernel) rfl (s_X11_readGaps_106 G hst kc hk) (sn_iload_n (i := 1) (n := 1) (by decide +kernel) rfl (sn_ifle (off := 7) (tgt := 106) (by decide +kernel) rfl (s_X11_readGaps_106 G hst kc hk) (sn_iload_n (i := 1) (n := 1) (by decide +kernel) rfl (sn_goto (off := 7) (tgt := 110) (by decide +kernel) rfl (s_X11_readGaps_110 G hst kc hk))))))))
noncomputable def B_X11_readGaps_75 (kc : Nat → en_B) : en_B := (op_ast 20 (fun (x : Int32) => x) (op_iinc 1 (1 : Int32) (op_aload 0 (op_gets 11 1 (8, 0, 0) (op_iload 1 (op_const (14 : Int32) (op_rcv 8 2 (op_calli O_X8_at 3 (op_istore 2 (kc 19))))))))))
set_option maxRecDepth 20000 in
theorem s_X11_readGaps_75 (G : en_G) (hst : G.2.2.2.2.2 = true) (kc : Nat → en_B) (hk : ∀ t, en_Snd G M_X11_readGaps t (kc t)) : en_Snd G M_X11_readGaps 75 (B_X11_readGaps_75 kc) := (sn_iast (by decide +kernel) (sn_iinc (i := 1) (n := 1) (v := 1) (by decide +kernel) rfl (sn_aload_n (i := 0) (n := 0) (by decide +kernel) rfl (sn_gets (ci := 11) (j := 0) (off := 1) hst en_c11 of_11_1 (Nat.le_of_ble_eq_true rfl) (by decide +kernel) wm_8 (Nat.le_of_ble_eq_true rfl) rfl (sn_iload_n (i := 1) (n := 1) (by decide +kernel) rfl (sn_bipush (n := 14) (v := 14) (by decide +kernel) rfl (sn_callVi (n := 2) (idx := 374) (ci := 8) (i_X8_at G hst) (Nat.le_of_ble_eq_true rfl) cs_X8_at ⟨wm_1079, wm_1080, wm_320⟩ ⟨⟨_, rfl, rfl⟩, (Nat.le_of_ble_eq_true rfl)⟩ (by decide +kernel) (sn_istore_n (i := 2) (n := 2) (by decide +kernel) rfl (Nat.le_of_ble_eq_true rfl) (sn_goto (off := -71) (tgt := 19) (by decide +kernel) rfl (hk 19))))))))))
noncomputable def B_X11_readGaps_60 (kc : Nat → en_B) : en_B := (op_const (1 : Int32) (op_aload 0 (op_gets 11 182 (20, 201, 0) (op_iload 1 (op_ald 20 (op_iload 2 (op_const (49 : Int32) (op_bin (fun (x y : Int32) => x - y) (op_calli O_X11_bellAt 2 (op_bin en_shl (B_X11_readGaps_75 kc)))))))))))
set_option maxRecDepth 20000 in
theorem s_X11_readGaps_60 (G : en_G) (hst : G.2.2.2.2.2 = true) (kc : Nat → en_B) (hk : ∀ t, en_Snd G M_X11_readGaps t (kc t)) : en_Snd G M_X11_readGaps 60 (B_X11_readGaps_60 kc) := (sn_iconst (n := 1) (v := 1) (by decide +kernel) rfl (sn_aload_n (i := 0) (n := 0) (by decide +kernel) rfl (sn_gets (ci := 11) (j := 10) (off := 182) hst en_c11 of_11_182 (Nat.le_of_ble_eq_true rfl) (by decide +kernel) wm_50 (Nat.le_of_ble_eq_true rfl) rfl (sn_iload_n (i := 1) (n := 1) (by decide +kernel) rfl (sn_iald (by decide +kernel) (sn_iload_n (i := 2) (n := 2) (by decide +kernel) rfl (sn_bipush (n := 49) (v := 49) (by decide +kernel) rfl (sn_isub (by decide +kernel) (sn_callSi (n := 2) (idx := 174) (i_X11_bellAt G hst) (Nat.le_of_ble_eq_true rfl) cs_X11_bellAt ⟨wm_276, Or.inl wm_97⟩ (by decide +kernel) (sn_ishl (by decide +kernel) (s_X11_readGaps_75 G hst kc hk)))))))))))
noncomputable def B_X11_readGaps_45 (kc : Nat → en_B) : en_B := (op_aload 0 (op_gets 11 183 (20, 60, 0) (op_iload 1 (op_iload 2 (op_const (45 : Int32) (op_iceq (op_const (0 : Int32) (B_X11_readGaps_75 kc)) (B_X11_readGaps_60 kc)))))))
set_option maxRecDepth 20000 in
theorem s_X11_readGaps_45 (G : en_G) (hst : G.2.2.2.2.2 = true) (kc : Nat → en_B) (hk : ∀ t, en_Snd G M_X11_readGaps t (kc t)) : en_Snd G M_X11_readGaps 45 (B_X11_readGaps_45 kc) := (sn_aload_n (i := 0) (n := 0) (by decide +kernel) rfl (sn_gets (ci := 11) (j := 11) (off := 183) hst en_c11 of_11_183 (Nat.le_of_ble_eq_true rfl) (by decide +kernel) wm_51 (Nat.le_of_ble_eq_true rfl) rfl (sn_iload_n (i := 1) (n := 1) (by decide +kernel) rfl (sn_iload_n (i := 2) (n := 2) (by decide +kernel) rfl (sn_bipush (n := 45) (v := 45) (by decide +kernel) rfl (sn_icne (off := 7) (tgt := 60) (by decide +kernel) rfl (s_X11_readGaps_60 G hst kc hk) (sn_iconst (n := 0) (v := 0) (by decide +kernel) rfl (sn_goto (off := 18) (tgt := 75) (by decide +kernel) rfl (s_X11_readGaps_75 G hst kc hk)))))))))
noncomputable def B_X11_readGaps_19 (kc : Nat → en_B) : en_B := (op_iload 1 (op_const (14 : Int32) (op_iclt (op_iload 2 (op_const (45 : Int32) (op_iceq (B_X11_readGaps_45 kc) (op_aload 0 (op_gets 11 5 (10, 0, 0) (op_iload 2 (op_const (49 : Int32) (op_bin (fun (x y : Int32) => x - y) (op_rcv 10 1 (op_calli O_X10_hasRinger 2 (op_ifeq (B_X11_readGaps_93 kc) (B_X11_readGaps_45 kc)))))))))))) (B_X11_readGaps_93 kc))))
set_option maxRecDepth 20000 in
theorem s_X11_readGaps_19 (G : en_G) (hst : G.2.2.2.2.2 = true) (kc : Nat → en_B) (hk : ∀ t, en_Snd G M_X11_readGaps t (kc t)) : en_Snd G M_X11_readGaps 19 (B_X11_readGaps_19 kc) := (sn_iload_n (i := 1) (n := 1) (by decide +kernel) rfl (sn_bipush (n := 14) (v := 14) (by decide +kernel) rfl (sn_icge (off := 71) (tgt := 93) (by decide +kernel) rfl (s_X11_readGaps_93 G hst kc hk) (sn_iload_n (i := 2) (n := 2) (by decide +kernel) rfl (sn_bipush (n := 45) (v := 45) (by decide +kernel) rfl (sn_iceq (off := 17) (tgt := 45) (by decide +kernel) rfl (s_X11_readGaps_45 G hst kc hk) (sn_aload_n (i := 0) (n := 0) (by decide +kernel) rfl (sn_gets (ci := 11) (j := 2) (off := 5) hst en_c11 of_11_5 (Nat.le_of_ble_eq_true rfl) (by decide +kernel) wm_18 (Nat.le_of_ble_eq_true rfl) rfl (sn_iload_n (i := 2) (n := 2) (by decide +kernel) rfl (sn_bipush (n := 49) (v := 49) (by decide +kernel) rfl (sn_isub (by decide +kernel) (sn_callVi (n := 1) (idx := 131) (ci := 10) (i_X10_hasRinger G hst) (Nat.le_of_ble_eq_true rfl) cs_X10_hasRinger ⟨wm_1115, wm_1116, wm_84⟩ ⟨⟨_, rfl, rfl⟩, (Nat.le_of_ble_eq_true rfl)⟩ (by decide +kernel) (sn_ifeq (off := 51) (tgt := 93) (by decide +kernel) rfl (s_X11_readGaps_93 G hst kc hk) (s_X11_readGaps_45 G hst kc hk))))))))))))))
noncomputable def B_X11_readGaps_0 (kc : Nat → en_B) : en_B := (op_aload 0 (op_const (14 : Int32) (op_rcv 11 1 (op_callv O_X11_lookAhead 2 (op_const (0 : Int32) (op_istore 1 (op_aload 0 (op_gets 11 1 (8, 0, 0) (op_iload 1 (op_const (14 : Int32) (op_rcv 8 2 (op_calli O_X8_at 3 (op_istore 2 (kc 19))))))))))))))
set_option maxRecDepth 20000 in
theorem s_X11_readGaps_0 (G : en_G) (hst : G.2.2.2.2.2 = true) (kc : Nat → en_B) (hk : ∀ t, en_Snd G M_X11_readGaps t (kc t)) : en_Snd G M_X11_readGaps 0 (B_X11_readGaps_0 kc) := (sn_aload_n (i := 0) (n := 0) (by decide +kernel) rfl (sn_bipush (n := 14) (v := 14) (by decide +kernel) rfl (sn_callVv (n := 1) (idx := 242) (ci := 11) (i_X11_lookAhead G hst) (Nat.le_of_ble_eq_true rfl) cs_X11_lookAhead ⟨wm_287, wm_288, wm_143⟩ ⟨⟨_, rfl, rfl⟩, (Nat.le_of_ble_eq_true rfl)⟩ (by decide +kernel) (sn_iconst (n := 0) (v := 0) (by decide +kernel) rfl (sn_istore_n (i := 1) (n := 1) (by decide +kernel) rfl (Nat.le_of_ble_eq_true rfl) (sn_aload_n (i := 0) (n := 0) (by decide +kernel) rfl (sn_gets (ci := 11) (j := 0) (off := 1) hst en_c11 of_11_1 (Nat.le_of_ble_eq_true rfl) (by decide +kernel) wm_8 (Nat.le_of_ble_eq_true rfl) rfl (sn_iload_n (i := 1) (n := 1) (by decide +kernel) rfl (sn_bipush (n := 14) (v := 14) (by decide +kernel) rfl (sn_callVi (n := 2) (idx := 374) (ci := 8) (i_X8_at G hst) (Nat.le_of_ble_eq_true rfl) cs_X8_at ⟨wm_1079, wm_1080, wm_320⟩ ⟨⟨_, rfl, rfl⟩, (Nat.le_of_ble_eq_true rfl)⟩ (by decide +kernel) (sn_istore_n (i := 2) (n := 2) (by decide +kernel) rfl (Nat.le_of_ble_eq_true rfl) (hk 19))))))))))))
noncomputable def LK_X11_readGaps : Nat → Nat → en_B
  | 0, _ => en_no
  | n + 1, t => if t = 19 then B_X11_readGaps_19 (LK_X11_readGaps n) else en_no
theorem l_X11_readGaps (G : en_G) (hst : G.2.2.2.2.2 = true) : ∀ n t, en_Snd G M_X11_readGaps t (LK_X11_readGaps n t)
  | 0, _ => sn_no
  | n + 1, t => by
    show en_Snd G M_X11_readGaps t (if t = 19 then B_X11_readGaps_19 (LK_X11_readGaps n) else en_no)
    by_cases h_19 : t = 19
    · rw [if_pos h_19, h_19]; exact s_X11_readGaps_19 G hst _ (l_X11_readGaps G hst n)
    rw [if_neg h_19]
    exact sn_no
noncomputable def T_X11_readGaps_0 (σ : en_M) : en_R := B_X11_readGaps_0 (LK_X11_readGaps en_FU) [.inr (0, 11, 0, 0), en_un, en_un] [] en_zz σ
noncomputable def T_X11_readGaps_19 (n : Nat) (x1 : Int32) (x2 : Int32) (σ : en_M) : en_R := LK_X11_readGaps n 19 [.inr (0, 11, 0, 0), .inl x1, .inl x2] [] en_zz σ
set_option maxRecDepth 20000 in
set_option maxHeartbeats 2000000 in
theorem t_X11_readGaps_0 (σ : en_M) : T_X11_readGaps_0 σ = ((O_X11_lookAhead [.inr (0, 11, 0, 0), .inl (14 : Int32)] σ).bind fun r1 => (O_X8_at [.inr (1, 8, 0, 0), .inl (0 : Int32), .inl (14 : Int32)] r1).bind fun r2 => T_X11_readGaps_19 en_FU (0 : Int32) r2.1 r2.2) := rfl
set_option maxRecDepth 20000 in
set_option maxHeartbeats 2000000 in
theorem t_X11_readGaps_19 (n : Nat) (x1 : Int32) (x2 : Int32) (σ : en_M) : T_X11_readGaps_19 (n + 1) x1 x2 σ = (if x1 < (14 : Int32) then (if x2 = (45 : Int32) then (if x2 = (45 : Int32) then ((en_ix x1 60).bind fun j9 => (O_X8_at [.inr (1, 8, 0, 0), .inl (x1 + (1 : Int32)), .inl (14 : Int32)] (en_up σ 183 j9 (0 : Int32))).bind fun r10 => T_X11_readGaps_19 n (x1 + (1 : Int32)) r10.1 r10.2) else ((en_ix x1 201).bind fun j5 => (O_X11_bellAt [.inl (σ 182 j5), .inl (x2 - (49 : Int32))] σ).bind fun r6 => (en_ix x1 60).bind fun j7 => (O_X8_at [.inr (1, 8, 0, 0), .inl (x1 + (1 : Int32)), .inl (14 : Int32)] (en_up r6.2 183 j7 (en_shl (1 : Int32) r6.1))).bind fun r8 => T_X11_readGaps_19 n (x1 + (1 : Int32)) r8.1 r8.2)) else ((O_X10_hasRinger [.inr (5, 10, 0, 0), .inl (x2 - (49 : Int32))] σ).bind fun r11 => if r11.1 = 0 then (if x2 = (-1 : Int32) then (if 0 < x1 then (en_ri x1 r11.2) else ((O_X11_cannotStand [.inl x1] r11.2).bind fun r13 => en_ri r13.1 r13.2)) else ((O_X11_cannotStand [.inl x1] r11.2).bind fun r12 => en_ri r12.1 r12.2)) else (if x2 = (45 : Int32) then ((en_ix x1 60).bind fun j18 => (O_X8_at [.inr (1, 8, 0, 0), .inl (x1 + (1 : Int32)), .inl (14 : Int32)] (en_up r11.2 183 j18 (0 : Int32))).bind fun r19 => T_X11_readGaps_19 n (x1 + (1 : Int32)) r19.1 r19.2) else ((en_ix x1 201).bind fun j14 => (O_X11_bellAt [.inl (r11.2 182 j14), .inl (x2 - (49 : Int32))] r11.2).bind fun r15 => (en_ix x1 60).bind fun j16 => (O_X8_at [.inr (1, 8, 0, 0), .inl (x1 + (1 : Int32)), .inl (14 : Int32)] (en_up r15.2 183 j16 (en_shl (1 : Int32) r15.1))).bind fun r17 => T_X11_readGaps_19 n (x1 + (1 : Int32)) r17.1 r17.2)))) else (if x2 = (-1 : Int32) then (if 0 < x1 then (en_ri x1 σ) else ((O_X11_cannotStand [.inl x1] σ).bind fun r4 => en_ri r4.1 r4.2)) else ((O_X11_cannotStand [.inl x1] σ).bind fun r3 => en_ri r3.1 r3.2))) := rfl
noncomputable def P_X11_readGaps : List en_V → en_M → Option (Int32 × en_M) := fun av σ => match av with
  | [.inr (0, 11, 0, 0)] => en_oi (T_X11_readGaps_0 σ)
  | _ => none
theorem ox_X11_readGaps : ∃ f, f = P_X11_readGaps := ⟨_, rfl⟩
noncomputable def O_X11_readGaps : List en_V → en_M → Option (Int32 × en_M) := Classical.choose ox_X11_readGaps
theorem oe_X11_readGaps : O_X11_readGaps = P_X11_readGaps := Classical.choose_spec ox_X11_readGaps
theorem o_X11_readGaps (σ : en_M) : O_X11_readGaps [.inr (0, 11, 0, 0)] σ = en_oi (T_X11_readGaps_0 σ) := by rw [oe_X11_readGaps]; rfl
theorem i_X11_readGaps (G : en_G) (hst : G.2.2.2.2.2 = true) : en_I G 5 yX11_readGaps cX11_readGaps 3 (some .int) 0 0 (en_wi (O_X11_readGaps)) := en_of_i (M := M_X11_readGaps) hst (s_X11_readGaps_0 G hst _ (l_X11_readGaps G hst en_FU)) (plainFor_of_name (by decide +kernel)) rfl rfl rfl (Or.inl ⟨rfl, rfl⟩) (fun av σ x σ' h => by
  rw [oe_X11_readGaps] at h; unfold P_X11_readGaps at h
  split at h
  · exact ⟨(Nat.le_of_ble_eq_true rfl), en_oi_some h⟩
  · cases h)
-- EachMayMissOne.reads()I
def M_X11_reads : en_Me := (cX11_reads, RX11, 3, false, 6, false)
theorem cs_X11_reads : en_cs yX11_reads cX11_reads 3 (some .int) 0 := ⟨wm_206, wm_2, ⟨(by decide +kernel), (by decide +kernel), (by decide +kernel)⟩, (Nat.le_of_ble_eq_true rfl)⟩
noncomputable def B_X11_reads_69 (kc : Nat → en_B) : en_B := (op_aload 0 (op_iload 1 (op_rcv 11 1 (op_calli O_X11_lawfulRounds 2 op_iret))))
set_option maxRecDepth 20000 in
theorem s_X11_reads_69 (G : en_G) (hst : G.2.2.2.2.2 = true) (kc : Nat → en_B) (hk : ∀ t, en_Snd G M_X11_reads t (kc t)) : en_Snd G M_X11_reads 69 (B_X11_reads_69 kc) := (sn_aload_n (i := 0) (n := 0) (by decide +kernel) rfl (sn_iload_n (i := 1) (n := 1) (by decide +kernel) rfl (sn_callVi (n := 1) (idx := 308) (ci := 11) (i_X11_lawfulRounds G hst) (Nat.le_of_ble_eq_true rfl) cs_X11_lawfulRounds ⟨wm_298, wm_299, wm_211⟩ ⟨⟨_, rfl, rfl⟩, (Nat.le_of_ble_eq_true rfl)⟩ (by decide +kernel) (sn_iret (by decide +kernel) rfl))))
noncomputable def B_X11_reads_42 (kc : Nat → en_B) : en_B := (op_iload 2 (op_iload 1 (op_iclt (op_aload 0 (op_gets 11 3 (9, 0, 0) (op_aload 0 (op_gets 11 183 (20, 60, 0) (op_iload 2 (op_ald 20 (op_calli O_X11_firstOf 1 (op_rcv 9 1 (op_callv O_X9_add 2 (op_iinc 2 (1 : Int32) (kc 42))))))))))) (B_X11_reads_69 kc))))
set_option maxRecDepth 20000 in
theorem s_X11_reads_42 (G : en_G) (hst : G.2.2.2.2.2 = true) (kc : Nat → en_B) (hk : ∀ t, en_Snd G M_X11_reads t (kc t)) : en_Snd G M_X11_reads 42 (B_X11_reads_42 kc) := (sn_iload_n (i := 2) (n := 2) (by decide +kernel) rfl (sn_iload_n (i := 1) (n := 1) (by decide +kernel) rfl (sn_icge (off := 25) (tgt := 69) (by decide +kernel) rfl (s_X11_reads_69 G hst kc hk) (sn_aload_n (i := 0) (n := 0) (by decide +kernel) rfl (sn_gets (ci := 11) (j := 1) (off := 3) hst en_c11 of_11_3 (Nat.le_of_ble_eq_true rfl) (by decide +kernel) wm_13 (Nat.le_of_ble_eq_true rfl) rfl (sn_aload_n (i := 0) (n := 0) (by decide +kernel) rfl (sn_gets (ci := 11) (j := 11) (off := 183) hst en_c11 of_11_183 (Nat.le_of_ble_eq_true rfl) (by decide +kernel) wm_51 (Nat.le_of_ble_eq_true rfl) rfl (sn_iload_n (i := 2) (n := 2) (by decide +kernel) rfl (sn_iald (by decide +kernel) (sn_callSi (n := 1) (idx := 305) (i_X11_firstOf G hst) (Nat.le_of_ble_eq_true rfl) cs_X11_firstOf ⟨wm_259, Or.inl wm_210⟩ (by decide +kernel) (sn_callVv (n := 1) (idx := 209) (ci := 9) (i_X9_add G hst) (Nat.le_of_ble_eq_true rfl) cs_X9_add ⟨wm_1090, wm_1091, wm_117⟩ ⟨⟨_, rfl, rfl⟩, (Nat.le_of_ble_eq_true rfl)⟩ (by decide +kernel) (sn_iinc (i := 2) (n := 1) (v := 1) (by decide +kernel) rfl (sn_goto (off := -24) (tgt := 42) (by decide +kernel) rfl (hk 42))))))))))))))
noncomputable def B_X11_reads_33 (kc : Nat → en_B) : en_B := (op_aload 0 (op_gets 11 3 (9, 0, 0) (op_rcv 9 0 (op_callv O_X9_begin 1 (op_const (0 : Int32) (op_istore 2 (kc 42)))))))
set_option maxRecDepth 20000 in
theorem s_X11_reads_33 (G : en_G) (hst : G.2.2.2.2.2 = true) (kc : Nat → en_B) (hk : ∀ t, en_Snd G M_X11_reads t (kc t)) : en_Snd G M_X11_reads 33 (B_X11_reads_33 kc) := (sn_aload_n (i := 0) (n := 0) (by decide +kernel) rfl (sn_gets (ci := 11) (j := 1) (off := 3) hst en_c11 of_11_3 (Nat.le_of_ble_eq_true rfl) (by decide +kernel) wm_13 (Nat.le_of_ble_eq_true rfl) rfl (sn_callVv (n := 0) (idx := 205) (ci := 9) (i_X9_begin G hst) (Nat.le_of_ble_eq_true rfl) cs_X9_begin ⟨wm_1086, wm_1087, wm_115⟩ ⟨⟨_, rfl, rfl⟩, (Nat.le_of_ble_eq_true rfl)⟩ (by decide +kernel) (sn_iconst (n := 0) (v := 0) (by decide +kernel) rfl (sn_istore_n (i := 2) (n := 2) (by decide +kernel) rfl (Nat.le_of_ble_eq_true rfl) (hk 42))))))
noncomputable def B_X11_reads_19 (kc : Nat → en_B) : en_B := (op_istore 1 (op_aload 0 (op_gets 11 1 (8, 0, 0) (op_rcv 8 0 (op_callv O_X8_clear 1 (op_iload 1 (op_iflt (op_iload 1 op_iret) (B_X11_reads_33 kc))))))))
set_option maxRecDepth 20000 in
theorem s_X11_reads_19 (G : en_G) (hst : G.2.2.2.2.2 = true) (kc : Nat → en_B) (hk : ∀ t, en_Snd G M_X11_reads t (kc t)) : en_Snd G M_X11_reads 19 (B_X11_reads_19 kc) := (sn_istore_n (i := 1) (n := 1) (by decide +kernel) rfl (Nat.le_of_ble_eq_true rfl) (sn_aload_n (i := 0) (n := 0) (by decide +kernel) rfl (sn_gets (ci := 11) (j := 0) (off := 1) hst en_c11 of_11_1 (Nat.le_of_ble_eq_true rfl) (by decide +kernel) wm_8 (Nat.le_of_ble_eq_true rfl) rfl (sn_callVv (n := 0) (idx := 100) (ci := 8) (i_X8_clear G hst) (Nat.le_of_ble_eq_true rfl) cs_X8_clear ⟨wm_1076, wm_1077, wm_66⟩ ⟨⟨_, rfl, rfl⟩, (Nat.le_of_ble_eq_true rfl)⟩ (by decide +kernel) (sn_iload_n (i := 1) (n := 1) (by decide +kernel) rfl (sn_ifge (off := 5) (tgt := 33) (by decide +kernel) rfl (s_X11_reads_33 G hst kc hk) (sn_iload_n (i := 1) (n := 1) (by decide +kernel) rfl (sn_iret (by decide +kernel) rfl))))))))
noncomputable def B_X11_reads_15 (kc : Nat → en_B) : en_B := (op_aload 0 (op_rcv 11 0 (op_calli O_X11_readGaps 1 (B_X11_reads_19 kc))))
set_option maxRecDepth 20000 in
theorem s_X11_reads_15 (G : en_G) (hst : G.2.2.2.2.2 = true) (kc : Nat → en_B) (hk : ∀ t, en_Snd G M_X11_reads t (kc t)) : en_Snd G M_X11_reads 15 (B_X11_reads_15 kc) := (sn_aload_n (i := 0) (n := 0) (by decide +kernel) rfl (sn_callVi (n := 0) (idx := 302) (ci := 11) (i_X11_readGaps G hst) (Nat.le_of_ble_eq_true rfl) cs_X11_readGaps ⟨wm_323, wm_324, wm_209⟩ ⟨⟨_, rfl, rfl⟩, (Nat.le_of_ble_eq_true rfl)⟩ (by decide +kernel) (s_X11_reads_19 G hst kc hk)))
noncomputable def B_X11_reads_0 (kc : Nat → en_B) : en_B := (op_aload 0 (op_gets 11 5 (10, 0, 0) (op_geti 10 3 (op_ifeq (op_const (-100 : Int32) (B_X11_reads_19 kc)) (B_X11_reads_15 kc)))))
set_option maxRecDepth 20000 in
theorem s_X11_reads_0 (G : en_G) (hst : G.2.2.2.2.2 = true) (kc : Nat → en_B) (hk : ∀ t, en_Snd G M_X11_reads t (kc t)) : en_Snd G M_X11_reads 0 (B_X11_reads_0 kc) := (sn_aload_n (i := 0) (n := 0) (by decide +kernel) rfl (sn_gets (ci := 11) (j := 2) (off := 5) hst en_c11 of_11_5 (Nat.le_of_ble_eq_true rfl) (by decide +kernel) wm_18 (Nat.le_of_ble_eq_true rfl) rfl (sn_geti (ci := 10) (j := 3) en_c10 (by decide +kernel) wm_74 (Nat.le_of_ble_eq_true rfl) rfl (sn_ifne (off := 8) (tgt := 15) (by decide +kernel) rfl (s_X11_reads_15 G hst kc hk) (sn_bipush (n := -100) (v := -100) (by decide +kernel) rfl (sn_goto (off := 7) (tgt := 19) (by decide +kernel) rfl (s_X11_reads_19 G hst kc hk)))))))
noncomputable def LK_X11_reads : Nat → Nat → en_B
  | 0, _ => en_no
  | n + 1, t => if t = 42 then B_X11_reads_42 (LK_X11_reads n) else en_no
theorem l_X11_reads (G : en_G) (hst : G.2.2.2.2.2 = true) : ∀ n t, en_Snd G M_X11_reads t (LK_X11_reads n t)
  | 0, _ => sn_no
  | n + 1, t => by
    show en_Snd G M_X11_reads t (if t = 42 then B_X11_reads_42 (LK_X11_reads n) else en_no)
    by_cases h_42 : t = 42
    · rw [if_pos h_42, h_42]; exact s_X11_reads_42 G hst _ (l_X11_reads G hst n)
    rw [if_neg h_42]
    exact sn_no
noncomputable def T_X11_reads_0 (σ : en_M) : en_R := B_X11_reads_0 (LK_X11_reads en_FU) [.inr (0, 11, 0, 0), en_un, en_un] [] en_zz σ
noncomputable def T_X11_reads_42 (n : Nat) (x1 : Int32) (x2 : Int32) (σ : en_M) : en_R := LK_X11_reads n 42 [.inr (0, 11, 0, 0), .inl x1, .inl x2] [] en_zz σ
set_option maxRecDepth 20000 in
set_option maxHeartbeats 2000000 in
theorem t_X11_reads_0 (σ : en_M) : T_X11_reads_0 σ = (if (σ 5 3) = 0 then ((O_X8_clear [.inr (1, 8, 0, 0)] σ).bind fun r4 => if (-100 : Int32) < 0 then (en_ri (-100 : Int32) r4) else ((O_X9_begin [.inr (3, 9, 0, 0)] r4).bind fun r5 => T_X11_reads_42 en_FU (-100 : Int32) (0 : Int32) r5)) else ((O_X11_readGaps [.inr (0, 11, 0, 0)] σ).bind fun r1 => (O_X8_clear [.inr (1, 8, 0, 0)] r1.2).bind fun r2 => if r1.1 < 0 then (en_ri r1.1 r2) else ((O_X9_begin [.inr (3, 9, 0, 0)] r2).bind fun r3 => T_X11_reads_42 en_FU r1.1 (0 : Int32) r3))) := rfl
set_option maxRecDepth 20000 in
set_option maxHeartbeats 2000000 in
theorem t_X11_reads_42 (n : Nat) (x1 : Int32) (x2 : Int32) (σ : en_M) : T_X11_reads_42 (n + 1) x1 x2 σ = (if x2 < x1 then ((en_ix x2 60).bind fun j7 => (O_X11_firstOf [.inl (σ 183 j7)] σ).bind fun r8 => (O_X9_add [.inr (3, 9, 0, 0), .inl r8.1] r8.2).bind fun r9 => T_X11_reads_42 n x1 (x2 + (1 : Int32)) r9) else ((O_X11_lawfulRounds [.inr (0, 11, 0, 0), .inl x1] σ).bind fun r6 => en_ri r6.1 r6.2)) := rfl
noncomputable def P_X11_reads : List en_V → en_M → Option (Int32 × en_M) := fun av σ => match av with
  | [.inr (0, 11, 0, 0)] => en_oi (T_X11_reads_0 σ)
  | _ => none
theorem ox_X11_reads : ∃ f, f = P_X11_reads := ⟨_, rfl⟩
noncomputable def O_X11_reads : List en_V → en_M → Option (Int32 × en_M) := Classical.choose ox_X11_reads
theorem oe_X11_reads : O_X11_reads = P_X11_reads := Classical.choose_spec ox_X11_reads
theorem o_X11_reads (σ : en_M) : O_X11_reads [.inr (0, 11, 0, 0)] σ = en_oi (T_X11_reads_0 σ) := by rw [oe_X11_reads]; rfl
theorem i_X11_reads (G : en_G) (hst : G.2.2.2.2.2 = true) : en_I G 6 yX11_reads cX11_reads 3 (some .int) 0 0 (en_wi (O_X11_reads)) := en_of_i (M := M_X11_reads) hst (s_X11_reads_0 G hst _ (l_X11_reads G hst en_FU)) (plainFor_of_name (by decide +kernel)) rfl rfl rfl (Or.inl ⟨rfl, rfl⟩) (fun av σ x σ' h => by
  rw [oe_X11_reads] at h; unfold P_X11_reads at h
  split at h
  · exact ⟨(Nat.le_of_ble_eq_true rfl), en_oi_some h⟩
  · cases h)
-- EachMayMissOne.said(I)I
def M_X11_said : en_Me := (cX11_said, RX11, 6, false, 3, false)
theorem cs_X11_said : en_cs yX11_said cX11_said 6 (some .int) 1 := ⟨wm_212, wm_2, ⟨(by decide +kernel), (by decide +kernel), (by decide +kernel)⟩, (Nat.le_of_ble_eq_true rfl)⟩
noncomputable def B_X11_said_100 (kc : Nat → en_B) : en_B := (op_aload 0 (op_gets 11 3 (9, 0, 0) (op_rcv 9 0 (op_callv O_X9_begin 1 (op_aload 0 (op_gets 11 3 (9, 0, 0) (op_iload 3 (op_rcv 9 1 (op_callv O_X9_add 2 (op_iload 2 op_iret))))))))))
set_option maxRecDepth 20000 in
theorem s_X11_said_100 (G : en_G) (hst : G.2.2.2.2.2 = true) (kc : Nat → en_B) (hk : ∀ t, en_Snd G M_X11_said t (kc t)) : en_Snd G M_X11_said 100 (B_X11_said_100 kc) := (sn_aload_n (i := 0) (n := 0) (by decide +kernel) rfl (sn_gets (ci := 11) (j := 1) (off := 3) hst en_c11 of_11_3 (Nat.le_of_ble_eq_true rfl) (by decide +kernel) wm_13 (Nat.le_of_ble_eq_true rfl) rfl (sn_callVv (n := 0) (idx := 205) (ci := 9) (i_X9_begin G hst) (Nat.le_of_ble_eq_true rfl) cs_X9_begin ⟨wm_1086, wm_1087, wm_115⟩ ⟨⟨_, rfl, rfl⟩, (Nat.le_of_ble_eq_true rfl)⟩ (by decide +kernel) (sn_aload_n (i := 0) (n := 0) (by decide +kernel) rfl (sn_gets (ci := 11) (j := 1) (off := 3) hst en_c11 of_11_3 (Nat.le_of_ble_eq_true rfl) (by decide +kernel) wm_13 (Nat.le_of_ble_eq_true rfl) rfl (sn_iload_n (i := 3) (n := 3) (by decide +kernel) rfl (sn_callVv (n := 1) (idx := 209) (ci := 9) (i_X9_add G hst) (Nat.le_of_ble_eq_true rfl) cs_X9_add ⟨wm_1090, wm_1091, wm_117⟩ ⟨⟨_, rfl, rfl⟩, (Nat.le_of_ble_eq_true rfl)⟩ (by decide +kernel) (sn_iload_n (i := 2) (n := 2) (by decide +kernel) rfl (sn_iret (by decide +kernel) rfl)))))))))
noncomputable def B_X11_said_92 (kc : Nat → en_B) : en_B := (op_bin (fun (x y : Int32) => x + y) (op_istore 3 (op_iinc 4 (-1 : Int32) (kc 44))))
set_option maxRecDepth 20000 in
theorem s_X11_said_92 (G : en_G) (hst : G.2.2.2.2.2 = true) (kc : Nat → en_B) (hk : ∀ t, en_Snd G M_X11_said t (kc t)) : en_Snd G M_X11_said 92 (B_X11_said_92 kc) := (sn_iadd (by decide +kernel) (sn_istore_n (i := 3) (n := 3) (by decide +kernel) rfl (Nat.le_of_ble_eq_true rfl) (sn_iinc (i := 4) (n := -1) (v := -1) (by decide +kernel) rfl (sn_goto (off := -53) (tgt := 44) (by decide +kernel) rfl (hk 44)))))
noncomputable def B_X11_said_91 (kc : Nat → en_B) : en_B := (op_const (0 : Int32) (B_X11_said_92 kc))
set_option maxRecDepth 20000 in
theorem s_X11_said_91 (G : en_G) (hst : G.2.2.2.2.2 = true) (kc : Nat → en_B) (hk : ∀ t, en_Snd G M_X11_said t (kc t)) : en_Snd G M_X11_said 91 (B_X11_said_91 kc) := (sn_iconst (n := 0) (v := 0) (by decide +kernel) rfl (s_X11_said_92 G hst kc hk))
noncomputable def B_X11_said_44 (kc : Nat → en_B) : en_B := (op_iload 4 (op_const (1 : Int32) (op_iclt (B_X11_said_100 kc) (op_aload 0 (op_gets 11 15 (7, 0, 0) (op_iload 4 (op_rcv 7 1 (op_calli O_X7_missedIn 2 (op_istore 5 (op_iload 2 (op_aload 0 (op_gets 11 5 (10, 0, 0) (op_geti 10 3 (op_const (1 : Int32) (op_bin (fun (x y : Int32) => x + y) (op_bin (fun (x y : Int32) => x * y) (op_iload 5 (op_calli O_X11_firstOf 1 (op_bin (fun (x y : Int32) => x + y) (op_const (1 : Int32) (op_bin (fun (x y : Int32) => x + y) (op_istore 2 (op_iload 3 (op_iload 5 (op_ifeq (B_X11_said_91 kc) (op_const (1 : Int32) (B_X11_said_92 kc)))))))))))))))))))))))))))
set_option maxRecDepth 20000 in
theorem s_X11_said_44 (G : en_G) (hst : G.2.2.2.2.2 = true) (kc : Nat → en_B) (hk : ∀ t, en_Snd G M_X11_said t (kc t)) : en_Snd G M_X11_said 44 (B_X11_said_44 kc) := (sn_iload (i := 4) (by decide +kernel) (sn_iconst (n := 1) (v := 1) (by decide +kernel) rfl (sn_iclt (off := 53) (tgt := 100) (by decide +kernel) rfl (s_X11_said_100 G hst kc hk) (sn_aload_n (i := 0) (n := 0) (by decide +kernel) rfl (sn_gets (ci := 11) (j := 3) (off := 15) hst en_c11 of_11_15 (Nat.le_of_ble_eq_true rfl) (by decide +kernel) wm_23 (Nat.le_of_ble_eq_true rfl) rfl (sn_iload (i := 4) (by decide +kernel) (sn_callVi (n := 1) (idx := 299) (ci := 7) (i_X7_missedIn G hst) (Nat.le_of_ble_eq_true rfl) cs_X7_missedIn ⟨wm_1057, wm_1058, wm_202⟩ ⟨⟨_, rfl, rfl⟩, (Nat.le_of_ble_eq_true rfl)⟩ (by decide +kernel) (sn_istore (i := 5) (by decide +kernel) (Nat.le_of_ble_eq_true rfl) (sn_iload_n (i := 2) (n := 2) (by decide +kernel) rfl (sn_aload_n (i := 0) (n := 0) (by decide +kernel) rfl (sn_gets (ci := 11) (j := 2) (off := 5) hst en_c11 of_11_5 (Nat.le_of_ble_eq_true rfl) (by decide +kernel) wm_18 (Nat.le_of_ble_eq_true rfl) rfl (sn_geti (ci := 10) (j := 3) en_c10 (by decide +kernel) wm_74 (Nat.le_of_ble_eq_true rfl) rfl (sn_iconst (n := 1) (v := 1) (by decide +kernel) rfl (sn_iadd (by decide +kernel) (sn_imul (by decide +kernel) (sn_iload (i := 5) (by decide +kernel) (sn_callSi (n := 1) (idx := 305) (i_X11_firstOf G hst) (Nat.le_of_ble_eq_true rfl) cs_X11_firstOf ⟨wm_259, Or.inl wm_210⟩ (by decide +kernel) (sn_iadd (by decide +kernel) (sn_iconst (n := 1) (v := 1) (by decide +kernel) rfl (sn_iadd (by decide +kernel) (sn_istore_n (i := 2) (n := 2) (by decide +kernel) rfl (Nat.le_of_ble_eq_true rfl) (sn_iload_n (i := 3) (n := 3) (by decide +kernel) rfl (sn_iload (i := 5) (by decide +kernel) (sn_ifeq (off := 7) (tgt := 91) (by decide +kernel) rfl (s_X11_said_91 G hst kc hk) (sn_iconst (n := 1) (v := 1) (by decide +kernel) rfl (sn_goto (off := 4) (tgt := 92) (by decide +kernel) rfl (s_X11_said_92 G hst kc hk)))))))))))))))))))))))))))
noncomputable def B_X11_said_37 (kc : Nat → en_B) : en_B := (op_const (0 : Int32) (op_istore 2 (op_const (0 : Int32) (op_istore 3 (op_iload 1 (op_istore 4 (kc 44)))))))
set_option maxRecDepth 20000 in
theorem s_X11_said_37 (G : en_G) (hst : G.2.2.2.2.2 = true) (kc : Nat → en_B) (hk : ∀ t, en_Snd G M_X11_said t (kc t)) : en_Snd G M_X11_said 37 (B_X11_said_37 kc) := (sn_iconst (n := 0) (v := 0) (by decide +kernel) rfl (sn_istore_n (i := 2) (n := 2) (by decide +kernel) rfl (Nat.le_of_ble_eq_true rfl) (sn_iconst (n := 0) (v := 0) (by decide +kernel) rfl (sn_istore_n (i := 3) (n := 3) (by decide +kernel) rfl (Nat.le_of_ble_eq_true rfl) (sn_iload_n (i := 1) (n := 1) (by decide +kernel) rfl (sn_istore (i := 4) (by decide +kernel) (Nat.le_of_ble_eq_true rfl) (hk 44)))))))
noncomputable def B_X11_said_23 (kc : Nat → en_B) : en_B := (op_aload 0 (op_gets 11 15 (7, 0, 0) (op_iload 1 (op_rcv 7 1 (op_calli O_X7_knows 2 (op_ifeq (op_const (-2 : Int32) op_iret) (B_X11_said_37 kc)))))))
set_option maxRecDepth 20000 in
theorem s_X11_said_23 (G : en_G) (hst : G.2.2.2.2.2 = true) (kc : Nat → en_B) (hk : ∀ t, en_Snd G M_X11_said t (kc t)) : en_Snd G M_X11_said 23 (B_X11_said_23 kc) := (sn_aload_n (i := 0) (n := 0) (by decide +kernel) rfl (sn_gets (ci := 11) (j := 3) (off := 15) hst en_c11 of_11_15 (Nat.le_of_ble_eq_true rfl) (by decide +kernel) wm_23 (Nat.le_of_ble_eq_true rfl) rfl (sn_iload_n (i := 1) (n := 1) (by decide +kernel) rfl (sn_callVi (n := 1) (idx := 296) (ci := 7) (i_X7_knows G hst) (Nat.le_of_ble_eq_true rfl) cs_X7_knows ⟨wm_1054, wm_1055, wm_201⟩ ⟨⟨_, rfl, rfl⟩, (Nat.le_of_ble_eq_true rfl)⟩ (by decide +kernel) (sn_ifne (off := 6) (tgt := 37) (by decide +kernel) rfl (s_X11_said_37 G hst kc hk) (sn_bipush (n := -2) (v := -2) (by decide +kernel) rfl (sn_iret (by decide +kernel) rfl)))))))
noncomputable def B_X11_said_21 (kc : Nat → en_B) : en_B := (op_const (-1 : Int32) op_iret)
set_option maxRecDepth 20000 in
theorem s_X11_said_21 (G : en_G) (hst : G.2.2.2.2.2 = true) (kc : Nat → en_B) (hk : ∀ t, en_Snd G M_X11_said t (kc t)) : en_Snd G M_X11_said 21 (B_X11_said_21 kc) := (sn_iconst (n := -1) (v := -1) (by decide +kernel) rfl (sn_iret (by decide +kernel) rfl))
noncomputable def B_X11_said_0 (kc : Nat → en_B) : en_B := (op_aload 0 (op_gets 11 5 (10, 0, 0) (op_geti 10 3 (op_ifeq (B_X11_said_21 kc) (op_iload 1 (op_const (1 : Int32) (op_iclt (B_X11_said_21 kc) (op_iload 1 (op_const (9 : Int32) (op_icgt (B_X11_said_21 kc) (B_X11_said_23 kc)))))))))))
set_option maxRecDepth 20000 in
theorem s_X11_said_0 (G : en_G) (hst : G.2.2.2.2.2 = true) (kc : Nat → en_B) (hk : ∀ t, en_Snd G M_X11_said t (kc t)) : en_Snd G M_X11_said 0 (B_X11_said_0 kc) := (sn_aload_n (i := 0) (n := 0) (by decide +kernel) rfl (sn_gets (ci := 11) (j := 2) (off := 5) hst en_c11 of_11_5 (Nat.le_of_ble_eq_true rfl) (by decide +kernel) wm_18 (Nat.le_of_ble_eq_true rfl) rfl (sn_geti (ci := 10) (j := 3) en_c10 (by decide +kernel) wm_74 (Nat.le_of_ble_eq_true rfl) rfl (sn_ifeq (off := 14) (tgt := 21) (by decide +kernel) rfl (s_X11_said_21 G hst kc hk) (sn_iload_n (i := 1) (n := 1) (by decide +kernel) rfl (sn_iconst (n := 1) (v := 1) (by decide +kernel) rfl (sn_iclt (off := 9) (tgt := 21) (by decide +kernel) rfl (s_X11_said_21 G hst kc hk) (sn_iload_n (i := 1) (n := 1) (by decide +kernel) rfl (sn_bipush (n := 9) (v := 9) (by decide +kernel) rfl (sn_icle (off := 5) (tgt := 23) (by decide +kernel) rfl (s_X11_said_23 G hst kc hk) (s_X11_said_21 G hst kc hk)))))))))))
noncomputable def LK_X11_said : Nat → Nat → en_B
  | 0, _ => en_no
  | n + 1, t => if t = 44 then B_X11_said_44 (LK_X11_said n) else en_no
theorem l_X11_said (G : en_G) (hst : G.2.2.2.2.2 = true) : ∀ n t, en_Snd G M_X11_said t (LK_X11_said n t)
  | 0, _ => sn_no
  | n + 1, t => by
    show en_Snd G M_X11_said t (if t = 44 then B_X11_said_44 (LK_X11_said n) else en_no)
    by_cases h_44 : t = 44
    · rw [if_pos h_44, h_44]; exact s_X11_said_44 G hst _ (l_X11_said G hst n)
    rw [if_neg h_44]
    exact sn_no
noncomputable def T_X11_said_0 (x1 : Int32) (σ : en_M) : en_R := B_X11_said_0 (LK_X11_said en_FU) [.inr (0, 11, 0, 0), .inl x1, en_un, en_un, en_un, en_un] [] en_zz σ
noncomputable def T_X11_said_44 (n : Nat) (x1 : Int32) (x2 : Int32) (x3 : Int32) (x4 : Int32) (u5 : en_V) (σ : en_M) : en_R := LK_X11_said n 44 [.inr (0, 11, 0, 0), .inl x1, .inl x2, .inl x3, .inl x4, u5] [] en_zz σ
set_option maxRecDepth 20000 in
set_option maxHeartbeats 2000000 in
theorem t_X11_said_0 (x1 : Int32) (σ : en_M) : T_X11_said_0 x1 σ = (if (σ 5 3) = 0 then (en_ri (-1 : Int32) σ) else (if x1 < (1 : Int32) then (en_ri (-1 : Int32) σ) else (if (9 : Int32) < x1 then (en_ri (-1 : Int32) σ) else ((O_X7_knows [.inr (15, 7, 0, 0), .inl x1] σ).bind fun r1 => if r1.1 = 0 then (en_ri (-2 : Int32) r1.2) else (T_X11_said_44 en_FU x1 (0 : Int32) (0 : Int32) x1 (en_un) r1.2))))) := rfl
set_option maxRecDepth 20000 in
set_option maxHeartbeats 2000000 in
theorem t_X11_said_44 (n : Nat) (x1 : Int32) (x2 : Int32) (x3 : Int32) (x4 : Int32) (u5 : en_V) (σ : en_M) : T_X11_said_44 (n + 1) x1 x2 x3 x4 u5 σ = (if x4 < (1 : Int32) then ((O_X9_begin [.inr (3, 9, 0, 0)] σ).bind fun r2 => (O_X9_add [.inr (3, 9, 0, 0), .inl x3] r2).bind fun r3 => en_ri x2 r3) else ((O_X7_missedIn [.inr (15, 7, 0, 0), .inl x4] σ).bind fun r4 => (O_X11_firstOf [.inl r4.1] r4.2).bind fun r5 => if r4.1 = 0 then (T_X11_said_44 n x1 (((x2 * ((r4.2 5 3) + (1 : Int32))) + r5.1) + (1 : Int32)) (x3 + (0 : Int32)) (x4 + (-1 : Int32)) (.inl r4.1) r5.2) else (T_X11_said_44 n x1 (((x2 * ((r4.2 5 3) + (1 : Int32))) + r5.1) + (1 : Int32)) (x3 + (1 : Int32)) (x4 + (-1 : Int32)) (.inl r4.1) r5.2))) := rfl
noncomputable def P_X11_said : List en_V → en_M → Option (Int32 × en_M) := fun av σ => match av with
  | [.inr (0, 11, 0, 0), .inl x1] => en_oi (T_X11_said_0 x1 σ)
  | _ => none
theorem ox_X11_said : ∃ f, f = P_X11_said := ⟨_, rfl⟩
noncomputable def O_X11_said : List en_V → en_M → Option (Int32 × en_M) := Classical.choose ox_X11_said
theorem oe_X11_said : O_X11_said = P_X11_said := Classical.choose_spec ox_X11_said
theorem o_X11_said (x1 : Int32) (σ : en_M) : O_X11_said [.inr (0, 11, 0, 0), .inl x1] σ = en_oi (T_X11_said_0 x1 σ) := by rw [oe_X11_said]; rfl
theorem i_X11_said (G : en_G) (hst : G.2.2.2.2.2 = true) : en_I G 3 yX11_said cX11_said 6 (some .int) 0 0 (en_wi (O_X11_said)) := en_of_i (M := M_X11_said) hst (s_X11_said_0 G hst _ (l_X11_said G hst en_FU)) (plainFor_of_name (by decide +kernel)) rfl rfl rfl (Or.inl ⟨rfl, rfl⟩) (fun av σ x σ' h => by
  rw [oe_X11_said] at h; unfold P_X11_said at h
  split at h
  · exact ⟨(Nat.le_of_ble_eq_true rfl), en_oi_some h⟩
  · cases h)
-- EachMayMissOne.says(II)I
def M_X11_says : en_Me := (cX11_says, RX11, 7, false, 5, false)
theorem cs_X11_says : en_cs yX11_says cX11_says 7 (some .int) 2 := ⟨wm_215, wm_2, ⟨(by decide +kernel), (by decide +kernel), (by decide +kernel)⟩, (Nat.le_of_ble_eq_true rfl)⟩
noncomputable def B_X11_says_150 (kc : Nat → en_B) : en_B := (op_const (1 : Int32) op_iret)
set_option maxRecDepth 20000 in
theorem s_X11_says_150 (G : en_G) (hst : G.2.2.2.2.2 = true) (kc : Nat → en_B) (hk : ∀ t, en_Snd G M_X11_says t (kc t)) : en_Snd G M_X11_says 150 (B_X11_says_150 kc) := (sn_iconst (n := 1) (v := 1) (by decide +kernel) rfl (sn_iret (by decide +kernel) rfl))
noncomputable def B_X11_says_124 (kc : Nat → en_B) : en_B := (op_iload 5 (op_iload 2 (op_iclt (op_aload 0 (op_gets 11 3 (9, 0, 0) (op_aload 0 (op_gets 11 183 (20, 60, 0) (op_iload 5 (op_ald 20 (op_rcv 9 1 (op_callv O_X9_add 2 (op_iinc 5 (1 : Int32) (kc 124)))))))))) (B_X11_says_150 kc))))
set_option maxRecDepth 20000 in
theorem s_X11_says_124 (G : en_G) (hst : G.2.2.2.2.2 = true) (kc : Nat → en_B) (hk : ∀ t, en_Snd G M_X11_says t (kc t)) : en_Snd G M_X11_says 124 (B_X11_says_124 kc) := (sn_iload (i := 5) (by decide +kernel) (sn_iload_n (i := 2) (n := 2) (by decide +kernel) rfl (sn_icge (off := 23) (tgt := 150) (by decide +kernel) rfl (s_X11_says_150 G hst kc hk) (sn_aload_n (i := 0) (n := 0) (by decide +kernel) rfl (sn_gets (ci := 11) (j := 1) (off := 3) hst en_c11 of_11_3 (Nat.le_of_ble_eq_true rfl) (by decide +kernel) wm_13 (Nat.le_of_ble_eq_true rfl) rfl (sn_aload_n (i := 0) (n := 0) (by decide +kernel) rfl (sn_gets (ci := 11) (j := 11) (off := 183) hst en_c11 of_11_183 (Nat.le_of_ble_eq_true rfl) (by decide +kernel) wm_51 (Nat.le_of_ble_eq_true rfl) rfl (sn_iload (i := 5) (by decide +kernel) (sn_iald (by decide +kernel) (sn_callVv (n := 1) (idx := 209) (ci := 9) (i_X9_add G hst) (Nat.le_of_ble_eq_true rfl) cs_X9_add ⟨wm_1090, wm_1091, wm_117⟩ ⟨⟨_, rfl, rfl⟩, (Nat.le_of_ble_eq_true rfl)⟩ (by decide +kernel) (sn_iinc (i := 5) (n := 1) (v := 1) (by decide +kernel) rfl (sn_goto (off := -23) (tgt := 124) (by decide +kernel) rfl (hk 124)))))))))))))
noncomputable def B_X11_says_114 (kc : Nat → en_B) : en_B := (op_aload 0 (op_gets 11 3 (9, 0, 0) (op_rcv 9 0 (op_callv O_X9_begin 1 (op_const (0 : Int32) (op_istore 5 (kc 124)))))))
set_option maxRecDepth 20000 in
theorem s_X11_says_114 (G : en_G) (hst : G.2.2.2.2.2 = true) (kc : Nat → en_B) (hk : ∀ t, en_Snd G M_X11_says t (kc t)) : en_Snd G M_X11_says 114 (B_X11_says_114 kc) := (sn_aload_n (i := 0) (n := 0) (by decide +kernel) rfl (sn_gets (ci := 11) (j := 1) (off := 3) hst en_c11 of_11_3 (Nat.le_of_ble_eq_true rfl) (by decide +kernel) wm_13 (Nat.le_of_ble_eq_true rfl) rfl (sn_callVv (n := 0) (idx := 205) (ci := 9) (i_X9_begin G hst) (Nat.le_of_ble_eq_true rfl) cs_X9_begin ⟨wm_1086, wm_1087, wm_115⟩ ⟨⟨_, rfl, rfl⟩, (Nat.le_of_ble_eq_true rfl)⟩ (by decide +kernel) (sn_iconst (n := 0) (v := 0) (by decide +kernel) rfl (sn_istore (i := 5) (by decide +kernel) (Nat.le_of_ble_eq_true rfl) (hk 124))))))
noncomputable def B_X11_says_98 (kc : Nat → en_B) : en_B := (op_aload 0 (op_iload 2 (op_rcv 11 1 (op_callv O_X11_lookAhead 2 (op_aload 0 (op_iload 2 (op_rcv 11 1 (op_calli O_X11_lawfulRounds 2 (op_iload 2 (op_iclt (op_const (0 : Int32) op_iret) (B_X11_says_114 kc)))))))))))
set_option maxRecDepth 20000 in
theorem s_X11_says_98 (G : en_G) (hst : G.2.2.2.2.2 = true) (kc : Nat → en_B) (hk : ∀ t, en_Snd G M_X11_says t (kc t)) : en_Snd G M_X11_says 98 (B_X11_says_98 kc) := (sn_aload_n (i := 0) (n := 0) (by decide +kernel) rfl (sn_iload_n (i := 2) (n := 2) (by decide +kernel) rfl (sn_callVv (n := 1) (idx := 242) (ci := 11) (i_X11_lookAhead G hst) (Nat.le_of_ble_eq_true rfl) cs_X11_lookAhead ⟨wm_287, wm_288, wm_143⟩ ⟨⟨_, rfl, rfl⟩, (Nat.le_of_ble_eq_true rfl)⟩ (by decide +kernel) (sn_aload_n (i := 0) (n := 0) (by decide +kernel) rfl (sn_iload_n (i := 2) (n := 2) (by decide +kernel) rfl (sn_callVi (n := 1) (idx := 308) (ci := 11) (i_X11_lawfulRounds G hst) (Nat.le_of_ble_eq_true rfl) cs_X11_lawfulRounds ⟨wm_298, wm_299, wm_211⟩ ⟨⟨_, rfl, rfl⟩, (Nat.le_of_ble_eq_true rfl)⟩ (by decide +kernel) (sn_iload_n (i := 2) (n := 2) (by decide +kernel) rfl (sn_icge (off := 5) (tgt := 114) (by decide +kernel) rfl (s_X11_says_114 G hst kc hk) (sn_iconst (n := 0) (v := 0) (by decide +kernel) rfl (sn_iret (by decide +kernel) rfl))))))))))
noncomputable def B_X11_says_90 (kc : Nat → en_B) : en_B := (op_iload 4 (op_ifgt (op_const (-2 : Int32) op_iret) (B_X11_says_98 kc)))
set_option maxRecDepth 20000 in
theorem s_X11_says_90 (G : en_G) (hst : G.2.2.2.2.2 = true) (kc : Nat → en_B) (hk : ∀ t, en_Snd G M_X11_says t (kc t)) : en_Snd G M_X11_says 90 (B_X11_says_90 kc) := (sn_iload (i := 4) (by decide +kernel) (sn_ifle (off := 6) (tgt := 98) (by decide +kernel) rfl (s_X11_says_98 G hst kc hk) (sn_bipush (n := -2) (v := -2) (by decide +kernel) rfl (sn_iret (by decide +kernel) rfl))))
noncomputable def B_X11_says_77 (kc : Nat → en_B) : en_B := (op_ast 20 (fun (x : Int32) => x) (op_iload 4 (op_iload 3 (op_div (fun (x y : Int32) => x / y) (op_istore 4 (op_iinc 5 (-1 : Int32) (kc 45)))))))
set_option maxRecDepth 20000 in
theorem s_X11_says_77 (G : en_G) (hst : G.2.2.2.2.2 = true) (kc : Nat → en_B) (hk : ∀ t, en_Snd G M_X11_says t (kc t)) : en_Snd G M_X11_says 77 (B_X11_says_77 kc) := (sn_iast (by decide +kernel) (sn_iload (i := 4) (by decide +kernel) (sn_iload_n (i := 3) (n := 3) (by decide +kernel) rfl (sn_idiv (by decide +kernel) (sn_istore (i := 4) (by decide +kernel) (Nat.le_of_ble_eq_true rfl) (sn_iinc (i := 5) (n := -1) (v := -1) (by decide +kernel) rfl (sn_goto (off := -42) (tgt := 45) (by decide +kernel) rfl (hk 45))))))))
noncomputable def B_X11_says_71 (kc : Nat → en_B) : en_B := (op_const (1 : Int32) (op_iload 6 (op_const (1 : Int32) (op_bin (fun (x y : Int32) => x - y) (op_bin en_shl (B_X11_says_77 kc))))))
set_option maxRecDepth 20000 in
theorem s_X11_says_71 (G : en_G) (hst : G.2.2.2.2.2 = true) (kc : Nat → en_B) (hk : ∀ t, en_Snd G M_X11_says t (kc t)) : en_Snd G M_X11_says 71 (B_X11_says_71 kc) := (sn_iconst (n := 1) (v := 1) (by decide +kernel) rfl (sn_iload (i := 6) (by decide +kernel) (sn_iconst (n := 1) (v := 1) (by decide +kernel) rfl (sn_isub (by decide +kernel) (sn_ishl (by decide +kernel) (s_X11_says_77 G hst kc hk))))))
noncomputable def B_X11_says_45 (kc : Nat → en_B) : en_B := (op_iload 5 (op_iflt (B_X11_says_90 kc) (op_iload 4 (op_iload 3 (op_div (fun (x y : Int32) => x - x / y * y) (op_istore 6 (op_aload 0 (op_gets 11 183 (20, 60, 0) (op_iload 5 (op_iload 6 (op_ifeq (op_const (0 : Int32) (B_X11_says_77 kc)) (B_X11_says_71 kc))))))))))))
set_option maxRecDepth 20000 in
theorem s_X11_says_45 (G : en_G) (hst : G.2.2.2.2.2 = true) (kc : Nat → en_B) (hk : ∀ t, en_Snd G M_X11_says t (kc t)) : en_Snd G M_X11_says 45 (B_X11_says_45 kc) := (sn_iload (i := 5) (by decide +kernel) (sn_iflt (off := 43) (tgt := 90) (by decide +kernel) rfl (s_X11_says_90 G hst kc hk) (sn_iload (i := 4) (by decide +kernel) (sn_iload_n (i := 3) (n := 3) (by decide +kernel) rfl (sn_irem (by decide +kernel) (sn_istore (i := 6) (by decide +kernel) (Nat.le_of_ble_eq_true rfl) (sn_aload_n (i := 0) (n := 0) (by decide +kernel) rfl (sn_gets (ci := 11) (j := 11) (off := 183) hst en_c11 of_11_183 (Nat.le_of_ble_eq_true rfl) (by decide +kernel) wm_51 (Nat.le_of_ble_eq_true rfl) rfl (sn_iload (i := 5) (by decide +kernel) (sn_iload (i := 6) (by decide +kernel) (sn_ifne (off := 7) (tgt := 71) (by decide +kernel) rfl (s_X11_says_71 G hst kc hk) (sn_iconst (n := 0) (v := 0) (by decide +kernel) rfl (sn_goto (off := 9) (tgt := 77) (by decide +kernel) rfl (s_X11_says_77 G hst kc hk))))))))))))))
noncomputable def B_X11_says_27 (kc : Nat → en_B) : en_B := (op_aload 0 (op_gets 11 5 (10, 0, 0) (op_geti 10 3 (op_const (1 : Int32) (op_bin (fun (x y : Int32) => x + y) (op_istore 3 (op_iload 1 (op_istore 4 (op_iload 2 (op_const (1 : Int32) (op_bin (fun (x y : Int32) => x - y) (op_istore 5 (kc 45)))))))))))))
set_option maxRecDepth 20000 in
theorem s_X11_says_27 (G : en_G) (hst : G.2.2.2.2.2 = true) (kc : Nat → en_B) (hk : ∀ t, en_Snd G M_X11_says t (kc t)) : en_Snd G M_X11_says 27 (B_X11_says_27 kc) := (sn_aload_n (i := 0) (n := 0) (by decide +kernel) rfl (sn_gets (ci := 11) (j := 2) (off := 5) hst en_c11 of_11_5 (Nat.le_of_ble_eq_true rfl) (by decide +kernel) wm_18 (Nat.le_of_ble_eq_true rfl) rfl (sn_geti (ci := 10) (j := 3) en_c10 (by decide +kernel) wm_74 (Nat.le_of_ble_eq_true rfl) rfl (sn_iconst (n := 1) (v := 1) (by decide +kernel) rfl (sn_iadd (by decide +kernel) (sn_istore_n (i := 3) (n := 3) (by decide +kernel) rfl (Nat.le_of_ble_eq_true rfl) (sn_iload_n (i := 1) (n := 1) (by decide +kernel) rfl (sn_istore (i := 4) (by decide +kernel) (Nat.le_of_ble_eq_true rfl) (sn_iload_n (i := 2) (n := 2) (by decide +kernel) rfl (sn_iconst (n := 1) (v := 1) (by decide +kernel) rfl (sn_isub (by decide +kernel) (sn_istore (i := 5) (by decide +kernel) (Nat.le_of_ble_eq_true rfl) (hk 45)))))))))))))
noncomputable def B_X11_says_25 (kc : Nat → en_B) : en_B := (op_const (-1 : Int32) op_iret)
set_option maxRecDepth 20000 in
theorem s_X11_says_25 (G : en_G) (hst : G.2.2.2.2.2 = true) (kc : Nat → en_B) (hk : ∀ t, en_Snd G M_X11_says t (kc t)) : en_Snd G M_X11_says 25 (B_X11_says_25 kc) := (sn_iconst (n := -1) (v := -1) (by decide +kernel) rfl (sn_iret (by decide +kernel) rfl))
noncomputable def B_X11_says_0 (kc : Nat → en_B) : en_B := (op_aload 0 (op_gets 11 5 (10, 0, 0) (op_geti 10 3 (op_ifeq (B_X11_says_25 kc) (op_iload 1 (op_iflt (B_X11_says_25 kc) (op_iload 2 (op_const (1 : Int32) (op_iclt (B_X11_says_25 kc) (op_iload 2 (op_const (9 : Int32) (op_icgt (B_X11_says_25 kc) (B_X11_says_27 kc)))))))))))))
set_option maxRecDepth 20000 in
theorem s_X11_says_0 (G : en_G) (hst : G.2.2.2.2.2 = true) (kc : Nat → en_B) (hk : ∀ t, en_Snd G M_X11_says t (kc t)) : en_Snd G M_X11_says 0 (B_X11_says_0 kc) := (sn_aload_n (i := 0) (n := 0) (by decide +kernel) rfl (sn_gets (ci := 11) (j := 2) (off := 5) hst en_c11 of_11_5 (Nat.le_of_ble_eq_true rfl) (by decide +kernel) wm_18 (Nat.le_of_ble_eq_true rfl) rfl (sn_geti (ci := 10) (j := 3) en_c10 (by decide +kernel) wm_74 (Nat.le_of_ble_eq_true rfl) rfl (sn_ifeq (off := 18) (tgt := 25) (by decide +kernel) rfl (s_X11_says_25 G hst kc hk) (sn_iload_n (i := 1) (n := 1) (by decide +kernel) rfl (sn_iflt (off := 14) (tgt := 25) (by decide +kernel) rfl (s_X11_says_25 G hst kc hk) (sn_iload_n (i := 2) (n := 2) (by decide +kernel) rfl (sn_iconst (n := 1) (v := 1) (by decide +kernel) rfl (sn_iclt (off := 9) (tgt := 25) (by decide +kernel) rfl (s_X11_says_25 G hst kc hk) (sn_iload_n (i := 2) (n := 2) (by decide +kernel) rfl (sn_bipush (n := 9) (v := 9) (by decide +kernel) rfl (sn_icle (off := 5) (tgt := 27) (by decide +kernel) rfl (s_X11_says_27 G hst kc hk) (s_X11_says_25 G hst kc hk)))))))))))))
noncomputable def LK_X11_says : Nat → Nat → en_B
  | 0, _ => en_no
  | n + 1, t => if t = 45 then B_X11_says_45 (LK_X11_says n) else if t = 124 then B_X11_says_124 (LK_X11_says n) else en_no
theorem l_X11_says (G : en_G) (hst : G.2.2.2.2.2 = true) : ∀ n t, en_Snd G M_X11_says t (LK_X11_says n t)
  | 0, _ => sn_no
  | n + 1, t => by
    show en_Snd G M_X11_says t (if t = 45 then B_X11_says_45 (LK_X11_says n) else if t = 124 then B_X11_says_124 (LK_X11_says n) else en_no)
    by_cases h_45 : t = 45
    · rw [if_pos h_45, h_45]; exact s_X11_says_45 G hst _ (l_X11_says G hst n)
    rw [if_neg h_45]
    by_cases h_124 : t = 124
    · rw [if_pos h_124, h_124]; exact s_X11_says_124 G hst _ (l_X11_says G hst n)
    rw [if_neg h_124]
    exact sn_no
noncomputable def T_X11_says_0 (x1 : Int32) (x2 : Int32) (σ : en_M) : en_R := B_X11_says_0 (LK_X11_says en_FU) [.inr (0, 11, 0, 0), .inl x1, .inl x2, en_un, en_un, en_un, en_un] [] en_zz σ
noncomputable def T_X11_says_45 (n : Nat) (x1 : Int32) (x2 : Int32) (x3 : Int32) (x4 : Int32) (x5 : Int32) (u6 : en_V) (σ : en_M) : en_R := LK_X11_says n 45 [.inr (0, 11, 0, 0), .inl x1, .inl x2, .inl x3, .inl x4, .inl x5, u6] [] en_zz σ
noncomputable def T_X11_says_124 (n : Nat) (x1 : Int32) (x2 : Int32) (x3 : Int32) (x4 : Int32) (x5 : Int32) (u6 : en_V) (σ : en_M) : en_R := LK_X11_says n 124 [.inr (0, 11, 0, 0), .inl x1, .inl x2, .inl x3, .inl x4, .inl x5, u6] [] en_zz σ
set_option maxRecDepth 20000 in
set_option maxHeartbeats 2000000 in
theorem t_X11_says_0 (x1 : Int32) (x2 : Int32) (σ : en_M) : T_X11_says_0 x1 x2 σ = (if (σ 5 3) = 0 then (en_ri (-1 : Int32) σ) else (if x1 < 0 then (en_ri (-1 : Int32) σ) else (if x2 < (1 : Int32) then (en_ri (-1 : Int32) σ) else (if (9 : Int32) < x2 then (en_ri (-1 : Int32) σ) else (T_X11_says_45 en_FU x1 x2 ((σ 5 3) + (1 : Int32)) x1 (x2 - (1 : Int32)) (en_un) σ))))) := rfl
set_option maxRecDepth 20000 in
set_option maxHeartbeats 2000000 in
theorem t_X11_says_45 (n : Nat) (x1 : Int32) (x2 : Int32) (x3 : Int32) (x4 : Int32) (x5 : Int32) (u6 : en_V) (σ : en_M) : T_X11_says_45 (n + 1) x1 x2 x3 x4 x5 u6 σ = (if x5 < 0 then (if 0 < x4 then (en_ri (-2 : Int32) σ) else ((O_X11_lookAhead [.inr (0, 11, 0, 0), .inl x2] σ).bind fun r1 => (O_X11_lawfulRounds [.inr (0, 11, 0, 0), .inl x2] r1).bind fun r2 => if r2.1 < x2 then (en_ri (0 : Int32) r2.2) else ((O_X9_begin [.inr (3, 9, 0, 0)] r2.2).bind fun r3 => T_X11_says_124 n x1 x2 x3 x4 (0 : Int32) (u6) r3))) else (if x3 = 0 then none else (if (x4 - x4 / x3 * x3) = 0 then ((en_ix x5 60).bind fun j5 => if x3 = 0 then none else (T_X11_says_45 n x1 x2 x3 (x4 / x3) (x5 + (-1 : Int32)) (.inl (x4 - x4 / x3 * x3)) (en_up σ 183 j5 (0 : Int32)))) else ((en_ix x5 60).bind fun j4 => if x3 = 0 then none else (T_X11_says_45 n x1 x2 x3 (x4 / x3) (x5 + (-1 : Int32)) (.inl (x4 - x4 / x3 * x3)) (en_up σ 183 j4 (en_shl (1 : Int32) ((x4 - x4 / x3 * x3) - (1 : Int32))))))))) := rfl
set_option maxRecDepth 20000 in
set_option maxHeartbeats 2000000 in
theorem t_X11_says_124 (n : Nat) (x1 : Int32) (x2 : Int32) (x3 : Int32) (x4 : Int32) (x5 : Int32) (u6 : en_V) (σ : en_M) : T_X11_says_124 (n + 1) x1 x2 x3 x4 x5 u6 σ = (if x5 < x2 then ((en_ix x5 60).bind fun j6 => (O_X9_add [.inr (3, 9, 0, 0), .inl (σ 183 j6)] σ).bind fun r7 => T_X11_says_124 n x1 x2 x3 x4 (x5 + (1 : Int32)) (u6) r7) else (en_ri (1 : Int32) σ)) := rfl
noncomputable def P_X11_says : List en_V → en_M → Option (Int32 × en_M) := fun av σ => match av with
  | [.inr (0, 11, 0, 0), .inl x1, .inl x2] => en_oi (T_X11_says_0 x1 x2 σ)
  | _ => none
theorem ox_X11_says : ∃ f, f = P_X11_says := ⟨_, rfl⟩
noncomputable def O_X11_says : List en_V → en_M → Option (Int32 × en_M) := Classical.choose ox_X11_says
theorem oe_X11_says : O_X11_says = P_X11_says := Classical.choose_spec ox_X11_says
theorem o_X11_says (x1 : Int32) (x2 : Int32) (σ : en_M) : O_X11_says [.inr (0, 11, 0, 0), .inl x1, .inl x2] σ = en_oi (T_X11_says_0 x1 x2 σ) := by rw [oe_X11_says]; rfl
theorem i_X11_says (G : en_G) (hst : G.2.2.2.2.2 = true) : en_I G 5 yX11_says cX11_says 7 (some .int) 0 0 (en_wi (O_X11_says)) := en_of_i (M := M_X11_says) hst (s_X11_says_0 G hst _ (l_X11_says G hst en_FU)) (plainFor_of_name (by decide +kernel)) rfl rfl rfl (Or.inl ⟨rfl, rfl⟩) (fun av σ x σ' h => by
  rw [oe_X11_says] at h; unfold P_X11_says at h
  split at h
  · exact ⟨(Nat.le_of_ble_eq_true rfl), en_oi_some h⟩
  · cases h)
