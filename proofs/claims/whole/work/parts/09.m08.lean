-- EachMayMissOne$Plan.prepare(LEachMayMissOne$Tower;[III)V
def M_X5_prepare : en_Me := (cX5_prepare, RX5, 7, false, 4, false)
theorem cs_X5_prepare : en_cs yX5_prepare cX5_prepare 7 none 4 := ⟨wm_878, wm_42, ⟨(by decide +kernel), (by decide +kernel), (by decide +kernel)⟩, (Nat.le_of_ble_eq_true rfl)⟩
noncomputable def B_X5_prepare_110 (kc : Nat → en_B) : en_B := op_vret
set_option maxRecDepth 20000 in
theorem s_X5_prepare_110 (G : en_G) (hst : G.2.2.2.2.2 = true) (kc : Nat → en_B) (hk : ∀ t, en_Snd G M_X5_prepare t (kc t)) : en_Snd G M_X5_prepare 110 (B_X5_prepare_110 kc) := (sn_vret (by decide +kernel))
noncomputable def B_X5_prepare_104 (kc : Nat → en_B) : en_B := (op_iinc 5 (1 : Int32) (kc 3))
set_option maxRecDepth 20000 in
theorem s_X5_prepare_104 (G : en_G) (hst : G.2.2.2.2.2 = true) (kc : Nat → en_B) (hk : ∀ t, en_Snd G M_X5_prepare t (kc t)) : en_Snd G M_X5_prepare 104 (B_X5_prepare_104 kc) := (sn_iinc (i := 5) (n := 1) (v := 1) (by decide +kernel) rfl (sn_goto (off := -104) (tgt := 3) (by decide +kernel) rfl (hk 3)))
noncomputable def B_X5_prepare_98 (kc : Nat → en_B) : en_B := (op_iinc 6 (1 : Int32) (kc 21))
set_option maxRecDepth 20000 in
theorem s_X5_prepare_98 (G : en_G) (hst : G.2.2.2.2.2 = true) (kc : Nat → en_B) (hk : ∀ t, en_Snd G M_X5_prepare t (kc t)) : en_Snd G M_X5_prepare 98 (B_X5_prepare_98 kc) := (sn_iinc (i := 6) (n := 1) (v := 1) (by decide +kernel) rfl (sn_goto (off := -80) (tgt := 21) (by decide +kernel) rfl (hk 21)))
noncomputable def B_X5_prepare_21 (kc : Nat → en_B) : en_B := (op_iload 6 (op_const (1 : Int32) (op_aload 1 (op_geti 10 3 (op_bin en_shl (op_iclt (op_aload 1 (op_aload 2 (op_iload 5 (op_ald 20 (op_iload 3 (op_iload 5 (op_bin (fun (x y : Int32) => x + y) (op_iload 6 (op_const (0 : Int32) (op_const (0 : Int32) (op_rcv 10 5 (op_calli O_X10_breach 6 (op_ifeq (op_aload 0 (op_gets 5 1 (23, 12, 128) (op_iload 5 (op_aldM (op_aload 0 (op_gets 5 14 (20, 12, 0) (op_iload 5 (op_ald 20 (op_iload 6 (op_ast 20 (fun (x : Int32) => x) (op_aload 0 (op_gets 5 14 (20, 12, 0) (op_iload 5 (op_dup2 (op_ald 20 (op_const (1 : Int32) (op_bin (fun (x y : Int32) => x + y) (op_ast 20 (fun (x : Int32) => x) (op_aload 0 (op_gets 5 15 (23, 12, 128) (op_iload 5 (op_aldM (op_iload 6 (op_aload 2 (op_iload 5 (op_ald 20 (op_iload 6 (op_calli O_X11_placesOf 2 (op_ast 20 (fun (x : Int32) => x) (B_X5_prepare_98 kc)))))))))))))))))))))))))))))) (B_X5_prepare_98 kc)))))))))))))) (B_X5_prepare_104 kc)))))))
set_option maxRecDepth 20000 in
theorem s_X5_prepare_21 (G : en_G) (hst : G.2.2.2.2.2 = true) (kc : Nat → en_B) (hk : ∀ t, en_Snd G M_X5_prepare t (kc t)) : en_Snd G M_X5_prepare 21 (B_X5_prepare_21 kc) := (sn_iload (i := 6) (by decide +kernel) (sn_iconst (n := 1) (v := 1) (by decide +kernel) rfl (sn_aload_n (i := 1) (n := 1) (by decide +kernel) rfl (sn_geti (ci := 10) (j := 3) en_c10 (by decide +kernel) wm_881 (Nat.le_of_ble_eq_true rfl) rfl (sn_ishl (by decide +kernel) (sn_icge (off := 75) (tgt := 104) (by decide +kernel) rfl (s_X5_prepare_104 G hst kc hk) (sn_aload_n (i := 1) (n := 1) (by decide +kernel) rfl (sn_aload_n (i := 2) (n := 2) (by decide +kernel) rfl (sn_iload (i := 5) (by decide +kernel) (sn_iald (by decide +kernel) (sn_iload_n (i := 3) (n := 3) (by decide +kernel) rfl (sn_iload (i := 5) (by decide +kernel) (sn_iadd (by decide +kernel) (sn_iload (i := 6) (by decide +kernel) (sn_iconst (n := 0) (v := 0) (by decide +kernel) rfl (sn_iconst (n := 0) (v := 0) (by decide +kernel) rfl (sn_callVi (n := 5) (idx := 38) (ci := 10) (i_X10_breach G hst) (Nat.le_of_ble_eq_true rfl) cs_X10_breach ⟨wm_1125, wm_1126, wm_882⟩ ⟨⟨_, rfl, rfl⟩, (Nat.le_of_ble_eq_true rfl)⟩ (by decide +kernel) (sn_ifne (off := 50) (tgt := 98) (by decide +kernel) rfl (s_X5_prepare_98 G hst kc hk) (sn_aload_n (i := 0) (n := 0) (by decide +kernel) rfl (sn_gets (ci := 5) (j := 0) (off := 1) hst en_c5 of_5_1 (Nat.le_of_ble_eq_true rfl) (by decide +kernel) wm_872 (Nat.le_of_ble_eq_true rfl) rfl (sn_iload (i := 5) (by decide +kernel) (sn_aldM hst (by decide +kernel) (sn_aload_n (i := 0) (n := 0) (by decide +kernel) rfl (sn_gets (ci := 5) (j := 1) (off := 14) hst en_c5 of_5_14 (Nat.le_of_ble_eq_true rfl) (by decide +kernel) wm_873 (Nat.le_of_ble_eq_true rfl) rfl (sn_iload (i := 5) (by decide +kernel) (sn_iald (by decide +kernel) (sn_iload (i := 6) (by decide +kernel) (sn_iast (by decide +kernel) (sn_aload_n (i := 0) (n := 0) (by decide +kernel) rfl (sn_gets (ci := 5) (j := 1) (off := 14) hst en_c5 of_5_14 (Nat.le_of_ble_eq_true rfl) (by decide +kernel) wm_873 (Nat.le_of_ble_eq_true rfl) rfl (sn_iload (i := 5) (by decide +kernel) (sn_dup2 (by decide +kernel) (sn_iald (by decide +kernel) (sn_iconst (n := 1) (v := 1) (by decide +kernel) rfl (sn_iadd (by decide +kernel) (sn_iast (by decide +kernel) (sn_aload_n (i := 0) (n := 0) (by decide +kernel) rfl (sn_gets (ci := 5) (j := 2) (off := 15) hst en_c5 of_5_15 (Nat.le_of_ble_eq_true rfl) (by decide +kernel) wm_874 (Nat.le_of_ble_eq_true rfl) rfl (sn_iload (i := 5) (by decide +kernel) (sn_aldM hst (by decide +kernel) (sn_iload (i := 6) (by decide +kernel) (sn_aload_n (i := 2) (n := 2) (by decide +kernel) rfl (sn_iload (i := 5) (by decide +kernel) (sn_iald (by decide +kernel) (sn_iload (i := 6) (by decide +kernel) (sn_callSi (n := 2) (idx := 42) (i_X11_placesOf G hst) (Nat.le_of_ble_eq_true rfl) cs_X11_placesOf ⟨wm_285, Or.inr (by decide +kernel)⟩ (by decide +kernel) (sn_iast (by decide +kernel) (s_X5_prepare_98 G hst kc hk))))))))))))))))))))))))))))))))))))))))))))))))
noncomputable def B_X5_prepare_3 (kc : Nat → en_B) : en_B := (op_iload 5 (op_iload 4 (op_iclt (op_aload 0 (op_gets 5 14 (20, 12, 0) (op_iload 5 (op_const (0 : Int32) (op_ast 20 (fun (x : Int32) => x) (op_const (0 : Int32) (op_istore 6 (kc 21)))))))) (B_X5_prepare_110 kc))))
set_option maxRecDepth 20000 in
theorem s_X5_prepare_3 (G : en_G) (hst : G.2.2.2.2.2 = true) (kc : Nat → en_B) (hk : ∀ t, en_Snd G M_X5_prepare t (kc t)) : en_Snd G M_X5_prepare 3 (B_X5_prepare_3 kc) := (sn_iload (i := 5) (by decide +kernel) (sn_iload (i := 4) (by decide +kernel) (sn_icge (off := 103) (tgt := 110) (by decide +kernel) rfl (s_X5_prepare_110 G hst kc hk) (sn_aload_n (i := 0) (n := 0) (by decide +kernel) rfl (sn_gets (ci := 5) (j := 1) (off := 14) hst en_c5 of_5_14 (Nat.le_of_ble_eq_true rfl) (by decide +kernel) wm_873 (Nat.le_of_ble_eq_true rfl) rfl (sn_iload (i := 5) (by decide +kernel) (sn_iconst (n := 0) (v := 0) (by decide +kernel) rfl (sn_iast (by decide +kernel) (sn_iconst (n := 0) (v := 0) (by decide +kernel) rfl (sn_istore (i := 6) (by decide +kernel) (Nat.le_of_ble_eq_true rfl) (hk 21)))))))))))
noncomputable def B_X5_prepare_0 (kc : Nat → en_B) : en_B := (op_const (0 : Int32) (op_istore 5 (kc 3)))
set_option maxRecDepth 20000 in
theorem s_X5_prepare_0 (G : en_G) (hst : G.2.2.2.2.2 = true) (kc : Nat → en_B) (hk : ∀ t, en_Snd G M_X5_prepare t (kc t)) : en_Snd G M_X5_prepare 0 (B_X5_prepare_0 kc) := (sn_iconst (n := 0) (v := 0) (by decide +kernel) rfl (sn_istore (i := 5) (by decide +kernel) (Nat.le_of_ble_eq_true rfl) (hk 3)))
noncomputable def LK_X5_prepare : Nat → Nat → en_B
  | 0, _ => en_no
  | n + 1, t => if t = 3 then B_X5_prepare_3 (LK_X5_prepare n) else if t = 21 then B_X5_prepare_21 (LK_X5_prepare n) else en_no
theorem l_X5_prepare (G : en_G) (hst : G.2.2.2.2.2 = true) : ∀ n t, en_Snd G M_X5_prepare t (LK_X5_prepare n t)
  | 0, _ => sn_no
  | n + 1, t => by
    show en_Snd G M_X5_prepare t (if t = 3 then B_X5_prepare_3 (LK_X5_prepare n) else if t = 21 then B_X5_prepare_21 (LK_X5_prepare n) else en_no)
    by_cases h_3 : t = 3
    · rw [if_pos h_3, h_3]; exact s_X5_prepare_3 G hst _ (l_X5_prepare G hst n)
    rw [if_neg h_3]
    by_cases h_21 : t = 21
    · rw [if_pos h_21, h_21]; exact s_X5_prepare_21 G hst _ (l_X5_prepare G hst n)
    rw [if_neg h_21]
    exact sn_no
noncomputable def T_X5_prepare_0 (x3 : Int32) (x4 : Int32) (σ : en_M) : en_R := B_X5_prepare_0 (LK_X5_prepare en_FU) [.inr (103, 5, 0, 0), .inr (5, 10, 0, 0), .inr (182, 20, 201, 0), .inl x3, .inl x4, en_un, en_un] [] en_zz σ
noncomputable def T_X5_prepare_3 (n : Nat) (x3 : Int32) (x4 : Int32) (x5 : Int32) (u6 : en_V) (σ : en_M) : en_R := LK_X5_prepare n 3 [.inr (103, 5, 0, 0), .inr (5, 10, 0, 0), .inr (182, 20, 201, 0), .inl x3, .inl x4, .inl x5, u6] [] en_zz σ
noncomputable def T_X5_prepare_21 (n : Nat) (x3 : Int32) (x4 : Int32) (x5 : Int32) (x6 : Int32) (σ : en_M) : en_R := LK_X5_prepare n 21 [.inr (103, 5, 0, 0), .inr (5, 10, 0, 0), .inr (182, 20, 201, 0), .inl x3, .inl x4, .inl x5, .inl x6] [] en_zz σ
set_option maxRecDepth 400000 in
set_option maxHeartbeats 4000000 in
theorem t_X5_prepare_0 (x3 : Int32) (x4 : Int32) (σ : en_M) : T_X5_prepare_0 x3 x4 σ = (T_X5_prepare_3 en_FU x3 x4 (0 : Int32) (en_un) σ) := rfl
set_option maxRecDepth 400000 in
set_option maxHeartbeats 4000000 in
theorem t_X5_prepare_3 (n : Nat) (x3 : Int32) (x4 : Int32) (x5 : Int32) (u6 : en_V) (σ : en_M) : T_X5_prepare_3 (n + 1) x3 x4 x5 u6 σ = (if x5 < x4 then ((en_ix x5 12).bind fun j1 => T_X5_prepare_21 n x3 x4 x5 (0 : Int32) (en_up σ 117 j1 (0 : Int32))) else (en_rv σ)) := rfl
set_option maxRecDepth 400000 in
set_option maxHeartbeats 4000000 in
theorem t_X5_prepare_21 (n : Nat) (x3 : Int32) (x4 : Int32) (x5 : Int32) (x6 : Int32) (σ : en_M) : T_X5_prepare_21 (n + 1) x3 x4 x5 x6 σ = (if x6 < (en_shl (1 : Int32) (σ 5 3)) then ((en_ix x5 201).bind fun j2 => (O_X10_breach [.inr (5, 10, 0, 0), .inl (σ 182 j2), .inl (x3 + x5), .inl x6, .inl (0 : Int32), .inl (0 : Int32)] σ).bind fun r3 => if r3.1 = 0 then ((en_ix x5 12).bind fun j4 => (en_ix x5 12).bind fun j5 => (en_ix (r3.2 117 j5) 128).bind fun j6 => (en_ix x5 12).bind fun j7 => (en_ix x5 12).bind fun j8 => (en_ix x5 12).bind fun j9 => (en_ix x5 201).bind fun j10 => (O_X11_placesOf [.inl ((en_up r3.2 (104 + 1 + j4) j6 x6) 182 j10), .inl x6] (en_up (en_up r3.2 (104 + 1 + j4) j6 x6) 117 j8 (((en_up r3.2 (104 + 1 + j4) j6 x6) 117 j7) + (1 : Int32)))).bind fun r11 => (en_ix x6 128).bind fun j12 => T_X5_prepare_21 n x3 x4 x5 (x6 + (1 : Int32)) (en_up r11.2 (118 + 1 + j9) j12 r11.1)) else (T_X5_prepare_21 n x3 x4 x5 (x6 + (1 : Int32)) r3.2)) else (T_X5_prepare_3 n x3 x4 (x5 + (1 : Int32)) (.inl x6) σ)) := rfl
noncomputable def P_X5_prepare : List en_V → en_M → Option en_M := fun av σ => match av with
  | [.inr (103, 5, 0, 0), .inr (5, 10, 0, 0), .inr (182, 20, 201, 0), .inl x3, .inl x4] => en_ov (T_X5_prepare_0 x3 x4 σ)
  | _ => none
theorem ox_X5_prepare : ∃ f, f = P_X5_prepare := ⟨_, rfl⟩
noncomputable def O_X5_prepare : List en_V → en_M → Option en_M := Classical.choose ox_X5_prepare
theorem oe_X5_prepare : O_X5_prepare = P_X5_prepare := Classical.choose_spec ox_X5_prepare
theorem o_X5_prepare (x3 : Int32) (x4 : Int32) (σ : en_M) : O_X5_prepare [.inr (103, 5, 0, 0), .inr (5, 10, 0, 0), .inr (182, 20, 201, 0), .inl x3, .inl x4] σ = en_ov (T_X5_prepare_0 x3 x4 σ) := by rw [oe_X5_prepare]; rfl
theorem i_X5_prepare (G : en_G) (hst : G.2.2.2.2.2 = true) : en_I G 4 yX5_prepare cX5_prepare 7 none 0 0 (en_wv (O_X5_prepare)) := en_of_v (M := M_X5_prepare) hst (s_X5_prepare_0 G hst _ (l_X5_prepare G hst en_FU)) (plainFor_of_name (by decide +kernel)) rfl rfl rfl (fun av σ σ' h => by
  rw [oe_X5_prepare] at h; unfold P_X5_prepare at h
  split at h
  · exact ⟨(Nat.le_of_ble_eq_true rfl), en_ov_some h⟩
  · cases h)
-- EachMayMissOne$Plan.mayFollow(IIII)Z
def M_X5_mayFollow : en_Me := (cX5_mayFollow, RX5, 5, false, 1, true)
theorem cs_X5_mayFollow : en_cs yX5_mayFollow cX5_mayFollow 5 (some .boolean) 4 := ⟨wm_884, wm_42, ⟨(by decide +kernel), (by decide +kernel), (by decide +kernel)⟩, (Nat.le_of_ble_eq_true rfl)⟩
noncomputable def B_X5_mayFollow_25 (kc : Nat → en_B) : en_B := op_zret
set_option maxRecDepth 20000 in
theorem s_X5_mayFollow_25 (G : en_G) (hst : G.2.2.2.2.2 = true) (kc : Nat → en_B) (hk : ∀ t, en_Snd G M_X5_mayFollow t (kc t)) : en_Snd G M_X5_mayFollow 25 (B_X5_mayFollow_25 kc) := (sn_zret (by decide +kernel))
noncomputable def B_X5_mayFollow_24 (kc : Nat → en_B) : en_B := (op_const (0 : Int32) (B_X5_mayFollow_25 kc))
set_option maxRecDepth 20000 in
theorem s_X5_mayFollow_24 (G : en_G) (hst : G.2.2.2.2.2 = true) (kc : Nat → en_B) (hk : ∀ t, en_Snd G M_X5_mayFollow t (kc t)) : en_Snd G M_X5_mayFollow 24 (B_X5_mayFollow_24 kc) := (sn_iconst (n := 0) (v := 0) (by decide +kernel) rfl (s_X5_mayFollow_25 G hst kc hk))
noncomputable def B_X5_mayFollow_0 (kc : Nat → en_B) : en_B := (op_iload 2 (op_iload 3 (op_bin (fun (x y : Int32) => x &&& y) (op_ifeq (op_aload 0 (op_gets 5 15 (23, 12, 128) (op_iload 1 (op_aldM (op_iload 2 (op_ald 20 (op_iload 4 (op_bin (fun (x y : Int32) => x &&& y) (op_ifeq (op_const (1 : Int32) (B_X5_mayFollow_25 kc)) (B_X5_mayFollow_24 kc)))))))))) (B_X5_mayFollow_24 kc)))))
set_option maxRecDepth 20000 in
theorem s_X5_mayFollow_0 (G : en_G) (hst : G.2.2.2.2.2 = true) (kc : Nat → en_B) (hk : ∀ t, en_Snd G M_X5_mayFollow t (kc t)) : en_Snd G M_X5_mayFollow 0 (B_X5_mayFollow_0 kc) := (sn_iload_n (i := 2) (n := 2) (by decide +kernel) rfl (sn_iload_n (i := 3) (n := 3) (by decide +kernel) rfl (sn_iand (by decide +kernel) (sn_ifne (off := 21) (tgt := 24) (by decide +kernel) rfl (s_X5_mayFollow_24 G hst kc hk) (sn_aload_n (i := 0) (n := 0) (by decide +kernel) rfl (sn_gets (ci := 5) (j := 2) (off := 15) hst en_c5 of_5_15 (Nat.le_of_ble_eq_true rfl) (by decide +kernel) wm_874 (Nat.le_of_ble_eq_true rfl) rfl (sn_iload_n (i := 1) (n := 1) (by decide +kernel) rfl (sn_aldM hst (by decide +kernel) (sn_iload_n (i := 2) (n := 2) (by decide +kernel) rfl (sn_iald (by decide +kernel) (sn_iload (i := 4) (by decide +kernel) (sn_iand (by decide +kernel) (sn_ifne (off := 7) (tgt := 24) (by decide +kernel) rfl (s_X5_mayFollow_24 G hst kc hk) (sn_iconst (n := 1) (v := 1) (by decide +kernel) rfl (sn_goto (off := 4) (tgt := 25) (by decide +kernel) rfl (s_X5_mayFollow_25 G hst kc hk))))))))))))))))
noncomputable def LK_X5_mayFollow : Nat → Nat → en_B
  | 0, _ => en_no
  | n + 1, t => en_no
theorem l_X5_mayFollow (G : en_G) (hst : G.2.2.2.2.2 = true) : ∀ n t, en_Snd G M_X5_mayFollow t (LK_X5_mayFollow n t)
  | 0, _ => sn_no
  | n + 1, t => by
    show en_Snd G M_X5_mayFollow t (en_no)
    exact sn_no
noncomputable def T_X5_mayFollow_0 (x1 : Int32) (x2 : Int32) (x3 : Int32) (x4 : Int32) (σ : en_M) : en_R := B_X5_mayFollow_0 (LK_X5_mayFollow en_FU) [.inr (103, 5, 0, 0), .inl x1, .inl x2, .inl x3, .inl x4] [] en_zz σ
set_option maxRecDepth 400000 in
set_option maxHeartbeats 4000000 in
theorem t_X5_mayFollow_0 (x1 : Int32) (x2 : Int32) (x3 : Int32) (x4 : Int32) (σ : en_M) : T_X5_mayFollow_0 x1 x2 x3 x4 σ = (if (x2 &&& x3) = 0 then ((en_ix x1 12).bind fun j1 => (en_ix x2 128).bind fun j2 => if ((σ (118 + 1 + j1) j2) &&& x4) = 0 then (if (1 : Int32) = 0 ∨ (1 : Int32) = 1 then en_ri (1 : Int32) σ else none) else (if (0 : Int32) = 0 ∨ (0 : Int32) = 1 then en_ri (0 : Int32) σ else none)) else (if (0 : Int32) = 0 ∨ (0 : Int32) = 1 then en_ri (0 : Int32) σ else none)) := rfl
noncomputable def P_X5_mayFollow : List en_V → en_M → Option (Int32 × en_M) := fun av σ => match av with
  | [.inr (103, 5, 0, 0), .inl x1, .inl x2, .inl x3, .inl x4] => en_oi (T_X5_mayFollow_0 x1 x2 x3 x4 σ)
  | _ => none
theorem ox_X5_mayFollow : ∃ f, f = P_X5_mayFollow := ⟨_, rfl⟩
noncomputable def O_X5_mayFollow : List en_V → en_M → Option (Int32 × en_M) := Classical.choose ox_X5_mayFollow
theorem oe_X5_mayFollow : O_X5_mayFollow = P_X5_mayFollow := Classical.choose_spec ox_X5_mayFollow
theorem o_X5_mayFollow (x1 : Int32) (x2 : Int32) (x3 : Int32) (x4 : Int32) (σ : en_M) : O_X5_mayFollow [.inr (103, 5, 0, 0), .inl x1, .inl x2, .inl x3, .inl x4] σ = en_oi (T_X5_mayFollow_0 x1 x2 x3 x4 σ) := by rw [oe_X5_mayFollow]; rfl
theorem i_X5_mayFollow (G : en_G) (hst : G.2.2.2.2.2 = true) : en_I G 1 yX5_mayFollow cX5_mayFollow 5 (some .boolean) 0 0 (en_wi (O_X5_mayFollow)) := en_of_i (M := M_X5_mayFollow) hst (s_X5_mayFollow_0 G hst _ (l_X5_mayFollow G hst en_FU)) (plainFor_of_name (by decide +kernel)) rfl rfl rfl (Or.inr ⟨Or.inl rfl, rfl⟩) (fun av σ x σ' h => by
  rw [oe_X5_mayFollow] at h; unfold P_X5_mayFollow at h
  split at h
  · exact ⟨(Nat.le_of_ble_eq_true rfl), en_oi_some h⟩
  · cases h)
-- EachMayMissOne$Plan.worth(II)I
def M_X5_worth : en_Me := (cX5_worth, RX5, 3, false, 2, false)
theorem cs_X5_worth : en_cs yX5_worth cX5_worth 3 (some .int) 2 := ⟨wm_901, wm_42, ⟨(by decide +kernel), (by decide +kernel), (by decide +kernel)⟩, (Nat.le_of_ble_eq_true rfl)⟩
noncomputable def B_X5_worth_0 (kc : Nat → en_B) : en_B := (op_iload 2 (op_calli O_J6_bitCount_0f7a4 1 (op_aload 0 (op_gets 5 28 (23, 13, 128) (op_iload 1 (op_const (1 : Int32) (op_bin (fun (x y : Int32) => x + y) (op_aldM (op_iload 2 (op_ald 20 (op_bin (fun (x y : Int32) => x + y) op_iret)))))))))))
set_option maxRecDepth 20000 in
theorem s_X5_worth_0 (G : en_G) (hst : G.2.2.2.2.2 = true) (kc : Nat → en_B) (hk : ∀ t, en_Snd G M_X5_worth t (kc t)) : en_Snd G M_X5_worth 0 (B_X5_worth_0 kc) := (sn_iload_n (i := 2) (n := 2) (by decide +kernel) rfl (sn_callSi (n := 1) (idx := 75) (i_J6_bitCount_0f7a4 G hst) (Nat.le_of_ble_eq_true rfl) cs_J6_bitCount_0f7a4 ⟨wm_511, Or.inl wm_900⟩ (by decide +kernel) (sn_aload_n (i := 0) (n := 0) (by decide +kernel) rfl (sn_gets (ci := 5) (j := 3) (off := 28) hst en_c5 of_5_28 (Nat.le_of_ble_eq_true rfl) (by decide +kernel) wm_875 (Nat.le_of_ble_eq_true rfl) rfl (sn_iload_n (i := 1) (n := 1) (by decide +kernel) rfl (sn_iconst (n := 1) (v := 1) (by decide +kernel) rfl (sn_iadd (by decide +kernel) (sn_aldM hst (by decide +kernel) (sn_iload_n (i := 2) (n := 2) (by decide +kernel) rfl (sn_iald (by decide +kernel) (sn_iadd (by decide +kernel) (sn_iret (by decide +kernel) rfl))))))))))))
noncomputable def LK_X5_worth : Nat → Nat → en_B
  | 0, _ => en_no
  | n + 1, t => en_no
theorem l_X5_worth (G : en_G) (hst : G.2.2.2.2.2 = true) : ∀ n t, en_Snd G M_X5_worth t (LK_X5_worth n t)
  | 0, _ => sn_no
  | n + 1, t => by
    show en_Snd G M_X5_worth t (en_no)
    exact sn_no
noncomputable def T_X5_worth_0 (x1 : Int32) (x2 : Int32) (σ : en_M) : en_R := B_X5_worth_0 (LK_X5_worth en_FU) [.inr (103, 5, 0, 0), .inl x1, .inl x2] [] en_zz σ
set_option maxRecDepth 400000 in
set_option maxHeartbeats 4000000 in
theorem t_X5_worth_0 (x1 : Int32) (x2 : Int32) (σ : en_M) : T_X5_worth_0 x1 x2 σ = ((O_J6_bitCount_0f7a4 [.inl x2] σ).bind fun r1 => (en_ix (x1 + (1 : Int32)) 13).bind fun j2 => (en_ix x2 128).bind fun j3 => en_ri (r1.1 + (r1.2 (131 + 1 + j2) j3)) r1.2) := rfl
noncomputable def P_X5_worth : List en_V → en_M → Option (Int32 × en_M) := fun av σ => match av with
  | [.inr (103, 5, 0, 0), .inl x1, .inl x2] => en_oi (T_X5_worth_0 x1 x2 σ)
  | _ => none
theorem ox_X5_worth : ∃ f, f = P_X5_worth := ⟨_, rfl⟩
noncomputable def O_X5_worth : List en_V → en_M → Option (Int32 × en_M) := Classical.choose ox_X5_worth
theorem oe_X5_worth : O_X5_worth = P_X5_worth := Classical.choose_spec ox_X5_worth
theorem o_X5_worth (x1 : Int32) (x2 : Int32) (σ : en_M) : O_X5_worth [.inr (103, 5, 0, 0), .inl x1, .inl x2] σ = en_oi (T_X5_worth_0 x1 x2 σ) := by rw [oe_X5_worth]; rfl
theorem i_X5_worth (G : en_G) (hst : G.2.2.2.2.2 = true) : en_I G 2 yX5_worth cX5_worth 3 (some .int) 0 0 (en_wi (O_X5_worth)) := en_of_i (M := M_X5_worth) hst (s_X5_worth_0 G hst _ (l_X5_worth G hst en_FU)) (plainFor_of_name (by decide +kernel)) rfl rfl rfl (Or.inl ⟨rfl, rfl⟩) (fun av σ x σ' h => by
  rw [oe_X5_worth] at h; unfold P_X5_worth at h
  split at h
  · exact ⟨(Nat.le_of_ble_eq_true rfl), en_oi_some h⟩
  · cases h)
-- EachMayMissOne$Plan.bestSet(III)I
def M_X5_bestSet : en_Me := (cX5_bestSet, RX5, 7, false, 3, false)
theorem cs_X5_bestSet : en_cs yX5_bestSet cX5_bestSet 7 (some .int) 3 := ⟨wm_904, wm_42, ⟨(by decide +kernel), (by decide +kernel), (by decide +kernel)⟩, (Nat.le_of_ble_eq_true rfl)⟩
noncomputable def B_X5_bestSet_67 (kc : Nat → en_B) : en_B := (op_iload 4 op_iret)
set_option maxRecDepth 20000 in
theorem s_X5_bestSet_67 (G : en_G) (hst : G.2.2.2.2.2 = true) (kc : Nat → en_B) (hk : ∀ t, en_Snd G M_X5_bestSet t (kc t)) : en_Snd G M_X5_bestSet 67 (B_X5_bestSet_67 kc) := (sn_iload (i := 4) (by decide +kernel) (sn_iret (by decide +kernel) rfl))
noncomputable def B_X5_bestSet_61 (kc : Nat → en_B) : en_B := (op_iinc 5 (1 : Int32) (kc 6))
set_option maxRecDepth 20000 in
theorem s_X5_bestSet_61 (G : en_G) (hst : G.2.2.2.2.2 = true) (kc : Nat → en_B) (hk : ∀ t, en_Snd G M_X5_bestSet t (kc t)) : en_Snd G M_X5_bestSet 61 (B_X5_bestSet_61 kc) := (sn_iinc (i := 5) (n := 1) (v := 1) (by decide +kernel) rfl (sn_goto (off := -58) (tgt := 6) (by decide +kernel) rfl (hk 6)))
noncomputable def B_X5_bestSet_6 (kc : Nat → en_B) : en_B := (op_iload 5 (op_aload 0 (op_gets 5 14 (20, 12, 0) (op_iload 1 (op_ald 20 (op_iclt (op_aload 0 (op_gets 5 1 (23, 12, 128) (op_iload 1 (op_aldM (op_iload 5 (op_ald 20 (op_istore 6 (op_aload 0 (op_iload 1 (op_iload 6 (op_iload 2 (op_iload 3 (op_rcv 5 4 (op_calli O_X5_mayFollow 5 (op_ifeq (B_X5_bestSet_61 kc) (op_aload 0 (op_iload 1 (op_iload 6 (op_rcv 5 2 (op_calli O_X5_worth 3 (op_aload 0 (op_iload 1 (op_iload 4 (op_rcv 5 2 (op_calli O_X5_worth 3 (op_icgt (op_iload 6 (op_istore 4 (B_X5_bestSet_61 kc))) (B_X5_bestSet_61 kc))))))))))))))))))))))))))) (B_X5_bestSet_67 kc)))))))
set_option maxRecDepth 20000 in
theorem s_X5_bestSet_6 (G : en_G) (hst : G.2.2.2.2.2 = true) (kc : Nat → en_B) (hk : ∀ t, en_Snd G M_X5_bestSet t (kc t)) : en_Snd G M_X5_bestSet 6 (B_X5_bestSet_6 kc) := (sn_iload (i := 5) (by decide +kernel) (sn_aload_n (i := 0) (n := 0) (by decide +kernel) rfl (sn_gets (ci := 5) (j := 1) (off := 14) hst en_c5 of_5_14 (Nat.le_of_ble_eq_true rfl) (by decide +kernel) wm_873 (Nat.le_of_ble_eq_true rfl) rfl (sn_iload_n (i := 1) (n := 1) (by decide +kernel) rfl (sn_iald (by decide +kernel) (sn_icge (off := 53) (tgt := 67) (by decide +kernel) rfl (s_X5_bestSet_67 G hst kc hk) (sn_aload_n (i := 0) (n := 0) (by decide +kernel) rfl (sn_gets (ci := 5) (j := 0) (off := 1) hst en_c5 of_5_1 (Nat.le_of_ble_eq_true rfl) (by decide +kernel) wm_872 (Nat.le_of_ble_eq_true rfl) rfl (sn_iload_n (i := 1) (n := 1) (by decide +kernel) rfl (sn_aldM hst (by decide +kernel) (sn_iload (i := 5) (by decide +kernel) (sn_iald (by decide +kernel) (sn_istore (i := 6) (by decide +kernel) (Nat.le_of_ble_eq_true rfl) (sn_aload_n (i := 0) (n := 0) (by decide +kernel) rfl (sn_iload_n (i := 1) (n := 1) (by decide +kernel) rfl (sn_iload (i := 6) (by decide +kernel) (sn_iload_n (i := 2) (n := 2) (by decide +kernel) rfl (sn_iload_n (i := 3) (n := 3) (by decide +kernel) rfl (sn_callVi (n := 4) (idx := 81) (ci := 5) (i_X5_mayFollow G hst) (Nat.le_of_ble_eq_true rfl) cs_X5_mayFollow ⟨wm_885, wm_886, wm_907⟩ ⟨⟨_, rfl, rfl⟩, (Nat.le_of_ble_eq_true rfl)⟩ (by decide +kernel) (sn_ifeq (off := 24) (tgt := 61) (by decide +kernel) rfl (s_X5_bestSet_61 G hst kc hk) (sn_aload_n (i := 0) (n := 0) (by decide +kernel) rfl (sn_iload_n (i := 1) (n := 1) (by decide +kernel) rfl (sn_iload (i := 6) (by decide +kernel) (sn_callVi (n := 2) (idx := 56) (ci := 5) (i_X5_worth G hst) (Nat.le_of_ble_eq_true rfl) cs_X5_worth ⟨wm_902, wm_903, wm_895⟩ ⟨⟨_, rfl, rfl⟩, (Nat.le_of_ble_eq_true rfl)⟩ (by decide +kernel) (sn_aload_n (i := 0) (n := 0) (by decide +kernel) rfl (sn_iload_n (i := 1) (n := 1) (by decide +kernel) rfl (sn_iload (i := 4) (by decide +kernel) (sn_callVi (n := 2) (idx := 56) (ci := 5) (i_X5_worth G hst) (Nat.le_of_ble_eq_true rfl) cs_X5_worth ⟨wm_902, wm_903, wm_895⟩ ⟨⟨_, rfl, rfl⟩, (Nat.le_of_ble_eq_true rfl)⟩ (by decide +kernel) (sn_icle (off := 7) (tgt := 61) (by decide +kernel) rfl (s_X5_bestSet_61 G hst kc hk) (sn_iload (i := 6) (by decide +kernel) (sn_istore (i := 4) (by decide +kernel) (Nat.le_of_ble_eq_true rfl) (s_X5_bestSet_61 G hst kc hk))))))))))))))))))))))))))))))))
noncomputable def B_X5_bestSet_0 (kc : Nat → en_B) : en_B := (op_const (0 : Int32) (op_istore 4 (op_const (0 : Int32) (op_istore 5 (kc 6)))))
set_option maxRecDepth 20000 in
theorem s_X5_bestSet_0 (G : en_G) (hst : G.2.2.2.2.2 = true) (kc : Nat → en_B) (hk : ∀ t, en_Snd G M_X5_bestSet t (kc t)) : en_Snd G M_X5_bestSet 0 (B_X5_bestSet_0 kc) := (sn_iconst (n := 0) (v := 0) (by decide +kernel) rfl (sn_istore (i := 4) (by decide +kernel) (Nat.le_of_ble_eq_true rfl) (sn_iconst (n := 0) (v := 0) (by decide +kernel) rfl (sn_istore (i := 5) (by decide +kernel) (Nat.le_of_ble_eq_true rfl) (hk 6)))))
noncomputable def LK_X5_bestSet : Nat → Nat → en_B
  | 0, _ => en_no
  | n + 1, t => if t = 6 then B_X5_bestSet_6 (LK_X5_bestSet n) else en_no
theorem l_X5_bestSet (G : en_G) (hst : G.2.2.2.2.2 = true) : ∀ n t, en_Snd G M_X5_bestSet t (LK_X5_bestSet n t)
  | 0, _ => sn_no
  | n + 1, t => by
    show en_Snd G M_X5_bestSet t (if t = 6 then B_X5_bestSet_6 (LK_X5_bestSet n) else en_no)
    by_cases h_6 : t = 6
    · rw [if_pos h_6, h_6]; exact s_X5_bestSet_6 G hst _ (l_X5_bestSet G hst n)
    rw [if_neg h_6]
    exact sn_no
noncomputable def T_X5_bestSet_0 (x1 : Int32) (x2 : Int32) (x3 : Int32) (σ : en_M) : en_R := B_X5_bestSet_0 (LK_X5_bestSet en_FU) [.inr (103, 5, 0, 0), .inl x1, .inl x2, .inl x3, en_un, en_un, en_un] [] en_zz σ
noncomputable def T_X5_bestSet_6 (n : Nat) (x1 : Int32) (x2 : Int32) (x3 : Int32) (x4 : Int32) (x5 : Int32) (u6 : en_V) (σ : en_M) : en_R := LK_X5_bestSet n 6 [.inr (103, 5, 0, 0), .inl x1, .inl x2, .inl x3, .inl x4, .inl x5, u6] [] en_zz σ
set_option maxRecDepth 400000 in
set_option maxHeartbeats 4000000 in
theorem t_X5_bestSet_0 (x1 : Int32) (x2 : Int32) (x3 : Int32) (σ : en_M) : T_X5_bestSet_0 x1 x2 x3 σ = (T_X5_bestSet_6 en_FU x1 x2 x3 (0 : Int32) (0 : Int32) (en_un) σ) := rfl
set_option maxRecDepth 400000 in
set_option maxHeartbeats 4000000 in
theorem t_X5_bestSet_6 (n : Nat) (x1 : Int32) (x2 : Int32) (x3 : Int32) (x4 : Int32) (x5 : Int32) (u6 : en_V) (σ : en_M) : T_X5_bestSet_6 (n + 1) x1 x2 x3 x4 x5 u6 σ = ((en_ix x1 12).bind fun j1 => if x5 < (σ 117 j1) then ((en_ix x1 12).bind fun j2 => (en_ix x5 128).bind fun j3 => (O_X5_mayFollow [.inr (103, 5, 0, 0), .inl x1, .inl (σ (104 + 1 + j2) j3), .inl x2, .inl x3] σ).bind fun r4 => if r4.1 = 0 then (T_X5_bestSet_6 n x1 x2 x3 x4 (x5 + (1 : Int32)) (.inl (σ (104 + 1 + j2) j3)) r4.2) else ((O_X5_worth [.inr (103, 5, 0, 0), .inl x1, .inl (σ (104 + 1 + j2) j3)] r4.2).bind fun r5 => (O_X5_worth [.inr (103, 5, 0, 0), .inl x1, .inl x4] r5.2).bind fun r6 => if r6.1 < r5.1 then (T_X5_bestSet_6 n x1 x2 x3 (σ (104 + 1 + j2) j3) (x5 + (1 : Int32)) (.inl (σ (104 + 1 + j2) j3)) r6.2) else (T_X5_bestSet_6 n x1 x2 x3 x4 (x5 + (1 : Int32)) (.inl (σ (104 + 1 + j2) j3)) r6.2))) else (en_ri x4 σ)) := rfl
noncomputable def P_X5_bestSet : List en_V → en_M → Option (Int32 × en_M) := fun av σ => match av with
  | [.inr (103, 5, 0, 0), .inl x1, .inl x2, .inl x3] => en_oi (T_X5_bestSet_0 x1 x2 x3 σ)
  | _ => none
theorem ox_X5_bestSet : ∃ f, f = P_X5_bestSet := ⟨_, rfl⟩
noncomputable def O_X5_bestSet : List en_V → en_M → Option (Int32 × en_M) := Classical.choose ox_X5_bestSet
theorem oe_X5_bestSet : O_X5_bestSet = P_X5_bestSet := Classical.choose_spec ox_X5_bestSet
theorem o_X5_bestSet (x1 : Int32) (x2 : Int32) (x3 : Int32) (σ : en_M) : O_X5_bestSet [.inr (103, 5, 0, 0), .inl x1, .inl x2, .inl x3] σ = en_oi (T_X5_bestSet_0 x1 x2 x3 σ) := by rw [oe_X5_bestSet]; rfl
theorem i_X5_bestSet (G : en_G) (hst : G.2.2.2.2.2 = true) : en_I G 3 yX5_bestSet cX5_bestSet 7 (some .int) 0 0 (en_wi (O_X5_bestSet)) := en_of_i (M := M_X5_bestSet) hst (s_X5_bestSet_0 G hst _ (l_X5_bestSet G hst en_FU)) (plainFor_of_name (by decide +kernel)) rfl rfl rfl (Or.inl ⟨rfl, rfl⟩) (fun av σ x σ' h => by
  rw [oe_X5_bestSet] at h; unfold P_X5_bestSet at h
  split at h
  · exact ⟨(Nat.le_of_ble_eq_true rfl), en_oi_some h⟩
  · cases h)
-- EachMayMissOne$Plan.mostMissed(LEachMayMissOne$State;ILEachMayMissOne$Told;)I
def M_X5_mostMissed : en_Me := (cX5_mostMissed, RX5, 9, false, 4, false)
theorem cs_X5_mostMissed : en_cs yX5_mostMissed cX5_mostMissed 9 (some .int) 3 := ⟨wm_887, wm_42, ⟨(by decide +kernel), (by decide +kernel), (by decide +kernel)⟩, (Nat.le_of_ble_eq_true rfl)⟩
noncomputable def B_X5_mostMissed_178 (kc : Nat → en_B) : en_B := (op_iload 6 op_iret)
set_option maxRecDepth 20000 in
theorem s_X5_mostMissed_178 (G : en_G) (hst : G.2.2.2.2.2 = true) (kc : Nat → en_B) (hk : ∀ t, en_Snd G M_X5_mostMissed t (kc t)) : en_Snd G M_X5_mostMissed 178 (B_X5_mostMissed_178 kc) := (sn_iload (i := 6) (by decide +kernel) (sn_iret (by decide +kernel) rfl))
noncomputable def B_X5_mostMissed_122 (kc : Nat → en_B) : en_B := (op_iload 7 (op_iload 2 (op_iclt (op_aload 0 (op_iload 7 (op_iload 4 (op_iload 5 (op_rcv 5 3 (op_calli O_X5_bestSet 4 (op_istore 8 (op_aload 3 (op_iload 8 (op_rcv 9 1 (op_callv O_X9_add 2 (op_iload 6 (op_iload 8 (op_calli O_J6_bitCount_0f7a4 1 (op_bin (fun (x y : Int32) => x + y) (op_istore 6 (op_iload 8 (op_istore 4 (op_aload 0 (op_gets 5 15 (23, 12, 128) (op_iload 7 (op_aldM (op_iload 8 (op_ald 20 (op_istore 5 (op_iinc 7 (1 : Int32) (kc 122))))))))))))))))))))))))))) (B_X5_mostMissed_178 kc))))
set_option maxRecDepth 20000 in
theorem s_X5_mostMissed_122 (G : en_G) (hst : G.2.2.2.2.2 = true) (kc : Nat → en_B) (hk : ∀ t, en_Snd G M_X5_mostMissed t (kc t)) : en_Snd G M_X5_mostMissed 122 (B_X5_mostMissed_122 kc) := (sn_iload (i := 7) (by decide +kernel) (sn_iload_n (i := 2) (n := 2) (by decide +kernel) rfl (sn_icge (off := 53) (tgt := 178) (by decide +kernel) rfl (s_X5_mostMissed_178 G hst kc hk) (sn_aload_n (i := 0) (n := 0) (by decide +kernel) rfl (sn_iload (i := 7) (by decide +kernel) (sn_iload (i := 4) (by decide +kernel) (sn_iload (i := 5) (by decide +kernel) (sn_callVi (n := 3) (idx := 52) (ci := 5) (i_X5_bestSet G hst) (Nat.le_of_ble_eq_true rfl) cs_X5_bestSet ⟨wm_905, wm_906, wm_894⟩ ⟨⟨_, rfl, rfl⟩, (Nat.le_of_ble_eq_true rfl)⟩ (by decide +kernel) (sn_istore (i := 8) (by decide +kernel) (Nat.le_of_ble_eq_true rfl) (sn_aload_n (i := 3) (n := 3) (by decide +kernel) rfl (sn_iload (i := 8) (by decide +kernel) (sn_callVv (n := 1) (idx := 71) (ci := 9) (i_X9_add G hst) (Nat.le_of_ble_eq_true rfl) cs_X9_add ⟨wm_1090, wm_1091, wm_899⟩ ⟨⟨_, rfl, rfl⟩, (Nat.le_of_ble_eq_true rfl)⟩ (by decide +kernel) (sn_iload (i := 6) (by decide +kernel) (sn_iload (i := 8) (by decide +kernel) (sn_callSi (n := 1) (idx := 75) (i_J6_bitCount_0f7a4 G hst) (Nat.le_of_ble_eq_true rfl) cs_J6_bitCount_0f7a4 ⟨wm_511, Or.inl wm_900⟩ (by decide +kernel) (sn_iadd (by decide +kernel) (sn_istore (i := 6) (by decide +kernel) (Nat.le_of_ble_eq_true rfl) (sn_iload (i := 8) (by decide +kernel) (sn_istore (i := 4) (by decide +kernel) (Nat.le_of_ble_eq_true rfl) (sn_aload_n (i := 0) (n := 0) (by decide +kernel) rfl (sn_gets (ci := 5) (j := 2) (off := 15) hst en_c5 of_5_15 (Nat.le_of_ble_eq_true rfl) (by decide +kernel) wm_874 (Nat.le_of_ble_eq_true rfl) rfl (sn_iload (i := 7) (by decide +kernel) (sn_aldM hst (by decide +kernel) (sn_iload (i := 8) (by decide +kernel) (sn_iald (by decide +kernel) (sn_istore (i := 5) (by decide +kernel) (Nat.le_of_ble_eq_true rfl) (sn_iinc (i := 7) (n := 1) (v := 1) (by decide +kernel) rfl (sn_goto (off := -53) (tgt := 122) (by decide +kernel) rfl (hk 122)))))))))))))))))))))))))))))
noncomputable def B_X5_mostMissed_100 (kc : Nat → en_B) : en_B := (op_aload 3 (op_rcv 9 0 (op_callv O_X9_begin 1 (op_aload 1 (op_geti 7 7 (op_istore 4 (op_aload 1 (op_geti 7 8 (op_istore 5 (op_const (0 : Int32) (op_istore 6 (op_const (0 : Int32) (op_istore 7 (kc 122))))))))))))))
set_option maxRecDepth 20000 in
theorem s_X5_mostMissed_100 (G : en_G) (hst : G.2.2.2.2.2 = true) (kc : Nat → en_B) (hk : ∀ t, en_Snd G M_X5_mostMissed t (kc t)) : en_Snd G M_X5_mostMissed 100 (B_X5_mostMissed_100 kc) := (sn_aload_n (i := 3) (n := 3) (by decide +kernel) rfl (sn_callVv (n := 0) (idx := 59) (ci := 9) (i_X9_begin G hst) (Nat.le_of_ble_eq_true rfl) cs_X9_begin ⟨wm_1086, wm_1087, wm_896⟩ ⟨⟨_, rfl, rfl⟩, (Nat.le_of_ble_eq_true rfl)⟩ (by decide +kernel) (sn_aload_n (i := 1) (n := 1) (by decide +kernel) rfl (sn_geti (ci := 7) (j := 7) en_c7 (by decide +kernel) wm_897 (Nat.le_of_ble_eq_true rfl) rfl (sn_istore (i := 4) (by decide +kernel) (Nat.le_of_ble_eq_true rfl) (sn_aload_n (i := 1) (n := 1) (by decide +kernel) rfl (sn_geti (ci := 7) (j := 8) en_c7 (by decide +kernel) wm_898 (Nat.le_of_ble_eq_true rfl) rfl (sn_istore (i := 5) (by decide +kernel) (Nat.le_of_ble_eq_true rfl) (sn_iconst (n := 0) (v := 0) (by decide +kernel) rfl (sn_istore (i := 6) (by decide +kernel) (Nat.le_of_ble_eq_true rfl) (sn_iconst (n := 0) (v := 0) (by decide +kernel) rfl (sn_istore (i := 7) (by decide +kernel) (Nat.le_of_ble_eq_true rfl) (hk 122)))))))))))))
noncomputable def B_X5_mostMissed_94 (kc : Nat → en_B) : en_B := (op_iinc 4 (-1 : Int32) (kc 15))
set_option maxRecDepth 20000 in
theorem s_X5_mostMissed_94 (G : en_G) (hst : G.2.2.2.2.2 = true) (kc : Nat → en_B) (hk : ∀ t, en_Snd G M_X5_mostMissed t (kc t)) : en_Snd G M_X5_mostMissed 94 (B_X5_mostMissed_94 kc) := (sn_iinc (i := 4) (n := -1) (v := -1) (by decide +kernel) rfl (sn_goto (off := -82) (tgt := 15) (by decide +kernel) rfl (hk 15)))
noncomputable def B_X5_mostMissed_24 (kc : Nat → en_B) : en_B := (op_iload 5 (op_aload 0 (op_gets 5 14 (20, 12, 0) (op_iload 4 (op_const (1 : Int32) (op_bin (fun (x y : Int32) => x - y) (op_ald 20 (op_iclt (op_aload 0 (op_gets 5 1 (23, 12, 128) (op_iload 4 (op_const (1 : Int32) (op_bin (fun (x y : Int32) => x - y) (op_aldM (op_iload 5 (op_ald 20 (op_istore 6 (op_aload 0 (op_gets 5 28 (23, 13, 128) (op_iload 4 (op_aldM (op_iload 6 (op_aload 0 (op_iload 4 (op_aload 0 (op_iload 4 (op_iload 6 (op_aload 0 (op_gets 5 15 (23, 12, 128) (op_iload 4 (op_const (1 : Int32) (op_bin (fun (x y : Int32) => x - y) (op_aldM (op_iload 6 (op_ald 20 (op_rcv 5 3 (op_calli O_X5_bestSet 4 (op_rcv 5 2 (op_calli O_X5_worth 3 (op_ast 20 (fun (x : Int32) => x) (op_iinc 5 (1 : Int32) (kc 24)))))))))))))))))))))))))))))))))) (B_X5_mostMissed_94 kc)))))))))
set_option maxRecDepth 20000 in
theorem s_X5_mostMissed_24 (G : en_G) (hst : G.2.2.2.2.2 = true) (kc : Nat → en_B) (hk : ∀ t, en_Snd G M_X5_mostMissed t (kc t)) : en_Snd G M_X5_mostMissed 24 (B_X5_mostMissed_24 kc) := (sn_iload (i := 5) (by decide +kernel) (sn_aload_n (i := 0) (n := 0) (by decide +kernel) rfl (sn_gets (ci := 5) (j := 1) (off := 14) hst en_c5 of_5_14 (Nat.le_of_ble_eq_true rfl) (by decide +kernel) wm_873 (Nat.le_of_ble_eq_true rfl) rfl (sn_iload (i := 4) (by decide +kernel) (sn_iconst (n := 1) (v := 1) (by decide +kernel) rfl (sn_isub (by decide +kernel) (sn_iald (by decide +kernel) (sn_icge (off := 59) (tgt := 94) (by decide +kernel) rfl (s_X5_mostMissed_94 G hst kc hk) (sn_aload_n (i := 0) (n := 0) (by decide +kernel) rfl (sn_gets (ci := 5) (j := 0) (off := 1) hst en_c5 of_5_1 (Nat.le_of_ble_eq_true rfl) (by decide +kernel) wm_872 (Nat.le_of_ble_eq_true rfl) rfl (sn_iload (i := 4) (by decide +kernel) (sn_iconst (n := 1) (v := 1) (by decide +kernel) rfl (sn_isub (by decide +kernel) (sn_aldM hst (by decide +kernel) (sn_iload (i := 5) (by decide +kernel) (sn_iald (by decide +kernel) (sn_istore (i := 6) (by decide +kernel) (Nat.le_of_ble_eq_true rfl) (sn_aload_n (i := 0) (n := 0) (by decide +kernel) rfl (sn_gets (ci := 5) (j := 3) (off := 28) hst en_c5 of_5_28 (Nat.le_of_ble_eq_true rfl) (by decide +kernel) wm_875 (Nat.le_of_ble_eq_true rfl) rfl (sn_iload (i := 4) (by decide +kernel) (sn_aldM hst (by decide +kernel) (sn_iload (i := 6) (by decide +kernel) (sn_aload_n (i := 0) (n := 0) (by decide +kernel) rfl (sn_iload (i := 4) (by decide +kernel) (sn_aload_n (i := 0) (n := 0) (by decide +kernel) rfl (sn_iload (i := 4) (by decide +kernel) (sn_iload (i := 6) (by decide +kernel) (sn_aload_n (i := 0) (n := 0) (by decide +kernel) rfl (sn_gets (ci := 5) (j := 2) (off := 15) hst en_c5 of_5_15 (Nat.le_of_ble_eq_true rfl) (by decide +kernel) wm_874 (Nat.le_of_ble_eq_true rfl) rfl (sn_iload (i := 4) (by decide +kernel) (sn_iconst (n := 1) (v := 1) (by decide +kernel) rfl (sn_isub (by decide +kernel) (sn_aldM hst (by decide +kernel) (sn_iload (i := 6) (by decide +kernel) (sn_iald (by decide +kernel) (sn_callVi (n := 3) (idx := 52) (ci := 5) (i_X5_bestSet G hst) (Nat.le_of_ble_eq_true rfl) cs_X5_bestSet ⟨wm_905, wm_906, wm_894⟩ ⟨⟨_, rfl, rfl⟩, (Nat.le_of_ble_eq_true rfl)⟩ (by decide +kernel) (sn_callVi (n := 2) (idx := 56) (ci := 5) (i_X5_worth G hst) (Nat.le_of_ble_eq_true rfl) cs_X5_worth ⟨wm_902, wm_903, wm_895⟩ ⟨⟨_, rfl, rfl⟩, (Nat.le_of_ble_eq_true rfl)⟩ (by decide +kernel) (sn_iast (by decide +kernel) (sn_iinc (i := 5) (n := 1) (v := 1) (by decide +kernel) rfl (sn_goto (off := -67) (tgt := 24) (by decide +kernel) rfl (hk 24)))))))))))))))))))))))))))))))))))))))))
noncomputable def B_X5_mostMissed_15 (kc : Nat → en_B) : en_B := (op_iload 4 (op_const (1 : Int32) (op_iclt (B_X5_mostMissed_100 kc) (op_const (0 : Int32) (op_istore 5 (kc 24))))))
set_option maxRecDepth 20000 in
theorem s_X5_mostMissed_15 (G : en_G) (hst : G.2.2.2.2.2 = true) (kc : Nat → en_B) (hk : ∀ t, en_Snd G M_X5_mostMissed t (kc t)) : en_Snd G M_X5_mostMissed 15 (B_X5_mostMissed_15 kc) := (sn_iload (i := 4) (by decide +kernel) (sn_iconst (n := 1) (v := 1) (by decide +kernel) rfl (sn_iclt (off := 82) (tgt := 100) (by decide +kernel) rfl (s_X5_mostMissed_100 G hst kc hk) (sn_iconst (n := 0) (v := 0) (by decide +kernel) rfl (sn_istore (i := 5) (by decide +kernel) (Nat.le_of_ble_eq_true rfl) (hk 24))))))
noncomputable def B_X5_mostMissed_0 (kc : Nat → en_B) : en_B := (op_aload 0 (op_gets 5 28 (23, 13, 128) (op_iload 2 (op_aldM (op_const (0 : Int32) (op_callv O_J7_fill_53178 2 (op_iload 2 (op_const (1 : Int32) (op_bin (fun (x y : Int32) => x - y) (op_istore 4 (kc 15)))))))))))
set_option maxRecDepth 20000 in
theorem s_X5_mostMissed_0 (G : en_G) (hst : G.2.2.2.2.2 = true) (kc : Nat → en_B) (hk : ∀ t, en_Snd G M_X5_mostMissed t (kc t)) : en_Snd G M_X5_mostMissed 0 (B_X5_mostMissed_0 kc) := (sn_aload_n (i := 0) (n := 0) (by decide +kernel) rfl (sn_gets (ci := 5) (j := 3) (off := 28) hst en_c5 of_5_28 (Nat.le_of_ble_eq_true rfl) (by decide +kernel) wm_875 (Nat.le_of_ble_eq_true rfl) rfl (sn_iload_n (i := 2) (n := 2) (by decide +kernel) rfl (sn_aldM hst (by decide +kernel) (sn_iconst (n := 0) (v := 0) (by decide +kernel) rfl (sn_callSv (n := 2) (idx := 46) (i_J7_fill_53178 G hst) (Nat.le_of_ble_eq_true rfl) cs_J7_fill_53178 ⟨wm_891, Or.inl wm_893⟩ (by decide +kernel) (sn_iload_n (i := 2) (n := 2) (by decide +kernel) rfl (sn_iconst (n := 1) (v := 1) (by decide +kernel) rfl (sn_isub (by decide +kernel) (sn_istore (i := 4) (by decide +kernel) (Nat.le_of_ble_eq_true rfl) (hk 15)))))))))))
noncomputable def LK_X5_mostMissed : Nat → Nat → en_B
  | 0, _ => en_no
  | n + 1, t => if t = 15 then B_X5_mostMissed_15 (LK_X5_mostMissed n) else if t = 24 then B_X5_mostMissed_24 (LK_X5_mostMissed n) else if t = 122 then B_X5_mostMissed_122 (LK_X5_mostMissed n) else en_no
theorem l_X5_mostMissed (G : en_G) (hst : G.2.2.2.2.2 = true) : ∀ n t, en_Snd G M_X5_mostMissed t (LK_X5_mostMissed n t)
  | 0, _ => sn_no
  | n + 1, t => by
    show en_Snd G M_X5_mostMissed t (if t = 15 then B_X5_mostMissed_15 (LK_X5_mostMissed n) else if t = 24 then B_X5_mostMissed_24 (LK_X5_mostMissed n) else if t = 122 then B_X5_mostMissed_122 (LK_X5_mostMissed n) else en_no)
    by_cases h_15 : t = 15
    · rw [if_pos h_15, h_15]; exact s_X5_mostMissed_15 G hst _ (l_X5_mostMissed G hst n)
    rw [if_neg h_15]
    by_cases h_24 : t = 24
    · rw [if_pos h_24, h_24]; exact s_X5_mostMissed_24 G hst _ (l_X5_mostMissed G hst n)
    rw [if_neg h_24]
    by_cases h_122 : t = 122
    · rw [if_pos h_122, h_122]; exact s_X5_mostMissed_122 G hst _ (l_X5_mostMissed G hst n)
    rw [if_neg h_122]
    exact sn_no
noncomputable def T_X5_mostMissed_0 (k1 : Nat) (x2 : Int32) (σ : en_M) : en_R := B_X5_mostMissed_0 (LK_X5_mostMissed en_FU) [.inr (103, 5, 0, 0), .inr (k1, 7, 0, 0), .inl x2, .inr (3, 9, 0, 0), en_un, en_un, en_un, en_un, en_un] [] en_zz σ
noncomputable def T_X5_mostMissed_15 (n : Nat) (k1 : Nat) (x2 : Int32) (x4 : Int32) (u5 : en_V) (u6 : en_V) (σ : en_M) : en_R := LK_X5_mostMissed n 15 [.inr (103, 5, 0, 0), .inr (k1, 7, 0, 0), .inl x2, .inr (3, 9, 0, 0), .inl x4, u5, u6, en_un, en_un] [] en_zz σ
noncomputable def T_X5_mostMissed_24 (n : Nat) (k1 : Nat) (x2 : Int32) (x4 : Int32) (x5 : Int32) (u6 : en_V) (σ : en_M) : en_R := LK_X5_mostMissed n 24 [.inr (103, 5, 0, 0), .inr (k1, 7, 0, 0), .inl x2, .inr (3, 9, 0, 0), .inl x4, .inl x5, u6, en_un, en_un] [] en_zz σ
noncomputable def T_X5_mostMissed_122 (n : Nat) (k1 : Nat) (x2 : Int32) (x4 : Int32) (x5 : Int32) (x6 : Int32) (x7 : Int32) (u8 : en_V) (σ : en_M) : en_R := LK_X5_mostMissed n 122 [.inr (103, 5, 0, 0), .inr (k1, 7, 0, 0), .inl x2, .inr (3, 9, 0, 0), .inl x4, .inl x5, .inl x6, .inl x7, u8] [] en_zz σ
set_option maxRecDepth 400000 in
set_option maxHeartbeats 4000000 in
theorem t_X5_mostMissed_0 (k1 : Nat) (x2 : Int32) (σ : en_M) : T_X5_mostMissed_0 k1 x2 σ = ((en_ix x2 13).bind fun j1 => (O_J7_fill_53178 [.inr ((131 + 1 + j1), 20, 128, 0), .inl (0 : Int32)] σ).bind fun r2 => T_X5_mostMissed_15 en_FU k1 x2 (x2 - (1 : Int32)) (en_un) (en_un) r2) := rfl
set_option maxRecDepth 400000 in
set_option maxHeartbeats 4000000 in
theorem t_X5_mostMissed_15 (n : Nat) (k1 : Nat) (x2 : Int32) (x4 : Int32) (u5 : en_V) (u6 : en_V) (σ : en_M) : T_X5_mostMissed_15 (n + 1) k1 x2 x4 u5 u6 σ = (if x4 < (1 : Int32) then ((O_X9_begin [.inr (3, 9, 0, 0)] σ).bind fun r3 => T_X5_mostMissed_122 n k1 x2 (r3 k1 7) (r3 k1 8) (0 : Int32) (0 : Int32) (en_un) r3) else (T_X5_mostMissed_24 n k1 x2 x4 (0 : Int32) (u6) σ)) := rfl
set_option maxRecDepth 400000 in
set_option maxHeartbeats 4000000 in
theorem t_X5_mostMissed_24 (n : Nat) (k1 : Nat) (x2 : Int32) (x4 : Int32) (x5 : Int32) (u6 : en_V) (σ : en_M) : T_X5_mostMissed_24 (n + 1) k1 x2 x4 x5 u6 σ = ((en_ix (x4 - (1 : Int32)) 12).bind fun j4 => if x5 < (σ 117 j4) then ((en_ix (x4 - (1 : Int32)) 12).bind fun j5 => (en_ix x5 128).bind fun j6 => (en_ix x4 13).bind fun j7 => (en_ix (x4 - (1 : Int32)) 12).bind fun j8 => (en_ix (σ (104 + 1 + j5) j6) 128).bind fun j9 => (O_X5_bestSet [.inr (103, 5, 0, 0), .inl x4, .inl (σ (104 + 1 + j5) j6), .inl (σ (118 + 1 + j8) j9)] σ).bind fun r10 => (O_X5_worth [.inr (103, 5, 0, 0), .inl x4, .inl r10.1] r10.2).bind fun r11 => (en_ix (σ (104 + 1 + j5) j6) 128).bind fun j12 => T_X5_mostMissed_24 n k1 x2 x4 (x5 + (1 : Int32)) (.inl (σ (104 + 1 + j5) j6)) (en_up r11.2 (131 + 1 + j7) j12 r11.1)) else (T_X5_mostMissed_15 n k1 x2 (x4 + (-1 : Int32)) (.inl x5) (u6) σ)) := rfl
set_option maxRecDepth 400000 in
set_option maxHeartbeats 4000000 in
theorem t_X5_mostMissed_122 (n : Nat) (k1 : Nat) (x2 : Int32) (x4 : Int32) (x5 : Int32) (x6 : Int32) (x7 : Int32) (u8 : en_V) (σ : en_M) : T_X5_mostMissed_122 (n + 1) k1 x2 x4 x5 x6 x7 u8 σ = (if x7 < x2 then ((O_X5_bestSet [.inr (103, 5, 0, 0), .inl x7, .inl x4, .inl x5] σ).bind fun r13 => (O_X9_add [.inr (3, 9, 0, 0), .inl r13.1] r13.2).bind fun r14 => (O_J6_bitCount_0f7a4 [.inl r13.1] r14).bind fun r15 => (en_ix x7 12).bind fun j16 => (en_ix r13.1 128).bind fun j17 => T_X5_mostMissed_122 n k1 x2 r13.1 (r15.2 (118 + 1 + j16) j17) (x6 + r15.1) (x7 + (1 : Int32)) (.inl r13.1) r15.2) else (en_ri x6 σ)) := rfl
noncomputable def P_X5_mostMissed : List en_V → en_M → Option (Int32 × en_M) := fun av σ => match av with
  | [.inr (103, 5, 0, 0), .inr (k1, 7, 0, 0), .inl x2, .inr (3, 9, 0, 0)] => en_oi (T_X5_mostMissed_0 k1 x2 σ)
  | _ => none
theorem ox_X5_mostMissed : ∃ f, f = P_X5_mostMissed := ⟨_, rfl⟩
noncomputable def O_X5_mostMissed : List en_V → en_M → Option (Int32 × en_M) := Classical.choose ox_X5_mostMissed
theorem oe_X5_mostMissed : O_X5_mostMissed = P_X5_mostMissed := Classical.choose_spec ox_X5_mostMissed
theorem o_X5_mostMissed (k1 : Nat) (x2 : Int32) (σ : en_M) : O_X5_mostMissed [.inr (103, 5, 0, 0), .inr (k1, 7, 0, 0), .inl x2, .inr (3, 9, 0, 0)] σ = en_oi (T_X5_mostMissed_0 k1 x2 σ) := by rw [oe_X5_mostMissed]; rfl
theorem i_X5_mostMissed (G : en_G) (hst : G.2.2.2.2.2 = true) : en_I G 4 yX5_mostMissed cX5_mostMissed 9 (some .int) 0 0 (en_wi (O_X5_mostMissed)) := en_of_i (M := M_X5_mostMissed) hst (s_X5_mostMissed_0 G hst _ (l_X5_mostMissed G hst en_FU)) (plainFor_of_name (by decide +kernel)) rfl rfl rfl (Or.inl ⟨rfl, rfl⟩) (fun av σ x σ' h => by
  rw [oe_X5_mostMissed] at h; unfold P_X5_mostMissed at h
  split at h
  · exact ⟨(Nat.le_of_ble_eq_true rfl), en_oi_some h⟩
  · cases h)
-- EachMayMissOne$Plan.setsBefore(II)I
def M_X5_setsBefore : en_Me := (cX5_setsBefore, RX5, 6, false, 2, false)
theorem cs_X5_setsBefore : en_cs yX5_setsBefore cX5_setsBefore 6 (some .int) 2 := ⟨wm_921, wm_42, ⟨(by decide +kernel), (by decide +kernel), (by decide +kernel)⟩, (Nat.le_of_ble_eq_true rfl)⟩
noncomputable def B_X5_setsBefore_70 (kc : Nat → en_B) : en_B := (op_iload 3 op_iret)
set_option maxRecDepth 20000 in
theorem s_X5_setsBefore_70 (G : en_G) (hst : G.2.2.2.2.2 = true) (kc : Nat → en_B) (hk : ∀ t, en_Snd G M_X5_setsBefore t (kc t)) : en_Snd G M_X5_setsBefore 70 (B_X5_setsBefore_70 kc) := (sn_iload_n (i := 3) (n := 3) (by decide +kernel) rfl (sn_iret (by decide +kernel) rfl))
noncomputable def B_X5_setsBefore_62 (kc : Nat → en_B) : en_B := (op_bin (fun (x y : Int32) => x ||| y) (op_istore 3 (op_iinc 4 (1 : Int32) (kc 5))))
set_option maxRecDepth 20000 in
theorem s_X5_setsBefore_62 (G : en_G) (hst : G.2.2.2.2.2 = true) (kc : Nat → en_B) (hk : ∀ t, en_Snd G M_X5_setsBefore t (kc t)) : en_Snd G M_X5_setsBefore 62 (B_X5_setsBefore_62 kc) := (sn_ior (by decide +kernel) (sn_istore_n (i := 3) (n := 3) (by decide +kernel) rfl (Nat.le_of_ble_eq_true rfl) (sn_iinc (i := 4) (n := 1) (v := 1) (by decide +kernel) rfl (sn_goto (off := -62) (tgt := 5) (by decide +kernel) rfl (hk 5)))))
noncomputable def B_X5_setsBefore_61 (kc : Nat → en_B) : en_B := (op_const (0 : Int32) (B_X5_setsBefore_62 kc))
set_option maxRecDepth 20000 in
theorem s_X5_setsBefore_61 (G : en_G) (hst : G.2.2.2.2.2 = true) (kc : Nat → en_B) (hk : ∀ t, en_Snd G M_X5_setsBefore t (kc t)) : en_Snd G M_X5_setsBefore 61 (B_X5_setsBefore_61 kc) := (sn_iconst (n := 0) (v := 0) (by decide +kernel) rfl (s_X5_setsBefore_62 G hst kc hk))
noncomputable def B_X5_setsBefore_5 (kc : Nat → en_B) : en_B := (op_iload 4 (op_aload 0 (op_gets 5 14 (20, 12, 0) (op_iload 1 (op_const (1 : Int32) (op_bin (fun (x y : Int32) => x - y) (op_ald 20 (op_iclt (op_aload 0 (op_gets 5 1 (23, 12, 128) (op_iload 1 (op_const (1 : Int32) (op_bin (fun (x y : Int32) => x - y) (op_aldM (op_iload 4 (op_ald 20 (op_istore 5 (op_iload 3 (op_aload 0 (op_iload 1 (op_iload 2 (op_iload 5 (op_aload 0 (op_gets 5 15 (23, 12, 128) (op_iload 1 (op_const (1 : Int32) (op_bin (fun (x y : Int32) => x - y) (op_aldM (op_iload 5 (op_ald 20 (op_rcv 5 4 (op_calli O_X5_mayFollow 5 (op_ifeq (B_X5_setsBefore_61 kc) (op_const (1 : Int32) (op_iload 5 (op_bin en_shl (B_X5_setsBefore_62 kc))))))))))))))))))))))))))))) (B_X5_setsBefore_70 kc)))))))))
set_option maxRecDepth 20000 in
theorem s_X5_setsBefore_5 (G : en_G) (hst : G.2.2.2.2.2 = true) (kc : Nat → en_B) (hk : ∀ t, en_Snd G M_X5_setsBefore t (kc t)) : en_Snd G M_X5_setsBefore 5 (B_X5_setsBefore_5 kc) := (sn_iload (i := 4) (by decide +kernel) (sn_aload_n (i := 0) (n := 0) (by decide +kernel) rfl (sn_gets (ci := 5) (j := 1) (off := 14) hst en_c5 of_5_14 (Nat.le_of_ble_eq_true rfl) (by decide +kernel) wm_873 (Nat.le_of_ble_eq_true rfl) rfl (sn_iload_n (i := 1) (n := 1) (by decide +kernel) rfl (sn_iconst (n := 1) (v := 1) (by decide +kernel) rfl (sn_isub (by decide +kernel) (sn_iald (by decide +kernel) (sn_icge (off := 55) (tgt := 70) (by decide +kernel) rfl (s_X5_setsBefore_70 G hst kc hk) (sn_aload_n (i := 0) (n := 0) (by decide +kernel) rfl (sn_gets (ci := 5) (j := 0) (off := 1) hst en_c5 of_5_1 (Nat.le_of_ble_eq_true rfl) (by decide +kernel) wm_872 (Nat.le_of_ble_eq_true rfl) rfl (sn_iload_n (i := 1) (n := 1) (by decide +kernel) rfl (sn_iconst (n := 1) (v := 1) (by decide +kernel) rfl (sn_isub (by decide +kernel) (sn_aldM hst (by decide +kernel) (sn_iload (i := 4) (by decide +kernel) (sn_iald (by decide +kernel) (sn_istore (i := 5) (by decide +kernel) (Nat.le_of_ble_eq_true rfl) (sn_iload_n (i := 3) (n := 3) (by decide +kernel) rfl (sn_aload_n (i := 0) (n := 0) (by decide +kernel) rfl (sn_iload_n (i := 1) (n := 1) (by decide +kernel) rfl (sn_iload_n (i := 2) (n := 2) (by decide +kernel) rfl (sn_iload (i := 5) (by decide +kernel) (sn_aload_n (i := 0) (n := 0) (by decide +kernel) rfl (sn_gets (ci := 5) (j := 2) (off := 15) hst en_c5 of_5_15 (Nat.le_of_ble_eq_true rfl) (by decide +kernel) wm_874 (Nat.le_of_ble_eq_true rfl) rfl (sn_iload_n (i := 1) (n := 1) (by decide +kernel) rfl (sn_iconst (n := 1) (v := 1) (by decide +kernel) rfl (sn_isub (by decide +kernel) (sn_aldM hst (by decide +kernel) (sn_iload (i := 5) (by decide +kernel) (sn_iald (by decide +kernel) (sn_callVi (n := 4) (idx := 81) (ci := 5) (i_X5_mayFollow G hst) (Nat.le_of_ble_eq_true rfl) cs_X5_mayFollow ⟨wm_885, wm_886, wm_907⟩ ⟨⟨_, rfl, rfl⟩, (Nat.le_of_ble_eq_true rfl)⟩ (by decide +kernel) (sn_ifeq (off := 10) (tgt := 61) (by decide +kernel) rfl (s_X5_setsBefore_61 G hst kc hk) (sn_iconst (n := 1) (v := 1) (by decide +kernel) rfl (sn_iload (i := 5) (by decide +kernel) (sn_ishl (by decide +kernel) (sn_goto (off := 4) (tgt := 62) (by decide +kernel) rfl (s_X5_setsBefore_62 G hst kc hk)))))))))))))))))))))))))))))))))))))
noncomputable def B_X5_setsBefore_0 (kc : Nat → en_B) : en_B := (op_const (0 : Int32) (op_istore 3 (op_const (0 : Int32) (op_istore 4 (kc 5)))))
set_option maxRecDepth 20000 in
theorem s_X5_setsBefore_0 (G : en_G) (hst : G.2.2.2.2.2 = true) (kc : Nat → en_B) (hk : ∀ t, en_Snd G M_X5_setsBefore t (kc t)) : en_Snd G M_X5_setsBefore 0 (B_X5_setsBefore_0 kc) := (sn_iconst (n := 0) (v := 0) (by decide +kernel) rfl (sn_istore_n (i := 3) (n := 3) (by decide +kernel) rfl (Nat.le_of_ble_eq_true rfl) (sn_iconst (n := 0) (v := 0) (by decide +kernel) rfl (sn_istore (i := 4) (by decide +kernel) (Nat.le_of_ble_eq_true rfl) (hk 5)))))
noncomputable def LK_X5_setsBefore : Nat → Nat → en_B
  | 0, _ => en_no
  | n + 1, t => if t = 5 then B_X5_setsBefore_5 (LK_X5_setsBefore n) else en_no
theorem l_X5_setsBefore (G : en_G) (hst : G.2.2.2.2.2 = true) : ∀ n t, en_Snd G M_X5_setsBefore t (LK_X5_setsBefore n t)
  | 0, _ => sn_no
  | n + 1, t => by
    show en_Snd G M_X5_setsBefore t (if t = 5 then B_X5_setsBefore_5 (LK_X5_setsBefore n) else en_no)
    by_cases h_5 : t = 5
    · rw [if_pos h_5, h_5]; exact s_X5_setsBefore_5 G hst _ (l_X5_setsBefore G hst n)
    rw [if_neg h_5]
    exact sn_no
noncomputable def T_X5_setsBefore_0 (x1 : Int32) (x2 : Int32) (σ : en_M) : en_R := B_X5_setsBefore_0 (LK_X5_setsBefore en_FU) [.inr (103, 5, 0, 0), .inl x1, .inl x2, en_un, en_un, en_un] [] en_zz σ
noncomputable def T_X5_setsBefore_5 (n : Nat) (x1 : Int32) (x2 : Int32) (x3 : Int32) (x4 : Int32) (u5 : en_V) (σ : en_M) : en_R := LK_X5_setsBefore n 5 [.inr (103, 5, 0, 0), .inl x1, .inl x2, .inl x3, .inl x4, u5] [] en_zz σ
set_option maxRecDepth 400000 in
set_option maxHeartbeats 4000000 in
theorem t_X5_setsBefore_0 (x1 : Int32) (x2 : Int32) (σ : en_M) : T_X5_setsBefore_0 x1 x2 σ = (T_X5_setsBefore_5 en_FU x1 x2 (0 : Int32) (0 : Int32) (en_un) σ) := rfl
set_option maxRecDepth 400000 in
set_option maxHeartbeats 4000000 in
theorem t_X5_setsBefore_5 (n : Nat) (x1 : Int32) (x2 : Int32) (x3 : Int32) (x4 : Int32) (u5 : en_V) (σ : en_M) : T_X5_setsBefore_5 (n + 1) x1 x2 x3 x4 u5 σ = ((en_ix (x1 - (1 : Int32)) 12).bind fun j1 => if x4 < (σ 117 j1) then ((en_ix (x1 - (1 : Int32)) 12).bind fun j2 => (en_ix x4 128).bind fun j3 => (en_ix (x1 - (1 : Int32)) 12).bind fun j4 => (en_ix (σ (104 + 1 + j2) j3) 128).bind fun j5 => (O_X5_mayFollow [.inr (103, 5, 0, 0), .inl x1, .inl x2, .inl (σ (104 + 1 + j2) j3), .inl (σ (118 + 1 + j4) j5)] σ).bind fun r6 => if r6.1 = 0 then (T_X5_setsBefore_5 n x1 x2 (x3 ||| (0 : Int32)) (x4 + (1 : Int32)) (.inl (σ (104 + 1 + j2) j3)) r6.2) else (T_X5_setsBefore_5 n x1 x2 (x3 ||| (en_shl (1 : Int32) (σ (104 + 1 + j2) j3))) (x4 + (1 : Int32)) (.inl (σ (104 + 1 + j2) j3)) r6.2)) else (en_ri x3 σ)) := rfl
noncomputable def P_X5_setsBefore : List en_V → en_M → Option (Int32 × en_M) := fun av σ => match av with
  | [.inr (103, 5, 0, 0), .inl x1, .inl x2] => en_oi (T_X5_setsBefore_0 x1 x2 σ)
  | _ => none
theorem ox_X5_setsBefore : ∃ f, f = P_X5_setsBefore := ⟨_, rfl⟩
noncomputable def O_X5_setsBefore : List en_V → en_M → Option (Int32 × en_M) := Classical.choose ox_X5_setsBefore
theorem oe_X5_setsBefore : O_X5_setsBefore = P_X5_setsBefore := Classical.choose_spec ox_X5_setsBefore
theorem o_X5_setsBefore (x1 : Int32) (x2 : Int32) (σ : en_M) : O_X5_setsBefore [.inr (103, 5, 0, 0), .inl x1, .inl x2] σ = en_oi (T_X5_setsBefore_0 x1 x2 σ) := by rw [oe_X5_setsBefore]; rfl
theorem i_X5_setsBefore (G : en_G) (hst : G.2.2.2.2.2 = true) : en_I G 2 yX5_setsBefore cX5_setsBefore 6 (some .int) 0 0 (en_wi (O_X5_setsBefore)) := en_of_i (M := M_X5_setsBefore) hst (s_X5_setsBefore_0 G hst _ (l_X5_setsBefore G hst en_FU)) (plainFor_of_name (by decide +kernel)) rfl rfl rfl (Or.inl ⟨rfl, rfl⟩) (fun av σ x σ' h => by
  rw [oe_X5_setsBefore] at h; unfold P_X5_setsBefore at h
  split at h
  · exact ⟨(Nat.le_of_ble_eq_true rfl), en_oi_some h⟩
  · cases h)
-- EachMayMissOne$Plan.napsWith(II)I
def M_X5_napsWith : en_Me := (cX5_napsWith, RX5, 5, false, 2, false)
theorem cs_X5_napsWith : en_cs yX5_napsWith cX5_napsWith 5 (some .int) 2 := ⟨wm_951, wm_42, ⟨(by decide +kernel), (by decide +kernel), (by decide +kernel)⟩, (Nat.le_of_ble_eq_true rfl)⟩
noncomputable def B_X5_napsWith_51 (kc : Nat → en_B) : en_B := (op_iload 3 op_iret)
set_option maxRecDepth 20000 in
theorem s_X5_napsWith_51 (G : en_G) (hst : G.2.2.2.2.2 = true) (kc : Nat → en_B) (hk : ∀ t, en_Snd G M_X5_napsWith t (kc t)) : en_Snd G M_X5_napsWith 51 (B_X5_napsWith_51 kc) := (sn_iload_n (i := 3) (n := 3) (by decide +kernel) rfl (sn_iret (by decide +kernel) rfl))
noncomputable def B_X5_napsWith_45 (kc : Nat → en_B) : en_B := (op_iinc 4 (1 : Int32) (kc 5))
set_option maxRecDepth 20000 in
theorem s_X5_napsWith_45 (G : en_G) (hst : G.2.2.2.2.2 = true) (kc : Nat → en_B) (hk : ∀ t, en_Snd G M_X5_napsWith t (kc t)) : en_Snd G M_X5_napsWith 45 (B_X5_napsWith_45 kc) := (sn_iinc (i := 4) (n := 1) (v := 1) (by decide +kernel) rfl (sn_goto (off := -43) (tgt := 5) (by decide +kernel) rfl (hk 5)))
noncomputable def B_X5_napsWith_5 (kc : Nat → en_B) : en_B := (op_iload 4 (op_const (5 : Int32) (op_iclt (op_iload 2 (op_iload 4 (op_calli O_X11_bit 2 (op_const (1 : Int32) (op_iceq (op_iload 1 (op_const (2 : Int32) (op_iload 4 (op_bin (fun (x y : Int32) => x * y) (op_bin en_shr (op_const (3 : Int32) (op_bin (fun (x y : Int32) => x &&& y) (op_aload 0 (op_geti 5 6 (op_iclt (op_iload 3 (op_const (1 : Int32) (op_const (2 : Int32) (op_iload 4 (op_bin (fun (x y : Int32) => x * y) (op_bin en_shl (op_bin (fun (x y : Int32) => x + y) (op_istore 3 (B_X5_napsWith_45 kc))))))))) (B_X5_napsWith_45 kc))))))))))) (B_X5_napsWith_45 kc)))))) (B_X5_napsWith_51 kc))))
set_option maxRecDepth 20000 in
theorem s_X5_napsWith_5 (G : en_G) (hst : G.2.2.2.2.2 = true) (kc : Nat → en_B) (hk : ∀ t, en_Snd G M_X5_napsWith t (kc t)) : en_Snd G M_X5_napsWith 5 (B_X5_napsWith_5 kc) := (sn_iload (i := 4) (by decide +kernel) (sn_iconst (n := 5) (v := 5) (by decide +kernel) rfl (sn_icge (off := 43) (tgt := 51) (by decide +kernel) rfl (s_X5_napsWith_51 G hst kc hk) (sn_iload_n (i := 2) (n := 2) (by decide +kernel) rfl (sn_iload (i := 4) (by decide +kernel) (sn_callSi (n := 2) (idx := 119) (i_X11_bit G hst) (Nat.le_of_ble_eq_true rfl) cs_X11_bit ⟨wm_257, Or.inr (by decide +kernel)⟩ (by decide +kernel) (sn_iconst (n := 1) (v := 1) (by decide +kernel) rfl (sn_icne (off := 27) (tgt := 45) (by decide +kernel) rfl (s_X5_napsWith_45 G hst kc hk) (sn_iload_n (i := 1) (n := 1) (by decide +kernel) rfl (sn_iconst (n := 2) (v := 2) (by decide +kernel) rfl (sn_iload (i := 4) (by decide +kernel) (sn_imul (by decide +kernel) (sn_ishr (by decide +kernel) (sn_iconst (n := 3) (v := 3) (by decide +kernel) rfl (sn_iand (by decide +kernel) (sn_aload_n (i := 0) (n := 0) (by decide +kernel) rfl (sn_geti (ci := 5) (j := 6) en_c5 (by decide +kernel) wm_911 (Nat.le_of_ble_eq_true rfl) rfl (sn_icge (off := 12) (tgt := 45) (by decide +kernel) rfl (s_X5_napsWith_45 G hst kc hk) (sn_iload_n (i := 3) (n := 3) (by decide +kernel) rfl (sn_iconst (n := 1) (v := 1) (by decide +kernel) rfl (sn_iconst (n := 2) (v := 2) (by decide +kernel) rfl (sn_iload (i := 4) (by decide +kernel) (sn_imul (by decide +kernel) (sn_ishl (by decide +kernel) (sn_iadd (by decide +kernel) (sn_istore_n (i := 3) (n := 3) (by decide +kernel) rfl (Nat.le_of_ble_eq_true rfl) (s_X5_napsWith_45 G hst kc hk)))))))))))))))))))))))))))
noncomputable def B_X5_napsWith_0 (kc : Nat → en_B) : en_B := (op_iload 1 (op_istore 3 (op_const (0 : Int32) (op_istore 4 (kc 5)))))
set_option maxRecDepth 20000 in
theorem s_X5_napsWith_0 (G : en_G) (hst : G.2.2.2.2.2 = true) (kc : Nat → en_B) (hk : ∀ t, en_Snd G M_X5_napsWith t (kc t)) : en_Snd G M_X5_napsWith 0 (B_X5_napsWith_0 kc) := (sn_iload_n (i := 1) (n := 1) (by decide +kernel) rfl (sn_istore_n (i := 3) (n := 3) (by decide +kernel) rfl (Nat.le_of_ble_eq_true rfl) (sn_iconst (n := 0) (v := 0) (by decide +kernel) rfl (sn_istore (i := 4) (by decide +kernel) (Nat.le_of_ble_eq_true rfl) (hk 5)))))
noncomputable def LK_X5_napsWith : Nat → Nat → en_B
  | 0, _ => en_no
  | n + 1, t => if t = 5 then B_X5_napsWith_5 (LK_X5_napsWith n) else en_no
theorem l_X5_napsWith (G : en_G) (hst : G.2.2.2.2.2 = true) : ∀ n t, en_Snd G M_X5_napsWith t (LK_X5_napsWith n t)
  | 0, _ => sn_no
  | n + 1, t => by
    show en_Snd G M_X5_napsWith t (if t = 5 then B_X5_napsWith_5 (LK_X5_napsWith n) else en_no)
    by_cases h_5 : t = 5
    · rw [if_pos h_5, h_5]; exact s_X5_napsWith_5 G hst _ (l_X5_napsWith G hst n)
    rw [if_neg h_5]
    exact sn_no
noncomputable def T_X5_napsWith_0 (x1 : Int32) (x2 : Int32) (σ : en_M) : en_R := B_X5_napsWith_0 (LK_X5_napsWith en_FU) [.inr (103, 5, 0, 0), .inl x1, .inl x2, en_un, en_un] [] en_zz σ
noncomputable def T_X5_napsWith_5 (n : Nat) (x1 : Int32) (x2 : Int32) (x3 : Int32) (x4 : Int32) (σ : en_M) : en_R := LK_X5_napsWith n 5 [.inr (103, 5, 0, 0), .inl x1, .inl x2, .inl x3, .inl x4] [] en_zz σ
set_option maxRecDepth 400000 in
set_option maxHeartbeats 4000000 in
theorem t_X5_napsWith_0 (x1 : Int32) (x2 : Int32) (σ : en_M) : T_X5_napsWith_0 x1 x2 σ = (T_X5_napsWith_5 en_FU x1 x2 x1 (0 : Int32) σ) := rfl
set_option maxRecDepth 400000 in
set_option maxHeartbeats 4000000 in
theorem t_X5_napsWith_5 (n : Nat) (x1 : Int32) (x2 : Int32) (x3 : Int32) (x4 : Int32) (σ : en_M) : T_X5_napsWith_5 (n + 1) x1 x2 x3 x4 σ = (if x4 < (5 : Int32) then ((O_X11_bit [.inl x2, .inl x4] σ).bind fun r1 => if r1.1 = (1 : Int32) then (if ((en_shr x1 ((2 : Int32) * x4)) &&& (3 : Int32)) < (r1.2 103 6) then (T_X5_napsWith_5 n x1 x2 (x3 + (en_shl (1 : Int32) ((2 : Int32) * x4))) (x4 + (1 : Int32)) r1.2) else (T_X5_napsWith_5 n x1 x2 x3 (x4 + (1 : Int32)) r1.2)) else (T_X5_napsWith_5 n x1 x2 x3 (x4 + (1 : Int32)) r1.2)) else (en_ri x3 σ)) := rfl
noncomputable def P_X5_napsWith : List en_V → en_M → Option (Int32 × en_M) := fun av σ => match av with
  | [.inr (103, 5, 0, 0), .inl x1, .inl x2] => en_oi (T_X5_napsWith_0 x1 x2 σ)
  | _ => none
theorem ox_X5_napsWith : ∃ f, f = P_X5_napsWith := ⟨_, rfl⟩
noncomputable def O_X5_napsWith : List en_V → en_M → Option (Int32 × en_M) := Classical.choose ox_X5_napsWith
theorem oe_X5_napsWith : O_X5_napsWith = P_X5_napsWith := Classical.choose_spec ox_X5_napsWith
theorem o_X5_napsWith (x1 : Int32) (x2 : Int32) (σ : en_M) : O_X5_napsWith [.inr (103, 5, 0, 0), .inl x1, .inl x2] σ = en_oi (T_X5_napsWith_0 x1 x2 σ) := by rw [oe_X5_napsWith]; rfl
theorem i_X5_napsWith (G : en_G) (hst : G.2.2.2.2.2 = true) : en_I G 2 yX5_napsWith cX5_napsWith 5 (some .int) 0 0 (en_wi (O_X5_napsWith)) := en_of_i (M := M_X5_napsWith) hst (s_X5_napsWith_0 G hst _ (l_X5_napsWith G hst en_FU)) (plainFor_of_name (by decide +kernel)) rfl rfl rfl (Or.inl ⟨rfl, rfl⟩) (fun av σ x σ' h => by
  rw [oe_X5_napsWith] at h; unfold P_X5_napsWith at h
  split at h
  · exact ⟨(Nat.le_of_ble_eq_true rfl), en_oi_some h⟩
  · cases h)
-- EachMayMissOne$Plan.beginNaps(LEachMayMissOne$State;I)V
def M_X5_beginNaps : en_Me := (cX5_beginNaps, RX5, 5, false, 3, false)
theorem cs_X5_beginNaps : en_cs yX5_beginNaps cX5_beginNaps 5 none 2 := ⟨wm_916, wm_42, ⟨(by decide +kernel), (by decide +kernel), (by decide +kernel)⟩, (Nat.le_of_ble_eq_true rfl)⟩
noncomputable def B_X5_beginNaps_153 (kc : Nat → en_B) : en_B := op_vret
set_option maxRecDepth 20000 in
theorem s_X5_beginNaps_153 (G : en_G) (hst : G.2.2.2.2.2 = true) (kc : Nat → en_B) (hk : ∀ t, en_Snd G M_X5_beginNaps t (kc t)) : en_Snd G M_X5_beginNaps 153 (B_X5_beginNaps_153 kc) := (sn_vret (by decide +kernel))
noncomputable def B_X5_beginNaps_147 (kc : Nat → en_B) : en_B := (op_iinc 3 (1 : Int32) (kc 88))
set_option maxRecDepth 20000 in
theorem s_X5_beginNaps_147 (G : en_G) (hst : G.2.2.2.2.2 = true) (kc : Nat → en_B) (hk : ∀ t, en_Snd G M_X5_beginNaps t (kc t)) : en_Snd G M_X5_beginNaps 147 (B_X5_beginNaps_147 kc) := (sn_iinc (i := 3) (n := 1) (v := 1) (by decide +kernel) rfl (sn_goto (off := -62) (tgt := 88) (by decide +kernel) rfl (hk 88)))
noncomputable def B_X5_beginNaps_88 (kc : Nat → en_B) : en_B := (op_iload 3 (op_aload 0 (op_gets 5 14 (20, 12, 0) (op_const (0 : Int32) (op_ald 20 (op_iclt (op_aload 0 (op_gets 5 1 (23, 12, 128) (op_const (0 : Int32) (op_aldM (op_iload 3 (op_ald 20 (op_istore 4 (op_aload 0 (op_const (0 : Int32) (op_iload 4 (op_aload 1 (op_geti 7 7 (op_aload 1 (op_geti 7 8 (op_rcv 5 4 (op_calli O_X5_mayFollow 5 (op_ifeq (B_X5_beginNaps_147 kc) (op_aload 0 (op_gets 5 42 (23, 13, 1024) (op_const (1 : Int32) (op_aldM (op_aload 0 (op_const (0 : Int32) (op_iload 4 (op_rcv 5 2 (op_calli O_X5_napsWith 3 (op_dup2 (op_ald 20 (op_const (1 : Int32) (op_iload 4 (op_bin en_shl (op_bin (fun (x y : Int32) => x ||| y) (op_ast 20 (fun (x : Int32) => x) (B_X5_beginNaps_147 kc)))))))))))))))))))))))))))))))))) (B_X5_beginNaps_153 kc)))))))
set_option maxRecDepth 20000 in
theorem s_X5_beginNaps_88 (G : en_G) (hst : G.2.2.2.2.2 = true) (kc : Nat → en_B) (hk : ∀ t, en_Snd G M_X5_beginNaps t (kc t)) : en_Snd G M_X5_beginNaps 88 (B_X5_beginNaps_88 kc) := (sn_iload_n (i := 3) (n := 3) (by decide +kernel) rfl (sn_aload_n (i := 0) (n := 0) (by decide +kernel) rfl (sn_gets (ci := 5) (j := 1) (off := 14) hst en_c5 of_5_14 (Nat.le_of_ble_eq_true rfl) (by decide +kernel) wm_873 (Nat.le_of_ble_eq_true rfl) rfl (sn_iconst (n := 0) (v := 0) (by decide +kernel) rfl (sn_iald (by decide +kernel) (sn_icge (off := 58) (tgt := 153) (by decide +kernel) rfl (s_X5_beginNaps_153 G hst kc hk) (sn_aload_n (i := 0) (n := 0) (by decide +kernel) rfl (sn_gets (ci := 5) (j := 0) (off := 1) hst en_c5 of_5_1 (Nat.le_of_ble_eq_true rfl) (by decide +kernel) wm_872 (Nat.le_of_ble_eq_true rfl) rfl (sn_iconst (n := 0) (v := 0) (by decide +kernel) rfl (sn_aldM hst (by decide +kernel) (sn_iload_n (i := 3) (n := 3) (by decide +kernel) rfl (sn_iald (by decide +kernel) (sn_istore (i := 4) (by decide +kernel) (Nat.le_of_ble_eq_true rfl) (sn_aload_n (i := 0) (n := 0) (by decide +kernel) rfl (sn_iconst (n := 0) (v := 0) (by decide +kernel) rfl (sn_iload (i := 4) (by decide +kernel) (sn_aload_n (i := 1) (n := 1) (by decide +kernel) rfl (sn_geti (ci := 7) (j := 7) en_c7 (by decide +kernel) wm_897 (Nat.le_of_ble_eq_true rfl) rfl (sn_aload_n (i := 1) (n := 1) (by decide +kernel) rfl (sn_geti (ci := 7) (j := 8) en_c7 (by decide +kernel) wm_898 (Nat.le_of_ble_eq_true rfl) rfl (sn_callVi (n := 4) (idx := 81) (ci := 5) (i_X5_mayFollow G hst) (Nat.le_of_ble_eq_true rfl) cs_X5_mayFollow ⟨wm_885, wm_886, wm_907⟩ ⟨⟨_, rfl, rfl⟩, (Nat.le_of_ble_eq_true rfl)⟩ (by decide +kernel) (sn_ifeq (off := 24) (tgt := 147) (by decide +kernel) rfl (s_X5_beginNaps_147 G hst kc hk) (sn_aload_n (i := 0) (n := 0) (by decide +kernel) rfl (sn_gets (ci := 5) (j := 4) (off := 42) hst en_c5 of_5_42 (Nat.le_of_ble_eq_true rfl) (by decide +kernel) wm_876 (Nat.le_of_ble_eq_true rfl) rfl (sn_iconst (n := 1) (v := 1) (by decide +kernel) rfl (sn_aldM hst (by decide +kernel) (sn_aload_n (i := 0) (n := 0) (by decide +kernel) rfl (sn_iconst (n := 0) (v := 0) (by decide +kernel) rfl (sn_iload (i := 4) (by decide +kernel) (sn_callVi (n := 2) (idx := 106) (ci := 5) (i_X5_napsWith G hst) (Nat.le_of_ble_eq_true rfl) cs_X5_napsWith ⟨wm_952, wm_953, wm_920⟩ ⟨⟨_, rfl, rfl⟩, (Nat.le_of_ble_eq_true rfl)⟩ (by decide +kernel) (sn_dup2 (by decide +kernel) (sn_iald (by decide +kernel) (sn_iconst (n := 1) (v := 1) (by decide +kernel) rfl (sn_iload (i := 4) (by decide +kernel) (sn_ishl (by decide +kernel) (sn_ior (by decide +kernel) (sn_iast (by decide +kernel) (s_X5_beginNaps_147 G hst kc hk))))))))))))))))))))))))))))))))))))))
noncomputable def B_X5_beginNaps_86 (kc : Nat → en_B) : en_B := (op_const (0 : Int32) (op_istore 3 (kc 88)))
set_option maxRecDepth 20000 in
theorem s_X5_beginNaps_86 (G : en_G) (hst : G.2.2.2.2.2 = true) (kc : Nat → en_B) (hk : ∀ t, en_Snd G M_X5_beginNaps t (kc t)) : en_Snd G M_X5_beginNaps 86 (B_X5_beginNaps_86 kc) := (sn_iconst (n := 0) (v := 0) (by decide +kernel) rfl (sn_istore_n (i := 3) (n := 3) (by decide +kernel) rfl (Nat.le_of_ble_eq_true rfl) (hk 88)))
noncomputable def B_X5_beginNaps_80 (kc : Nat → en_B) : en_B := (op_iinc 3 (1 : Int32) (kc 25))
set_option maxRecDepth 20000 in
theorem s_X5_beginNaps_80 (G : en_G) (hst : G.2.2.2.2.2 = true) (kc : Nat → en_B) (hk : ∀ t, en_Snd G M_X5_beginNaps t (kc t)) : en_Snd G M_X5_beginNaps 80 (B_X5_beginNaps_80 kc) := (sn_iinc (i := 3) (n := 1) (v := 1) (by decide +kernel) rfl (sn_goto (off := -58) (tgt := 25) (by decide +kernel) rfl (hk 25)))
noncomputable def B_X5_beginNaps_33 (kc : Nat → en_B) : en_B := (op_iload 4 (op_aload 0 (op_gets 5 14 (20, 12, 0) (op_iload 3 (op_ald 20 (op_iclt (op_aload 0 (op_gets 5 56 (23, 12, 32) (op_iload 3 (op_aldM (op_aload 0 (op_gets 5 1 (23, 12, 128) (op_iload 3 (op_aldM (op_iload 4 (op_ald 20 (op_aload 0 (op_iload 3 (op_aload 0 (op_gets 5 1 (23, 12, 128) (op_iload 3 (op_aldM (op_iload 4 (op_ald 20 (op_rcv 5 2 (op_calli O_X5_setsBefore 3 (op_ast 20 (fun (x : Int32) => x) (op_iinc 4 (1 : Int32) (kc 33))))))))))))))))))))))) (B_X5_beginNaps_80 kc)))))))
set_option maxRecDepth 20000 in
theorem s_X5_beginNaps_33 (G : en_G) (hst : G.2.2.2.2.2 = true) (kc : Nat → en_B) (hk : ∀ t, en_Snd G M_X5_beginNaps t (kc t)) : en_Snd G M_X5_beginNaps 33 (B_X5_beginNaps_33 kc) := (sn_iload (i := 4) (by decide +kernel) (sn_aload_n (i := 0) (n := 0) (by decide +kernel) rfl (sn_gets (ci := 5) (j := 1) (off := 14) hst en_c5 of_5_14 (Nat.le_of_ble_eq_true rfl) (by decide +kernel) wm_873 (Nat.le_of_ble_eq_true rfl) rfl (sn_iload_n (i := 3) (n := 3) (by decide +kernel) rfl (sn_iald (by decide +kernel) (sn_icge (off := 39) (tgt := 80) (by decide +kernel) rfl (s_X5_beginNaps_80 G hst kc hk) (sn_aload_n (i := 0) (n := 0) (by decide +kernel) rfl (sn_gets (ci := 5) (j := 5) (off := 56) hst en_c5 of_5_56 (Nat.le_of_ble_eq_true rfl) (by decide +kernel) wm_877 (Nat.le_of_ble_eq_true rfl) rfl (sn_iload_n (i := 3) (n := 3) (by decide +kernel) rfl (sn_aldM hst (by decide +kernel) (sn_aload_n (i := 0) (n := 0) (by decide +kernel) rfl (sn_gets (ci := 5) (j := 0) (off := 1) hst en_c5 of_5_1 (Nat.le_of_ble_eq_true rfl) (by decide +kernel) wm_872 (Nat.le_of_ble_eq_true rfl) rfl (sn_iload_n (i := 3) (n := 3) (by decide +kernel) rfl (sn_aldM hst (by decide +kernel) (sn_iload (i := 4) (by decide +kernel) (sn_iald (by decide +kernel) (sn_aload_n (i := 0) (n := 0) (by decide +kernel) rfl (sn_iload_n (i := 3) (n := 3) (by decide +kernel) rfl (sn_aload_n (i := 0) (n := 0) (by decide +kernel) rfl (sn_gets (ci := 5) (j := 0) (off := 1) hst en_c5 of_5_1 (Nat.le_of_ble_eq_true rfl) (by decide +kernel) wm_872 (Nat.le_of_ble_eq_true rfl) rfl (sn_iload_n (i := 3) (n := 3) (by decide +kernel) rfl (sn_aldM hst (by decide +kernel) (sn_iload (i := 4) (by decide +kernel) (sn_iald (by decide +kernel) (sn_callVi (n := 2) (idx := 103) (ci := 5) (i_X5_setsBefore G hst) (Nat.le_of_ble_eq_true rfl) cs_X5_setsBefore ⟨wm_922, wm_923, wm_919⟩ ⟨⟨_, rfl, rfl⟩, (Nat.le_of_ble_eq_true rfl)⟩ (by decide +kernel) (sn_iast (by decide +kernel) (sn_iinc (i := 4) (n := 1) (v := 1) (by decide +kernel) rfl (sn_goto (off := -44) (tgt := 33) (by decide +kernel) rfl (hk 33)))))))))))))))))))))))))))))
noncomputable def B_X5_beginNaps_25 (kc : Nat → en_B) : en_B := (op_iload 3 (op_iload 2 (op_iclt (op_const (0 : Int32) (op_istore 4 (kc 33))) (B_X5_beginNaps_86 kc))))
set_option maxRecDepth 20000 in
theorem s_X5_beginNaps_25 (G : en_G) (hst : G.2.2.2.2.2 = true) (kc : Nat → en_B) (hk : ∀ t, en_Snd G M_X5_beginNaps t (kc t)) : en_Snd G M_X5_beginNaps 25 (B_X5_beginNaps_25 kc) := (sn_iload_n (i := 3) (n := 3) (by decide +kernel) rfl (sn_iload_n (i := 2) (n := 2) (by decide +kernel) rfl (sn_icge (off := 59) (tgt := 86) (by decide +kernel) rfl (s_X5_beginNaps_86 G hst kc hk) (sn_iconst (n := 0) (v := 0) (by decide +kernel) rfl (sn_istore (i := 4) (by decide +kernel) (Nat.le_of_ble_eq_true rfl) (hk 33))))))
noncomputable def B_X5_beginNaps_23 (kc : Nat → en_B) : en_B := (op_const (1 : Int32) (op_istore 3 (kc 25)))
set_option maxRecDepth 20000 in
theorem s_X5_beginNaps_23 (G : en_G) (hst : G.2.2.2.2.2 = true) (kc : Nat → en_B) (hk : ∀ t, en_Snd G M_X5_beginNaps t (kc t)) : en_Snd G M_X5_beginNaps 23 (B_X5_beginNaps_23 kc) := (sn_iconst (n := 1) (v := 1) (by decide +kernel) rfl (sn_istore_n (i := 3) (n := 3) (by decide +kernel) rfl (Nat.le_of_ble_eq_true rfl) (hk 25)))
noncomputable def B_X5_beginNaps_2 (kc : Nat → en_B) : en_B := (op_iload 3 (op_iload 2 (op_icgt (B_X5_beginNaps_23 kc) (op_aload 0 (op_gets 5 42 (23, 13, 1024) (op_iload 3 (op_aldM (op_const (0 : Int32) (op_callv O_J7_fill_53178 2 (op_iinc 3 (1 : Int32) (kc 2)))))))))))
set_option maxRecDepth 20000 in
theorem s_X5_beginNaps_2 (G : en_G) (hst : G.2.2.2.2.2 = true) (kc : Nat → en_B) (hk : ∀ t, en_Snd G M_X5_beginNaps t (kc t)) : en_Snd G M_X5_beginNaps 2 (B_X5_beginNaps_2 kc) := (sn_iload_n (i := 3) (n := 3) (by decide +kernel) rfl (sn_iload_n (i := 2) (n := 2) (by decide +kernel) rfl (sn_icgt (off := 19) (tgt := 23) (by decide +kernel) rfl (s_X5_beginNaps_23 G hst kc hk) (sn_aload_n (i := 0) (n := 0) (by decide +kernel) rfl (sn_gets (ci := 5) (j := 4) (off := 42) hst en_c5 of_5_42 (Nat.le_of_ble_eq_true rfl) (by decide +kernel) wm_876 (Nat.le_of_ble_eq_true rfl) rfl (sn_iload_n (i := 3) (n := 3) (by decide +kernel) rfl (sn_aldM hst (by decide +kernel) (sn_iconst (n := 0) (v := 0) (by decide +kernel) rfl (sn_callSv (n := 2) (idx := 46) (i_J7_fill_53178 G hst) (Nat.le_of_ble_eq_true rfl) cs_J7_fill_53178 ⟨wm_891, Or.inl wm_893⟩ (by decide +kernel) (sn_iinc (i := 3) (n := 1) (v := 1) (by decide +kernel) rfl (sn_goto (off := -18) (tgt := 2) (by decide +kernel) rfl (hk 2))))))))))))
noncomputable def B_X5_beginNaps_0 (kc : Nat → en_B) : en_B := (op_const (0 : Int32) (op_istore 3 (kc 2)))
set_option maxRecDepth 20000 in
theorem s_X5_beginNaps_0 (G : en_G) (hst : G.2.2.2.2.2 = true) (kc : Nat → en_B) (hk : ∀ t, en_Snd G M_X5_beginNaps t (kc t)) : en_Snd G M_X5_beginNaps 0 (B_X5_beginNaps_0 kc) := (sn_iconst (n := 0) (v := 0) (by decide +kernel) rfl (sn_istore_n (i := 3) (n := 3) (by decide +kernel) rfl (Nat.le_of_ble_eq_true rfl) (hk 2)))
noncomputable def LK_X5_beginNaps : Nat → Nat → en_B
  | 0, _ => en_no
  | n + 1, t => if t = 2 then B_X5_beginNaps_2 (LK_X5_beginNaps n) else if t = 25 then B_X5_beginNaps_25 (LK_X5_beginNaps n) else if t = 33 then B_X5_beginNaps_33 (LK_X5_beginNaps n) else if t = 88 then B_X5_beginNaps_88 (LK_X5_beginNaps n) else en_no
theorem l_X5_beginNaps (G : en_G) (hst : G.2.2.2.2.2 = true) : ∀ n t, en_Snd G M_X5_beginNaps t (LK_X5_beginNaps n t)
  | 0, _ => sn_no
  | n + 1, t => by
    show en_Snd G M_X5_beginNaps t (if t = 2 then B_X5_beginNaps_2 (LK_X5_beginNaps n) else if t = 25 then B_X5_beginNaps_25 (LK_X5_beginNaps n) else if t = 33 then B_X5_beginNaps_33 (LK_X5_beginNaps n) else if t = 88 then B_X5_beginNaps_88 (LK_X5_beginNaps n) else en_no)
    by_cases h_2 : t = 2
    · rw [if_pos h_2, h_2]; exact s_X5_beginNaps_2 G hst _ (l_X5_beginNaps G hst n)
    rw [if_neg h_2]
    by_cases h_25 : t = 25
    · rw [if_pos h_25, h_25]; exact s_X5_beginNaps_25 G hst _ (l_X5_beginNaps G hst n)
    rw [if_neg h_25]
    by_cases h_33 : t = 33
    · rw [if_pos h_33, h_33]; exact s_X5_beginNaps_33 G hst _ (l_X5_beginNaps G hst n)
    rw [if_neg h_33]
    by_cases h_88 : t = 88
    · rw [if_pos h_88, h_88]; exact s_X5_beginNaps_88 G hst _ (l_X5_beginNaps G hst n)
    rw [if_neg h_88]
    exact sn_no
noncomputable def T_X5_beginNaps_0 (k1 : Nat) (x2 : Int32) (σ : en_M) : en_R := B_X5_beginNaps_0 (LK_X5_beginNaps en_FU) [.inr (103, 5, 0, 0), .inr (k1, 7, 0, 0), .inl x2, en_un, en_un] [] en_zz σ
noncomputable def T_X5_beginNaps_2 (n : Nat) (k1 : Nat) (x2 : Int32) (x3 : Int32) (σ : en_M) : en_R := LK_X5_beginNaps n 2 [.inr (103, 5, 0, 0), .inr (k1, 7, 0, 0), .inl x2, .inl x3, en_un] [] en_zz σ
noncomputable def T_X5_beginNaps_25 (n : Nat) (k1 : Nat) (x2 : Int32) (x3 : Int32) (u4 : en_V) (σ : en_M) : en_R := LK_X5_beginNaps n 25 [.inr (103, 5, 0, 0), .inr (k1, 7, 0, 0), .inl x2, .inl x3, u4] [] en_zz σ
noncomputable def T_X5_beginNaps_33 (n : Nat) (k1 : Nat) (x2 : Int32) (x3 : Int32) (x4 : Int32) (σ : en_M) : en_R := LK_X5_beginNaps n 33 [.inr (103, 5, 0, 0), .inr (k1, 7, 0, 0), .inl x2, .inl x3, .inl x4] [] en_zz σ
noncomputable def T_X5_beginNaps_88 (n : Nat) (k1 : Nat) (x2 : Int32) (x3 : Int32) (u4 : en_V) (σ : en_M) : en_R := LK_X5_beginNaps n 88 [.inr (103, 5, 0, 0), .inr (k1, 7, 0, 0), .inl x2, .inl x3, u4] [] en_zz σ
set_option maxRecDepth 400000 in
set_option maxHeartbeats 4000000 in
theorem t_X5_beginNaps_0 (k1 : Nat) (x2 : Int32) (σ : en_M) : T_X5_beginNaps_0 k1 x2 σ = (T_X5_beginNaps_2 en_FU k1 x2 (0 : Int32) σ) := rfl
set_option maxRecDepth 400000 in
set_option maxHeartbeats 4000000 in
theorem t_X5_beginNaps_2 (n : Nat) (k1 : Nat) (x2 : Int32) (x3 : Int32) (σ : en_M) : T_X5_beginNaps_2 (n + 1) k1 x2 x3 σ = (if x2 < x3 then (T_X5_beginNaps_25 n k1 x2 (1 : Int32) (en_un) σ) else ((en_ix x3 13).bind fun j1 => (O_J7_fill_53178 [.inr ((145 + 1 + j1), 20, 1024, 0), .inl (0 : Int32)] σ).bind fun r2 => T_X5_beginNaps_2 n k1 x2 (x3 + (1 : Int32)) r2)) := rfl
set_option maxRecDepth 400000 in
set_option maxHeartbeats 4000000 in
theorem t_X5_beginNaps_25 (n : Nat) (k1 : Nat) (x2 : Int32) (x3 : Int32) (u4 : en_V) (σ : en_M) : T_X5_beginNaps_25 (n + 1) k1 x2 x3 u4 σ = (if x3 < x2 then (T_X5_beginNaps_33 n k1 x2 x3 (0 : Int32) σ) else (T_X5_beginNaps_88 n k1 x2 (0 : Int32) (u4) σ)) := rfl
set_option maxRecDepth 400000 in
set_option maxHeartbeats 4000000 in
theorem t_X5_beginNaps_33 (n : Nat) (k1 : Nat) (x2 : Int32) (x3 : Int32) (x4 : Int32) (σ : en_M) : T_X5_beginNaps_33 (n + 1) k1 x2 x3 x4 σ = ((en_ix x3 12).bind fun j3 => if x4 < (σ 117 j3) then ((en_ix x3 12).bind fun j4 => (en_ix x3 12).bind fun j5 => (en_ix x4 128).bind fun j6 => (en_ix x3 12).bind fun j7 => (en_ix x4 128).bind fun j8 => (O_X5_setsBefore [.inr (103, 5, 0, 0), .inl x3, .inl (σ (104 + 1 + j7) j8)] σ).bind fun r9 => (en_ix (σ (104 + 1 + j5) j6) 32).bind fun j10 => T_X5_beginNaps_33 n k1 x2 x3 (x4 + (1 : Int32)) (en_up r9.2 (159 + 1 + j4) j10 r9.1)) else (T_X5_beginNaps_25 n k1 x2 (x3 + (1 : Int32)) (.inl x4) σ)) := rfl
set_option maxRecDepth 400000 in
set_option maxHeartbeats 4000000 in
theorem t_X5_beginNaps_88 (n : Nat) (k1 : Nat) (x2 : Int32) (x3 : Int32) (u4 : en_V) (σ : en_M) : T_X5_beginNaps_88 (n + 1) k1 x2 x3 u4 σ = ((en_ix (0 : Int32) 12).bind fun j11 => if x3 < (σ 117 j11) then ((en_ix (0 : Int32) 12).bind fun j12 => (en_ix x3 128).bind fun j13 => (O_X5_mayFollow [.inr (103, 5, 0, 0), .inl (0 : Int32), .inl (σ (104 + 1 + j12) j13), .inl (σ k1 7), .inl (σ k1 8)] σ).bind fun r14 => if r14.1 = 0 then (T_X5_beginNaps_88 n k1 x2 (x3 + (1 : Int32)) (.inl (σ (104 + 1 + j12) j13)) r14.2) else ((en_ix (1 : Int32) 13).bind fun j15 => (O_X5_napsWith [.inr (103, 5, 0, 0), .inl (0 : Int32), .inl (σ (104 + 1 + j12) j13)] r14.2).bind fun r16 => (en_ix r16.1 1024).bind fun j17 => (en_ix r16.1 1024).bind fun j18 => T_X5_beginNaps_88 n k1 x2 (x3 + (1 : Int32)) (.inl (σ (104 + 1 + j12) j13)) (en_up r16.2 (145 + 1 + j15) j18 ((r16.2 (145 + 1 + j15) j17) ||| (en_shl (1 : Int32) (σ (104 + 1 + j12) j13)))))) else (en_rv σ)) := rfl
noncomputable def P_X5_beginNaps : List en_V → en_M → Option en_M := fun av σ => match av with
  | [.inr (103, 5, 0, 0), .inr (k1, 7, 0, 0), .inl x2] => en_ov (T_X5_beginNaps_0 k1 x2 σ)
  | _ => none
theorem ox_X5_beginNaps : ∃ f, f = P_X5_beginNaps := ⟨_, rfl⟩
noncomputable def O_X5_beginNaps : List en_V → en_M → Option en_M := Classical.choose ox_X5_beginNaps
theorem oe_X5_beginNaps : O_X5_beginNaps = P_X5_beginNaps := Classical.choose_spec ox_X5_beginNaps
theorem o_X5_beginNaps (k1 : Nat) (x2 : Int32) (σ : en_M) : O_X5_beginNaps [.inr (103, 5, 0, 0), .inr (k1, 7, 0, 0), .inl x2] σ = en_ov (T_X5_beginNaps_0 k1 x2 σ) := by rw [oe_X5_beginNaps]; rfl
theorem i_X5_beginNaps (G : en_G) (hst : G.2.2.2.2.2 = true) : en_I G 3 yX5_beginNaps cX5_beginNaps 5 none 0 0 (en_wv (O_X5_beginNaps)) := en_of_v (M := M_X5_beginNaps) hst (s_X5_beginNaps_0 G hst _ (l_X5_beginNaps G hst en_FU)) (plainFor_of_name (by decide +kernel)) rfl rfl rfl (fun av σ σ' h => by
  rw [oe_X5_beginNaps] at h; unfold P_X5_beginNaps at h
  split at h
  · exact ⟨(Nat.le_of_ble_eq_true rfl), en_ov_some h⟩
  · cases h)
