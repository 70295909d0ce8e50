-- EachMayMissOne$Plan.setsBefore(II)I
def M_X5_setsBefore : en_Me := (cX5_setsBefore, RX5, 6, false, 2, false)
theorem cs_X5_setsBefore : en_cs yX5_setsBefore cX5_setsBefore 6 (some .int) 2 := ⟨wm_921, wm_42, ⟨(by decide +kernel), (by decide +kernel), (by decide +kernel)⟩, (Nat.le_of_ble_eq_true rfl)⟩
noncomputable def B_X5_setsBefore_70 (kc : Nat → en_B) : en_B := (op_iload 3 op_iret)
set_option maxRecDepth 20000 in
theorem s_X5_setsBefore_70 (G : en_G) (hst : G.2.2.2.2.2 = true) (kc : Nat → en_B) (hk : ∀ t, en_Snd G M_X5_setsBefore t (kc t)) : en_Snd G M_X5_setsBefore 70 (B_X5_setsBefore_70 kc) := (sn_iload_n (i := 3) (n := 3) (by decide +kernel) rfl (sn_iret (by decide +kernel) rfl))
noncomputable def B_X5_setsBefore_62 (kc : Nat → en_B) : en_B := (op_bin (fun (x y : Int32) => x ||| y) (op_istore 3 (op_iinc 4 (1 : Int32) (kc 5))))
set_option maxRecDepth 20000 in
theorem s_X5_setsBefore_62 (G : en_G) (hst : G.2.2.2.2.2 = true) (kc : Nat → en_B) (hk : ∀ t, en_Snd G M_X5_setsBefore t (kc t)) : en_Snd G M_X5_setsBefore 62 (B_X5_setsBefore_62 kc) := (sn_ior (by decide +kernel) (sn_istore_n (i := 3) (n := 3) (by decide +kernel) rfl (Nat.le_of_ble_eq_true rfl) (sn_iinc (i := 4) (n := 1) (v := 1) (by decide +kernel) rfl (sn_goto (off := -62) (tgt := 5) (by decide +kernel) rfl (hk 5)))))
noncomputable def B_X5_setsBefore_61 (kc : Nat → en_B) : en_B := (op_const (0 : Int32) (B_X5_setsBefore_62 kc))
set_option maxRecDepth 20000 in
theorem s_X5_setsBefore_61 (G : en_G) (hst : G.2.2.2.2.2 = true) (kc : Nat → en_B) (hk : ∀ t, en_Snd G M_X5_setsBefore t (kc t)) : en_Snd G M_X5_setsBefore 61 (B_X5_setsBefore_61 kc) := (sn_iconst (n := 0) (v := 0) (by decide +kernel) rfl (s_X5_setsBefore_62 G hst kc hk))
noncomputable def B_X5_setsBefore_5 (kc : Nat → en_B) : en_B := (op_iload 4 (op_aload 0 (op_gets 5 14 (20, 12, 0) (op_iload 1 (op_const (1 : Int32) (op_bin (fun (x y : Int32) => x - y) (op_ald 20 (op_iclt (op_aload 0 (op_gets 5 1 (23, 12, 128) (op_iload 1 (op_const (1 : Int32) (op_bin (fun (x y : Int32) => x - y) (op_aldM (op_iload 4 (op_ald 20 (op_istore 5 (op_iload 3 (op_aload 0 (op_iload 1 (op_iload 2 (op_iload 5 (op_aload 0 (op_gets 5 15 (23, 12, 128) (op_iload 1 (op_const (1 : Int32) (op_bin (fun (x y : Int32) => x - y) (op_aldM (op_iload 5 (op_ald 20 (op_rcv 5 4 (op_calli O_X5_mayFollow 5 (op_ifeq (B_X5_setsBefore_61 kc) (op_const (1 : Int32) (op_iload 5 (op_bin en_shl (B_X5_setsBefore_62 kc))))))))))))))))))))))))))))) (B_X5_setsBefore_70 kc)))))))))
set_option maxRecDepth 20000 in
theorem s_X5_setsBefore_5 (G : en_G) (hst : G.2.2.2.2.2 = true) (kc : Nat → en_B) (hk : ∀ t, en_Snd G M_X5_setsBefore t (kc t)) : en_Snd G M_X5_setsBefore 5 (B_X5_setsBefore_5 kc) := (sn_iload (i := 4) (by decide +kernel) (sn_aload_n (i := 0) (n := 0) (by decide +kernel) rfl (sn_gets (ci := 5) (j := 1) (off := 14) hst en_c5 of_5_14 (Nat.le_of_ble_eq_true rfl) (by decide +kernel) wm_873 (Nat.le_of_ble_eq_true rfl) rfl (sn_iload_n (i := 1) (n := 1) (by decide +kernel) rfl (sn_iconst (n := 1) (v := 1) (by decide +kernel) rfl (sn_isub (by decide +kernel) (sn_iald (by decide +kernel) (sn_icge (off := 55) (tgt := 70) (by decide +kernel) rfl (s_X5_setsBefore_70 G hst kc hk) (sn_aload_n (i := 0) (n := 0) (by decide +kernel) rfl (sn_gets (ci := 5) (j := 0) (off := 1) hst en_c5 of_5_1 (Nat.le_of_ble_eq_true rfl) (by decide +kernel) wm_872 (Nat.le_of_ble_eq_true rfl) rfl (sn_iload_n (i := 1) (n := 1) (by decide +kernel) rfl (sn_iconst (n := 1) (v := 1) (by decide +kernel) rfl (sn_isub (by decide +kernel) (sn_aldM hst (by decide +kernel) (sn_iload (i := 4) (by decide +kernel) (sn_iald (by decide +kernel) (sn_istore (i := 5) (by decide +kernel) (Nat.le_of_ble_eq_true rfl) (sn_iload_n (i := 3) (n := 3) (by decide +kernel) rfl (sn_aload_n (i := 0) (n := 0) (by decide +kernel) rfl (sn_iload_n (i := 1) (n := 1) (by decide +kernel) rfl (sn_iload_n (i := 2) (n := 2) (by decide +kernel) rfl (sn_iload (i := 5) (by decide +kernel) (sn_aload_n (i := 0) (n := 0) (by decide +kernel) rfl (sn_gets (ci := 5) (j := 2) (off := 15) hst en_c5 of_5_15 (Nat.le_of_ble_eq_true rfl) (by decide +kernel) wm_874 (Nat.le_of_ble_eq_true rfl) rfl (sn_iload_n (i := 1) (n := 1) (by decide +kernel) rfl (sn_iconst (n := 1) (v := 1) (by decide +kernel) rfl (sn_isub (by decide +kernel) (sn_aldM hst (by decide +kernel) (sn_iload (i := 5) (by decide +kernel) (sn_iald (by decide +kernel) (sn_callVi (n := 4) (idx := 81) (ci := 5) (i_X5_mayFollow G hst) (Nat.le_of_ble_eq_true rfl) cs_X5_mayFollow ⟨wm_885, wm_886, wm_907⟩ ⟨⟨_, rfl, rfl⟩, (Nat.le_of_ble_eq_true rfl)⟩ (by decide +kernel) (sn_ifeq (off := 10) (tgt := 61) (by decide +kernel) rfl (s_X5_setsBefore_61 G hst kc hk) (sn_iconst (n := 1) (v := 1) (by decide +kernel) rfl (sn_iload (i := 5) (by decide +kernel) (sn_ishl (by decide +kernel) (sn_goto (off := 4) (tgt := 62) (by decide +kernel) rfl (s_X5_setsBefore_62 G hst kc hk)))))))))))))))))))))))))))))))))))))
noncomputable def B_X5_setsBefore_0 (kc : Nat → en_B) : en_B := (op_const (0 : Int32) (op_istore 3 (op_const (0 : Int32) (op_istore 4 (kc 5)))))
set_option maxRecDepth 20000 in
theorem s_X5_setsBefore_0 (G : en_G) (hst : G.2.2.2.2.2 = true) (kc : Nat → en_B) (hk : ∀ t, en_Snd G M_X5_setsBefore t (kc t)) : en_Snd G M_X5_setsBefore 0 (B_X5_setsBefore_0 kc) := (sn_iconst (n := 0) (v := 0) (by decide +kernel) rfl (sn_istore_n (i := 3) (n := 3) (by decide +kernel) rfl (Nat.le_of_ble_eq_true rfl) (sn_iconst (n := 0) (v := 0) (by decide +kernel) rfl (sn_istore (i := 4) (by decide +kernel) (Nat.le_of_ble_eq_true rfl) (hk 5)))))
noncomputable def LK_X5_setsBefore : Nat → Nat → en_B
  | 0, _ => en_no
  | n + 1, t => if t = 5 then B_X5_setsBefore_5 (LK_X5_setsBefore n) else en_no
theorem l_X5_setsBefore (G : en_G) (hst : G.2.2.2.2.2 = true) : ∀ n t, en_Snd G M_X5_setsBefore t (LK_X5_setsBefore n t)
  | 0, _ => sn_no
  | n + 1, t => by
    show en_Snd G M_X5_setsBefore t (if t = 5 then B_X5_setsBefore_5 (LK_X5_setsBefore n) else en_no)
    by_cases h_5 : t = 5
    · rw [if_pos h_5, h_5]; exact s_X5_setsBefore_5 G hst _ (l_X5_setsBefore G hst n)
    rw [if_neg h_5]
    exact sn_no
noncomputable def T_X5_setsBefore_0 (x1 : Int32) (x2 : Int32) (σ : en_M) : en_R := B_X5_setsBefore_0 (LK_X5_setsBefore en_FU) [.inr (103, 5, 0, 0), .inl x1, .inl x2, en_un, en_un, en_un] [] en_zz σ
noncomputable def T_X5_setsBefore_5 (n : Nat) (x1 : Int32) (x2 : Int32) (x3 : Int32) (x4 : Int32) (u5 : en_V) (σ : en_M) : en_R := LK_X5_setsBefore n 5 [.inr (103, 5, 0, 0), .inl x1, .inl x2, .inl x3, .inl x4, u5] [] en_zz σ
set_option maxRecDepth 20000 in
set_option maxHeartbeats 2000000 in
theorem t_X5_setsBefore_0 (x1 : Int32) (x2 : Int32) (σ : en_M) : T_X5_setsBefore_0 x1 x2 σ = (T_X5_setsBefore_5 en_FU x1 x2 (0 : Int32) (0 : Int32) (en_un) σ) := rfl
set_option maxRecDepth 20000 in
set_option maxHeartbeats 2000000 in
theorem t_X5_setsBefore_5 (n : Nat) (x1 : Int32) (x2 : Int32) (x3 : Int32) (x4 : Int32) (u5 : en_V) (σ : en_M) : T_X5_setsBefore_5 (n + 1) x1 x2 x3 x4 u5 σ = ((en_ix (x1 - (1 : Int32)) 12).bind fun j1 => if x4 < (σ 117 j1) then ((en_ix (x1 - (1 : Int32)) 12).bind fun j2 => (en_ix x4 128).bind fun j3 => (en_ix (x1 - (1 : Int32)) 12).bind fun j4 => (en_ix (σ (104 + 1 + j2) j3) 128).bind fun j5 => (O_X5_mayFollow [.inr (103, 5, 0, 0), .inl x1, .inl x2, .inl (σ (104 + 1 + j2) j3), .inl (σ (118 + 1 + j4) j5)] σ).bind fun r6 => if r6.1 = 0 then (T_X5_setsBefore_5 n x1 x2 (x3 ||| (0 : Int32)) (x4 + (1 : Int32)) (.inl (σ (104 + 1 + j2) j3)) r6.2) else (T_X5_setsBefore_5 n x1 x2 (x3 ||| (en_shl (1 : Int32) (σ (104 + 1 + j2) j3))) (x4 + (1 : Int32)) (.inl (σ (104 + 1 + j2) j3)) r6.2)) else (en_ri x3 σ)) := rfl
noncomputable def P_X5_setsBefore : List en_V → en_M → Option (Int32 × en_M) := fun av σ => match av with
  | [.inr (103, 5, 0, 0), .inl x1, .inl x2] => en_oi (T_X5_setsBefore_0 x1 x2 σ)
  | _ => none
theorem ox_X5_setsBefore : ∃ f, f = P_X5_setsBefore := ⟨_, rfl⟩
noncomputable def O_X5_setsBefore : List en_V → en_M → Option (Int32 × en_M) := Classical.choose ox_X5_setsBefore
theorem oe_X5_setsBefore : O_X5_setsBefore = P_X5_setsBefore := Classical.choose_spec ox_X5_setsBefore
theorem o_X5_setsBefore (x1 : Int32) (x2 : Int32) (σ : en_M) : O_X5_setsBefore [.inr (103, 5, 0, 0), .inl x1, .inl x2] σ = en_oi (T_X5_setsBefore_0 x1 x2 σ) := by rw [oe_X5_setsBefore]; rfl
theorem i_X5_setsBefore (G : en_G) (hst : G.2.2.2.2.2 = true) : en_I G 2 yX5_setsBefore cX5_setsBefore 6 (some .int) 0 0 (en_wi (O_X5_setsBefore)) := en_of_i (M := M_X5_setsBefore) hst (s_X5_setsBefore_0 G hst _ (l_X5_setsBefore G hst en_FU)) (plainFor_of_name (by decide +kernel)) rfl rfl rfl (Or.inl ⟨rfl, rfl⟩) (fun av σ x σ' h => by
  rw [oe_X5_setsBefore] at h; unfold P_X5_setsBefore at h
  split at h
  · exact ⟨(Nat.le_of_ble_eq_true rfl), en_oi_some h⟩
  · cases h)
-- EachMayMissOne$Plan.napsWith(II)I
def M_X5_napsWith : en_Me := (cX5_napsWith, RX5, 5, false, 2, false)
theorem cs_X5_napsWith : en_cs yX5_napsWith cX5_napsWith 5 (some .int) 2 := ⟨wm_951, wm_42, ⟨(by decide +kernel), (by decide +kernel), (by decide +kernel)⟩, (Nat.le_of_ble_eq_true rfl)⟩
noncomputable def B_X5_napsWith_51 (kc : Nat → en_B) : en_B := (op_iload 3 op_iret)
set_option maxRecDepth 20000 in
theorem s_X5_napsWith_51 (G : en_G) (hst : G.2.2.2.2.2 = true) (kc : Nat → en_B) (hk : ∀ t, en_Snd G M_X5_napsWith t (kc t)) : en_Snd G M_X5_napsWith 51 (B_X5_napsWith_51 kc) := (sn_iload_n (i := 3) (n := 3) (by decide +kernel) rfl (sn_iret (by decide +kernel) rfl))
noncomputable def B_X5_napsWith_45 (kc : Nat → en_B) : en_B := (op_iinc 4 (1 : Int32) (kc 5))
set_option maxRecDepth 20000 in
theorem s_X5_napsWith_45 (G : en_G) (hst : G.2.2.2.2.2 = true) (kc : Nat → en_B) (hk : ∀ t, en_Snd G M_X5_napsWith t (kc t)) : en_Snd G M_X5_napsWith 45 (B_X5_napsWith_45 kc) := (sn_iinc (i := 4) (n := 1) (v := 1) (by decide +kernel) rfl (sn_goto (off := -43) (tgt := 5) (by decide +kernel) rfl (hk 5)))
noncomputable def B_X5_napsWith_5 (kc : Nat → en_B) : en_B := (op_iload 4 (op_const (5 : Int32) (op_iclt (op_iload 2 (op_iload 4 (op_calli O_X11_bit 2 (op_const (1 : Int32) (op_iceq (op_iload 1 (op_const (2 : Int32) (op_iload 4 (op_bin (fun (x y : Int32) => x * y) (op_bin en_shr (op_const (3 : Int32) (op_bin (fun (x y : Int32) => x &&& y) (op_aload 0 (op_geti 5 6 (op_iclt (op_iload 3 (op_const (1 : Int32) (op_const (2 : Int32) (op_iload 4 (op_bin (fun (x y : Int32) => x * y) (op_bin en_shl (op_bin (fun (x y : Int32) => x + y) (op_istore 3 (B_X5_napsWith_45 kc))))))))) (B_X5_napsWith_45 kc))))))))))) (B_X5_napsWith_45 kc)))))) (B_X5_napsWith_51 kc))))
set_option maxRecDepth 20000 in
theorem s_X5_napsWith_5 (G : en_G) (hst : G.2.2.2.2.2 = true) (kc : Nat → en_B) (hk : ∀ t, en_Snd G M_X5_napsWith t (kc t)) : en_Snd G M_X5_napsWith 5 (B_X5_napsWith_5 kc) := (sn_iload (i := 4) (by decide +kernel) (sn_iconst (n := 5) (v := 5) (by decide +kernel) rfl (sn_icge (off := 43) (tgt := 51) (by decide +kernel) rfl (s_X5_napsWith_51 G hst kc hk) (sn_iload_n (i := 2) (n := 2) (by decide +kernel) rfl (sn_iload (i := 4) (by decide +kernel) (sn_callSi (n := 2) (idx := 119) (i_X11_bit G hst) (Nat.le_of_ble_eq_true rfl) cs_X11_bit ⟨wm_257, Or.inr (by decide +kernel)⟩ (by decide +kernel) (sn_iconst (n := 1) (v := 1) (by decide +kernel) rfl (sn_icne (off := 27) (tgt := 45) (by decide +kernel) rfl (s_X5_napsWith_45 G hst kc hk) (sn_iload_n (i := 1) (n := 1) (by decide +kernel) rfl (sn_iconst (n := 2) (v := 2) (by decide +kernel) rfl (sn_iload (i := 4) (by decide +kernel) (sn_imul (by decide +kernel) (sn_ishr (by decide +kernel) (sn_iconst (n := 3) (v := 3) (by decide +kernel) rfl (sn_iand (by decide +kernel) (sn_aload_n (i := 0) (n := 0) (by decide +kernel) rfl (sn_geti (ci := 5) (j := 6) en_c5 (by decide +kernel) wm_911 (Nat.le_of_ble_eq_true rfl) rfl (sn_icge (off := 12) (tgt := 45) (by decide +kernel) rfl (s_X5_napsWith_45 G hst kc hk) (sn_iload_n (i := 3) (n := 3) (by decide +kernel) rfl (sn_iconst (n := 1) (v := 1) (by decide +kernel) rfl (sn_iconst (n := 2) (v := 2) (by decide +kernel) rfl (sn_iload (i := 4) (by decide +kernel) (sn_imul (by decide +kernel) (sn_ishl (by decide +kernel) (sn_iadd (by decide +kernel) (sn_istore_n (i := 3) (n := 3) (by decide +kernel) rfl (Nat.le_of_ble_eq_true rfl) (s_X5_napsWith_45 G hst kc hk)))))))))))))))))))))))))))
noncomputable def B_X5_napsWith_0 (kc : Nat → en_B) : en_B := (op_iload 1 (op_istore 3 (op_const (0 : Int32) (op_istore 4 (kc 5)))))
set_option maxRecDepth 20000 in
theorem s_X5_napsWith_0 (G : en_G) (hst : G.2.2.2.2.2 = true) (kc : Nat → en_B) (hk : ∀ t, en_Snd G M_X5_napsWith t (kc t)) : en_Snd G M_X5_napsWith 0 (B_X5_napsWith_0 kc) := (sn_iload_n (i := 1) (n := 1) (by decide +kernel) rfl (sn_istore_n (i := 3) (n := 3) (by decide +kernel) rfl (Nat.le_of_ble_eq_true rfl) (sn_iconst (n := 0) (v := 0) (by decide +kernel) rfl (sn_istore (i := 4) (by decide +kernel) (Nat.le_of_ble_eq_true rfl) (hk 5)))))
noncomputable def LK_X5_napsWith : Nat → Nat → en_B
  | 0, _ => en_no
  | n + 1, t => if t = 5 then B_X5_napsWith_5 (LK_X5_napsWith n) else en_no
theorem l_X5_napsWith (G : en_G) (hst : G.2.2.2.2.2 = true) : ∀ n t, en_Snd G M_X5_napsWith t (LK_X5_napsWith n t)
  | 0, _ => sn_no
  | n + 1, t => by
    show en_Snd G M_X5_napsWith t (if t = 5 then B_X5_napsWith_5 (LK_X5_napsWith n) else en_no)
    by_cases h_5 : t = 5
    · rw [if_pos h_5, h_5]; exact s_X5_napsWith_5 G hst _ (l_X5_napsWith G hst n)
    rw [if_neg h_5]
    exact sn_no
noncomputable def T_X5_napsWith_0 (x1 : Int32) (x2 : Int32) (σ : en_M) : en_R := B_X5_napsWith_0 (LK_X5_napsWith en_FU) [.inr (103, 5, 0, 0), .inl x1, .inl x2, en_un, en_un] [] en_zz σ
noncomputable def T_X5_napsWith_5 (n : Nat) (x1 : Int32) (x2 : Int32) (x3 : Int32) (x4 : Int32) (σ : en_M) : en_R := LK_X5_napsWith n 5 [.inr (103, 5, 0, 0), .inl x1, .inl x2, .inl x3, .inl x4] [] en_zz σ
set_option maxRecDepth 20000 in
set_option maxHeartbeats 2000000 in
theorem t_X5_napsWith_0 (x1 : Int32) (x2 : Int32) (σ : en_M) : T_X5_napsWith_0 x1 x2 σ = (T_X5_napsWith_5 en_FU x1 x2 x1 (0 : Int32) σ) := rfl
set_option maxRecDepth 20000 in
set_option maxHeartbeats 2000000 in
theorem t_X5_napsWith_5 (n : Nat) (x1 : Int32) (x2 : Int32) (x3 : Int32) (x4 : Int32) (σ : en_M) : T_X5_napsWith_5 (n + 1) x1 x2 x3 x4 σ = (if x4 < (5 : Int32) then ((O_X11_bit [.inl x2, .inl x4] σ).bind fun r1 => if r1.1 = (1 : Int32) then (if ((en_shr x1 ((2 : Int32) * x4)) &&& (3 : Int32)) < (r1.2 103 6) then (T_X5_napsWith_5 n x1 x2 (x3 + (en_shl (1 : Int32) ((2 : Int32) * x4))) (x4 + (1 : Int32)) r1.2) else (T_X5_napsWith_5 n x1 x2 x3 (x4 + (1 : Int32)) r1.2)) else (T_X5_napsWith_5 n x1 x2 x3 (x4 + (1 : Int32)) r1.2)) else (en_ri x3 σ)) := rfl
noncomputable def P_X5_napsWith : List en_V → en_M → Option (Int32 × en_M) := fun av σ => match av with
  | [.inr (103, 5, 0, 0), .inl x1, .inl x2] => en_oi (T_X5_napsWith_0 x1 x2 σ)
  | _ => none
theorem ox_X5_napsWith : ∃ f, f = P_X5_napsWith := ⟨_, rfl⟩
noncomputable def O_X5_napsWith : List en_V → en_M → Option (Int32 × en_M) := Classical.choose ox_X5_napsWith
theorem oe_X5_napsWith : O_X5_napsWith = P_X5_napsWith := Classical.choose_spec ox_X5_napsWith
theorem o_X5_napsWith (x1 : Int32) (x2 : Int32) (σ : en_M) : O_X5_napsWith [.inr (103, 5, 0, 0), .inl x1, .inl x2] σ = en_oi (T_X5_napsWith_0 x1 x2 σ) := by rw [oe_X5_napsWith]; rfl
theorem i_X5_napsWith (G : en_G) (hst : G.2.2.2.2.2 = true) : en_I G 2 yX5_napsWith cX5_napsWith 5 (some .int) 0 0 (en_wi (O_X5_napsWith)) := en_of_i (M := M_X5_napsWith) hst (s_X5_napsWith_0 G hst _ (l_X5_napsWith G hst en_FU)) (plainFor_of_name (by decide +kernel)) rfl rfl rfl (Or.inl ⟨rfl, rfl⟩) (fun av σ x σ' h => by
  rw [oe_X5_napsWith] at h; unfold P_X5_napsWith at h
  split at h
  · exact ⟨(Nat.le_of_ble_eq_true rfl), en_oi_some h⟩
  · cases h)
-- EachMayMissOne$Plan.beginNaps(LEachMayMissOne$State;I)V
def M_X5_beginNaps : en_Me := (cX5_beginNaps, RX5, 5, false, 3, false)
theorem cs_X5_beginNaps : en_cs yX5_beginNaps cX5_beginNaps 5 none 2 := ⟨wm_916, wm_42, ⟨(by decide +kernel), (by decide +kernel), (by decide +kernel)⟩, (Nat.le_of_ble_eq_true rfl)⟩
noncomputable def B_X5_beginNaps_153 (kc : Nat → en_B) : en_B := op_vret
set_option maxRecDepth 20000 in
theorem s_X5_beginNaps_153 (G : en_G) (hst : G.2.2.2.2.2 = true) (kc : Nat → en_B) (hk : ∀ t, en_Snd G M_X5_beginNaps t (kc t)) : en_Snd G M_X5_beginNaps 153 (B_X5_beginNaps_153 kc) := (sn_vret (by decide +kernel))
noncomputable def B_X5_beginNaps_147 (kc : Nat → en_B) : en_B := (op_iinc 3 (1 : Int32) (kc 88))
set_option maxRecDepth 20000 in
theorem s_X5_beginNaps_147 (G : en_G) (hst : G.2.2.2.2.2 = true) (kc : Nat → en_B) (hk : ∀ t, en_Snd G M_X5_beginNaps t (kc t)) : en_Snd G M_X5_beginNaps 147 (B_X5_beginNaps_147 kc) := (sn_iinc (i := 3) (n := 1) (v := 1) (by decide +kernel) rfl (sn_goto (off := -62) (tgt := 88) (by decide +kernel) rfl (hk 88)))
noncomputable def B_X5_beginNaps_88 (kc : Nat → en_B) : en_B := (op_iload 3 (op_aload 0 (op_gets 5 14 (20, 12, 0) (op_const (0 : Int32) (op_ald 20 (op_iclt (op_aload 0 (op_gets 5 1 (23, 12, 128) (op_const (0 : Int32) (op_aldM (op_iload 3 (op_ald 20 (op_istore 4 (op_aload 0 (op_const (0 : Int32) (op_iload 4 (op_aload 1 (op_geti 7 7 (op_aload 1 (op_geti 7 8 (op_rcv 5 4 (op_calli O_X5_mayFollow 5 (op_ifeq (B_X5_beginNaps_147 kc) (op_aload 0 (op_gets 5 42 (23, 13, 1024) (op_const (1 : Int32) (op_aldM (op_aload 0 (op_const (0 : Int32) (op_iload 4 (op_rcv 5 2 (op_calli O_X5_napsWith 3 (op_dup2 (op_ald 20 (op_const (1 : Int32) (op_iload 4 (op_bin en_shl (op_bin (fun (x y : Int32) => x ||| y) (op_ast 20 (fun (x : Int32) => x) (B_X5_beginNaps_147 kc)))))))))))))))))))))))))))))))))) (B_X5_beginNaps_153 kc)))))))
set_option maxRecDepth 20000 in
theorem s_X5_beginNaps_88 (G : en_G) (hst : G.2.2.2.2.2 = true) (kc : Nat → en_B) (hk : ∀ t, en_Snd G M_X5_beginNaps t (kc t)) : en_Snd G M_X5_beginNaps 88 (B_X5_beginNaps_88 kc) := (sn_iload_n (i := 3) (n := 3) (by decide +kernel) rfl (sn_aload_n (i := 0) (n := 0) (by decide +kernel) rfl (sn_gets (ci := 5) (j := 1) (off := 14) hst en_c5 of_5_14 (Nat.le_of_ble_eq_true rfl) (by decide +kernel) wm_873 (Nat.le_of_ble_eq_true rfl) rfl (sn_iconst (n := 0) (v := 0) (by decide +kernel) rfl (sn_iald (by decide +kernel) (sn_icge (off := 58) (tgt := 153) (by decide +kernel) rfl (s_X5_beginNaps_153 G hst kc hk) (sn_aload_n (i := 0) (n := 0) (by decide +kernel) rfl (sn_gets (ci := 5) (j := 0) (off := 1) hst en_c5 of_5_1 (Nat.le_of_ble_eq_true rfl) (by decide +kernel) wm_872 (Nat.le_of_ble_eq_true rfl) rfl (sn_iconst (n := 0) (v := 0) (by decide +kernel) rfl (sn_aldM hst (by decide +kernel) (sn_iload_n (i := 3) (n := 3) (by decide +kernel) rfl (sn_iald (by decide +kernel) (sn_istore (i := 4) (by decide +kernel) (Nat.le_of_ble_eq_true rfl) (sn_aload_n (i := 0) (n := 0) (by decide +kernel) rfl (sn_iconst (n := 0) (v := 0) (by decide +kernel) rfl (sn_iload (i := 4) (by decide +kernel) (sn_aload_n (i := 1) (n := 1) (by decide +kernel) rfl (sn_geti (ci := 7) (j := 7) en_c7 (by decide +kernel) wm_897 (Nat.le_of_ble_eq_true rfl) rfl (sn_aload_n (i := 1) (n := 1) (by decide +kernel) rfl (sn_geti (ci := 7) (j := 8) en_c7 (by decide +kernel) wm_898 (Nat.le_of_ble_eq_true rfl) rfl (sn_callVi (n := 4) (idx := 81) (ci := 5) (i_X5_mayFollow G hst) (Nat.le_of_ble_eq_true rfl) cs_X5_mayFollow ⟨wm_885, wm_886, wm_907⟩ ⟨⟨_, rfl, rfl⟩, (Nat.le_of_ble_eq_true rfl)⟩ (by decide +kernel) (sn_ifeq (off := 24) (tgt := 147) (by decide +kernel) rfl (s_X5_beginNaps_147 G hst kc hk) (sn_aload_n (i := 0) (n := 0) (by decide +kernel) rfl (sn_gets (ci := 5) (j := 4) (off := 42) hst en_c5 of_5_42 (Nat.le_of_ble_eq_true rfl) (by decide +kernel) wm_876 (Nat.le_of_ble_eq_true rfl) rfl (sn_iconst (n := 1) (v := 1) (by decide +kernel) rfl (sn_aldM hst (by decide +kernel) (sn_aload_n (i := 0) (n := 0) (by decide +kernel) rfl (sn_iconst (n := 0) (v := 0) (by decide +kernel) rfl (sn_iload (i := 4) (by decide +kernel) (sn_callVi (n := 2) (idx := 106) (ci := 5) (i_X5_napsWith G hst) (Nat.le_of_ble_eq_true rfl) cs_X5_napsWith ⟨wm_952, wm_953, wm_920⟩ ⟨⟨_, rfl, rfl⟩, (Nat.le_of_ble_eq_true rfl)⟩ (by decide +kernel) (sn_dup2 (by decide +kernel) (sn_iald (by decide +kernel) (sn_iconst (n := 1) (v := 1) (by decide +kernel) rfl (sn_iload (i := 4) (by decide +kernel) (sn_ishl (by decide +kernel) (sn_ior (by decide +kernel) (sn_iast (by decide +kernel) (s_X5_beginNaps_147 G hst kc hk))))))))))))))))))))))))))))))))))))))
noncomputable def B_X5_beginNaps_86 (kc : Nat → en_B) : en_B := (op_const (0 : Int32) (op_istore 3 (kc 88)))
set_option maxRecDepth 20000 in
theorem s_X5_beginNaps_86 (G : en_G) (hst : G.2.2.2.2.2 = true) (kc : Nat → en_B) (hk : ∀ t, en_Snd G M_X5_beginNaps t (kc t)) : en_Snd G M_X5_beginNaps 86 (B_X5_beginNaps_86 kc) := (sn_iconst (n := 0) (v := 0) (by decide +kernel) rfl (sn_istore_n (i := 3) (n := 3) (by decide +kernel) rfl (Nat.le_of_ble_eq_true rfl) (hk 88)))
noncomputable def B_X5_beginNaps_80 (kc : Nat → en_B) : en_B := (op_iinc 3 (1 : Int32) (kc 25))
set_option maxRecDepth 20000 in
theorem s_X5_beginNaps_80 (G : en_G) (hst : G.2.2.2.2.2 = true) (kc : Nat → en_B) (hk : ∀ t, en_Snd G M_X5_beginNaps t (kc t)) : en_Snd G M_X5_beginNaps 80 (B_X5_beginNaps_80 kc) := (sn_iinc (i := 3) (n := 1) (v := 1) (by decide +kernel) rfl (sn_goto (off := -58) (tgt := 25) (by decide +kernel) rfl (hk 25)))
noncomputable def B_X5_beginNaps_33 (kc : Nat → en_B) : en_B := (op_iload 4 (op_aload 0 (op_gets 5 14 (20, 12, 0) (op_iload 3 (op_ald 20 (op_iclt (op_aload 0 (op_gets 5 56 (23, 12, 32) (op_iload 3 (op_aldM (op_aload 0 (op_gets 5 1 (23, 12, 128) (op_iload 3 (op_aldM (op_iload 4 (op_ald 20 (op_aload 0 (op_iload 3 (op_aload 0 (op_gets 5 1 (23, 12, 128) (op_iload 3 (op_aldM (op_iload 4 (op_ald 20 (op_rcv 5 2 (op_calli O_X5_setsBefore 3 (op_ast 20 (fun (x : Int32) => x) (op_iinc 4 (1 : Int32) (kc 33))))))))))))))))))))))) (B_X5_beginNaps_80 kc)))))))
set_option maxRecDepth 20000 in
theorem s_X5_beginNaps_33 (G : en_G) (hst : G.2.2.2.2.2 = true) (kc : Nat → en_B) (hk : ∀ t, en_Snd G M_X5_beginNaps t (kc t)) : en_Snd G M_X5_beginNaps 33 (B_X5_beginNaps_33 kc) := (sn_iload (i := 4) (by decide +kernel) (sn_aload_n (i := 0) (n := 0) (by decide +kernel) rfl (sn_gets (ci := 5) (j := 1) (off := 14) hst en_c5 of_5_14 (Nat.le_of_ble_eq_true rfl) (by decide +kernel) wm_873 (Nat.le_of_ble_eq_true rfl) rfl (sn_iload_n (i := 3) (n := 3) (by decide +kernel) rfl (sn_iald (by decide +kernel) (sn_icge (off := 39) (tgt := 80) (by decide +kernel) rfl (s_X5_beginNaps_80 G hst kc hk) (sn_aload_n (i := 0) (n := 0) (by decide +kernel) rfl (sn_gets (ci := 5) (j := 5) (off := 56) hst en_c5 of_5_56 (Nat.le_of_ble_eq_true rfl) (by decide +kernel) wm_877 (Nat.le_of_ble_eq_true rfl) rfl (sn_iload_n (i := 3) (n := 3) (by decide +kernel) rfl (sn_aldM hst (by decide +kernel) (sn_aload_n (i := 0) (n := 0) (by decide +kernel) rfl (sn_gets (ci := 5) (j := 0) (off := 1) hst en_c5 of_5_1 (Nat.le_of_ble_eq_true rfl) (by decide +kernel) wm_872 (Nat.le_of_ble_eq_true rfl) rfl (sn_iload_n (i := 3) (n := 3) (by decide +kernel) rfl (sn_aldM hst (by decide +kernel) (sn_iload (i := 4) (by decide +kernel) (sn_iald (by decide +kernel) (sn_aload_n (i := 0) (n := 0) (by decide +kernel) rfl (sn_iload_n (i := 3) (n := 3) (by decide +kernel) rfl (sn_aload_n (i := 0) (n := 0) (by decide +kernel) rfl (sn_gets (ci := 5) (j := 0) (off := 1) hst en_c5 of_5_1 (Nat.le_of_ble_eq_true rfl) (by decide +kernel) wm_872 (Nat.le_of_ble_eq_true rfl) rfl (sn_iload_n (i := 3) (n := 3) (by decide +kernel) rfl (sn_aldM hst (by decide +kernel) (sn_iload (i := 4) (by decide +kernel) (sn_iald (by decide +kernel) (sn_callVi (n := 2) (idx := 103) (ci := 5) (i_X5_setsBefore G hst) (Nat.le_of_ble_eq_true rfl) cs_X5_setsBefore ⟨wm_922, wm_923, wm_919⟩ ⟨⟨_, rfl, rfl⟩, (Nat.le_of_ble_eq_true rfl)⟩ (by decide +kernel) (sn_iast (by decide +kernel) (sn_iinc (i := 4) (n := 1) (v := 1) (by decide +kernel) rfl (sn_goto (off := -44) (tgt := 33) (by decide +kernel) rfl (hk 33)))))))))))))))))))))))))))))
noncomputable def B_X5_beginNaps_25 (kc : Nat → en_B) : en_B := (op_iload 3 (op_iload 2 (op_iclt (op_const (0 : Int32) (op_istore 4 (kc 33))) (B_X5_beginNaps_86 kc))))
set_option maxRecDepth 20000 in
theorem s_X5_beginNaps_25 (G : en_G) (hst : G.2.2.2.2.2 = true) (kc : Nat → en_B) (hk : ∀ t, en_Snd G M_X5_beginNaps t (kc t)) : en_Snd G M_X5_beginNaps 25 (B_X5_beginNaps_25 kc) := (sn_iload_n (i := 3) (n := 3) (by decide +kernel) rfl (sn_iload_n (i := 2) (n := 2) (by decide +kernel) rfl (sn_icge (off := 59) (tgt := 86) (by decide +kernel) rfl (s_X5_beginNaps_86 G hst kc hk) (sn_iconst (n := 0) (v := 0) (by decide +kernel) rfl (sn_istore (i := 4) (by decide +kernel) (Nat.le_of_ble_eq_true rfl) (hk 33))))))
noncomputable def B_X5_beginNaps_23 (kc : Nat → en_B) : en_B := (op_const (1 : Int32) (op_istore 3 (kc 25)))
set_option maxRecDepth 20000 in
theorem s_X5_beginNaps_23 (G : en_G) (hst : G.2.2.2.2.2 = true) (kc : Nat → en_B) (hk : ∀ t, en_Snd G M_X5_beginNaps t (kc t)) : en_Snd G M_X5_beginNaps 23 (B_X5_beginNaps_23 kc) := (sn_iconst (n := 1) (v := 1) (by decide +kernel) rfl (sn_istore_n (i := 3) (n := 3) (by decide +kernel) rfl (Nat.le_of_ble_eq_true rfl) (hk 25)))
noncomputable def B_X5_beginNaps_2 (kc : Nat → en_B) : en_B := (op_iload 3 (op_iload 2 (op_icgt (B_X5_beginNaps_23 kc) (op_aload 0 (op_gets 5 42 (23, 13, 1024) (op_iload 3 (op_aldM (op_const (0 : Int32) (op_callv O_J7_fill_53178 2 (op_iinc 3 (1 : Int32) (kc 2)))))))))))
set_option maxRecDepth 20000 in
theorem s_X5_beginNaps_2 (G : en_G) (hst : G.2.2.2.2.2 = true) (kc : Nat → en_B) (hk : ∀ t, en_Snd G M_X5_beginNaps t (kc t)) : en_Snd G M_X5_beginNaps 2 (B_X5_beginNaps_2 kc) := (sn_iload_n (i := 3) (n := 3) (by decide +kernel) rfl (sn_iload_n (i := 2) (n := 2) (by decide +kernel) rfl (sn_icgt (off := 19) (tgt := 23) (by decide +kernel) rfl (s_X5_beginNaps_23 G hst kc hk) (sn_aload_n (i := 0) (n := 0) (by decide +kernel) rfl (sn_gets (ci := 5) (j := 4) (off := 42) hst en_c5 of_5_42 (Nat.le_of_ble_eq_true rfl) (by decide +kernel) wm_876 (Nat.le_of_ble_eq_true rfl) rfl (sn_iload_n (i := 3) (n := 3) (by decide +kernel) rfl (sn_aldM hst (by decide +kernel) (sn_iconst (n := 0) (v := 0) (by decide +kernel) rfl (sn_callSv (n := 2) (idx := 46) (i_J7_fill_53178 G hst) (Nat.le_of_ble_eq_true rfl) cs_J7_fill_53178 ⟨wm_891, Or.inl wm_893⟩ (by decide +kernel) (sn_iinc (i := 3) (n := 1) (v := 1) (by decide +kernel) rfl (sn_goto (off := -18) (tgt := 2) (by decide +kernel) rfl (hk 2))))))))))))
noncomputable def B_X5_beginNaps_0 (kc : Nat → en_B) : en_B := (op_const (0 : Int32) (op_istore 3 (kc 2)))
set_option maxRecDepth 20000 in
theorem s_X5_beginNaps_0 (G : en_G) (hst : G.2.2.2.2.2 = true) (kc : Nat → en_B) (hk : ∀ t, en_Snd G M_X5_beginNaps t (kc t)) : en_Snd G M_X5_beginNaps 0 (B_X5_beginNaps_0 kc) := (sn_iconst (n := 0) (v := 0) (by decide +kernel) rfl (sn_istore_n (i := 3) (n := 3) (by decide +kernel) rfl (Nat.le_of_ble_eq_true rfl) (hk 2)))
noncomputable def LK_X5_beginNaps : Nat → Nat → en_B
  | 0, _ => en_no
  | n + 1, t => if t = 2 then B_X5_beginNaps_2 (LK_X5_beginNaps n) else if t = 25 then B_X5_beginNaps_25 (LK_X5_beginNaps n) else if t = 33 then B_X5_beginNaps_33 (LK_X5_beginNaps n) else if t = 88 then B_X5_beginNaps_88 (LK_X5_beginNaps n) else en_no
theorem l_X5_beginNaps (G : en_G) (hst : G.2.2.2.2.2 = true) : ∀ n t, en_Snd G M_X5_beginNaps t (LK_X5_beginNaps n t)
  | 0, _ => sn_no
  | n + 1, t => by
    show en_Snd G M_X5_beginNaps t (if t = 2 then B_X5_beginNaps_2 (LK_X5_beginNaps n) else if t = 25 then B_X5_beginNaps_25 (LK_X5_beginNaps n) else if t = 33 then B_X5_beginNaps_33 (LK_X5_beginNaps n) else if t = 88 then B_X5_beginNaps_88 (LK_X5_beginNaps n) else en_no)
    by_cases h_2 : t = 2
    · rw [if_pos h_2, h_2]; exact s_X5_beginNaps_2 G hst _ (l_X5_beginNaps G hst n)
    rw [if_neg h_2]
    by_cases h_25 : t = 25
    · rw [if_pos h_25, h_25]; exact s_X5_beginNaps_25 G hst _ (l_X5_beginNaps G hst n)
    rw [if_neg h_25]
    by_cases h_33 : t = 33
    · rw [if_pos h_33, h_33]; exact s_X5_beginNaps_33 G hst _ (l_X5_beginNaps G hst n)
    rw [if_neg h_33]
    by_cases h_88 : t = 88
    · rw [if_pos h_88, h_88]; exact s_X5_beginNaps_88 G hst _ (l_X5_beginNaps G hst n)
    rw [if_neg h_88]
    exact sn_no
noncomputable def T_X5_beginNaps_0 (k1 : Nat) (x2 : Int32) (σ : en_M) : en_R := B_X5_beginNaps_0 (LK_X5_beginNaps en_FU) [.inr (103, 5, 0, 0), .inr (k1, 7, 0, 0), .inl x2, en_un, en_un] [] en_zz σ
noncomputable def T_X5_beginNaps_2 (n : Nat) (k1 : Nat) (x2 : Int32) (x3 : Int32) (σ : en_M) : en_R := LK_X5_beginNaps n 2 [.inr (103, 5, 0, 0), .inr (k1, 7, 0, 0), .inl x2, .inl x3, en_un] [] en_zz σ
noncomputable def T_X5_beginNaps_25 (n : Nat) (k1 : Nat) (x2 : Int32) (x3 : Int32) (u4 : en_V) (σ : en_M) : en_R := LK_X5_beginNaps n 25 [.inr (103, 5, 0, 0), .inr (k1, 7, 0, 0), .inl x2, .inl x3, u4] [] en_zz σ
noncomputable def T_X5_beginNaps_33 (n : Nat) (k1 : Nat) (x2 : Int32) (x3 : Int32) (x4 : Int32) (σ : en_M) : en_R := LK_X5_beginNaps n 33 [.inr (103, 5, 0, 0), .inr (k1, 7, 0, 0), .inl x2, .inl x3, .inl x4] [] en_zz σ
noncomputable def T_X5_beginNaps_88 (n : Nat) (k1 : Nat) (x2 : Int32) (x3 : Int32) (u4 : en_V) (σ : en_M) : en_R := LK_X5_beginNaps n 88 [.inr (103, 5, 0, 0), .inr (k1, 7, 0, 0), .inl x2, .inl x3, u4] [] en_zz σ
set_option maxRecDepth 20000 in
set_option maxHeartbeats 2000000 in
theorem t_X5_beginNaps_0 (k1 : Nat) (x2 : Int32) (σ : en_M) : T_X5_beginNaps_0 k1 x2 σ = (T_X5_beginNaps_2 en_FU k1 x2 (0 : Int32) σ) := rfl
set_option maxRecDepth 20000 in
set_option maxHeartbeats 2000000 in
theorem t_X5_beginNaps_2 (n : Nat) (k1 : Nat) (x2 : Int32) (x3 : Int32) (σ : en_M) : T_X5_beginNaps_2 (n + 1) k1 x2 x3 σ = (if x2 < x3 then (T_X5_beginNaps_25 n k1 x2 (1 : Int32) (en_un) σ) else ((en_ix x3 13).bind fun j1 => (O_J7_fill_53178 [.inr ((145 + 1 + j1), 20, 1024, 0), .inl (0 : Int32)] σ).bind fun r2 => T_X5_beginNaps_2 n k1 x2 (x3 + (1 : Int32)) r2)) := rfl
set_option maxRecDepth 20000 in
set_option maxHeartbeats 2000000 in
theorem t_X5_beginNaps_25 (n : Nat) (k1 : Nat) (x2 : Int32) (x3 : Int32) (u4 : en_V) (σ : en_M) : T_X5_beginNaps_25 (n + 1) k1 x2 x3 u4 σ = (if x3 < x2 then (T_X5_beginNaps_33 n k1 x2 x3 (0 : Int32) σ) else (T_X5_beginNaps_88 n k1 x2 (0 : Int32) (u4) σ)) := rfl
set_option maxRecDepth 20000 in
set_option maxHeartbeats 2000000 in
theorem t_X5_beginNaps_33 (n : Nat) (k1 : Nat) (x2 : Int32) (x3 : Int32) (x4 : Int32) (σ : en_M) : T_X5_beginNaps_33 (n + 1) k1 x2 x3 x4 σ = ((en_ix x3 12).bind fun j3 => if x4 < (σ 117 j3) then ((en_ix x3 12).bind fun j4 => (en_ix x3 12).bind fun j5 => (en_ix x4 128).bind fun j6 => (en_ix x3 12).bind fun j7 => (en_ix x4 128).bind fun j8 => (O_X5_setsBefore [.inr (103, 5, 0, 0), .inl x3, .inl (σ (104 + 1 + j7) j8)] σ).bind fun r9 => (en_ix (σ (104 + 1 + j5) j6) 32).bind fun j10 => T_X5_beginNaps_33 n k1 x2 x3 (x4 + (1 : Int32)) (en_up r9.2 (159 + 1 + j4) j10 r9.1)) else (T_X5_beginNaps_25 n k1 x2 (x3 + (1 : Int32)) (.inl x4) σ)) := rfl
set_option maxRecDepth 20000 in
set_option maxHeartbeats 2000000 in
theorem t_X5_beginNaps_88 (n : Nat) (k1 : Nat) (x2 : Int32) (x3 : Int32) (u4 : en_V) (σ : en_M) : T_X5_beginNaps_88 (n + 1) k1 x2 x3 u4 σ = ((en_ix (0 : Int32) 12).bind fun j11 => if x3 < (σ 117 j11) then ((en_ix (0 : Int32) 12).bind fun j12 => (en_ix x3 128).bind fun j13 => (O_X5_mayFollow [.inr (103, 5, 0, 0), .inl (0 : Int32), .inl (σ (104 + 1 + j12) j13), .inl (σ k1 7), .inl (σ k1 8)] σ).bind fun r14 => if r14.1 = 0 then (T_X5_beginNaps_88 n k1 x2 (x3 + (1 : Int32)) (.inl (σ (104 + 1 + j12) j13)) r14.2) else ((en_ix (1 : Int32) 13).bind fun j15 => (O_X5_napsWith [.inr (103, 5, 0, 0), .inl (0 : Int32), .inl (σ (104 + 1 + j12) j13)] r14.2).bind fun r16 => (en_ix r16.1 1024).bind fun j17 => (en_ix r16.1 1024).bind fun j18 => T_X5_beginNaps_88 n k1 x2 (x3 + (1 : Int32)) (.inl (σ (104 + 1 + j12) j13)) (en_up r16.2 (145 + 1 + j15) j18 ((r16.2 (145 + 1 + j15) j17) ||| (en_shl (1 : Int32) (σ (104 + 1 + j12) j13)))))) else (en_rv σ)) := rfl
noncomputable def P_X5_beginNaps : List en_V → en_M → Option en_M := fun av σ => match av with
  | [.inr (103, 5, 0, 0), .inr (k1, 7, 0, 0), .inl x2] => en_ov (T_X5_beginNaps_0 k1 x2 σ)
  | _ => none
theorem ox_X5_beginNaps : ∃ f, f = P_X5_beginNaps := ⟨_, rfl⟩
noncomputable def O_X5_beginNaps : List en_V → en_M → Option en_M := Classical.choose ox_X5_beginNaps
theorem oe_X5_beginNaps : O_X5_beginNaps = P_X5_beginNaps := Classical.choose_spec ox_X5_beginNaps
theorem o_X5_beginNaps (k1 : Nat) (x2 : Int32) (σ : en_M) : O_X5_beginNaps [.inr (103, 5, 0, 0), .inr (k1, 7, 0, 0), .inl x2] σ = en_ov (T_X5_beginNaps_0 k1 x2 σ) := by rw [oe_X5_beginNaps]; rfl
theorem i_X5_beginNaps (G : en_G) (hst : G.2.2.2.2.2 = true) : en_I G 3 yX5_beginNaps cX5_beginNaps 5 none 0 0 (en_wv (O_X5_beginNaps)) := en_of_v (M := M_X5_beginNaps) hst (s_X5_beginNaps_0 G hst _ (l_X5_beginNaps G hst en_FU)) (plainFor_of_name (by decide +kernel)) rfl rfl rfl (fun av σ σ' h => by
  rw [oe_X5_beginNaps] at h; unfold P_X5_beginNaps at h
  split at h
  · exact ⟨(Nat.le_of_ble_eq_true rfl), en_ov_some h⟩
  · cases h)
-- EachMayMissOne$Plan.widenFrom(II)V
def M_X5_widenFrom : en_Me := (cX5_widenFrom, RX5, 5, false, 3, false)
theorem cs_X5_widenFrom : en_cs yX5_widenFrom cX5_widenFrom 5 none 2 := ⟨wm_928, wm_42, ⟨(by decide +kernel), (by decide +kernel), (by decide +kernel)⟩, (Nat.le_of_ble_eq_true rfl)⟩
noncomputable def B_X5_widenFrom_72 (kc : Nat → en_B) : en_B := op_vret
set_option maxRecDepth 20000 in
theorem s_X5_widenFrom_72 (G : en_G) (hst : G.2.2.2.2.2 = true) (kc : Nat → en_B) (hk : ∀ t, en_Snd G M_X5_widenFrom t (kc t)) : en_Snd G M_X5_widenFrom 72 (B_X5_widenFrom_72 kc) := (sn_vret (by decide +kernel))
noncomputable def B_X5_widenFrom_66 (kc : Nat → en_B) : en_B := (op_iinc 3 (1 : Int32) (kc 2))
set_option maxRecDepth 20000 in
theorem s_X5_widenFrom_66 (G : en_G) (hst : G.2.2.2.2.2 = true) (kc : Nat → en_B) (hk : ∀ t, en_Snd G M_X5_widenFrom t (kc t)) : en_Snd G M_X5_widenFrom 66 (B_X5_widenFrom_66 kc) := (sn_iinc (i := 3) (n := 1) (v := 1) (by decide +kernel) rfl (sn_goto (off := -67) (tgt := 2) (by decide +kernel) rfl (hk 2)))
noncomputable def B_X5_widenFrom_2 (kc : Nat → en_B) : en_B := (op_iload 3 (op_aload 0 (op_gets 5 14 (20, 12, 0) (op_iload 1 (op_ald 20 (op_iclt (op_aload 0 (op_gets 5 1 (23, 12, 128) (op_iload 1 (op_aldM (op_iload 3 (op_ald 20 (op_istore 4 (op_aload 0 (op_gets 5 42 (23, 13, 1024) (op_iload 1 (op_aldM (op_iload 2 (op_ald 20 (op_aload 0 (op_gets 5 56 (23, 12, 32) (op_iload 1 (op_aldM (op_iload 4 (op_ald 20 (op_bin (fun (x y : Int32) => x &&& y) (op_ifeq (B_X5_widenFrom_66 kc) (op_aload 0 (op_gets 5 42 (23, 13, 1024) (op_iload 1 (op_const (1 : Int32) (op_bin (fun (x y : Int32) => x + y) (op_aldM (op_aload 0 (op_iload 2 (op_iload 4 (op_rcv 5 2 (op_calli O_X5_napsWith 3 (op_dup2 (op_ald 20 (op_const (1 : Int32) (op_iload 4 (op_bin en_shl (op_bin (fun (x y : Int32) => x ||| y) (op_ast 20 (fun (x : Int32) => x) (B_X5_widenFrom_66 kc)))))))))))))))))))))))))))))))))))))))) (B_X5_widenFrom_72 kc)))))))
set_option maxRecDepth 20000 in
theorem s_X5_widenFrom_2 (G : en_G) (hst : G.2.2.2.2.2 = true) (kc : Nat → en_B) (hk : ∀ t, en_Snd G M_X5_widenFrom t (kc t)) : en_Snd G M_X5_widenFrom 2 (B_X5_widenFrom_2 kc) := (sn_iload_n (i := 3) (n := 3) (by decide +kernel) rfl (sn_aload_n (i := 0) (n := 0) (by decide +kernel) rfl (sn_gets (ci := 5) (j := 1) (off := 14) hst en_c5 of_5_14 (Nat.le_of_ble_eq_true rfl) (by decide +kernel) wm_873 (Nat.le_of_ble_eq_true rfl) rfl (sn_iload_n (i := 1) (n := 1) (by decide +kernel) rfl (sn_iald (by decide +kernel) (sn_icge (off := 63) (tgt := 72) (by decide +kernel) rfl (s_X5_widenFrom_72 G hst kc hk) (sn_aload_n (i := 0) (n := 0) (by decide +kernel) rfl (sn_gets (ci := 5) (j := 0) (off := 1) hst en_c5 of_5_1 (Nat.le_of_ble_eq_true rfl) (by decide +kernel) wm_872 (Nat.le_of_ble_eq_true rfl) rfl (sn_iload_n (i := 1) (n := 1) (by decide +kernel) rfl (sn_aldM hst (by decide +kernel) (sn_iload_n (i := 3) (n := 3) (by decide +kernel) rfl (sn_iald (by decide +kernel) (sn_istore (i := 4) (by decide +kernel) (Nat.le_of_ble_eq_true rfl) (sn_aload_n (i := 0) (n := 0) (by decide +kernel) rfl (sn_gets (ci := 5) (j := 4) (off := 42) hst en_c5 of_5_42 (Nat.le_of_ble_eq_true rfl) (by decide +kernel) wm_876 (Nat.le_of_ble_eq_true rfl) rfl (sn_iload_n (i := 1) (n := 1) (by decide +kernel) rfl (sn_aldM hst (by decide +kernel) (sn_iload_n (i := 2) (n := 2) (by decide +kernel) rfl (sn_iald (by decide +kernel) (sn_aload_n (i := 0) (n := 0) (by decide +kernel) rfl (sn_gets (ci := 5) (j := 5) (off := 56) hst en_c5 of_5_56 (Nat.le_of_ble_eq_true rfl) (by decide +kernel) wm_877 (Nat.le_of_ble_eq_true rfl) rfl (sn_iload_n (i := 1) (n := 1) (by decide +kernel) rfl (sn_aldM hst (by decide +kernel) (sn_iload (i := 4) (by decide +kernel) (sn_iald (by decide +kernel) (sn_iand (by decide +kernel) (sn_ifeq (off := 26) (tgt := 66) (by decide +kernel) rfl (s_X5_widenFrom_66 G hst kc hk) (sn_aload_n (i := 0) (n := 0) (by decide +kernel) rfl (sn_gets (ci := 5) (j := 4) (off := 42) hst en_c5 of_5_42 (Nat.le_of_ble_eq_true rfl) (by decide +kernel) wm_876 (Nat.le_of_ble_eq_true rfl) rfl (sn_iload_n (i := 1) (n := 1) (by decide +kernel) rfl (sn_iconst (n := 1) (v := 1) (by decide +kernel) rfl (sn_iadd (by decide +kernel) (sn_aldM hst (by decide +kernel) (sn_aload_n (i := 0) (n := 0) (by decide +kernel) rfl (sn_iload_n (i := 2) (n := 2) (by decide +kernel) rfl (sn_iload (i := 4) (by decide +kernel) (sn_callVi (n := 2) (idx := 106) (ci := 5) (i_X5_napsWith G hst) (Nat.le_of_ble_eq_true rfl) cs_X5_napsWith ⟨wm_952, wm_953, wm_920⟩ ⟨⟨_, rfl, rfl⟩, (Nat.le_of_ble_eq_true rfl)⟩ (by decide +kernel) (sn_dup2 (by decide +kernel) (sn_iald (by decide +kernel) (sn_iconst (n := 1) (v := 1) (by decide +kernel) rfl (sn_iload (i := 4) (by decide +kernel) (sn_ishl (by decide +kernel) (sn_ior (by decide +kernel) (sn_iast (by decide +kernel) (s_X5_widenFrom_66 G hst kc hk)))))))))))))))))))))))))))))))))))))))))))))
noncomputable def B_X5_widenFrom_0 (kc : Nat → en_B) : en_B := (op_const (0 : Int32) (op_istore 3 (kc 2)))
set_option maxRecDepth 20000 in
theorem s_X5_widenFrom_0 (G : en_G) (hst : G.2.2.2.2.2 = true) (kc : Nat → en_B) (hk : ∀ t, en_Snd G M_X5_widenFrom t (kc t)) : en_Snd G M_X5_widenFrom 0 (B_X5_widenFrom_0 kc) := (sn_iconst (n := 0) (v := 0) (by decide +kernel) rfl (sn_istore_n (i := 3) (n := 3) (by decide +kernel) rfl (Nat.le_of_ble_eq_true rfl) (hk 2)))
noncomputable def LK_X5_widenFrom : Nat → Nat → en_B
  | 0, _ => en_no
  | n + 1, t => if t = 2 then B_X5_widenFrom_2 (LK_X5_widenFrom n) else en_no
theorem l_X5_widenFrom (G : en_G) (hst : G.2.2.2.2.2 = true) : ∀ n t, en_Snd G M_X5_widenFrom t (LK_X5_widenFrom n t)
  | 0, _ => sn_no
  | n + 1, t => by
    show en_Snd G M_X5_widenFrom t (if t = 2 then B_X5_widenFrom_2 (LK_X5_widenFrom n) else en_no)
    by_cases h_2 : t = 2
    · rw [if_pos h_2, h_2]; exact s_X5_widenFrom_2 G hst _ (l_X5_widenFrom G hst n)
    rw [if_neg h_2]
    exact sn_no
noncomputable def T_X5_widenFrom_0 (x1 : Int32) (x2 : Int32) (σ : en_M) : en_R := B_X5_widenFrom_0 (LK_X5_widenFrom en_FU) [.inr (103, 5, 0, 0), .inl x1, .inl x2, en_un, en_un] [] en_zz σ
noncomputable def T_X5_widenFrom_2 (n : Nat) (x1 : Int32) (x2 : Int32) (x3 : Int32) (u4 : en_V) (σ : en_M) : en_R := LK_X5_widenFrom n 2 [.inr (103, 5, 0, 0), .inl x1, .inl x2, .inl x3, u4] [] en_zz σ
set_option maxRecDepth 20000 in
set_option maxHeartbeats 2000000 in
theorem t_X5_widenFrom_0 (x1 : Int32) (x2 : Int32) (σ : en_M) : T_X5_widenFrom_0 x1 x2 σ = (T_X5_widenFrom_2 en_FU x1 x2 (0 : Int32) (en_un) σ) := rfl
set_option maxRecDepth 20000 in
set_option maxHeartbeats 2000000 in
theorem t_X5_widenFrom_2 (n : Nat) (x1 : Int32) (x2 : Int32) (x3 : Int32) (u4 : en_V) (σ : en_M) : T_X5_widenFrom_2 (n + 1) x1 x2 x3 u4 σ = ((en_ix x1 12).bind fun j1 => if x3 < (σ 117 j1) then ((en_ix x1 12).bind fun j2 => (en_ix x3 128).bind fun j3 => (en_ix x1 13).bind fun j4 => (en_ix x2 1024).bind fun j5 => (en_ix x1 12).bind fun j6 => (en_ix (σ (104 + 1 + j2) j3) 32).bind fun j7 => if ((σ (145 + 1 + j4) j5) &&& (σ (159 + 1 + j6) j7)) = 0 then (T_X5_widenFrom_2 n x1 x2 (x3 + (1 : Int32)) (.inl (σ (104 + 1 + j2) j3)) σ) else ((en_ix (x1 + (1 : Int32)) 13).bind fun j8 => (O_X5_napsWith [.inr (103, 5, 0, 0), .inl x2, .inl (σ (104 + 1 + j2) j3)] σ).bind fun r9 => (en_ix r9.1 1024).bind fun j10 => (en_ix r9.1 1024).bind fun j11 => T_X5_widenFrom_2 n x1 x2 (x3 + (1 : Int32)) (.inl (σ (104 + 1 + j2) j3)) (en_up r9.2 (145 + 1 + j8) j11 ((r9.2 (145 + 1 + j8) j10) ||| (en_shl (1 : Int32) (σ (104 + 1 + j2) j3)))))) else (en_rv σ)) := rfl
noncomputable def P_X5_widenFrom : List en_V → en_M → Option en_M := fun av σ => match av with
  | [.inr (103, 5, 0, 0), .inl x1, .inl x2] => en_ov (T_X5_widenFrom_0 x1 x2 σ)
  | _ => none
theorem ox_X5_widenFrom : ∃ f, f = P_X5_widenFrom := ⟨_, rfl⟩
noncomputable def O_X5_widenFrom : List en_V → en_M → Option en_M := Classical.choose ox_X5_widenFrom
theorem oe_X5_widenFrom : O_X5_widenFrom = P_X5_widenFrom := Classical.choose_spec ox_X5_widenFrom
theorem o_X5_widenFrom (x1 : Int32) (x2 : Int32) (σ : en_M) : O_X5_widenFrom [.inr (103, 5, 0, 0), .inl x1, .inl x2] σ = en_ov (T_X5_widenFrom_0 x1 x2 σ) := by rw [oe_X5_widenFrom]; rfl
theorem i_X5_widenFrom (G : en_G) (hst : G.2.2.2.2.2 = true) : en_I G 3 yX5_widenFrom cX5_widenFrom 5 none 0 0 (en_wv (O_X5_widenFrom)) := en_of_v (M := M_X5_widenFrom) hst (s_X5_widenFrom_0 G hst _ (l_X5_widenFrom G hst en_FU)) (plainFor_of_name (by decide +kernel)) rfl rfl rfl (fun av σ σ' h => by
  rw [oe_X5_widenFrom] at h; unfold P_X5_widenFrom at h
  split at h
  · exact ⟨(Nat.le_of_ble_eq_true rfl), en_ov_some h⟩
  · cases h)
-- EachMayMissOne$Plan.widen(I)V
def M_X5_widen : en_Me := (cX5_widen, RX5, 3, false, 4, false)
theorem cs_X5_widen : en_cs yX5_widen cX5_widen 3 none 1 := ⟨wm_924, wm_42, ⟨(by decide +kernel), (by decide +kernel), (by decide +kernel)⟩, (Nat.le_of_ble_eq_true rfl)⟩
noncomputable def B_X5_widen_32 (kc : Nat → en_B) : en_B := op_vret
set_option maxRecDepth 20000 in
theorem s_X5_widen_32 (G : en_G) (hst : G.2.2.2.2.2 = true) (kc : Nat → en_B) (hk : ∀ t, en_Snd G M_X5_widen t (kc t)) : en_Snd G M_X5_widen 32 (B_X5_widen_32 kc) := (sn_vret (by decide +kernel))
noncomputable def B_X5_widen_26 (kc : Nat → en_B) : en_B := (op_iinc 2 (1 : Int32) (kc 2))
set_option maxRecDepth 20000 in
theorem s_X5_widen_26 (G : en_G) (hst : G.2.2.2.2.2 = true) (kc : Nat → en_B) (hk : ∀ t, en_Snd G M_X5_widen t (kc t)) : en_Snd G M_X5_widen 26 (B_X5_widen_26 kc) := (sn_iinc (i := 2) (n := 1) (v := 1) (by decide +kernel) rfl (sn_goto (off := -27) (tgt := 2) (by decide +kernel) rfl (hk 2)))
noncomputable def B_X5_widen_2 (kc : Nat → en_B) : en_B := (op_iload 2 (op_const (1024 : Int32) (op_iclt (op_aload 0 (op_gets 5 42 (23, 13, 1024) (op_iload 1 (op_aldM (op_iload 2 (op_ald 20 (op_ifeq (B_X5_widen_26 kc) (op_aload 0 (op_iload 1 (op_iload 2 (op_rcv 5 2 (op_callv O_X5_widenFrom 3 (B_X5_widen_26 kc))))))))))))) (B_X5_widen_32 kc))))
set_option maxRecDepth 20000 in
theorem s_X5_widen_2 (G : en_G) (hst : G.2.2.2.2.2 = true) (kc : Nat → en_B) (hk : ∀ t, en_Snd G M_X5_widen t (kc t)) : en_Snd G M_X5_widen 2 (B_X5_widen_2 kc) := (sn_iload_n (i := 2) (n := 2) (by decide +kernel) rfl (sn_sipush (n := 1024) (v := 1024) (by decide +kernel) rfl (sn_icge (off := 26) (tgt := 32) (by decide +kernel) rfl (s_X5_widen_32 G hst kc hk) (sn_aload_n (i := 0) (n := 0) (by decide +kernel) rfl (sn_gets (ci := 5) (j := 4) (off := 42) hst en_c5 of_5_42 (Nat.le_of_ble_eq_true rfl) (by decide +kernel) wm_876 (Nat.le_of_ble_eq_true rfl) rfl (sn_iload_n (i := 1) (n := 1) (by decide +kernel) rfl (sn_aldM hst (by decide +kernel) (sn_iload_n (i := 2) (n := 2) (by decide +kernel) rfl (sn_iald (by decide +kernel) (sn_ifeq (off := 9) (tgt := 26) (by decide +kernel) rfl (s_X5_widen_26 G hst kc hk) (sn_aload_n (i := 0) (n := 0) (by decide +kernel) rfl (sn_iload_n (i := 1) (n := 1) (by decide +kernel) rfl (sn_iload_n (i := 2) (n := 2) (by decide +kernel) rfl (sn_callVv (n := 2) (idx := 109) (ci := 5) (i_X5_widenFrom G hst) (Nat.le_of_ble_eq_true rfl) cs_X5_widenFrom ⟨wm_929, wm_930, wm_927⟩ ⟨⟨_, rfl, rfl⟩, (Nat.le_of_ble_eq_true rfl)⟩ (by decide +kernel) (s_X5_widen_26 G hst kc hk)))))))))))))))
noncomputable def B_X5_widen_0 (kc : Nat → en_B) : en_B := (op_const (0 : Int32) (op_istore 2 (kc 2)))
set_option maxRecDepth 20000 in
theorem s_X5_widen_0 (G : en_G) (hst : G.2.2.2.2.2 = true) (kc : Nat → en_B) (hk : ∀ t, en_Snd G M_X5_widen t (kc t)) : en_Snd G M_X5_widen 0 (B_X5_widen_0 kc) := (sn_iconst (n := 0) (v := 0) (by decide +kernel) rfl (sn_istore_n (i := 2) (n := 2) (by decide +kernel) rfl (Nat.le_of_ble_eq_true rfl) (hk 2)))
noncomputable def LK_X5_widen : Nat → Nat → en_B
  | 0, _ => en_no
  | n + 1, t => if t = 2 then B_X5_widen_2 (LK_X5_widen n) else en_no
theorem l_X5_widen (G : en_G) (hst : G.2.2.2.2.2 = true) : ∀ n t, en_Snd G M_X5_widen t (LK_X5_widen n t)
  | 0, _ => sn_no
  | n + 1, t => by
    show en_Snd G M_X5_widen t (if t = 2 then B_X5_widen_2 (LK_X5_widen n) else en_no)
    by_cases h_2 : t = 2
    · rw [if_pos h_2, h_2]; exact s_X5_widen_2 G hst _ (l_X5_widen G hst n)
    rw [if_neg h_2]
    exact sn_no
noncomputable def T_X5_widen_0 (x1 : Int32) (σ : en_M) : en_R := B_X5_widen_0 (LK_X5_widen en_FU) [.inr (103, 5, 0, 0), .inl x1, en_un] [] en_zz σ
noncomputable def T_X5_widen_2 (n : Nat) (x1 : Int32) (x2 : Int32) (σ : en_M) : en_R := LK_X5_widen n 2 [.inr (103, 5, 0, 0), .inl x1, .inl x2] [] en_zz σ
set_option maxRecDepth 20000 in
set_option maxHeartbeats 2000000 in
theorem t_X5_widen_0 (x1 : Int32) (σ : en_M) : T_X5_widen_0 x1 σ = (T_X5_widen_2 en_FU x1 (0 : Int32) σ) := rfl
set_option maxRecDepth 20000 in
set_option maxHeartbeats 2000000 in
theorem t_X5_widen_2 (n : Nat) (x1 : Int32) (x2 : Int32) (σ : en_M) : T_X5_widen_2 (n + 1) x1 x2 σ = (if x2 < (1024 : Int32) then ((en_ix x1 13).bind fun j1 => (en_ix x2 1024).bind fun j2 => if (σ (145 + 1 + j1) j2) = 0 then (T_X5_widen_2 n x1 (x2 + (1 : Int32)) σ) else ((O_X5_widenFrom [.inr (103, 5, 0, 0), .inl x1, .inl x2] σ).bind fun r3 => T_X5_widen_2 n x1 (x2 + (1 : Int32)) r3)) else (en_rv σ)) := rfl
noncomputable def P_X5_widen : List en_V → en_M → Option en_M := fun av σ => match av with
  | [.inr (103, 5, 0, 0), .inl x1] => en_ov (T_X5_widen_0 x1 σ)
  | _ => none
theorem ox_X5_widen : ∃ f, f = P_X5_widen := ⟨_, rfl⟩
noncomputable def O_X5_widen : List en_V → en_M → Option en_M := Classical.choose ox_X5_widen
theorem oe_X5_widen : O_X5_widen = P_X5_widen := Classical.choose_spec ox_X5_widen
theorem o_X5_widen (x1 : Int32) (σ : en_M) : O_X5_widen [.inr (103, 5, 0, 0), .inl x1] σ = en_ov (T_X5_widen_0 x1 σ) := by rw [oe_X5_widen]; rfl
theorem i_X5_widen (G : en_G) (hst : G.2.2.2.2.2 = true) : en_I G 4 yX5_widen cX5_widen 3 none 0 0 (en_wv (O_X5_widen)) := en_of_v (M := M_X5_widen) hst (s_X5_widen_0 G hst _ (l_X5_widen G hst en_FU)) (plainFor_of_name (by decide +kernel)) rfl rfl rfl (fun av σ σ' h => by
  rw [oe_X5_widen] at h; unfold P_X5_widen at h
  split at h
  · exact ⟨(Nat.le_of_ble_eq_true rfl), en_ov_some h⟩
  · cases h)
-- EachMayMissOne$Plan.leadsOn(III)Z
def M_X5_leadsOn : en_Me := (cX5_leadsOn, RX5, 4, false, 3, true)
theorem cs_X5_leadsOn : en_cs yX5_leadsOn cX5_leadsOn 4 (some .boolean) 3 := ⟨wm_939, wm_42, ⟨(by decide +kernel), (by decide +kernel), (by decide +kernel)⟩, (Nat.le_of_ble_eq_true rfl)⟩
noncomputable def B_X5_leadsOn_28 (kc : Nat → en_B) : en_B := op_zret
set_option maxRecDepth 20000 in
theorem s_X5_leadsOn_28 (G : en_G) (hst : G.2.2.2.2.2 = true) (kc : Nat → en_B) (hk : ∀ t, en_Snd G M_X5_leadsOn t (kc t)) : en_Snd G M_X5_leadsOn 28 (B_X5_leadsOn_28 kc) := (sn_zret (by decide +kernel))
noncomputable def B_X5_leadsOn_27 (kc : Nat → en_B) : en_B := (op_const (0 : Int32) (B_X5_leadsOn_28 kc))
set_option maxRecDepth 20000 in
theorem s_X5_leadsOn_27 (G : en_G) (hst : G.2.2.2.2.2 = true) (kc : Nat → en_B) (hk : ∀ t, en_Snd G M_X5_leadsOn t (kc t)) : en_Snd G M_X5_leadsOn 27 (B_X5_leadsOn_27 kc) := (sn_iconst (n := 0) (v := 0) (by decide +kernel) rfl (s_X5_leadsOn_28 G hst kc hk))
noncomputable def B_X5_leadsOn_0 (kc : Nat → en_B) : en_B := (op_aload 0 (op_gets 5 42 (23, 13, 1024) (op_iload 1 (op_const (1 : Int32) (op_bin (fun (x y : Int32) => x + y) (op_aldM (op_aload 0 (op_iload 2 (op_iload 3 (op_rcv 5 2 (op_calli O_X5_napsWith 3 (op_ald 20 (op_iload 3 (op_calli O_X11_bit 2 (op_const (1 : Int32) (op_iceq (op_const (1 : Int32) (B_X5_leadsOn_28 kc)) (B_X5_leadsOn_27 kc)))))))))))))))))
set_option maxRecDepth 20000 in
theorem s_X5_leadsOn_0 (G : en_G) (hst : G.2.2.2.2.2 = true) (kc : Nat → en_B) (hk : ∀ t, en_Snd G M_X5_leadsOn t (kc t)) : en_Snd G M_X5_leadsOn 0 (B_X5_leadsOn_0 kc) := (sn_aload_n (i := 0) (n := 0) (by decide +kernel) rfl (sn_gets (ci := 5) (j := 4) (off := 42) hst en_c5 of_5_42 (Nat.le_of_ble_eq_true rfl) (by decide +kernel) wm_876 (Nat.le_of_ble_eq_true rfl) rfl (sn_iload_n (i := 1) (n := 1) (by decide +kernel) rfl (sn_iconst (n := 1) (v := 1) (by decide +kernel) rfl (sn_iadd (by decide +kernel) (sn_aldM hst (by decide +kernel) (sn_aload_n (i := 0) (n := 0) (by decide +kernel) rfl (sn_iload_n (i := 2) (n := 2) (by decide +kernel) rfl (sn_iload_n (i := 3) (n := 3) (by decide +kernel) rfl (sn_callVi (n := 2) (idx := 106) (ci := 5) (i_X5_napsWith G hst) (Nat.le_of_ble_eq_true rfl) cs_X5_napsWith ⟨wm_952, wm_953, wm_920⟩ ⟨⟨_, rfl, rfl⟩, (Nat.le_of_ble_eq_true rfl)⟩ (by decide +kernel) (sn_iald (by decide +kernel) (sn_iload_n (i := 3) (n := 3) (by decide +kernel) rfl (sn_callSi (n := 2) (idx := 119) (i_X11_bit G hst) (Nat.le_of_ble_eq_true rfl) cs_X11_bit ⟨wm_257, Or.inr (by decide +kernel)⟩ (by decide +kernel) (sn_iconst (n := 1) (v := 1) (by decide +kernel) rfl (sn_icne (off := 7) (tgt := 27) (by decide +kernel) rfl (s_X5_leadsOn_27 G hst kc hk) (sn_iconst (n := 1) (v := 1) (by decide +kernel) rfl (sn_goto (off := 4) (tgt := 28) (by decide +kernel) rfl (s_X5_leadsOn_28 G hst kc hk))))))))))))))))))
noncomputable def LK_X5_leadsOn : Nat → Nat → en_B
  | 0, _ => en_no
  | n + 1, t => en_no
theorem l_X5_leadsOn (G : en_G) (hst : G.2.2.2.2.2 = true) : ∀ n t, en_Snd G M_X5_leadsOn t (LK_X5_leadsOn n t)
  | 0, _ => sn_no
  | n + 1, t => by
    show en_Snd G M_X5_leadsOn t (en_no)
    exact sn_no
noncomputable def T_X5_leadsOn_0 (x1 : Int32) (x2 : Int32) (x3 : Int32) (σ : en_M) : en_R := B_X5_leadsOn_0 (LK_X5_leadsOn en_FU) [.inr (103, 5, 0, 0), .inl x1, .inl x2, .inl x3] [] en_zz σ
set_option maxRecDepth 20000 in
set_option maxHeartbeats 2000000 in
theorem t_X5_leadsOn_0 (x1 : Int32) (x2 : Int32) (x3 : Int32) (σ : en_M) : T_X5_leadsOn_0 x1 x2 x3 σ = ((en_ix (x1 + (1 : Int32)) 13).bind fun j1 => (O_X5_napsWith [.inr (103, 5, 0, 0), .inl x2, .inl x3] σ).bind fun r2 => (en_ix r2.1 1024).bind fun j3 => (O_X11_bit [.inl (r2.2 (145 + 1 + j1) j3), .inl x3] r2.2).bind fun r4 => if r4.1 = (1 : Int32) then (if (1 : Int32) = 0 ∨ (1 : Int32) = 1 then en_ri (1 : Int32) r4.2 else none) else (if (0 : Int32) = 0 ∨ (0 : Int32) = 1 then en_ri (0 : Int32) r4.2 else none)) := rfl
noncomputable def P_X5_leadsOn : List en_V → en_M → Option (Int32 × en_M) := fun av σ => match av with
  | [.inr (103, 5, 0, 0), .inl x1, .inl x2, .inl x3] => en_oi (T_X5_leadsOn_0 x1 x2 x3 σ)
  | _ => none
theorem ox_X5_leadsOn : ∃ f, f = P_X5_leadsOn := ⟨_, rfl⟩
noncomputable def O_X5_leadsOn : List en_V → en_M → Option (Int32 × en_M) := Classical.choose ox_X5_leadsOn
theorem oe_X5_leadsOn : O_X5_leadsOn = P_X5_leadsOn := Classical.choose_spec ox_X5_leadsOn
theorem o_X5_leadsOn (x1 : Int32) (x2 : Int32) (x3 : Int32) (σ : en_M) : O_X5_leadsOn [.inr (103, 5, 0, 0), .inl x1, .inl x2, .inl x3] σ = en_oi (T_X5_leadsOn_0 x1 x2 x3 σ) := by rw [oe_X5_leadsOn]; rfl
theorem i_X5_leadsOn (G : en_G) (hst : G.2.2.2.2.2 = true) : en_I G 3 yX5_leadsOn cX5_leadsOn 4 (some .boolean) 0 0 (en_wi (O_X5_leadsOn)) := en_of_i (M := M_X5_leadsOn) hst (s_X5_leadsOn_0 G hst _ (l_X5_leadsOn G hst en_FU)) (plainFor_of_name (by decide +kernel)) rfl rfl rfl (Or.inr ⟨rfl, rfl⟩) (fun av σ x σ' h => by
  rw [oe_X5_leadsOn] at h; unfold P_X5_leadsOn at h
  split at h
  · exact ⟨(Nat.le_of_ble_eq_true rfl), en_oi_some h⟩
  · cases h)
-- EachMayMissOne$Plan.leadingOn(II)I
def M_X5_leadingOn : en_Me := (cX5_leadingOn, RX5, 6, false, 4, false)
theorem cs_X5_leadingOn : en_cs yX5_leadingOn cX5_leadingOn 6 (some .int) 2 := ⟨wm_935, wm_42, ⟨(by decide +kernel), (by decide +kernel), (by decide +kernel)⟩, (Nat.le_of_ble_eq_true rfl)⟩
noncomputable def B_X5_leadingOn_60 (kc : Nat → en_B) : en_B := (op_iload 3 op_iret)
set_option maxRecDepth 20000 in
theorem s_X5_leadingOn_60 (G : en_G) (hst : G.2.2.2.2.2 = true) (kc : Nat → en_B) (hk : ∀ t, en_Snd G M_X5_leadingOn t (kc t)) : en_Snd G M_X5_leadingOn 60 (B_X5_leadingOn_60 kc) := (sn_iload_n (i := 3) (n := 3) (by decide +kernel) rfl (sn_iret (by decide +kernel) rfl))
noncomputable def B_X5_leadingOn_52 (kc : Nat → en_B) : en_B := (op_bin (fun (x y : Int32) => x ||| y) (op_istore 3 (op_iinc 4 (1 : Int32) (kc 5))))
set_option maxRecDepth 20000 in
theorem s_X5_leadingOn_52 (G : en_G) (hst : G.2.2.2.2.2 = true) (kc : Nat → en_B) (hk : ∀ t, en_Snd G M_X5_leadingOn t (kc t)) : en_Snd G M_X5_leadingOn 52 (B_X5_leadingOn_52 kc) := (sn_ior (by decide +kernel) (sn_istore_n (i := 3) (n := 3) (by decide +kernel) rfl (Nat.le_of_ble_eq_true rfl) (sn_iinc (i := 4) (n := 1) (v := 1) (by decide +kernel) rfl (sn_goto (off := -52) (tgt := 5) (by decide +kernel) rfl (hk 5)))))
noncomputable def B_X5_leadingOn_51 (kc : Nat → en_B) : en_B := (op_const (0 : Int32) (B_X5_leadingOn_52 kc))
set_option maxRecDepth 20000 in
theorem s_X5_leadingOn_51 (G : en_G) (hst : G.2.2.2.2.2 = true) (kc : Nat → en_B) (hk : ∀ t, en_Snd G M_X5_leadingOn t (kc t)) : en_Snd G M_X5_leadingOn 51 (B_X5_leadingOn_51 kc) := (sn_iconst (n := 0) (v := 0) (by decide +kernel) rfl (s_X5_leadingOn_52 G hst kc hk))
noncomputable def B_X5_leadingOn_5 (kc : Nat → en_B) : en_B := (op_iload 4 (op_aload 0 (op_gets 5 14 (20, 12, 0) (op_iload 1 (op_ald 20 (op_iclt (op_aload 0 (op_gets 5 1 (23, 12, 128) (op_iload 1 (op_aldM (op_iload 4 (op_ald 20 (op_istore 5 (op_iload 3 (op_aload 0 (op_iload 1 (op_iload 2 (op_iload 5 (op_rcv 5 3 (op_calli O_X5_leadsOn 4 (op_ifeq (B_X5_leadingOn_51 kc) (op_aload 0 (op_gets 5 56 (23, 12, 32) (op_iload 1 (op_aldM (op_iload 5 (op_ald 20 (B_X5_leadingOn_52 kc)))))))))))))))))))))) (B_X5_leadingOn_60 kc)))))))
set_option maxRecDepth 20000 in
theorem s_X5_leadingOn_5 (G : en_G) (hst : G.2.2.2.2.2 = true) (kc : Nat → en_B) (hk : ∀ t, en_Snd G M_X5_leadingOn t (kc t)) : en_Snd G M_X5_leadingOn 5 (B_X5_leadingOn_5 kc) := (sn_iload (i := 4) (by decide +kernel) (sn_aload_n (i := 0) (n := 0) (by decide +kernel) rfl (sn_gets (ci := 5) (j := 1) (off := 14) hst en_c5 of_5_14 (Nat.le_of_ble_eq_true rfl) (by decide +kernel) wm_873 (Nat.le_of_ble_eq_true rfl) rfl (sn_iload_n (i := 1) (n := 1) (by decide +kernel) rfl (sn_iald (by decide +kernel) (sn_icge (off := 47) (tgt := 60) (by decide +kernel) rfl (s_X5_leadingOn_60 G hst kc hk) (sn_aload_n (i := 0) (n := 0) (by decide +kernel) rfl (sn_gets (ci := 5) (j := 0) (off := 1) hst en_c5 of_5_1 (Nat.le_of_ble_eq_true rfl) (by decide +kernel) wm_872 (Nat.le_of_ble_eq_true rfl) rfl (sn_iload_n (i := 1) (n := 1) (by decide +kernel) rfl (sn_aldM hst (by decide +kernel) (sn_iload (i := 4) (by decide +kernel) (sn_iald (by decide +kernel) (sn_istore (i := 5) (by decide +kernel) (Nat.le_of_ble_eq_true rfl) (sn_iload_n (i := 3) (n := 3) (by decide +kernel) rfl (sn_aload_n (i := 0) (n := 0) (by decide +kernel) rfl (sn_iload_n (i := 1) (n := 1) (by decide +kernel) rfl (sn_iload_n (i := 2) (n := 2) (by decide +kernel) rfl (sn_iload (i := 5) (by decide +kernel) (sn_callVi (n := 3) (idx := 115) (ci := 5) (i_X5_leadsOn G hst) (Nat.le_of_ble_eq_true rfl) cs_X5_leadsOn ⟨wm_940, wm_941, wm_938⟩ ⟨⟨_, rfl, rfl⟩, (Nat.le_of_ble_eq_true rfl)⟩ (by decide +kernel) (sn_ifeq (off := 15) (tgt := 51) (by decide +kernel) rfl (s_X5_leadingOn_51 G hst kc hk) (sn_aload_n (i := 0) (n := 0) (by decide +kernel) rfl (sn_gets (ci := 5) (j := 5) (off := 56) hst en_c5 of_5_56 (Nat.le_of_ble_eq_true rfl) (by decide +kernel) wm_877 (Nat.le_of_ble_eq_true rfl) rfl (sn_iload_n (i := 1) (n := 1) (by decide +kernel) rfl (sn_aldM hst (by decide +kernel) (sn_iload (i := 5) (by decide +kernel) (sn_iald (by decide +kernel) (sn_goto (off := 4) (tgt := 52) (by decide +kernel) rfl (s_X5_leadingOn_52 G hst kc hk))))))))))))))))))))))))))))
noncomputable def B_X5_leadingOn_0 (kc : Nat → en_B) : en_B := (op_const (0 : Int32) (op_istore 3 (op_const (0 : Int32) (op_istore 4 (kc 5)))))
set_option maxRecDepth 20000 in
theorem s_X5_leadingOn_0 (G : en_G) (hst : G.2.2.2.2.2 = true) (kc : Nat → en_B) (hk : ∀ t, en_Snd G M_X5_leadingOn t (kc t)) : en_Snd G M_X5_leadingOn 0 (B_X5_leadingOn_0 kc) := (sn_iconst (n := 0) (v := 0) (by decide +kernel) rfl (sn_istore_n (i := 3) (n := 3) (by decide +kernel) rfl (Nat.le_of_ble_eq_true rfl) (sn_iconst (n := 0) (v := 0) (by decide +kernel) rfl (sn_istore (i := 4) (by decide +kernel) (Nat.le_of_ble_eq_true rfl) (hk 5)))))
noncomputable def LK_X5_leadingOn : Nat → Nat → en_B
  | 0, _ => en_no
  | n + 1, t => if t = 5 then B_X5_leadingOn_5 (LK_X5_leadingOn n) else en_no
theorem l_X5_leadingOn (G : en_G) (hst : G.2.2.2.2.2 = true) : ∀ n t, en_Snd G M_X5_leadingOn t (LK_X5_leadingOn n t)
  | 0, _ => sn_no
  | n + 1, t => by
    show en_Snd G M_X5_leadingOn t (if t = 5 then B_X5_leadingOn_5 (LK_X5_leadingOn n) else en_no)
    by_cases h_5 : t = 5
    · rw [if_pos h_5, h_5]; exact s_X5_leadingOn_5 G hst _ (l_X5_leadingOn G hst n)
    rw [if_neg h_5]
    exact sn_no
noncomputable def T_X5_leadingOn_0 (x1 : Int32) (x2 : Int32) (σ : en_M) : en_R := B_X5_leadingOn_0 (LK_X5_leadingOn en_FU) [.inr (103, 5, 0, 0), .inl x1, .inl x2, en_un, en_un, en_un] [] en_zz σ
noncomputable def T_X5_leadingOn_5 (n : Nat) (x1 : Int32) (x2 : Int32) (x3 : Int32) (x4 : Int32) (u5 : en_V) (σ : en_M) : en_R := LK_X5_leadingOn n 5 [.inr (103, 5, 0, 0), .inl x1, .inl x2, .inl x3, .inl x4, u5] [] en_zz σ
set_option maxRecDepth 20000 in
set_option maxHeartbeats 2000000 in
theorem t_X5_leadingOn_0 (x1 : Int32) (x2 : Int32) (σ : en_M) : T_X5_leadingOn_0 x1 x2 σ = (T_X5_leadingOn_5 en_FU x1 x2 (0 : Int32) (0 : Int32) (en_un) σ) := rfl
set_option maxRecDepth 20000 in
set_option maxHeartbeats 2000000 in
theorem t_X5_leadingOn_5 (n : Nat) (x1 : Int32) (x2 : Int32) (x3 : Int32) (x4 : Int32) (u5 : en_V) (σ : en_M) : T_X5_leadingOn_5 (n + 1) x1 x2 x3 x4 u5 σ = ((en_ix x1 12).bind fun j1 => if x4 < (σ 117 j1) then ((en_ix x1 12).bind fun j2 => (en_ix x4 128).bind fun j3 => (O_X5_leadsOn [.inr (103, 5, 0, 0), .inl x1, .inl x2, .inl (σ (104 + 1 + j2) j3)] σ).bind fun r4 => if r4.1 = 0 then (T_X5_leadingOn_5 n x1 x2 (x3 ||| (0 : Int32)) (x4 + (1 : Int32)) (.inl (σ (104 + 1 + j2) j3)) r4.2) else ((en_ix x1 12).bind fun j5 => (en_ix (σ (104 + 1 + j2) j3) 32).bind fun j6 => T_X5_leadingOn_5 n x1 x2 (x3 ||| (r4.2 (159 + 1 + j5) j6)) (x4 + (1 : Int32)) (.inl (σ (104 + 1 + j2) j3)) r4.2)) else (en_ri x3 σ)) := rfl
noncomputable def P_X5_leadingOn : List en_V → en_M → Option (Int32 × en_M) := fun av σ => match av with
  | [.inr (103, 5, 0, 0), .inl x1, .inl x2] => en_oi (T_X5_leadingOn_0 x1 x2 σ)
  | _ => none
theorem ox_X5_leadingOn : ∃ f, f = P_X5_leadingOn := ⟨_, rfl⟩
noncomputable def O_X5_leadingOn : List en_V → en_M → Option (Int32 × en_M) := Classical.choose ox_X5_leadingOn
theorem oe_X5_leadingOn : O_X5_leadingOn = P_X5_leadingOn := Classical.choose_spec ox_X5_leadingOn
theorem o_X5_leadingOn (x1 : Int32) (x2 : Int32) (σ : en_M) : O_X5_leadingOn [.inr (103, 5, 0, 0), .inl x1, .inl x2] σ = en_oi (T_X5_leadingOn_0 x1 x2 σ) := by rw [oe_X5_leadingOn]; rfl
theorem i_X5_leadingOn (G : en_G) (hst : G.2.2.2.2.2 = true) : en_I G 4 yX5_leadingOn cX5_leadingOn 6 (some .int) 0 0 (en_wi (O_X5_leadingOn)) := en_of_i (M := M_X5_leadingOn) hst (s_X5_leadingOn_0 G hst _ (l_X5_leadingOn G hst en_FU)) (plainFor_of_name (by decide +kernel)) rfl rfl rfl (Or.inl ⟨rfl, rfl⟩) (fun av σ x σ' h => by
  rw [oe_X5_leadingOn] at h; unfold P_X5_leadingOn at h
  split at h
  · exact ⟨(Nat.le_of_ble_eq_true rfl), en_oi_some h⟩
  · cases h)
-- EachMayMissOne$Plan.narrow(II)V
def M_X5_narrow : en_Me := (cX5_narrow, RX5, 5, false, 5, false)
theorem cs_X5_narrow : en_cs yX5_narrow cX5_narrow 5 none 2 := ⟨wm_931, wm_42, ⟨(by decide +kernel), (by decide +kernel), (by decide +kernel)⟩, (Nat.le_of_ble_eq_true rfl)⟩
noncomputable def B_X5_narrow_103 (kc : Nat → en_B) : en_B := op_vret
set_option maxRecDepth 20000 in
theorem s_X5_narrow_103 (G : en_G) (hst : G.2.2.2.2.2 = true) (kc : Nat → en_B) (hk : ∀ t, en_Snd G M_X5_narrow t (kc t)) : en_Snd G M_X5_narrow 103 (B_X5_narrow_103 kc) := (sn_vret (by decide +kernel))
noncomputable def B_X5_narrow_97 (kc : Nat → en_B) : en_B := (op_iinc 3 (-1 : Int32) (kc 44))
set_option maxRecDepth 20000 in
theorem s_X5_narrow_97 (G : en_G) (hst : G.2.2.2.2.2 = true) (kc : Nat → en_B) (hk : ∀ t, en_Snd G M_X5_narrow t (kc t)) : en_Snd G M_X5_narrow 97 (B_X5_narrow_97 kc) := (sn_iinc (i := 3) (n := -1) (v := -1) (by decide +kernel) rfl (sn_goto (off := -56) (tgt := 44) (by decide +kernel) rfl (hk 44)))
noncomputable def B_X5_narrow_91 (kc : Nat → en_B) : en_B := (op_iinc 4 (1 : Int32) (kc 52))
set_option maxRecDepth 20000 in
theorem s_X5_narrow_91 (G : en_G) (hst : G.2.2.2.2.2 = true) (kc : Nat → en_B) (hk : ∀ t, en_Snd G M_X5_narrow t (kc t)) : en_Snd G M_X5_narrow 91 (B_X5_narrow_91 kc) := (sn_iinc (i := 4) (n := 1) (v := 1) (by decide +kernel) rfl (sn_goto (off := -42) (tgt := 52) (by decide +kernel) rfl (hk 52)))
noncomputable def B_X5_narrow_52 (kc : Nat → en_B) : en_B := (op_iload 4 (op_const (1024 : Int32) (op_iclt (op_aload 0 (op_gets 5 42 (23, 13, 1024) (op_iload 3 (op_aldM (op_iload 4 (op_ald 20 (op_ifeq (B_X5_narrow_91 kc) (op_aload 0 (op_gets 5 42 (23, 13, 1024) (op_iload 3 (op_aldM (op_iload 4 (op_dup2 (op_ald 20 (op_aload 0 (op_iload 3 (op_iload 4 (op_rcv 5 2 (op_calli O_X5_leadingOn 3 (op_bin (fun (x y : Int32) => x &&& y) (op_ast 20 (fun (x : Int32) => x) (B_X5_narrow_91 kc)))))))))))))))))))))) (B_X5_narrow_97 kc))))
set_option maxRecDepth 20000 in
theorem s_X5_narrow_52 (G : en_G) (hst : G.2.2.2.2.2 = true) (kc : Nat → en_B) (hk : ∀ t, en_Snd G M_X5_narrow t (kc t)) : en_Snd G M_X5_narrow 52 (B_X5_narrow_52 kc) := (sn_iload (i := 4) (by decide +kernel) (sn_sipush (n := 1024) (v := 1024) (by decide +kernel) rfl (sn_icge (off := 40) (tgt := 97) (by decide +kernel) rfl (s_X5_narrow_97 G hst kc hk) (sn_aload_n (i := 0) (n := 0) (by decide +kernel) rfl (sn_gets (ci := 5) (j := 4) (off := 42) hst en_c5 of_5_42 (Nat.le_of_ble_eq_true rfl) (by decide +kernel) wm_876 (Nat.le_of_ble_eq_true rfl) rfl (sn_iload_n (i := 3) (n := 3) (by decide +kernel) rfl (sn_aldM hst (by decide +kernel) (sn_iload (i := 4) (by decide +kernel) (sn_iald (by decide +kernel) (sn_ifeq (off := 22) (tgt := 91) (by decide +kernel) rfl (s_X5_narrow_91 G hst kc hk) (sn_aload_n (i := 0) (n := 0) (by decide +kernel) rfl (sn_gets (ci := 5) (j := 4) (off := 42) hst en_c5 of_5_42 (Nat.le_of_ble_eq_true rfl) (by decide +kernel) wm_876 (Nat.le_of_ble_eq_true rfl) rfl (sn_iload_n (i := 3) (n := 3) (by decide +kernel) rfl (sn_aldM hst (by decide +kernel) (sn_iload (i := 4) (by decide +kernel) (sn_dup2 (by decide +kernel) (sn_iald (by decide +kernel) (sn_aload_n (i := 0) (n := 0) (by decide +kernel) rfl (sn_iload_n (i := 3) (n := 3) (by decide +kernel) rfl (sn_iload (i := 4) (by decide +kernel) (sn_callVi (n := 2) (idx := 112) (ci := 5) (i_X5_leadingOn G hst) (Nat.le_of_ble_eq_true rfl) cs_X5_leadingOn ⟨wm_936, wm_937, wm_934⟩ ⟨⟨_, rfl, rfl⟩, (Nat.le_of_ble_eq_true rfl)⟩ (by decide +kernel) (sn_iand (by decide +kernel) (sn_iast (by decide +kernel) (s_X5_narrow_91 G hst kc hk))))))))))))))))))))))))
noncomputable def B_X5_narrow_44 (kc : Nat → en_B) : en_B := (op_iload 3 (op_const (1 : Int32) (op_iclt (B_X5_narrow_103 kc) (op_const (0 : Int32) (op_istore 4 (kc 52))))))
set_option maxRecDepth 20000 in
theorem s_X5_narrow_44 (G : en_G) (hst : G.2.2.2.2.2 = true) (kc : Nat → en_B) (hk : ∀ t, en_Snd G M_X5_narrow t (kc t)) : en_Snd G M_X5_narrow 44 (B_X5_narrow_44 kc) := (sn_iload_n (i := 3) (n := 3) (by decide +kernel) rfl (sn_iconst (n := 1) (v := 1) (by decide +kernel) rfl (sn_iclt (off := 57) (tgt := 103) (by decide +kernel) rfl (s_X5_narrow_103 G hst kc hk) (sn_iconst (n := 0) (v := 0) (by decide +kernel) rfl (sn_istore (i := 4) (by decide +kernel) (Nat.le_of_ble_eq_true rfl) (hk 52))))))
noncomputable def B_X5_narrow_40 (kc : Nat → en_B) : en_B := (op_iload 1 (op_const (1 : Int32) (op_bin (fun (x y : Int32) => x - y) (op_istore 3 (kc 44)))))
set_option maxRecDepth 20000 in
theorem s_X5_narrow_40 (G : en_G) (hst : G.2.2.2.2.2 = true) (kc : Nat → en_B) (hk : ∀ t, en_Snd G M_X5_narrow t (kc t)) : en_Snd G M_X5_narrow 40 (B_X5_narrow_40 kc) := (sn_iload_n (i := 1) (n := 1) (by decide +kernel) rfl (sn_iconst (n := 1) (v := 1) (by decide +kernel) rfl (sn_isub (by decide +kernel) (sn_istore_n (i := 3) (n := 3) (by decide +kernel) rfl (Nat.le_of_ble_eq_true rfl) (hk 44)))))
noncomputable def B_X5_narrow_33 (kc : Nat → en_B) : en_B := (op_ast 20 (fun (x : Int32) => x) (op_iinc 3 (1 : Int32) (kc 2)))
set_option maxRecDepth 20000 in
theorem s_X5_narrow_33 (G : en_G) (hst : G.2.2.2.2.2 = true) (kc : Nat → en_B) (hk : ∀ t, en_Snd G M_X5_narrow t (kc t)) : en_Snd G M_X5_narrow 33 (B_X5_narrow_33 kc) := (sn_iast (by decide +kernel) (sn_iinc (i := 3) (n := 1) (v := 1) (by decide +kernel) rfl (sn_goto (off := -35) (tgt := 2) (by decide +kernel) rfl (hk 2))))
noncomputable def B_X5_narrow_32 (kc : Nat → en_B) : en_B := (op_const (0 : Int32) (B_X5_narrow_33 kc))
set_option maxRecDepth 20000 in
theorem s_X5_narrow_32 (G : en_G) (hst : G.2.2.2.2.2 = true) (kc : Nat → en_B) (hk : ∀ t, en_Snd G M_X5_narrow t (kc t)) : en_Snd G M_X5_narrow 32 (B_X5_narrow_32 kc) := (sn_iconst (n := 0) (v := 0) (by decide +kernel) rfl (s_X5_narrow_33 G hst kc hk))
noncomputable def B_X5_narrow_2 (kc : Nat → en_B) : en_B := (op_iload 3 (op_const (1024 : Int32) (op_iclt (op_aload 0 (op_gets 5 42 (23, 13, 1024) (op_iload 1 (op_aldM (op_iload 3 (op_iload 3 (op_iload 2 (op_iceq (op_aload 0 (op_gets 5 42 (23, 13, 1024) (op_iload 1 (op_aldM (op_iload 3 (op_ald 20 (B_X5_narrow_33 kc))))))) (B_X5_narrow_32 kc))))))))) (B_X5_narrow_40 kc))))
set_option maxRecDepth 20000 in
theorem s_X5_narrow_2 (G : en_G) (hst : G.2.2.2.2.2 = true) (kc : Nat → en_B) (hk : ∀ t, en_Snd G M_X5_narrow t (kc t)) : en_Snd G M_X5_narrow 2 (B_X5_narrow_2 kc) := (sn_iload_n (i := 3) (n := 3) (by decide +kernel) rfl (sn_sipush (n := 1024) (v := 1024) (by decide +kernel) rfl (sn_icge (off := 34) (tgt := 40) (by decide +kernel) rfl (s_X5_narrow_40 G hst kc hk) (sn_aload_n (i := 0) (n := 0) (by decide +kernel) rfl (sn_gets (ci := 5) (j := 4) (off := 42) hst en_c5 of_5_42 (Nat.le_of_ble_eq_true rfl) (by decide +kernel) wm_876 (Nat.le_of_ble_eq_true rfl) rfl (sn_iload_n (i := 1) (n := 1) (by decide +kernel) rfl (sn_aldM hst (by decide +kernel) (sn_iload_n (i := 3) (n := 3) (by decide +kernel) rfl (sn_iload_n (i := 3) (n := 3) (by decide +kernel) rfl (sn_iload_n (i := 2) (n := 2) (by decide +kernel) rfl (sn_icne (off := 14) (tgt := 32) (by decide +kernel) rfl (s_X5_narrow_32 G hst kc hk) (sn_aload_n (i := 0) (n := 0) (by decide +kernel) rfl (sn_gets (ci := 5) (j := 4) (off := 42) hst en_c5 of_5_42 (Nat.le_of_ble_eq_true rfl) (by decide +kernel) wm_876 (Nat.le_of_ble_eq_true rfl) rfl (sn_iload_n (i := 1) (n := 1) (by decide +kernel) rfl (sn_aldM hst (by decide +kernel) (sn_iload_n (i := 3) (n := 3) (by decide +kernel) rfl (sn_iald (by decide +kernel) (sn_goto (off := 4) (tgt := 33) (by decide +kernel) rfl (s_X5_narrow_33 G hst kc hk)))))))))))))))))))
noncomputable def B_X5_narrow_0 (kc : Nat → en_B) : en_B := (op_const (0 : Int32) (op_istore 3 (kc 2)))
set_option maxRecDepth 20000 in
theorem s_X5_narrow_0 (G : en_G) (hst : G.2.2.2.2.2 = true) (kc : Nat → en_B) (hk : ∀ t, en_Snd G M_X5_narrow t (kc t)) : en_Snd G M_X5_narrow 0 (B_X5_narrow_0 kc) := (sn_iconst (n := 0) (v := 0) (by decide +kernel) rfl (sn_istore_n (i := 3) (n := 3) (by decide +kernel) rfl (Nat.le_of_ble_eq_true rfl) (hk 2)))
noncomputable def LK_X5_narrow : Nat → Nat → en_B
  | 0, _ => en_no
  | n + 1, t => if t = 2 then B_X5_narrow_2 (LK_X5_narrow n) else if t = 44 then B_X5_narrow_44 (LK_X5_narrow n) else if t = 52 then B_X5_narrow_52 (LK_X5_narrow n) else en_no
theorem l_X5_narrow (G : en_G) (hst : G.2.2.2.2.2 = true) : ∀ n t, en_Snd G M_X5_narrow t (LK_X5_narrow n t)
  | 0, _ => sn_no
  | n + 1, t => by
    show en_Snd G M_X5_narrow t (if t = 2 then B_X5_narrow_2 (LK_X5_narrow n) else if t = 44 then B_X5_narrow_44 (LK_X5_narrow n) else if t = 52 then B_X5_narrow_52 (LK_X5_narrow n) else en_no)
    by_cases h_2 : t = 2
    · rw [if_pos h_2, h_2]; exact s_X5_narrow_2 G hst _ (l_X5_narrow G hst n)
    rw [if_neg h_2]
    by_cases h_44 : t = 44
    · rw [if_pos h_44, h_44]; exact s_X5_narrow_44 G hst _ (l_X5_narrow G hst n)
    rw [if_neg h_44]
    by_cases h_52 : t = 52
    · rw [if_pos h_52, h_52]; exact s_X5_narrow_52 G hst _ (l_X5_narrow G hst n)
    rw [if_neg h_52]
    exact sn_no
noncomputable def T_X5_narrow_0 (x1 : Int32) (x2 : Int32) (σ : en_M) : en_R := B_X5_narrow_0 (LK_X5_narrow en_FU) [.inr (103, 5, 0, 0), .inl x1, .inl x2, en_un, en_un] [] en_zz σ
noncomputable def T_X5_narrow_2 (n : Nat) (x1 : Int32) (x2 : Int32) (x3 : Int32) (σ : en_M) : en_R := LK_X5_narrow n 2 [.inr (103, 5, 0, 0), .inl x1, .inl x2, .inl x3, en_un] [] en_zz σ
noncomputable def T_X5_narrow_44 (n : Nat) (x1 : Int32) (x2 : Int32) (x3 : Int32) (u4 : en_V) (σ : en_M) : en_R := LK_X5_narrow n 44 [.inr (103, 5, 0, 0), .inl x1, .inl x2, .inl x3, u4] [] en_zz σ
noncomputable def T_X5_narrow_52 (n : Nat) (x1 : Int32) (x2 : Int32) (x3 : Int32) (x4 : Int32) (σ : en_M) : en_R := LK_X5_narrow n 52 [.inr (103, 5, 0, 0), .inl x1, .inl x2, .inl x3, .inl x4] [] en_zz σ
set_option maxRecDepth 20000 in
set_option maxHeartbeats 2000000 in
theorem t_X5_narrow_0 (x1 : Int32) (x2 : Int32) (σ : en_M) : T_X5_narrow_0 x1 x2 σ = (T_X5_narrow_2 en_FU x1 x2 (0 : Int32) σ) := rfl
set_option maxRecDepth 20000 in
set_option maxHeartbeats 2000000 in
theorem t_X5_narrow_2 (n : Nat) (x1 : Int32) (x2 : Int32) (x3 : Int32) (σ : en_M) : T_X5_narrow_2 (n + 1) x1 x2 x3 σ = (if x3 < (1024 : Int32) then ((en_ix x1 13).bind fun j1 => if x3 = x2 then ((en_ix x1 13).bind fun j3 => (en_ix x3 1024).bind fun j4 => (en_ix x3 1024).bind fun j5 => T_X5_narrow_2 n x1 x2 (x3 + (1 : Int32)) (en_up σ (145 + 1 + j1) j5 (σ (145 + 1 + j3) j4))) else ((en_ix x3 1024).bind fun j2 => T_X5_narrow_2 n x1 x2 (x3 + (1 : Int32)) (en_up σ (145 + 1 + j1) j2 (0 : Int32)))) else (T_X5_narrow_44 n x1 x2 (x1 - (1 : Int32)) (en_un) σ)) := rfl
set_option maxRecDepth 20000 in
set_option maxHeartbeats 2000000 in
theorem t_X5_narrow_44 (n : Nat) (x1 : Int32) (x2 : Int32) (x3 : Int32) (u4 : en_V) (σ : en_M) : T_X5_narrow_44 (n + 1) x1 x2 x3 u4 σ = (if x3 < (1 : Int32) then (en_rv σ) else (T_X5_narrow_52 n x1 x2 x3 (0 : Int32) σ)) := rfl
set_option maxRecDepth 20000 in
set_option maxHeartbeats 2000000 in
theorem t_X5_narrow_52 (n : Nat) (x1 : Int32) (x2 : Int32) (x3 : Int32) (x4 : Int32) (σ : en_M) : T_X5_narrow_52 (n + 1) x1 x2 x3 x4 σ = (if x4 < (1024 : Int32) then ((en_ix x3 13).bind fun j6 => (en_ix x4 1024).bind fun j7 => if (σ (145 + 1 + j6) j7) = 0 then (T_X5_narrow_52 n x1 x2 x3 (x4 + (1 : Int32)) σ) else ((en_ix x3 13).bind fun j8 => (en_ix x4 1024).bind fun j9 => (O_X5_leadingOn [.inr (103, 5, 0, 0), .inl x3, .inl x4] σ).bind fun r10 => (en_ix x4 1024).bind fun j11 => T_X5_narrow_52 n x1 x2 x3 (x4 + (1 : Int32)) (en_up r10.2 (145 + 1 + j8) j11 ((σ (145 + 1 + j8) j9) &&& r10.1)))) else (T_X5_narrow_44 n x1 x2 (x3 + (-1 : Int32)) (.inl x4) σ)) := rfl
noncomputable def P_X5_narrow : List en_V → en_M → Option en_M := fun av σ => match av with
  | [.inr (103, 5, 0, 0), .inl x1, .inl x2] => en_ov (T_X5_narrow_0 x1 x2 σ)
  | _ => none
theorem ox_X5_narrow : ∃ f, f = P_X5_narrow := ⟨_, rfl⟩
noncomputable def O_X5_narrow : List en_V → en_M → Option en_M := Classical.choose ox_X5_narrow
theorem oe_X5_narrow : O_X5_narrow = P_X5_narrow := Classical.choose_spec ox_X5_narrow
theorem o_X5_narrow (x1 : Int32) (x2 : Int32) (σ : en_M) : O_X5_narrow [.inr (103, 5, 0, 0), .inl x1, .inl x2] σ = en_ov (T_X5_narrow_0 x1 x2 σ) := by rw [oe_X5_narrow]; rfl
theorem i_X5_narrow (G : en_G) (hst : G.2.2.2.2.2 = true) : en_I G 5 yX5_narrow cX5_narrow 5 none 0 0 (en_wv (O_X5_narrow)) := en_of_v (M := M_X5_narrow) hst (s_X5_narrow_0 G hst _ (l_X5_narrow G hst en_FU)) (plainFor_of_name (by decide +kernel)) rfl rfl rfl (fun av σ σ' h => by
  rw [oe_X5_narrow] at h; unfold P_X5_narrow at h
  split at h
  · exact ⟨(Nat.le_of_ble_eq_true rfl), en_ov_some h⟩
  · cases h)
