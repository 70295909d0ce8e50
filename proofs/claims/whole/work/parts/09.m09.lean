-- EachMayMissOne$Plan.widenFrom(II)V
def M_X5_widenFrom : en_Me := (cX5_widenFrom, RX5, 5, false, 3, false)
theorem cs_X5_widenFrom : en_cs yX5_widenFrom cX5_widenFrom 5 none 2 := ⟨wm_928, wm_42, ⟨(by decide +kernel), (by decide +kernel), (by decide +kernel)⟩, (Nat.le_of_ble_eq_true rfl)⟩
noncomputable def B_X5_widenFrom_72 (kc : Nat → en_B) : en_B := op_vret
set_option maxRecDepth 20000 in
theorem s_X5_widenFrom_72 (G : en_G) (hst : G.2.2.2.2.2 = true) (kc : Nat → en_B) (hk : ∀ t, en_Snd G M_X5_widenFrom t (kc t)) : en_Snd G M_X5_widenFrom 72 (B_X5_widenFrom_72 kc) := (sn_vret (by decide +kernel))
noncomputable def B_X5_widenFrom_66 (kc : Nat → en_B) : en_B := (op_iinc 3 (1 : Int32) (kc 2))
set_option maxRecDepth 20000 in
theorem s_X5_widenFrom_66 (G : en_G) (hst : G.2.2.2.2.2 = true) (kc : Nat → en_B) (hk : ∀ t, en_Snd G M_X5_widenFrom t (kc t)) : en_Snd G M_X5_widenFrom 66 (B_X5_widenFrom_66 kc) := (sn_iinc (i := 3) (n := 1) (v := 1) (by decide +kernel) rfl (sn_goto (off := -67) (tgt := 2) (by decide +kernel) rfl (hk 2)))
noncomputable def B_X5_widenFrom_2 (kc : Nat → en_B) : en_B := (op_iload 3 (op_aload 0 (op_gets 5 14 (20, 12, 0) (op_iload 1 (op_ald 20 (op_iclt (op_aload 0 (op_gets 5 1 (23, 12, 128) (op_iload 1 (op_aldM (op_iload 3 (op_ald 20 (op_istore 4 (op_aload 0 (op_gets 5 42 (23, 13, 1024) (op_iload 1 (op_aldM (op_iload 2 (op_ald 20 (op_aload 0 (op_gets 5 56 (23, 12, 32) (op_iload 1 (op_aldM (op_iload 4 (op_ald 20 (op_bin (fun (x y : Int32) => x &&& y) (op_ifeq (B_X5_widenFrom_66 kc) (op_aload 0 (op_gets 5 42 (23, 13, 1024) (op_iload 1 (op_const (1 : Int32) (op_bin (fun (x y : Int32) => x + y) (op_aldM (op_aload 0 (op_iload 2 (op_iload 4 (op_rcv 5 2 (op_calli O_X5_napsWith 3 (op_dup2 (op_ald 20 (op_const (1 : Int32) (op_iload 4 (op_bin en_shl (op_bin (fun (x y : Int32) => x ||| y) (op_ast 20 (fun (x : Int32) => x) (B_X5_widenFrom_66 kc)))))))))))))))))))))))))))))))))))))))) (B_X5_widenFrom_72 kc)))))))
set_option maxRecDepth 20000 in
theorem s_X5_widenFrom_2 (G : en_G) (hst : G.2.2.2.2.2 = true) (kc : Nat → en_B) (hk : ∀ t, en_Snd G M_X5_widenFrom t (kc t)) : en_Snd G M_X5_widenFrom 2 (B_X5_widenFrom_2 kc) := (sn_iload_n (i := 3) (n := 3) (by decide +kernel) rfl (sn_aload_n (i := 0) (n := 0) (by decide +kernel) rfl (sn_gets (ci := 5) (j := 1) (off := 14) hst en_c5 of_5_14 (Nat.le_of_ble_eq_true rfl) (by decide +kernel) wm_873 (Nat.le_of_ble_eq_true rfl) rfl (sn_iload_n (i := 1) (n := 1) (by decide +kernel) rfl (sn_iald (by decide +kernel) (sn_icge (off := 63) (tgt := 72) (by decide +kernel) rfl (s_X5_widenFrom_72 G hst kc hk) (sn_aload_n (i := 0) (n := 0) (by decide +kernel) rfl (sn_gets (ci := 5) (j := 0) (off := 1) hst en_c5 of_5_1 (Nat.le_of_ble_eq_true rfl) (by decide +kernel) wm_872 (Nat.le_of_ble_eq_true rfl) rfl (sn_iload_n (i := 1) (n := 1) (by decide +kernel) rfl (sn_aldM hst (by decide +kernel) (sn_iload_n (i := 3) (n := 3) (by decide +kernel) rfl (sn_iald (by decide +kernel) (sn_istore (i := 4) (by decide +kernel) (Nat.le_of_ble_eq_true rfl) (sn_aload_n (i := 0) (n := 0) (by decide +kernel) rfl (sn_gets (ci := 5) (j := 4) (off := 42) hst en_c5 of_5_42 (Nat.le_of_ble_eq_true rfl) (by decide +kernel) wm_876 (Nat.le_of_ble_eq_true rfl) rfl (sn_iload_n (i := 1) (n := 1) (by decide +kernel) rfl (sn_aldM hst (by decide +kernel) (sn_iload_n (i := 2) (n := 2) (by decide +kernel) rfl (sn_iald (by decide +kernel) (sn_aload_n (i := 0) (n := 0) (by decide +kernel) rfl (sn_gets (ci := 5) (j := 5) (off := 56) hst en_c5 of_5_56 (Nat.le_of_ble_eq_true rfl) (by decide +kernel) wm_877 (Nat.le_of_ble_eq_true rfl) rfl (sn_iload_n (i := 1) (n := 1) (by decide +kernel) rfl (sn_aldM hst (by decide +kernel) (sn_iload (i := 4) (by decide +kernel) (sn_iald (by decide +kernel) (sn_iand (by decide +kernel) (sn_ifeq (off := 26) (tgt := 66) (by decide +kernel) rfl (s_X5_widenFrom_66 G hst kc hk) (sn_aload_n (i := 0) (n := 0) (by decide +kernel) rfl (sn_gets (ci := 5) (j := 4) (off := 42) hst en_c5 of_5_42 (Nat.le_of_ble_eq_true rfl) (by decide +kernel) wm_876 (Nat.le_of_ble_eq_true rfl) rfl (sn_iload_n (i := 1) (n := 1) (by decide +kernel) rfl (sn_iconst (n := 1) (v := 1) (by decide +kernel) rfl (sn_iadd (by decide +kernel) (sn_aldM hst (by decide +kernel) (sn_aload_n (i := 0) (n := 0) (by decide +kernel) rfl (sn_iload_n (i := 2) (n := 2) (by decide +kernel) rfl (sn_iload (i := 4) (by decide +kernel) (sn_callVi (n := 2) (idx := 106) (ci := 5) (i_X5_napsWith G hst) (Nat.le_of_ble_eq_true rfl) cs_X5_napsWith ⟨wm_952, wm_953, wm_920⟩ ⟨⟨_, rfl, rfl⟩, (Nat.le_of_ble_eq_true rfl)⟩ (by decide +kernel) (sn_dup2 (by decide +kernel) (sn_iald (by decide +kernel) (sn_iconst (n := 1) (v := 1) (by decide +kernel) rfl (sn_iload (i := 4) (by decide +kernel) (sn_ishl (by decide +kernel) (sn_ior (by decide +kernel) (sn_iast (by decide +kernel) (s_X5_widenFrom_66 G hst kc hk)))))))))))))))))))))))))))))))))))))))))))))
noncomputable def B_X5_widenFrom_0 (kc : Nat → en_B) : en_B := (op_const (0 : Int32) (op_istore 3 (kc 2)))
set_option maxRecDepth 20000 in
theorem s_X5_widenFrom_0 (G : en_G) (hst : G.2.2.2.2.2 = true) (kc : Nat → en_B) (hk : ∀ t, en_Snd G M_X5_widenFrom t (kc t)) : en_Snd G M_X5_widenFrom 0 (B_X5_widenFrom_0 kc) := (sn_iconst (n := 0) (v := 0) (by decide +kernel) rfl (sn_istore_n (i := 3) (n := 3) (by decide +kernel) rfl (Nat.le_of_ble_eq_true rfl) (hk 2)))
noncomputable def LK_X5_widenFrom : Nat → Nat → en_B
  | 0, _ => en_no
  | n + 1, t => if t = 2 then B_X5_widenFrom_2 (LK_X5_widenFrom n) else en_no
theorem l_X5_widenFrom (G : en_G) (hst : G.2.2.2.2.2 = true) : ∀ n t, en_Snd G M_X5_widenFrom t (LK_X5_widenFrom n t)
  | 0, _ => sn_no
  | n + 1, t => by
    show en_Snd G M_X5_widenFrom t (if t = 2 then B_X5_widenFrom_2 (LK_X5_widenFrom n) else en_no)
    by_cases h_2 : t = 2
    · rw [if_pos h_2, h_2]; exact s_X5_widenFrom_2 G hst _ (l_X5_widenFrom G hst n)
    rw [if_neg h_2]
    exact sn_no
noncomputable def T_X5_widenFrom_0 (x1 : Int32) (x2 : Int32) (σ : en_M) : en_R := B_X5_widenFrom_0 (LK_X5_widenFrom en_FU) [.inr (103, 5, 0, 0), .inl x1, .inl x2, en_un, en_un] [] en_zz σ
noncomputable def T_X5_widenFrom_2 (n : Nat) (x1 : Int32) (x2 : Int32) (x3 : Int32) (u4 : en_V) (σ : en_M) : en_R := LK_X5_widenFrom n 2 [.inr (103, 5, 0, 0), .inl x1, .inl x2, .inl x3, u4] [] en_zz σ
set_option maxRecDepth 400000 in
set_option maxHeartbeats 4000000 in
theorem t_X5_widenFrom_0 (x1 : Int32) (x2 : Int32) (σ : en_M) : T_X5_widenFrom_0 x1 x2 σ = (T_X5_widenFrom_2 en_FU x1 x2 (0 : Int32) (en_un) σ) := rfl
set_option maxRecDepth 400000 in
set_option maxHeartbeats 4000000 in
theorem t_X5_widenFrom_2 (n : Nat) (x1 : Int32) (x2 : Int32) (x3 : Int32) (u4 : en_V) (σ : en_M) : T_X5_widenFrom_2 (n + 1) x1 x2 x3 u4 σ = ((en_ix x1 12).bind fun j1 => if x3 < (σ 117 j1) then ((en_ix x1 12).bind fun j2 => (en_ix x3 128).bind fun j3 => (en_ix x1 13).bind fun j4 => (en_ix x2 1024).bind fun j5 => (en_ix x1 12).bind fun j6 => (en_ix (σ (104 + 1 + j2) j3) 32).bind fun j7 => if ((σ (145 + 1 + j4) j5) &&& (σ (159 + 1 + j6) j7)) = 0 then (T_X5_widenFrom_2 n x1 x2 (x3 + (1 : Int32)) (.inl (σ (104 + 1 + j2) j3)) σ) else ((en_ix (x1 + (1 : Int32)) 13).bind fun j8 => (O_X5_napsWith [.inr (103, 5, 0, 0), .inl x2, .inl (σ (104 + 1 + j2) j3)] σ).bind fun r9 => (en_ix r9.1 1024).bind fun j10 => (en_ix r9.1 1024).bind fun j11 => T_X5_widenFrom_2 n x1 x2 (x3 + (1 : Int32)) (.inl (σ (104 + 1 + j2) j3)) (en_up r9.2 (145 + 1 + j8) j11 ((r9.2 (145 + 1 + j8) j10) ||| (en_shl (1 : Int32) (σ (104 + 1 + j2) j3)))))) else (en_rv σ)) := rfl
noncomputable def P_X5_widenFrom : List en_V → en_M → Option en_M := fun av σ => match av with
  | [.inr (103, 5, 0, 0), .inl x1, .inl x2] => en_ov (T_X5_widenFrom_0 x1 x2 σ)
  | _ => none
theorem ox_X5_widenFrom : ∃ f, f = P_X5_widenFrom := ⟨_, rfl⟩
noncomputable def O_X5_widenFrom : List en_V → en_M → Option en_M := Classical.choose ox_X5_widenFrom
theorem oe_X5_widenFrom : O_X5_widenFrom = P_X5_widenFrom := Classical.choose_spec ox_X5_widenFrom
theorem o_X5_widenFrom (x1 : Int32) (x2 : Int32) (σ : en_M) : O_X5_widenFrom [.inr (103, 5, 0, 0), .inl x1, .inl x2] σ = en_ov (T_X5_widenFrom_0 x1 x2 σ) := by rw [oe_X5_widenFrom]; rfl
theorem i_X5_widenFrom (G : en_G) (hst : G.2.2.2.2.2 = true) : en_I G 3 yX5_widenFrom cX5_widenFrom 5 none 0 0 (en_wv (O_X5_widenFrom)) := en_of_v (M := M_X5_widenFrom) hst (s_X5_widenFrom_0 G hst _ (l_X5_widenFrom G hst en_FU)) (plainFor_of_name (by decide +kernel)) rfl rfl rfl (fun av σ σ' h => by
  rw [oe_X5_widenFrom] at h; unfold P_X5_widenFrom at h
  split at h
  · exact ⟨(Nat.le_of_ble_eq_true rfl), en_ov_some h⟩
  · cases h)
-- EachMayMissOne$Plan.widen(I)V
def M_X5_widen : en_Me := (cX5_widen, RX5, 3, false, 4, false)
theorem cs_X5_widen : en_cs yX5_widen cX5_widen 3 none 1 := ⟨wm_924, wm_42, ⟨(by decide +kernel), (by decide +kernel), (by decide +kernel)⟩, (Nat.le_of_ble_eq_true rfl)⟩
noncomputable def B_X5_widen_32 (kc : Nat → en_B) : en_B := op_vret
set_option maxRecDepth 20000 in
theorem s_X5_widen_32 (G : en_G) (hst : G.2.2.2.2.2 = true) (kc : Nat → en_B) (hk : ∀ t, en_Snd G M_X5_widen t (kc t)) : en_Snd G M_X5_widen 32 (B_X5_widen_32 kc) := (sn_vret (by decide +kernel))
noncomputable def B_X5_widen_26 (kc : Nat → en_B) : en_B := (op_iinc 2 (1 : Int32) (kc 2))
set_option maxRecDepth 20000 in
theorem s_X5_widen_26 (G : en_G) (hst : G.2.2.2.2.2 = true) (kc : Nat → en_B) (hk : ∀ t, en_Snd G M_X5_widen t (kc t)) : en_Snd G M_X5_widen 26 (B_X5_widen_26 kc) := (sn_iinc (i := 2) (n := 1) (v := 1) (by decide +kernel) rfl (sn_goto (off := -27) (tgt := 2) (by decide +kernel) rfl (hk 2)))
noncomputable def B_X5_widen_2 (kc : Nat → en_B) : en_B := (op_iload 2 (op_const (1024 : Int32) (op_iclt (op_aload 0 (op_gets 5 42 (23, 13, 1024) (op_iload 1 (op_aldM (op_iload 2 (op_ald 20 (op_ifeq (B_X5_widen_26 kc) (op_aload 0 (op_iload 1 (op_iload 2 (op_rcv 5 2 (op_callv O_X5_widenFrom 3 (B_X5_widen_26 kc))))))))))))) (B_X5_widen_32 kc))))
set_option maxRecDepth 20000 in
theorem s_X5_widen_2 (G : en_G) (hst : G.2.2.2.2.2 = true) (kc : Nat → en_B) (hk : ∀ t, en_Snd G M_X5_widen t (kc t)) : en_Snd G M_X5_widen 2 (B_X5_widen_2 kc) := (sn_iload_n (i := 2) (n := 2) (by decide +kernel) rfl (sn_sipush (n := 1024) (v := 1024) (by decide +kernel) rfl (sn_icge (off := 26) (tgt := 32) (by decide +kernel) rfl (s_X5_widen_32 G hst kc hk) (sn_aload_n (i := 0) (n := 0) (by decide +kernel) rfl (sn_gets (ci := 5) (j := 4) (off := 42) hst en_c5 of_5_42 (Nat.le_of_ble_eq_true rfl) (by decide +kernel) wm_876 (Nat.le_of_ble_eq_true rfl) rfl (sn_iload_n (i := 1) (n := 1) (by decide +kernel) rfl (sn_aldM hst (by decide +kernel) (sn_iload_n (i := 2) (n := 2) (by decide +kernel) rfl (sn_iald (by decide +kernel) (sn_ifeq (off := 9) (tgt := 26) (by decide +kernel) rfl (s_X5_widen_26 G hst kc hk) (sn_aload_n (i := 0) (n := 0) (by decide +kernel) rfl (sn_iload_n (i := 1) (n := 1) (by decide +kernel) rfl (sn_iload_n (i := 2) (n := 2) (by decide +kernel) rfl (sn_callVv (n := 2) (idx := 109) (ci := 5) (i_X5_widenFrom G hst) (Nat.le_of_ble_eq_true rfl) cs_X5_widenFrom ⟨wm_929, wm_930, wm_927⟩ ⟨⟨_, rfl, rfl⟩, (Nat.le_of_ble_eq_true rfl)⟩ (by decide +kernel) (s_X5_widen_26 G hst kc hk)))))))))))))))
noncomputable def B_X5_widen_0 (kc : Nat → en_B) : en_B := (op_const (0 : Int32) (op_istore 2 (kc 2)))
set_option maxRecDepth 20000 in
theorem s_X5_widen_0 (G : en_G) (hst : G.2.2.2.2.2 = true) (kc : Nat → en_B) (hk : ∀ t, en_Snd G M_X5_widen t (kc t)) : en_Snd G M_X5_widen 0 (B_X5_widen_0 kc) := (sn_iconst (n := 0) (v := 0) (by decide +kernel) rfl (sn_istore_n (i := 2) (n := 2) (by decide +kernel) rfl (Nat.le_of_ble_eq_true rfl) (hk 2)))
noncomputable def LK_X5_widen : Nat → Nat → en_B
  | 0, _ => en_no
  | n + 1, t => if t = 2 then B_X5_widen_2 (LK_X5_widen n) else en_no
theorem l_X5_widen (G : en_G) (hst : G.2.2.2.2.2 = true) : ∀ n t, en_Snd G M_X5_widen t (LK_X5_widen n t)
  | 0, _ => sn_no
  | n + 1, t => by
    show en_Snd G M_X5_widen t (if t = 2 then B_X5_widen_2 (LK_X5_widen n) else en_no)
    by_cases h_2 : t = 2
    · rw [if_pos h_2, h_2]; exact s_X5_widen_2 G hst _ (l_X5_widen G hst n)
    rw [if_neg h_2]
    exact sn_no
noncomputable def T_X5_widen_0 (x1 : Int32) (σ : en_M) : en_R := B_X5_widen_0 (LK_X5_widen en_FU) [.inr (103, 5, 0, 0), .inl x1, en_un] [] en_zz σ
noncomputable def T_X5_widen_2 (n : Nat) (x1 : Int32) (x2 : Int32) (σ : en_M) : en_R := LK_X5_widen n 2 [.inr (103, 5, 0, 0), .inl x1, .inl x2] [] en_zz σ
set_option maxRecDepth 400000 in
set_option maxHeartbeats 4000000 in
theorem t_X5_widen_0 (x1 : Int32) (σ : en_M) : T_X5_widen_0 x1 σ = (T_X5_widen_2 en_FU x1 (0 : Int32) σ) := rfl
set_option maxRecDepth 400000 in
set_option maxHeartbeats 4000000 in
theorem t_X5_widen_2 (n : Nat) (x1 : Int32) (x2 : Int32) (σ : en_M) : T_X5_widen_2 (n + 1) x1 x2 σ = (if x2 < (1024 : Int32) then ((en_ix x1 13).bind fun j1 => (en_ix x2 1024).bind fun j2 => if (σ (145 + 1 + j1) j2) = 0 then (T_X5_widen_2 n x1 (x2 + (1 : Int32)) σ) else ((O_X5_widenFrom [.inr (103, 5, 0, 0), .inl x1, .inl x2] σ).bind fun r3 => T_X5_widen_2 n x1 (x2 + (1 : Int32)) r3)) else (en_rv σ)) := rfl
noncomputable def P_X5_widen : List en_V → en_M → Option en_M := fun av σ => match av with
  | [.inr (103, 5, 0, 0), .inl x1] => en_ov (T_X5_widen_0 x1 σ)
  | _ => none
theorem ox_X5_widen : ∃ f, f = P_X5_widen := ⟨_, rfl⟩
noncomputable def O_X5_widen : List en_V → en_M → Option en_M := Classical.choose ox_X5_widen
theorem oe_X5_widen : O_X5_widen = P_X5_widen := Classical.choose_spec ox_X5_widen
theorem o_X5_widen (x1 : Int32) (σ : en_M) : O_X5_widen [.inr (103, 5, 0, 0), .inl x1] σ = en_ov (T_X5_widen_0 x1 σ) := by rw [oe_X5_widen]; rfl
theorem i_X5_widen (G : en_G) (hst : G.2.2.2.2.2 = true) : en_I G 4 yX5_widen cX5_widen 3 none 0 0 (en_wv (O_X5_widen)) := en_of_v (M := M_X5_widen) hst (s_X5_widen_0 G hst _ (l_X5_widen G hst en_FU)) (plainFor_of_name (by decide +kernel)) rfl rfl rfl (fun av σ σ' h => by
  rw [oe_X5_widen] at h; unfold P_X5_widen at h
  split at h
  · exact ⟨(Nat.le_of_ble_eq_true rfl), en_ov_some h⟩
  · cases h)
-- EachMayMissOne$Plan.leadsOn(III)Z
def M_X5_leadsOn : en_Me := (cX5_leadsOn, RX5, 4, false, 3, true)
theorem cs_X5_leadsOn : en_cs yX5_leadsOn cX5_leadsOn 4 (some .boolean) 3 := ⟨wm_939, wm_42, ⟨(by decide +kernel), (by decide +kernel), (by decide +kernel)⟩, (Nat.le_of_ble_eq_true rfl)⟩
noncomputable def B_X5_leadsOn_28 (kc : Nat → en_B) : en_B := op_zret
set_option maxRecDepth 20000 in
theorem s_X5_leadsOn_28 (G : en_G) (hst : G.2.2.2.2.2 = true) (kc : Nat → en_B) (hk : ∀ t, en_Snd G M_X5_leadsOn t (kc t)) : en_Snd G M_X5_leadsOn 28 (B_X5_leadsOn_28 kc) := (sn_zret (by decide +kernel))
noncomputable def B_X5_leadsOn_27 (kc : Nat → en_B) : en_B := (op_const (0 : Int32) (B_X5_leadsOn_28 kc))
set_option maxRecDepth 20000 in
theorem s_X5_leadsOn_27 (G : en_G) (hst : G.2.2.2.2.2 = true) (kc : Nat → en_B) (hk : ∀ t, en_Snd G M_X5_leadsOn t (kc t)) : en_Snd G M_X5_leadsOn 27 (B_X5_leadsOn_27 kc) := (sn_iconst (n := 0) (v := 0) (by decide +kernel) rfl (s_X5_leadsOn_28 G hst kc hk))
noncomputable def B_X5_leadsOn_0 (kc : Nat → en_B) : en_B := (op_aload 0 (op_gets 5 42 (23, 13, 1024) (op_iload 1 (op_const (1 : Int32) (op_bin (fun (x y : Int32) => x + y) (op_aldM (op_aload 0 (op_iload 2 (op_iload 3 (op_rcv 5 2 (op_calli O_X5_napsWith 3 (op_ald 20 (op_iload 3 (op_calli O_X11_bit 2 (op_const (1 : Int32) (op_iceq (op_const (1 : Int32) (B_X5_leadsOn_28 kc)) (B_X5_leadsOn_27 kc)))))))))))))))))
set_option maxRecDepth 20000 in
theorem s_X5_leadsOn_0 (G : en_G) (hst : G.2.2.2.2.2 = true) (kc : Nat → en_B) (hk : ∀ t, en_Snd G M_X5_leadsOn t (kc t)) : en_Snd G M_X5_leadsOn 0 (B_X5_leadsOn_0 kc) := (sn_aload_n (i := 0) (n := 0) (by decide +kernel) rfl (sn_gets (ci := 5) (j := 4) (off := 42) hst en_c5 of_5_42 (Nat.le_of_ble_eq_true rfl) (by decide +kernel) wm_876 (Nat.le_of_ble_eq_true rfl) rfl (sn_iload_n (i := 1) (n := 1) (by decide +kernel) rfl (sn_iconst (n := 1) (v := 1) (by decide +kernel) rfl (sn_iadd (by decide +kernel) (sn_aldM hst (by decide +kernel) (sn_aload_n (i := 0) (n := 0) (by decide +kernel) rfl (sn_iload_n (i := 2) (n := 2) (by decide +kernel) rfl (sn_iload_n (i := 3) (n := 3) (by decide +kernel) rfl (sn_callVi (n := 2) (idx := 106) (ci := 5) (i_X5_napsWith G hst) (Nat.le_of_ble_eq_true rfl) cs_X5_napsWith ⟨wm_952, wm_953, wm_920⟩ ⟨⟨_, rfl, rfl⟩, (Nat.le_of_ble_eq_true rfl)⟩ (by decide +kernel) (sn_iald (by decide +kernel) (sn_iload_n (i := 3) (n := 3) (by decide +kernel) rfl (sn_callSi (n := 2) (idx := 119) (i_X11_bit G hst) (Nat.le_of_ble_eq_true rfl) cs_X11_bit ⟨wm_257, Or.inr (by decide +kernel)⟩ (by decide +kernel) (sn_iconst (n := 1) (v := 1) (by decide +kernel) rfl (sn_icne (off := 7) (tgt := 27) (by decide +kernel) rfl (s_X5_leadsOn_27 G hst kc hk) (sn_iconst (n := 1) (v := 1) (by decide +kernel) rfl (sn_goto (off := 4) (tgt := 28) (by decide +kernel) rfl (s_X5_leadsOn_28 G hst kc hk))))))))))))))))))
noncomputable def LK_X5_leadsOn : Nat → Nat → en_B
  | 0, _ => en_no
  | n + 1, t => en_no
theorem l_X5_leadsOn (G : en_G) (hst : G.2.2.2.2.2 = true) : ∀ n t, en_Snd G M_X5_leadsOn t (LK_X5_leadsOn n t)
  | 0, _ => sn_no
  | n + 1, t => by
    show en_Snd G M_X5_leadsOn t (en_no)
    exact sn_no
noncomputable def T_X5_leadsOn_0 (x1 : Int32) (x2 : Int32) (x3 : Int32) (σ : en_M) : en_R := B_X5_leadsOn_0 (LK_X5_leadsOn en_FU) [.inr (103, 5, 0, 0), .inl x1, .inl x2, .inl x3] [] en_zz σ
set_option maxRecDepth 400000 in
set_option maxHeartbeats 4000000 in
theorem t_X5_leadsOn_0 (x1 : Int32) (x2 : Int32) (x3 : Int32) (σ : en_M) : T_X5_leadsOn_0 x1 x2 x3 σ = ((en_ix (x1 + (1 : Int32)) 13).bind fun j1 => (O_X5_napsWith [.inr (103, 5, 0, 0), .inl x2, .inl x3] σ).bind fun r2 => (en_ix r2.1 1024).bind fun j3 => (O_X11_bit [.inl (r2.2 (145 + 1 + j1) j3), .inl x3] r2.2).bind fun r4 => if r4.1 = (1 : Int32) then (if (1 : Int32) = 0 ∨ (1 : Int32) = 1 then en_ri (1 : Int32) r4.2 else none) else (if (0 : Int32) = 0 ∨ (0 : Int32) = 1 then en_ri (0 : Int32) r4.2 else none)) := rfl
noncomputable def P_X5_leadsOn : List en_V → en_M → Option (Int32 × en_M) := fun av σ => match av with
  | [.inr (103, 5, 0, 0), .inl x1, .inl x2, .inl x3] => en_oi (T_X5_leadsOn_0 x1 x2 x3 σ)
  | _ => none
theorem ox_X5_leadsOn : ∃ f, f = P_X5_leadsOn := ⟨_, rfl⟩
noncomputable def O_X5_leadsOn : List en_V → en_M → Option (Int32 × en_M) := Classical.choose ox_X5_leadsOn
theorem oe_X5_leadsOn : O_X5_leadsOn = P_X5_leadsOn := Classical.choose_spec ox_X5_leadsOn
theorem o_X5_leadsOn (x1 : Int32) (x2 : Int32) (x3 : Int32) (σ : en_M) : O_X5_leadsOn [.inr (103, 5, 0, 0), .inl x1, .inl x2, .inl x3] σ = en_oi (T_X5_leadsOn_0 x1 x2 x3 σ) := by rw [oe_X5_leadsOn]; rfl
theorem i_X5_leadsOn (G : en_G) (hst : G.2.2.2.2.2 = true) : en_I G 3 yX5_leadsOn cX5_leadsOn 4 (some .boolean) 0 0 (en_wi (O_X5_leadsOn)) := en_of_i (M := M_X5_leadsOn) hst (s_X5_leadsOn_0 G hst _ (l_X5_leadsOn G hst en_FU)) (plainFor_of_name (by decide +kernel)) rfl rfl rfl (Or.inr ⟨Or.inl rfl, rfl⟩) (fun av σ x σ' h => by
  rw [oe_X5_leadsOn] at h; unfold P_X5_leadsOn at h
  split at h
  · exact ⟨(Nat.le_of_ble_eq_true rfl), en_oi_some h⟩
  · cases h)
-- EachMayMissOne$Plan.leadingOn(II)I
def M_X5_leadingOn : en_Me := (cX5_leadingOn, RX5, 6, false, 4, false)
theorem cs_X5_leadingOn : en_cs yX5_leadingOn cX5_leadingOn 6 (some .int) 2 := ⟨wm_935, wm_42, ⟨(by decide +kernel), (by decide +kernel), (by decide +kernel)⟩, (Nat.le_of_ble_eq_true rfl)⟩
noncomputable def B_X5_leadingOn_60 (kc : Nat → en_B) : en_B := (op_iload 3 op_iret)
set_option maxRecDepth 20000 in
theorem s_X5_leadingOn_60 (G : en_G) (hst : G.2.2.2.2.2 = true) (kc : Nat → en_B) (hk : ∀ t, en_Snd G M_X5_leadingOn t (kc t)) : en_Snd G M_X5_leadingOn 60 (B_X5_leadingOn_60 kc) := (sn_iload_n (i := 3) (n := 3) (by decide +kernel) rfl (sn_iret (by decide +kernel) rfl))
noncomputable def B_X5_leadingOn_52 (kc : Nat → en_B) : en_B := (op_bin (fun (x y : Int32) => x ||| y) (op_istore 3 (op_iinc 4 (1 : Int32) (kc 5))))
set_option maxRecDepth 20000 in
theorem s_X5_leadingOn_52 (G : en_G) (hst : G.2.2.2.2.2 = true) (kc : Nat → en_B) (hk : ∀ t, en_Snd G M_X5_leadingOn t (kc t)) : en_Snd G M_X5_leadingOn 52 (B_X5_leadingOn_52 kc) := (sn_ior (by decide +kernel) (sn_istore_n (i := 3) (n := 3) (by decide +kernel) rfl (Nat.le_of_ble_eq_true rfl) (sn_iinc (i := 4) (n := 1) (v := 1) (by decide +kernel) rfl (sn_goto (off := -52) (tgt := 5) (by decide +kernel) rfl (hk 5)))))
noncomputable def B_X5_leadingOn_51 (kc : Nat → en_B) : en_B := (op_const (0 : Int32) (B_X5_leadingOn_52 kc))
set_option maxRecDepth 20000 in
theorem s_X5_leadingOn_51 (G : en_G) (hst : G.2.2.2.2.2 = true) (kc : Nat → en_B) (hk : ∀ t, en_Snd G M_X5_leadingOn t (kc t)) : en_Snd G M_X5_leadingOn 51 (B_X5_leadingOn_51 kc) := (sn_iconst (n := 0) (v := 0) (by decide +kernel) rfl (s_X5_leadingOn_52 G hst kc hk))
noncomputable def B_X5_leadingOn_5 (kc : Nat → en_B) : en_B := (op_iload 4 (op_aload 0 (op_gets 5 14 (20, 12, 0) (op_iload 1 (op_ald 20 (op_iclt (op_aload 0 (op_gets 5 1 (23, 12, 128) (op_iload 1 (op_aldM (op_iload 4 (op_ald 20 (op_istore 5 (op_iload 3 (op_aload 0 (op_iload 1 (op_iload 2 (op_iload 5 (op_rcv 5 3 (op_calli O_X5_leadsOn 4 (op_ifeq (B_X5_leadingOn_51 kc) (op_aload 0 (op_gets 5 56 (23, 12, 32) (op_iload 1 (op_aldM (op_iload 5 (op_ald 20 (B_X5_leadingOn_52 kc)))))))))))))))))))))) (B_X5_leadingOn_60 kc)))))))
set_option maxRecDepth 20000 in
theorem s_X5_leadingOn_5 (G : en_G) (hst : G.2.2.2.2.2 = true) (kc : Nat → en_B) (hk : ∀ t, en_Snd G M_X5_leadingOn t (kc t)) : en_Snd G M_X5_leadingOn 5 (B_X5_leadingOn_5 kc) := (sn_iload (i := 4) (by decide +kernel) (sn_aload_n (i := 0) (n := 0) (by decide +kernel) rfl (sn_gets (ci := 5) (j := 1) (off := 14) hst en_c5 of_5_14 (Nat.le_of_ble_eq_true rfl) (by decide +kernel) wm_873 (Nat.le_of_ble_eq_true rfl) rfl (sn_iload_n (i := 1) (n := 1) (by decide +kernel) rfl (sn_iald (by decide +kernel) (sn_icge (off := 47) (tgt := 60) (by decide +kernel) rfl (s_X5_leadingOn_60 G hst kc hk) (sn_aload_n (i := 0) (n := 0) (by decide +kernel) rfl (sn_gets (ci := 5) (j := 0) (off := 1) hst en_c5 of_5_1 (Nat.le_of_ble_eq_true rfl) (by decide +kernel) wm_872 (Nat.le_of_ble_eq_true rfl) rfl (sn_iload_n (i := 1) (n := 1) (by decide +kernel) rfl (sn_aldM hst (by decide +kernel) (sn_iload (i := 4) (by decide +kernel) (sn_iald (by decide +kernel) (sn_istore (i := 5) (by decide +kernel) (Nat.le_of_ble_eq_true rfl) (sn_iload_n (i := 3) (n := 3) (by decide +kernel) rfl (sn_aload_n (i := 0) (n := 0) (by decide +kernel) rfl (sn_iload_n (i := 1) (n := 1) (by decide +kernel) rfl (sn_iload_n (i := 2) (n := 2) (by decide +kernel) rfl (sn_iload (i := 5) (by decide +kernel) (sn_callVi (n := 3) (idx := 115) (ci := 5) (i_X5_leadsOn G hst) (Nat.le_of_ble_eq_true rfl) cs_X5_leadsOn ⟨wm_940, wm_941, wm_938⟩ ⟨⟨_, rfl, rfl⟩, (Nat.le_of_ble_eq_true rfl)⟩ (by decide +kernel) (sn_ifeq (off := 15) (tgt := 51) (by decide +kernel) rfl (s_X5_leadingOn_51 G hst kc hk) (sn_aload_n (i := 0) (n := 0) (by decide +kernel) rfl (sn_gets (ci := 5) (j := 5) (off := 56) hst en_c5 of_5_56 (Nat.le_of_ble_eq_true rfl) (by decide +kernel) wm_877 (Nat.le_of_ble_eq_true rfl) rfl (sn_iload_n (i := 1) (n := 1) (by decide +kernel) rfl (sn_aldM hst (by decide +kernel) (sn_iload (i := 5) (by decide +kernel) (sn_iald (by decide +kernel) (sn_goto (off := 4) (tgt := 52) (by decide +kernel) rfl (s_X5_leadingOn_52 G hst kc hk))))))))))))))))))))))))))))
noncomputable def B_X5_leadingOn_0 (kc : Nat → en_B) : en_B := (op_const (0 : Int32) (op_istore 3 (op_const (0 : Int32) (op_istore 4 (kc 5)))))
set_option maxRecDepth 20000 in
theorem s_X5_leadingOn_0 (G : en_G) (hst : G.2.2.2.2.2 = true) (kc : Nat → en_B) (hk : ∀ t, en_Snd G M_X5_leadingOn t (kc t)) : en_Snd G M_X5_leadingOn 0 (B_X5_leadingOn_0 kc) := (sn_iconst (n := 0) (v := 0) (by decide +kernel) rfl (sn_istore_n (i := 3) (n := 3) (by decide +kernel) rfl (Nat.le_of_ble_eq_true rfl) (sn_iconst (n := 0) (v := 0) (by decide +kernel) rfl (sn_istore (i := 4) (by decide +kernel) (Nat.le_of_ble_eq_true rfl) (hk 5)))))
noncomputable def LK_X5_leadingOn : Nat → Nat → en_B
  | 0, _ => en_no
  | n + 1, t => if t = 5 then B_X5_leadingOn_5 (LK_X5_leadingOn n) else en_no
theorem l_X5_leadingOn (G : en_G) (hst : G.2.2.2.2.2 = true) : ∀ n t, en_Snd G M_X5_leadingOn t (LK_X5_leadingOn n t)
  | 0, _ => sn_no
  | n + 1, t => by
    show en_Snd G M_X5_leadingOn t (if t = 5 then B_X5_leadingOn_5 (LK_X5_leadingOn n) else en_no)
    by_cases h_5 : t = 5
    · rw [if_pos h_5, h_5]; exact s_X5_leadingOn_5 G hst _ (l_X5_leadingOn G hst n)
    rw [if_neg h_5]
    exact sn_no
noncomputable def T_X5_leadingOn_0 (x1 : Int32) (x2 : Int32) (σ : en_M) : en_R := B_X5_leadingOn_0 (LK_X5_leadingOn en_FU) [.inr (103, 5, 0, 0), .inl x1, .inl x2, en_un, en_un, en_un] [] en_zz σ
noncomputable def T_X5_leadingOn_5 (n : Nat) (x1 : Int32) (x2 : Int32) (x3 : Int32) (x4 : Int32) (u5 : en_V) (σ : en_M) : en_R := LK_X5_leadingOn n 5 [.inr (103, 5, 0, 0), .inl x1, .inl x2, .inl x3, .inl x4, u5] [] en_zz σ
set_option maxRecDepth 400000 in
set_option maxHeartbeats 4000000 in
theorem t_X5_leadingOn_0 (x1 : Int32) (x2 : Int32) (σ : en_M) : T_X5_leadingOn_0 x1 x2 σ = (T_X5_leadingOn_5 en_FU x1 x2 (0 : Int32) (0 : Int32) (en_un) σ) := rfl
set_option maxRecDepth 400000 in
set_option maxHeartbeats 4000000 in
theorem t_X5_leadingOn_5 (n : Nat) (x1 : Int32) (x2 : Int32) (x3 : Int32) (x4 : Int32) (u5 : en_V) (σ : en_M) : T_X5_leadingOn_5 (n + 1) x1 x2 x3 x4 u5 σ = ((en_ix x1 12).bind fun j1 => if x4 < (σ 117 j1) then ((en_ix x1 12).bind fun j2 => (en_ix x4 128).bind fun j3 => (O_X5_leadsOn [.inr (103, 5, 0, 0), .inl x1, .inl x2, .inl (σ (104 + 1 + j2) j3)] σ).bind fun r4 => if r4.1 = 0 then (T_X5_leadingOn_5 n x1 x2 (x3 ||| (0 : Int32)) (x4 + (1 : Int32)) (.inl (σ (104 + 1 + j2) j3)) r4.2) else ((en_ix x1 12).bind fun j5 => (en_ix (σ (104 + 1 + j2) j3) 32).bind fun j6 => T_X5_leadingOn_5 n x1 x2 (x3 ||| (r4.2 (159 + 1 + j5) j6)) (x4 + (1 : Int32)) (.inl (σ (104 + 1 + j2) j3)) r4.2)) else (en_ri x3 σ)) := rfl
noncomputable def P_X5_leadingOn : List en_V → en_M → Option (Int32 × en_M) := fun av σ => match av with
  | [.inr (103, 5, 0, 0), .inl x1, .inl x2] => en_oi (T_X5_leadingOn_0 x1 x2 σ)
  | _ => none
theorem ox_X5_leadingOn : ∃ f, f = P_X5_leadingOn := ⟨_, rfl⟩
noncomputable def O_X5_leadingOn : List en_V → en_M → Option (Int32 × en_M) := Classical.choose ox_X5_leadingOn
theorem oe_X5_leadingOn : O_X5_leadingOn = P_X5_leadingOn := Classical.choose_spec ox_X5_leadingOn
theorem o_X5_leadingOn (x1 : Int32) (x2 : Int32) (σ : en_M) : O_X5_leadingOn [.inr (103, 5, 0, 0), .inl x1, .inl x2] σ = en_oi (T_X5_leadingOn_0 x1 x2 σ) := by rw [oe_X5_leadingOn]; rfl
theorem i_X5_leadingOn (G : en_G) (hst : G.2.2.2.2.2 = true) : en_I G 4 yX5_leadingOn cX5_leadingOn 6 (some .int) 0 0 (en_wi (O_X5_leadingOn)) := en_of_i (M := M_X5_leadingOn) hst (s_X5_leadingOn_0 G hst _ (l_X5_leadingOn G hst en_FU)) (plainFor_of_name (by decide +kernel)) rfl rfl rfl (Or.inl ⟨rfl, rfl⟩) (fun av σ x σ' h => by
  rw [oe_X5_leadingOn] at h; unfold P_X5_leadingOn at h
  split at h
  · exact ⟨(Nat.le_of_ble_eq_true rfl), en_oi_some h⟩
  · cases h)
-- EachMayMissOne$Plan.narrow(II)V
def M_X5_narrow : en_Me := (cX5_narrow, RX5, 5, false, 5, false)
theorem cs_X5_narrow : en_cs yX5_narrow cX5_narrow 5 none 2 := ⟨wm_931, wm_42, ⟨(by decide +kernel), (by decide +kernel), (by decide +kernel)⟩, (Nat.le_of_ble_eq_true rfl)⟩
noncomputable def B_X5_narrow_103 (kc : Nat → en_B) : en_B := op_vret
set_option maxRecDepth 20000 in
theorem s_X5_narrow_103 (G : en_G) (hst : G.2.2.2.2.2 = true) (kc : Nat → en_B) (hk : ∀ t, en_Snd G M_X5_narrow t (kc t)) : en_Snd G M_X5_narrow 103 (B_X5_narrow_103 kc) := (sn_vret (by decide +kernel))
noncomputable def B_X5_narrow_97 (kc : Nat → en_B) : en_B := (op_iinc 3 (-1 : Int32) (kc 44))
set_option maxRecDepth 20000 in
theorem s_X5_narrow_97 (G : en_G) (hst : G.2.2.2.2.2 = true) (kc : Nat → en_B) (hk : ∀ t, en_Snd G M_X5_narrow t (kc t)) : en_Snd G M_X5_narrow 97 (B_X5_narrow_97 kc) := (sn_iinc (i := 3) (n := -1) (v := -1) (by decide +kernel) rfl (sn_goto (off := -56) (tgt := 44) (by decide +kernel) rfl (hk 44)))
noncomputable def B_X5_narrow_91 (kc : Nat → en_B) : en_B := (op_iinc 4 (1 : Int32) (kc 52))
set_option maxRecDepth 20000 in
theorem s_X5_narrow_91 (G : en_G) (hst : G.2.2.2.2.2 = true) (kc : Nat → en_B) (hk : ∀ t, en_Snd G M_X5_narrow t (kc t)) : en_Snd G M_X5_narrow 91 (B_X5_narrow_91 kc) := (sn_iinc (i := 4) (n := 1) (v := 1) (by decide +kernel) rfl (sn_goto (off := -42) (tgt := 52) (by decide +kernel) rfl (hk 52)))
noncomputable def B_X5_narrow_52 (kc : Nat → en_B) : en_B := (op_iload 4 (op_const (1024 : Int32) (op_iclt (op_aload 0 (op_gets 5 42 (23, 13, 1024) (op_iload 3 (op_aldM (op_iload 4 (op_ald 20 (op_ifeq (B_X5_narrow_91 kc) (op_aload 0 (op_gets 5 42 (23, 13, 1024) (op_iload 3 (op_aldM (op_iload 4 (op_dup2 (op_ald 20 (op_aload 0 (op_iload 3 (op_iload 4 (op_rcv 5 2 (op_calli O_X5_leadingOn 3 (op_bin (fun (x y : Int32) => x &&& y) (op_ast 20 (fun (x : Int32) => x) (B_X5_narrow_91 kc)))))))))))))))))))))) (B_X5_narrow_97 kc))))
set_option maxRecDepth 20000 in
theorem s_X5_narrow_52 (G : en_G) (hst : G.2.2.2.2.2 = true) (kc : Nat → en_B) (hk : ∀ t, en_Snd G M_X5_narrow t (kc t)) : en_Snd G M_X5_narrow 52 (B_X5_narrow_52 kc) := (sn_iload (i := 4) (by decide +kernel) (sn_sipush (n := 1024) (v := 1024) (by decide +kernel) rfl (sn_icge (off := 40) (tgt := 97) (by decide +kernel) rfl (s_X5_narrow_97 G hst kc hk) (sn_aload_n (i := 0) (n := 0) (by decide +kernel) rfl (sn_gets (ci := 5) (j := 4) (off := 42) hst en_c5 of_5_42 (Nat.le_of_ble_eq_true rfl) (by decide +kernel) wm_876 (Nat.le_of_ble_eq_true rfl) rfl (sn_iload_n (i := 3) (n := 3) (by decide +kernel) rfl (sn_aldM hst (by decide +kernel) (sn_iload (i := 4) (by decide +kernel) (sn_iald (by decide +kernel) (sn_ifeq (off := 22) (tgt := 91) (by decide +kernel) rfl (s_X5_narrow_91 G hst kc hk) (sn_aload_n (i := 0) (n := 0) (by decide +kernel) rfl (sn_gets (ci := 5) (j := 4) (off := 42) hst en_c5 of_5_42 (Nat.le_of_ble_eq_true rfl) (by decide +kernel) wm_876 (Nat.le_of_ble_eq_true rfl) rfl (sn_iload_n (i := 3) (n := 3) (by decide +kernel) rfl (sn_aldM hst (by decide +kernel) (sn_iload (i := 4) (by decide +kernel) (sn_dup2 (by decide +kernel) (sn_iald (by decide +kernel) (sn_aload_n (i := 0) (n := 0) (by decide +kernel) rfl (sn_iload_n (i := 3) (n := 3) (by decide +kernel) rfl (sn_iload (i := 4) (by decide +kernel) (sn_callVi (n := 2) (idx := 112) (ci := 5) (i_X5_leadingOn G hst) (Nat.le_of_ble_eq_true rfl) cs_X5_leadingOn ⟨wm_936, wm_937, wm_934⟩ ⟨⟨_, rfl, rfl⟩, (Nat.le_of_ble_eq_true rfl)⟩ (by decide +kernel) (sn_iand (by decide +kernel) (sn_iast (by decide +kernel) (s_X5_narrow_91 G hst kc hk))))))))))))))))))))))))
noncomputable def B_X5_narrow_44 (kc : Nat → en_B) : en_B := (op_iload 3 (op_const (1 : Int32) (op_iclt (B_X5_narrow_103 kc) (op_const (0 : Int32) (op_istore 4 (kc 52))))))
set_option maxRecDepth 20000 in
theorem s_X5_narrow_44 (G : en_G) (hst : G.2.2.2.2.2 = true) (kc : Nat → en_B) (hk : ∀ t, en_Snd G M_X5_narrow t (kc t)) : en_Snd G M_X5_narrow 44 (B_X5_narrow_44 kc) := (sn_iload_n (i := 3) (n := 3) (by decide +kernel) rfl (sn_iconst (n := 1) (v := 1) (by decide +kernel) rfl (sn_iclt (off := 57) (tgt := 103) (by decide +kernel) rfl (s_X5_narrow_103 G hst kc hk) (sn_iconst (n := 0) (v := 0) (by decide +kernel) rfl (sn_istore (i := 4) (by decide +kernel) (Nat.le_of_ble_eq_true rfl) (hk 52))))))
noncomputable def B_X5_narrow_40 (kc : Nat → en_B) : en_B := (op_iload 1 (op_const (1 : Int32) (op_bin (fun (x y : Int32) => x - y) (op_istore 3 (kc 44)))))
set_option maxRecDepth 20000 in
theorem s_X5_narrow_40 (G : en_G) (hst : G.2.2.2.2.2 = true) (kc : Nat → en_B) (hk : ∀ t, en_Snd G M_X5_narrow t (kc t)) : en_Snd G M_X5_narrow 40 (B_X5_narrow_40 kc) := (sn_iload_n (i := 1) (n := 1) (by decide +kernel) rfl (sn_iconst (n := 1) (v := 1) (by decide +kernel) rfl (sn_isub (by decide +kernel) (sn_istore_n (i := 3) (n := 3) (by decide +kernel) rfl (Nat.le_of_ble_eq_true rfl) (hk 44)))))
noncomputable def B_X5_narrow_33 (kc : Nat → en_B) : en_B := (op_ast 20 (fun (x : Int32) => x) (op_iinc 3 (1 : Int32) (kc 2)))
set_option maxRecDepth 20000 in
theorem s_X5_narrow_33 (G : en_G) (hst : G.2.2.2.2.2 = true) (kc : Nat → en_B) (hk : ∀ t, en_Snd G M_X5_narrow t (kc t)) : en_Snd G M_X5_narrow 33 (B_X5_narrow_33 kc) := (sn_iast (by decide +kernel) (sn_iinc (i := 3) (n := 1) (v := 1) (by decide +kernel) rfl (sn_goto (off := -35) (tgt := 2) (by decide +kernel) rfl (hk 2))))
noncomputable def B_X5_narrow_32 (kc : Nat → en_B) : en_B := (op_const (0 : Int32) (B_X5_narrow_33 kc))
set_option maxRecDepth 20000 in
theorem s_X5_narrow_32 (G : en_G) (hst : G.2.2.2.2.2 = true) (kc : Nat → en_B) (hk : ∀ t, en_Snd G M_X5_narrow t (kc t)) : en_Snd G M_X5_narrow 32 (B_X5_narrow_32 kc) := (sn_iconst (n := 0) (v := 0) (by decide +kernel) rfl (s_X5_narrow_33 G hst kc hk))
noncomputable def B_X5_narrow_2 (kc : Nat → en_B) : en_B := (op_iload 3 (op_const (1024 : Int32) (op_iclt (op_aload 0 (op_gets 5 42 (23, 13, 1024) (op_iload 1 (op_aldM (op_iload 3 (op_iload 3 (op_iload 2 (op_iceq (op_aload 0 (op_gets 5 42 (23, 13, 1024) (op_iload 1 (op_aldM (op_iload 3 (op_ald 20 (B_X5_narrow_33 kc))))))) (B_X5_narrow_32 kc))))))))) (B_X5_narrow_40 kc))))
set_option maxRecDepth 20000 in
theorem s_X5_narrow_2 (G : en_G) (hst : G.2.2.2.2.2 = true) (kc : Nat → en_B) (hk : ∀ t, en_Snd G M_X5_narrow t (kc t)) : en_Snd G M_X5_narrow 2 (B_X5_narrow_2 kc) := (sn_iload_n (i := 3) (n := 3) (by decide +kernel) rfl (sn_sipush (n := 1024) (v := 1024) (by decide +kernel) rfl (sn_icge (off := 34) (tgt := 40) (by decide +kernel) rfl (s_X5_narrow_40 G hst kc hk) (sn_aload_n (i := 0) (n := 0) (by decide +kernel) rfl (sn_gets (ci := 5) (j := 4) (off := 42) hst en_c5 of_5_42 (Nat.le_of_ble_eq_true rfl) (by decide +kernel) wm_876 (Nat.le_of_ble_eq_true rfl) rfl (sn_iload_n (i := 1) (n := 1) (by decide +kernel) rfl (sn_aldM hst (by decide +kernel) (sn_iload_n (i := 3) (n := 3) (by decide +kernel) rfl (sn_iload_n (i := 3) (n := 3) (by decide +kernel) rfl (sn_iload_n (i := 2) (n := 2) (by decide +kernel) rfl (sn_icne (off := 14) (tgt := 32) (by decide +kernel) rfl (s_X5_narrow_32 G hst kc hk) (sn_aload_n (i := 0) (n := 0) (by decide +kernel) rfl (sn_gets (ci := 5) (j := 4) (off := 42) hst en_c5 of_5_42 (Nat.le_of_ble_eq_true rfl) (by decide +kernel) wm_876 (Nat.le_of_ble_eq_true rfl) rfl (sn_iload_n (i := 1) (n := 1) (by decide +kernel) rfl (sn_aldM hst (by decide +kernel) (sn_iload_n (i := 3) (n := 3) (by decide +kernel) rfl (sn_iald (by decide +kernel) (sn_goto (off := 4) (tgt := 33) (by decide +kernel) rfl (s_X5_narrow_33 G hst kc hk)))))))))))))))))))
noncomputable def B_X5_narrow_0 (kc : Nat → en_B) : en_B := (op_const (0 : Int32) (op_istore 3 (kc 2)))
set_option maxRecDepth 20000 in
theorem s_X5_narrow_0 (G : en_G) (hst : G.2.2.2.2.2 = true) (kc : Nat → en_B) (hk : ∀ t, en_Snd G M_X5_narrow t (kc t)) : en_Snd G M_X5_narrow 0 (B_X5_narrow_0 kc) := (sn_iconst (n := 0) (v := 0) (by decide +kernel) rfl (sn_istore_n (i := 3) (n := 3) (by decide +kernel) rfl (Nat.le_of_ble_eq_true rfl) (hk 2)))
noncomputable def LK_X5_narrow : Nat → Nat → en_B
  | 0, _ => en_no
  | n + 1, t => if t = 2 then B_X5_narrow_2 (LK_X5_narrow n) else if t = 44 then B_X5_narrow_44 (LK_X5_narrow n) else if t = 52 then B_X5_narrow_52 (LK_X5_narrow n) else en_no
theorem l_X5_narrow (G : en_G) (hst : G.2.2.2.2.2 = true) : ∀ n t, en_Snd G M_X5_narrow t (LK_X5_narrow n t)
  | 0, _ => sn_no
  | n + 1, t => by
    show en_Snd G M_X5_narrow t (if t = 2 then B_X5_narrow_2 (LK_X5_narrow n) else if t = 44 then B_X5_narrow_44 (LK_X5_narrow n) else if t = 52 then B_X5_narrow_52 (LK_X5_narrow n) else en_no)
    by_cases h_2 : t = 2
    · rw [if_pos h_2, h_2]; exact s_X5_narrow_2 G hst _ (l_X5_narrow G hst n)
    rw [if_neg h_2]
    by_cases h_44 : t = 44
    · rw [if_pos h_44, h_44]; exact s_X5_narrow_44 G hst _ (l_X5_narrow G hst n)
    rw [if_neg h_44]
    by_cases h_52 : t = 52
    · rw [if_pos h_52, h_52]; exact s_X5_narrow_52 G hst _ (l_X5_narrow G hst n)
    rw [if_neg h_52]
    exact sn_no
noncomputable def T_X5_narrow_0 (x1 : Int32) (x2 : Int32) (σ : en_M) : en_R := B_X5_narrow_0 (LK_X5_narrow en_FU) [.inr (103, 5, 0, 0), .inl x1, .inl x2, en_un, en_un] [] en_zz σ
noncomputable def T_X5_narrow_2 (n : Nat) (x1 : Int32) (x2 : Int32) (x3 : Int32) (σ : en_M) : en_R := LK_X5_narrow n 2 [.inr (103, 5, 0, 0), .inl x1, .inl x2, .inl x3, en_un] [] en_zz σ
noncomputable def T_X5_narrow_44 (n : Nat) (x1 : Int32) (x2 : Int32) (x3 : Int32) (u4 : en_V) (σ : en_M) : en_R := LK_X5_narrow n 44 [.inr (103, 5, 0, 0), .inl x1, .inl x2, .inl x3, u4] [] en_zz σ
noncomputable def T_X5_narrow_52 (n : Nat) (x1 : Int32) (x2 : Int32) (x3 : Int32) (x4 : Int32) (σ : en_M) : en_R := LK_X5_narrow n 52 [.inr (103, 5, 0, 0), .inl x1, .inl x2, .inl x3, .inl x4] [] en_zz σ
set_option maxRecDepth 400000 in
set_option maxHeartbeats 4000000 in
theorem t_X5_narrow_0 (x1 : Int32) (x2 : Int32) (σ : en_M) : T_X5_narrow_0 x1 x2 σ = (T_X5_narrow_2 en_FU x1 x2 (0 : Int32) σ) := rfl
set_option maxRecDepth 400000 in
set_option maxHeartbeats 4000000 in
theorem t_X5_narrow_2 (n : Nat) (x1 : Int32) (x2 : Int32) (x3 : Int32) (σ : en_M) : T_X5_narrow_2 (n + 1) x1 x2 x3 σ = (if x3 < (1024 : Int32) then ((en_ix x1 13).bind fun j1 => if x3 = x2 then ((en_ix x1 13).bind fun j3 => (en_ix x3 1024).bind fun j4 => (en_ix x3 1024).bind fun j5 => T_X5_narrow_2 n x1 x2 (x3 + (1 : Int32)) (en_up σ (145 + 1 + j1) j5 (σ (145 + 1 + j3) j4))) else ((en_ix x3 1024).bind fun j2 => T_X5_narrow_2 n x1 x2 (x3 + (1 : Int32)) (en_up σ (145 + 1 + j1) j2 (0 : Int32)))) else (T_X5_narrow_44 n x1 x2 (x1 - (1 : Int32)) (en_un) σ)) := rfl
set_option maxRecDepth 400000 in
set_option maxHeartbeats 4000000 in
theorem t_X5_narrow_44 (n : Nat) (x1 : Int32) (x2 : Int32) (x3 : Int32) (u4 : en_V) (σ : en_M) : T_X5_narrow_44 (n + 1) x1 x2 x3 u4 σ = (if x3 < (1 : Int32) then (en_rv σ) else (T_X5_narrow_52 n x1 x2 x3 (0 : Int32) σ)) := rfl
set_option maxRecDepth 400000 in
set_option maxHeartbeats 4000000 in
theorem t_X5_narrow_52 (n : Nat) (x1 : Int32) (x2 : Int32) (x3 : Int32) (x4 : Int32) (σ : en_M) : T_X5_narrow_52 (n + 1) x1 x2 x3 x4 σ = (if x4 < (1024 : Int32) then ((en_ix x3 13).bind fun j6 => (en_ix x4 1024).bind fun j7 => if (σ (145 + 1 + j6) j7) = 0 then (T_X5_narrow_52 n x1 x2 x3 (x4 + (1 : Int32)) σ) else ((en_ix x3 13).bind fun j8 => (en_ix x4 1024).bind fun j9 => (O_X5_leadingOn [.inr (103, 5, 0, 0), .inl x3, .inl x4] σ).bind fun r10 => (en_ix x4 1024).bind fun j11 => T_X5_narrow_52 n x1 x2 x3 (x4 + (1 : Int32)) (en_up r10.2 (145 + 1 + j8) j11 ((σ (145 + 1 + j8) j9) &&& r10.1)))) else (T_X5_narrow_44 n x1 x2 (x3 + (-1 : Int32)) (.inl x4) σ)) := rfl
noncomputable def P_X5_narrow : List en_V → en_M → Option en_M := fun av σ => match av with
  | [.inr (103, 5, 0, 0), .inl x1, .inl x2] => en_ov (T_X5_narrow_0 x1 x2 σ)
  | _ => none
theorem ox_X5_narrow : ∃ f, f = P_X5_narrow := ⟨_, rfl⟩
noncomputable def O_X5_narrow : List en_V → en_M → Option en_M := Classical.choose ox_X5_narrow
theorem oe_X5_narrow : O_X5_narrow = P_X5_narrow := Classical.choose_spec ox_X5_narrow
theorem o_X5_narrow (x1 : Int32) (x2 : Int32) (σ : en_M) : O_X5_narrow [.inr (103, 5, 0, 0), .inl x1, .inl x2] σ = en_ov (T_X5_narrow_0 x1 x2 σ) := by rw [oe_X5_narrow]; rfl
theorem i_X5_narrow (G : en_G) (hst : G.2.2.2.2.2 = true) : en_I G 5 yX5_narrow cX5_narrow 5 none 0 0 (en_wv (O_X5_narrow)) := en_of_v (M := M_X5_narrow) hst (s_X5_narrow_0 G hst _ (l_X5_narrow G hst en_FU)) (plainFor_of_name (by decide +kernel)) rfl rfl rfl (fun av σ σ' h => by
  rw [oe_X5_narrow] at h; unfold P_X5_narrow at h
  split at h
  · exact ⟨(Nat.le_of_ble_eq_true rfl), en_ov_some h⟩
  · cases h)
-- EachMayMissOne$Plan.nextSet(IIII)I
def M_X5_nextSet : en_Me := (cX5_nextSet, RX5, 7, false, 4, false)
theorem cs_X5_nextSet : en_cs yX5_nextSet cX5_nextSet 7 (some .int) 4 := ⟨wm_943, wm_42, ⟨(by decide +kernel), (by decide +kernel), (by decide +kernel)⟩, (Nat.le_of_ble_eq_true rfl)⟩
noncomputable def B_X5_nextSet_58 (kc : Nat → en_B) : en_B := (op_const (-1 : Int32) op_iret)
set_option maxRecDepth 20000 in
theorem s_X5_nextSet_58 (G : en_G) (hst : G.2.2.2.2.2 = true) (kc : Nat → en_B) (hk : ∀ t, en_Snd G M_X5_nextSet t (kc t)) : en_Snd G M_X5_nextSet 58 (B_X5_nextSet_58 kc) := (sn_iconst (n := -1) (v := -1) (by decide +kernel) rfl (sn_iret (by decide +kernel) rfl))
noncomputable def B_X5_nextSet_52 (kc : Nat → en_B) : en_B := (op_iinc 5 (1 : Int32) (kc 3))
set_option maxRecDepth 20000 in
theorem s_X5_nextSet_52 (G : en_G) (hst : G.2.2.2.2.2 = true) (kc : Nat → en_B) (hk : ∀ t, en_Snd G M_X5_nextSet t (kc t)) : en_Snd G M_X5_nextSet 52 (B_X5_nextSet_52 kc) := (sn_iinc (i := 5) (n := 1) (v := 1) (by decide +kernel) rfl (sn_goto (off := -52) (tgt := 3) (by decide +kernel) rfl (hk 3)))
noncomputable def B_X5_nextSet_3 (kc : Nat → en_B) : en_B := (op_iload 5 (op_aload 0 (op_gets 5 14 (20, 12, 0) (op_iload 1 (op_ald 20 (op_iclt (op_aload 0 (op_gets 5 1 (23, 12, 128) (op_iload 1 (op_aldM (op_iload 5 (op_ald 20 (op_istore 6 (op_aload 0 (op_iload 1 (op_iload 6 (op_iload 3 (op_iload 4 (op_rcv 5 4 (op_calli O_X5_mayFollow 5 (op_ifeq (B_X5_nextSet_52 kc) (op_aload 0 (op_iload 1 (op_iload 2 (op_iload 6 (op_rcv 5 3 (op_calli O_X5_leadsOn 4 (op_ifeq (B_X5_nextSet_52 kc) (op_iload 6 op_iret))))))))))))))))))))))) (B_X5_nextSet_58 kc)))))))
set_option maxRecDepth 20000 in
theorem s_X5_nextSet_3 (G : en_G) (hst : G.2.2.2.2.2 = true) (kc : Nat → en_B) (hk : ∀ t, en_Snd G M_X5_nextSet t (kc t)) : en_Snd G M_X5_nextSet 3 (B_X5_nextSet_3 kc) := (sn_iload (i := 5) (by decide +kernel) (sn_aload_n (i := 0) (n := 0) (by decide +kernel) rfl (sn_gets (ci := 5) (j := 1) (off := 14) hst en_c5 of_5_14 (Nat.le_of_ble_eq_true rfl) (by decide +kernel) wm_873 (Nat.le_of_ble_eq_true rfl) rfl (sn_iload_n (i := 1) (n := 1) (by decide +kernel) rfl (sn_iald (by decide +kernel) (sn_icge (off := 47) (tgt := 58) (by decide +kernel) rfl (s_X5_nextSet_58 G hst kc hk) (sn_aload_n (i := 0) (n := 0) (by decide +kernel) rfl (sn_gets (ci := 5) (j := 0) (off := 1) hst en_c5 of_5_1 (Nat.le_of_ble_eq_true rfl) (by decide +kernel) wm_872 (Nat.le_of_ble_eq_true rfl) rfl (sn_iload_n (i := 1) (n := 1) (by decide +kernel) rfl (sn_aldM hst (by decide +kernel) (sn_iload (i := 5) (by decide +kernel) (sn_iald (by decide +kernel) (sn_istore (i := 6) (by decide +kernel) (Nat.le_of_ble_eq_true rfl) (sn_aload_n (i := 0) (n := 0) (by decide +kernel) rfl (sn_iload_n (i := 1) (n := 1) (by decide +kernel) rfl (sn_iload (i := 6) (by decide +kernel) (sn_iload_n (i := 3) (n := 3) (by decide +kernel) rfl (sn_iload (i := 4) (by decide +kernel) (sn_callVi (n := 4) (idx := 81) (ci := 5) (i_X5_mayFollow G hst) (Nat.le_of_ble_eq_true rfl) cs_X5_mayFollow ⟨wm_885, wm_886, wm_907⟩ ⟨⟨_, rfl, rfl⟩, (Nat.le_of_ble_eq_true rfl)⟩ (by decide +kernel) (sn_ifeq (off := 17) (tgt := 52) (by decide +kernel) rfl (s_X5_nextSet_52 G hst kc hk) (sn_aload_n (i := 0) (n := 0) (by decide +kernel) rfl (sn_iload_n (i := 1) (n := 1) (by decide +kernel) rfl (sn_iload_n (i := 2) (n := 2) (by decide +kernel) rfl (sn_iload (i := 6) (by decide +kernel) (sn_callVi (n := 3) (idx := 115) (ci := 5) (i_X5_leadsOn G hst) (Nat.le_of_ble_eq_true rfl) cs_X5_leadsOn ⟨wm_940, wm_941, wm_938⟩ ⟨⟨_, rfl, rfl⟩, (Nat.le_of_ble_eq_true rfl)⟩ (by decide +kernel) (sn_ifeq (off := 6) (tgt := 52) (by decide +kernel) rfl (s_X5_nextSet_52 G hst kc hk) (sn_iload (i := 6) (by decide +kernel) (sn_iret (by decide +kernel) rfl))))))))))))))))))))))))))))
noncomputable def B_X5_nextSet_0 (kc : Nat → en_B) : en_B := (op_const (0 : Int32) (op_istore 5 (kc 3)))
set_option maxRecDepth 20000 in
theorem s_X5_nextSet_0 (G : en_G) (hst : G.2.2.2.2.2 = true) (kc : Nat → en_B) (hk : ∀ t, en_Snd G M_X5_nextSet t (kc t)) : en_Snd G M_X5_nextSet 0 (B_X5_nextSet_0 kc) := (sn_iconst (n := 0) (v := 0) (by decide +kernel) rfl (sn_istore (i := 5) (by decide +kernel) (Nat.le_of_ble_eq_true rfl) (hk 3)))
noncomputable def LK_X5_nextSet : Nat → Nat → en_B
  | 0, _ => en_no
  | n + 1, t => if t = 3 then B_X5_nextSet_3 (LK_X5_nextSet n) else en_no
theorem l_X5_nextSet (G : en_G) (hst : G.2.2.2.2.2 = true) : ∀ n t, en_Snd G M_X5_nextSet t (LK_X5_nextSet n t)
  | 0, _ => sn_no
  | n + 1, t => by
    show en_Snd G M_X5_nextSet t (if t = 3 then B_X5_nextSet_3 (LK_X5_nextSet n) else en_no)
    by_cases h_3 : t = 3
    · rw [if_pos h_3, h_3]; exact s_X5_nextSet_3 G hst _ (l_X5_nextSet G hst n)
    rw [if_neg h_3]
    exact sn_no
noncomputable def T_X5_nextSet_0 (x1 : Int32) (x2 : Int32) (x3 : Int32) (x4 : Int32) (σ : en_M) : en_R := B_X5_nextSet_0 (LK_X5_nextSet en_FU) [.inr (103, 5, 0, 0), .inl x1, .inl x2, .inl x3, .inl x4, en_un, en_un] [] en_zz σ
noncomputable def T_X5_nextSet_3 (n : Nat) (x1 : Int32) (x2 : Int32) (x3 : Int32) (x4 : Int32) (x5 : Int32) (u6 : en_V) (σ : en_M) : en_R := LK_X5_nextSet n 3 [.inr (103, 5, 0, 0), .inl x1, .inl x2, .inl x3, .inl x4, .inl x5, u6] [] en_zz σ
set_option maxRecDepth 400000 in
set_option maxHeartbeats 4000000 in
theorem t_X5_nextSet_0 (x1 : Int32) (x2 : Int32) (x3 : Int32) (x4 : Int32) (σ : en_M) : T_X5_nextSet_0 x1 x2 x3 x4 σ = (T_X5_nextSet_3 en_FU x1 x2 x3 x4 (0 : Int32) (en_un) σ) := rfl
set_option maxRecDepth 400000 in
set_option maxHeartbeats 4000000 in
theorem t_X5_nextSet_3 (n : Nat) (x1 : Int32) (x2 : Int32) (x3 : Int32) (x4 : Int32) (x5 : Int32) (u6 : en_V) (σ : en_M) : T_X5_nextSet_3 (n + 1) x1 x2 x3 x4 x5 u6 σ = ((en_ix x1 12).bind fun j1 => if x5 < (σ 117 j1) then ((en_ix x1 12).bind fun j2 => (en_ix x5 128).bind fun j3 => (O_X5_mayFollow [.inr (103, 5, 0, 0), .inl x1, .inl (σ (104 + 1 + j2) j3), .inl x3, .inl x4] σ).bind fun r4 => if r4.1 = 0 then (T_X5_nextSet_3 n x1 x2 x3 x4 (x5 + (1 : Int32)) (.inl (σ (104 + 1 + j2) j3)) r4.2) else ((O_X5_leadsOn [.inr (103, 5, 0, 0), .inl x1, .inl x2, .inl (σ (104 + 1 + j2) j3)] r4.2).bind fun r5 => if r5.1 = 0 then (T_X5_nextSet_3 n x1 x2 x3 x4 (x5 + (1 : Int32)) (.inl (σ (104 + 1 + j2) j3)) r5.2) else (en_ri (σ (104 + 1 + j2) j3) r5.2))) else (en_ri (-1 : Int32) σ)) := rfl
noncomputable def P_X5_nextSet : List en_V → en_M → Option (Int32 × en_M) := fun av σ => match av with
  | [.inr (103, 5, 0, 0), .inl x1, .inl x2, .inl x3, .inl x4] => en_oi (T_X5_nextSet_0 x1 x2 x3 x4 σ)
  | _ => none
theorem ox_X5_nextSet : ∃ f, f = P_X5_nextSet := ⟨_, rfl⟩
noncomputable def O_X5_nextSet : List en_V → en_M → Option (Int32 × en_M) := Classical.choose ox_X5_nextSet
theorem oe_X5_nextSet : O_X5_nextSet = P_X5_nextSet := Classical.choose_spec ox_X5_nextSet
theorem o_X5_nextSet (x1 : Int32) (x2 : Int32) (x3 : Int32) (x4 : Int32) (σ : en_M) : O_X5_nextSet [.inr (103, 5, 0, 0), .inl x1, .inl x2, .inl x3, .inl x4] σ = en_oi (T_X5_nextSet_0 x1 x2 x3 x4 σ) := by rw [oe_X5_nextSet]; rfl
theorem i_X5_nextSet (G : en_G) (hst : G.2.2.2.2.2 = true) : en_I G 4 yX5_nextSet cX5_nextSet 7 (some .int) 0 0 (en_wi (O_X5_nextSet)) := en_of_i (M := M_X5_nextSet) hst (s_X5_nextSet_0 G hst _ (l_X5_nextSet G hst en_FU)) (plainFor_of_name (by decide +kernel)) rfl rfl rfl (Or.inl ⟨rfl, rfl⟩) (fun av σ x σ' h => by
  rw [oe_X5_nextSet] at h; unfold P_X5_nextSet at h
  split at h
  · exact ⟨(Nat.le_of_ble_eq_true rfl), en_oi_some h⟩
  · cases h)
-- EachMayMissOne$Plan.tellNaps(LEachMayMissOne$State;ILEachMayMissOne$Told;)V
def M_X5_tellNaps : en_Me := (cX5_tellNaps, RX5, 9, false, 5, false)
theorem cs_X5_tellNaps : en_cs yX5_tellNaps cX5_tellNaps 9 none 3 := ⟨wm_946, wm_42, ⟨(by decide +kernel), (by decide +kernel), (by decide +kernel)⟩, (Nat.le_of_ble_eq_true rfl)⟩
noncomputable def B_X5_tellNaps_84 (kc : Nat → en_B) : en_B := op_vret
set_option maxRecDepth 20000 in
theorem s_X5_tellNaps_84 (G : en_G) (hst : G.2.2.2.2.2 = true) (kc : Nat → en_B) (hk : ∀ t, en_Snd G M_X5_tellNaps t (kc t)) : en_Snd G M_X5_tellNaps 84 (B_X5_tellNaps_84 kc) := (sn_vret (by decide +kernel))
noncomputable def B_X5_tellNaps_22 (kc : Nat → en_B) : en_B := (op_iload 7 (op_iload 2 (op_iclt (op_const (0 : Int32) (op_aload 0 (op_iload 7 (op_iload 6 (op_iload 4 (op_iload 5 (op_rcv 5 4 (op_calli O_X5_nextSet 5 (op_calli O_J9_max_7cf53 2 (op_istore 8 (op_aload 3 (op_iload 8 (op_rcv 9 1 (op_callv O_X9_add 2 (op_aload 0 (op_iload 6 (op_iload 8 (op_rcv 5 2 (op_calli O_X5_napsWith 3 (op_istore 6 (op_iload 8 (op_istore 4 (op_aload 0 (op_gets 5 15 (23, 12, 128) (op_iload 7 (op_aldM (op_iload 8 (op_ald 20 (op_istore 5 (op_iinc 7 (1 : Int32) (kc 22))))))))))))))))))))))))))))))) (B_X5_tellNaps_84 kc))))
set_option maxRecDepth 20000 in
theorem s_X5_tellNaps_22 (G : en_G) (hst : G.2.2.2.2.2 = true) (kc : Nat → en_B) (hk : ∀ t, en_Snd G M_X5_tellNaps t (kc t)) : en_Snd G M_X5_tellNaps 22 (B_X5_tellNaps_22 kc) := (sn_iload (i := 7) (by decide +kernel) (sn_iload_n (i := 2) (n := 2) (by decide +kernel) rfl (sn_icge (off := 59) (tgt := 84) (by decide +kernel) rfl (s_X5_tellNaps_84 G hst kc hk) (sn_iconst (n := 0) (v := 0) (by decide +kernel) rfl (sn_aload_n (i := 0) (n := 0) (by decide +kernel) rfl (sn_iload (i := 7) (by decide +kernel) (sn_iload (i := 6) (by decide +kernel) (sn_iload (i := 4) (by decide +kernel) (sn_iload (i := 5) (by decide +kernel) (sn_callVi (n := 4) (idx := 122) (ci := 5) (i_X5_nextSet G hst) (Nat.le_of_ble_eq_true rfl) cs_X5_nextSet ⟨wm_944, wm_945, wm_949⟩ ⟨⟨_, rfl, rfl⟩, (Nat.le_of_ble_eq_true rfl)⟩ (by decide +kernel) (sn_callSi (n := 2) (idx := 126) (i_J9_max_7cf53 G hst) (Nat.le_of_ble_eq_true rfl) cs_J9_max_7cf53 ⟨wm_267, Or.inl wm_950⟩ (by decide +kernel) (sn_istore (i := 8) (by decide +kernel) (Nat.le_of_ble_eq_true rfl) (sn_aload_n (i := 3) (n := 3) (by decide +kernel) rfl (sn_iload (i := 8) (by decide +kernel) (sn_callVv (n := 1) (idx := 71) (ci := 9) (i_X9_add G hst) (Nat.le_of_ble_eq_true rfl) cs_X9_add ⟨wm_1090, wm_1091, wm_899⟩ ⟨⟨_, rfl, rfl⟩, (Nat.le_of_ble_eq_true rfl)⟩ (by decide +kernel) (sn_aload_n (i := 0) (n := 0) (by decide +kernel) rfl (sn_iload (i := 6) (by decide +kernel) (sn_iload (i := 8) (by decide +kernel) (sn_callVi (n := 2) (idx := 106) (ci := 5) (i_X5_napsWith G hst) (Nat.le_of_ble_eq_true rfl) cs_X5_napsWith ⟨wm_952, wm_953, wm_920⟩ ⟨⟨_, rfl, rfl⟩, (Nat.le_of_ble_eq_true rfl)⟩ (by decide +kernel) (sn_istore (i := 6) (by decide +kernel) (Nat.le_of_ble_eq_true rfl) (sn_iload (i := 8) (by decide +kernel) (sn_istore (i := 4) (by decide +kernel) (Nat.le_of_ble_eq_true rfl) (sn_aload_n (i := 0) (n := 0) (by decide +kernel) rfl (sn_gets (ci := 5) (j := 2) (off := 15) hst en_c5 of_5_15 (Nat.le_of_ble_eq_true rfl) (by decide +kernel) wm_874 (Nat.le_of_ble_eq_true rfl) rfl (sn_iload (i := 7) (by decide +kernel) (sn_aldM hst (by decide +kernel) (sn_iload (i := 8) (by decide +kernel) (sn_iald (by decide +kernel) (sn_istore (i := 5) (by decide +kernel) (Nat.le_of_ble_eq_true rfl) (sn_iinc (i := 7) (n := 1) (v := 1) (by decide +kernel) rfl (sn_goto (off := -59) (tgt := 22) (by decide +kernel) rfl (hk 22))))))))))))))))))))))))))))))))
noncomputable def B_X5_tellNaps_0 (kc : Nat → en_B) : en_B := (op_aload 3 (op_rcv 9 0 (op_callv O_X9_begin 1 (op_aload 1 (op_geti 7 7 (op_istore 4 (op_aload 1 (op_geti 7 8 (op_istore 5 (op_const (0 : Int32) (op_istore 6 (op_const (0 : Int32) (op_istore 7 (kc 22))))))))))))))
set_option maxRecDepth 20000 in
theorem s_X5_tellNaps_0 (G : en_G) (hst : G.2.2.2.2.2 = true) (kc : Nat → en_B) (hk : ∀ t, en_Snd G M_X5_tellNaps t (kc t)) : en_Snd G M_X5_tellNaps 0 (B_X5_tellNaps_0 kc) := (sn_aload_n (i := 3) (n := 3) (by decide +kernel) rfl (sn_callVv (n := 0) (idx := 59) (ci := 9) (i_X9_begin G hst) (Nat.le_of_ble_eq_true rfl) cs_X9_begin ⟨wm_1086, wm_1087, wm_896⟩ ⟨⟨_, rfl, rfl⟩, (Nat.le_of_ble_eq_true rfl)⟩ (by decide +kernel) (sn_aload_n (i := 1) (n := 1) (by decide +kernel) rfl (sn_geti (ci := 7) (j := 7) en_c7 (by decide +kernel) wm_897 (Nat.le_of_ble_eq_true rfl) rfl (sn_istore (i := 4) (by decide +kernel) (Nat.le_of_ble_eq_true rfl) (sn_aload_n (i := 1) (n := 1) (by decide +kernel) rfl (sn_geti (ci := 7) (j := 8) en_c7 (by decide +kernel) wm_898 (Nat.le_of_ble_eq_true rfl) rfl (sn_istore (i := 5) (by decide +kernel) (Nat.le_of_ble_eq_true rfl) (sn_iconst (n := 0) (v := 0) (by decide +kernel) rfl (sn_istore (i := 6) (by decide +kernel) (Nat.le_of_ble_eq_true rfl) (sn_iconst (n := 0) (v := 0) (by decide +kernel) rfl (sn_istore (i := 7) (by decide +kernel) (Nat.le_of_ble_eq_true rfl) (hk 22)))))))))))))
noncomputable def LK_X5_tellNaps : Nat → Nat → en_B
  | 0, _ => en_no
  | n + 1, t => if t = 22 then B_X5_tellNaps_22 (LK_X5_tellNaps n) else en_no
theorem l_X5_tellNaps (G : en_G) (hst : G.2.2.2.2.2 = true) : ∀ n t, en_Snd G M_X5_tellNaps t (LK_X5_tellNaps n t)
  | 0, _ => sn_no
  | n + 1, t => by
    show en_Snd G M_X5_tellNaps t (if t = 22 then B_X5_tellNaps_22 (LK_X5_tellNaps n) else en_no)
    by_cases h_22 : t = 22
    · rw [if_pos h_22, h_22]; exact s_X5_tellNaps_22 G hst _ (l_X5_tellNaps G hst n)
    rw [if_neg h_22]
    exact sn_no
noncomputable def T_X5_tellNaps_0 (k1 : Nat) (x2 : Int32) (σ : en_M) : en_R := B_X5_tellNaps_0 (LK_X5_tellNaps en_FU) [.inr (103, 5, 0, 0), .inr (k1, 7, 0, 0), .inl x2, .inr (3, 9, 0, 0), en_un, en_un, en_un, en_un, en_un] [] en_zz σ
noncomputable def T_X5_tellNaps_22 (n : Nat) (k1 : Nat) (x2 : Int32) (x4 : Int32) (x5 : Int32) (x6 : Int32) (x7 : Int32) (u8 : en_V) (σ : en_M) : en_R := LK_X5_tellNaps n 22 [.inr (103, 5, 0, 0), .inr (k1, 7, 0, 0), .inl x2, .inr (3, 9, 0, 0), .inl x4, .inl x5, .inl x6, .inl x7, u8] [] en_zz σ
set_option maxRecDepth 400000 in
set_option maxHeartbeats 4000000 in
theorem t_X5_tellNaps_0 (k1 : Nat) (x2 : Int32) (σ : en_M) : T_X5_tellNaps_0 k1 x2 σ = ((O_X9_begin [.inr (3, 9, 0, 0)] σ).bind fun r1 => T_X5_tellNaps_22 en_FU k1 x2 (r1 k1 7) (r1 k1 8) (0 : Int32) (0 : Int32) (en_un) r1) := rfl
set_option maxRecDepth 400000 in
set_option maxHeartbeats 4000000 in
theorem t_X5_tellNaps_22 (n : Nat) (k1 : Nat) (x2 : Int32) (x4 : Int32) (x5 : Int32) (x6 : Int32) (x7 : Int32) (u8 : en_V) (σ : en_M) : T_X5_tellNaps_22 (n + 1) k1 x2 x4 x5 x6 x7 u8 σ = (if x7 < x2 then ((O_X5_nextSet [.inr (103, 5, 0, 0), .inl x7, .inl x6, .inl x4, .inl x5] σ).bind fun r2 => (O_J9_max_7cf53 [.inl (0 : Int32), .inl r2.1] r2.2).bind fun r3 => (O_X9_add [.inr (3, 9, 0, 0), .inl r3.1] r3.2).bind fun r4 => (O_X5_napsWith [.inr (103, 5, 0, 0), .inl x6, .inl r3.1] r4).bind fun r5 => (en_ix x7 12).bind fun j6 => (en_ix r3.1 128).bind fun j7 => T_X5_tellNaps_22 n k1 x2 r3.1 (r5.2 (118 + 1 + j6) j7) r5.1 (x7 + (1 : Int32)) (.inl r3.1) r5.2) else (en_rv σ)) := rfl
noncomputable def P_X5_tellNaps : List en_V → en_M → Option en_M := fun av σ => match av with
  | [.inr (103, 5, 0, 0), .inr (k1, 7, 0, 0), .inl x2, .inr (3, 9, 0, 0)] => en_ov (T_X5_tellNaps_0 k1 x2 σ)
  | _ => none
theorem ox_X5_tellNaps : ∃ f, f = P_X5_tellNaps := ⟨_, rfl⟩
noncomputable def O_X5_tellNaps : List en_V → en_M → Option en_M := Classical.choose ox_X5_tellNaps
theorem oe_X5_tellNaps : O_X5_tellNaps = P_X5_tellNaps := Classical.choose_spec ox_X5_tellNaps
theorem o_X5_tellNaps (k1 : Nat) (x2 : Int32) (σ : en_M) : O_X5_tellNaps [.inr (103, 5, 0, 0), .inr (k1, 7, 0, 0), .inl x2, .inr (3, 9, 0, 0)] σ = en_ov (T_X5_tellNaps_0 k1 x2 σ) := by rw [oe_X5_tellNaps]; rfl
theorem i_X5_tellNaps (G : en_G) (hst : G.2.2.2.2.2 = true) : en_I G 5 yX5_tellNaps cX5_tellNaps 9 none 0 0 (en_wv (O_X5_tellNaps)) := en_of_v (M := M_X5_tellNaps) hst (s_X5_tellNaps_0 G hst _ (l_X5_tellNaps G hst en_FU)) (plainFor_of_name (by decide +kernel)) rfl rfl rfl (fun av σ σ' h => by
  rw [oe_X5_tellNaps] at h; unfold P_X5_tellNaps at h
  split at h
  · exact ⟨(Nat.le_of_ble_eq_true rfl), en_ov_some h⟩
  · cases h)
-- EachMayMissOne$Plan.fewestRounds(LEachMayMissOne$State;IIILEachMayMissOne$Told;)I
def M_X5_fewestRounds : en_Me := (cX5_fewestRounds, RX5, 8, false, 6, false)
theorem cs_X5_fewestRounds : en_cs yX5_fewestRounds cX5_fewestRounds 8 (some .int) 5 := ⟨wm_908, wm_42, ⟨(by decide +kernel), (by decide +kernel), (by decide +kernel)⟩, (Nat.le_of_ble_eq_true rfl)⟩
noncomputable def B_X5_fewestRounds_98 (kc : Nat → en_B) : en_B := (op_aload 0 (op_iload 7 (op_iload 6 (op_rcv 5 2 (op_callv O_X5_narrow 3 (op_aload 0 (op_aload 1 (op_iload 7 (op_aload 5 (op_rcv 5 3 (op_callv O_X5_tellNaps 4 (op_iload 7 op_iret))))))))))))
set_option maxRecDepth 20000 in
theorem s_X5_fewestRounds_98 (G : en_G) (hst : G.2.2.2.2.2 = true) (kc : Nat → en_B) (hk : ∀ t, en_Snd G M_X5_fewestRounds t (kc t)) : en_Snd G M_X5_fewestRounds 98 (B_X5_fewestRounds_98 kc) := (sn_aload_n (i := 0) (n := 0) (by decide +kernel) rfl (sn_iload (i := 7) (by decide +kernel) (sn_iload (i := 6) (by decide +kernel) (sn_callVv (n := 2) (idx := 95) (ci := 5) (i_X5_narrow G hst) (Nat.le_of_ble_eq_true rfl) cs_X5_narrow ⟨wm_932, wm_933, wm_914⟩ ⟨⟨_, rfl, rfl⟩, (Nat.le_of_ble_eq_true rfl)⟩ (by decide +kernel) (sn_aload_n (i := 0) (n := 0) (by decide +kernel) rfl (sn_aload_n (i := 1) (n := 1) (by decide +kernel) rfl (sn_iload (i := 7) (by decide +kernel) (sn_aload (i := 5) (by decide +kernel) (sn_callVv (n := 3) (idx := 99) (ci := 5) (i_X5_tellNaps G hst) (Nat.le_of_ble_eq_true rfl) cs_X5_tellNaps ⟨wm_947, wm_948, wm_915⟩ ⟨⟨_, rfl, rfl⟩, (Nat.le_of_ble_eq_true rfl)⟩ (by decide +kernel) (sn_iload (i := 7) (by decide +kernel) (sn_iret (by decide +kernel) rfl)))))))))))
noncomputable def B_X5_fewestRounds_82 (kc : Nat → en_B) : en_B := (op_aload 0 (op_gets 5 42 (23, 13, 1024) (op_iload 7 (op_aldM (op_iload 6 (op_ald 20 (op_ifeq (op_const (-2 : Int32) op_iret) (B_X5_fewestRounds_98 kc))))))))
set_option maxRecDepth 20000 in
theorem s_X5_fewestRounds_82 (G : en_G) (hst : G.2.2.2.2.2 = true) (kc : Nat → en_B) (hk : ∀ t, en_Snd G M_X5_fewestRounds t (kc t)) : en_Snd G M_X5_fewestRounds 82 (B_X5_fewestRounds_82 kc) := (sn_aload_n (i := 0) (n := 0) (by decide +kernel) rfl (sn_gets (ci := 5) (j := 4) (off := 42) hst en_c5 of_5_42 (Nat.le_of_ble_eq_true rfl) (by decide +kernel) wm_876 (Nat.le_of_ble_eq_true rfl) rfl (sn_iload (i := 7) (by decide +kernel) (sn_aldM hst (by decide +kernel) (sn_iload (i := 6) (by decide +kernel) (sn_iald (by decide +kernel) (sn_ifne (off := 6) (tgt := 98) (by decide +kernel) rfl (s_X5_fewestRounds_98 G hst kc hk) (sn_bipush (n := -2) (v := -2) (by decide +kernel) rfl (sn_iret (by decide +kernel) rfl)))))))))
noncomputable def B_X5_fewestRounds_50 (kc : Nat → en_B) : en_B := (op_iload 7 (op_iload 4 (op_iclt (op_aload 0 (op_gets 5 42 (23, 13, 1024) (op_iload 7 (op_aldM (op_iload 6 (op_ald 20 (op_ifeq (op_aload 0 (op_iload 7 (op_rcv 5 1 (op_callv O_X5_widen 2 (op_iinc 7 (1 : Int32) (kc 50)))))) (B_X5_fewestRounds_82 kc)))))))) (B_X5_fewestRounds_82 kc))))
set_option maxRecDepth 20000 in
theorem s_X5_fewestRounds_50 (G : en_G) (hst : G.2.2.2.2.2 = true) (kc : Nat → en_B) (hk : ∀ t, en_Snd G M_X5_fewestRounds t (kc t)) : en_Snd G M_X5_fewestRounds 50 (B_X5_fewestRounds_50 kc) := (sn_iload (i := 7) (by decide +kernel) (sn_iload (i := 4) (by decide +kernel) (sn_icge (off := 28) (tgt := 82) (by decide +kernel) rfl (s_X5_fewestRounds_82 G hst kc hk) (sn_aload_n (i := 0) (n := 0) (by decide +kernel) rfl (sn_gets (ci := 5) (j := 4) (off := 42) hst en_c5 of_5_42 (Nat.le_of_ble_eq_true rfl) (by decide +kernel) wm_876 (Nat.le_of_ble_eq_true rfl) rfl (sn_iload (i := 7) (by decide +kernel) (sn_aldM hst (by decide +kernel) (sn_iload (i := 6) (by decide +kernel) (sn_iald (by decide +kernel) (sn_ifne (off := 15) (tgt := 82) (by decide +kernel) rfl (s_X5_fewestRounds_82 G hst kc hk) (sn_aload_n (i := 0) (n := 0) (by decide +kernel) rfl (sn_iload (i := 7) (by decide +kernel) (sn_callVv (n := 1) (idx := 92) (ci := 5) (i_X5_widen G hst) (Nat.le_of_ble_eq_true rfl) cs_X5_widen ⟨wm_925, wm_926, wm_913⟩ ⟨⟨_, rfl, rfl⟩, (Nat.le_of_ble_eq_true rfl)⟩ (by decide +kernel) (sn_iinc (i := 7) (n := 1) (v := 1) (by decide +kernel) rfl (sn_goto (off := -29) (tgt := 50) (by decide +kernel) rfl (hk 50))))))))))))))))
noncomputable def B_X5_fewestRounds_40 (kc : Nat → en_B) : en_B := (op_aload 0 (op_aload 1 (op_iload 4 (op_rcv 5 2 (op_callv O_X5_beginNaps 3 (op_const (1 : Int32) (op_istore 7 (kc 50))))))))
set_option maxRecDepth 20000 in
theorem s_X5_fewestRounds_40 (G : en_G) (hst : G.2.2.2.2.2 = true) (kc : Nat → en_B) (hk : ∀ t, en_Snd G M_X5_fewestRounds t (kc t)) : en_Snd G M_X5_fewestRounds 40 (B_X5_fewestRounds_40 kc) := (sn_aload_n (i := 0) (n := 0) (by decide +kernel) rfl (sn_aload_n (i := 1) (n := 1) (by decide +kernel) rfl (sn_iload (i := 4) (by decide +kernel) (sn_callVv (n := 2) (idx := 88) (ci := 5) (i_X5_beginNaps G hst) (Nat.le_of_ble_eq_true rfl) cs_X5_beginNaps ⟨wm_917, wm_918, wm_912⟩ ⟨⟨_, rfl, rfl⟩, (Nat.le_of_ble_eq_true rfl)⟩ (by decide +kernel) (sn_iconst (n := 1) (v := 1) (by decide +kernel) rfl (sn_istore (i := 7) (by decide +kernel) (Nat.le_of_ble_eq_true rfl) (hk 50)))))))
noncomputable def B_X5_fewestRounds_11 (kc : Nat → en_B) : en_B := (op_iload 7 (op_iload 2 (op_iclt (op_iload 7 (op_const (5 : Int32) (op_iclt (op_iload 6 (op_iload 3 (op_const (2 : Int32) (op_iload 7 (op_bin (fun (x y : Int32) => x * y) (op_bin en_shl (op_bin (fun (x y : Int32) => x ||| y) (op_istore 6 (op_iinc 7 (1 : Int32) (kc 11)))))))))) (B_X5_fewestRounds_40 kc)))) (B_X5_fewestRounds_40 kc))))
set_option maxRecDepth 20000 in
theorem s_X5_fewestRounds_11 (G : en_G) (hst : G.2.2.2.2.2 = true) (kc : Nat → en_B) (hk : ∀ t, en_Snd G M_X5_fewestRounds t (kc t)) : en_Snd G M_X5_fewestRounds 11 (B_X5_fewestRounds_11 kc) := (sn_iload (i := 7) (by decide +kernel) (sn_iload_n (i := 2) (n := 2) (by decide +kernel) rfl (sn_icge (off := 26) (tgt := 40) (by decide +kernel) rfl (s_X5_fewestRounds_40 G hst kc hk) (sn_iload (i := 7) (by decide +kernel) (sn_iconst (n := 5) (v := 5) (by decide +kernel) rfl (sn_icge (off := 20) (tgt := 40) (by decide +kernel) rfl (s_X5_fewestRounds_40 G hst kc hk) (sn_iload (i := 6) (by decide +kernel) (sn_iload_n (i := 3) (n := 3) (by decide +kernel) rfl (sn_iconst (n := 2) (v := 2) (by decide +kernel) rfl (sn_iload (i := 7) (by decide +kernel) (sn_imul (by decide +kernel) (sn_ishl (by decide +kernel) (sn_ior (by decide +kernel) (sn_istore (i := 6) (by decide +kernel) (Nat.le_of_ble_eq_true rfl) (sn_iinc (i := 7) (n := 1) (v := 1) (by decide +kernel) rfl (sn_goto (off := -26) (tgt := 11) (by decide +kernel) rfl (hk 11)))))))))))))))))
noncomputable def B_X5_fewestRounds_0 (kc : Nat → en_B) : en_B := (op_aload 0 (op_iload 3 (op_puti 5 6 (op_const (0 : Int32) (op_istore 6 (op_const (0 : Int32) (op_istore 7 (kc 11))))))))
set_option maxRecDepth 20000 in
theorem s_X5_fewestRounds_0 (G : en_G) (hst : G.2.2.2.2.2 = true) (kc : Nat → en_B) (hk : ∀ t, en_Snd G M_X5_fewestRounds t (kc t)) : en_Snd G M_X5_fewestRounds 0 (B_X5_fewestRounds_0 kc) := (sn_aload_n (i := 0) (n := 0) (by decide +kernel) rfl (sn_iload_n (i := 3) (n := 3) (by decide +kernel) rfl (sn_puti (ci := 5) (j := 6) en_c5 (by decide +kernel) wm_911 (Nat.le_of_ble_eq_true rfl) rfl rfl rfl (sn_iconst (n := 0) (v := 0) (by decide +kernel) rfl (sn_istore (i := 6) (by decide +kernel) (Nat.le_of_ble_eq_true rfl) (sn_iconst (n := 0) (v := 0) (by decide +kernel) rfl (sn_istore (i := 7) (by decide +kernel) (Nat.le_of_ble_eq_true rfl) (hk 11))))))))
noncomputable def LK_X5_fewestRounds : Nat → Nat → en_B
  | 0, _ => en_no
  | n + 1, t => if t = 11 then B_X5_fewestRounds_11 (LK_X5_fewestRounds n) else if t = 50 then B_X5_fewestRounds_50 (LK_X5_fewestRounds n) else en_no
theorem l_X5_fewestRounds (G : en_G) (hst : G.2.2.2.2.2 = true) : ∀ n t, en_Snd G M_X5_fewestRounds t (LK_X5_fewestRounds n t)
  | 0, _ => sn_no
  | n + 1, t => by
    show en_Snd G M_X5_fewestRounds t (if t = 11 then B_X5_fewestRounds_11 (LK_X5_fewestRounds n) else if t = 50 then B_X5_fewestRounds_50 (LK_X5_fewestRounds n) else en_no)
    by_cases h_11 : t = 11
    · rw [if_pos h_11, h_11]; exact s_X5_fewestRounds_11 G hst _ (l_X5_fewestRounds G hst n)
    rw [if_neg h_11]
    by_cases h_50 : t = 50
    · rw [if_pos h_50, h_50]; exact s_X5_fewestRounds_50 G hst _ (l_X5_fewestRounds G hst n)
    rw [if_neg h_50]
    exact sn_no
noncomputable def T_X5_fewestRounds_0 (k1 : Nat) (x2 : Int32) (x3 : Int32) (x4 : Int32) (σ : en_M) : en_R := B_X5_fewestRounds_0 (LK_X5_fewestRounds en_FU) [.inr (103, 5, 0, 0), .inr (k1, 7, 0, 0), .inl x2, .inl x3, .inl x4, .inr (3, 9, 0, 0), en_un, en_un] [] en_zz σ
noncomputable def T_X5_fewestRounds_11 (n : Nat) (k1 : Nat) (x2 : Int32) (x3 : Int32) (x4 : Int32) (x6 : Int32) (x7 : Int32) (σ : en_M) : en_R := LK_X5_fewestRounds n 11 [.inr (103, 5, 0, 0), .inr (k1, 7, 0, 0), .inl x2, .inl x3, .inl x4, .inr (3, 9, 0, 0), .inl x6, .inl x7] [] en_zz σ
noncomputable def T_X5_fewestRounds_50 (n : Nat) (k1 : Nat) (x2 : Int32) (x3 : Int32) (x4 : Int32) (x6 : Int32) (x7 : Int32) (σ : en_M) : en_R := LK_X5_fewestRounds n 50 [.inr (103, 5, 0, 0), .inr (k1, 7, 0, 0), .inl x2, .inl x3, .inl x4, .inr (3, 9, 0, 0), .inl x6, .inl x7] [] en_zz σ
set_option maxRecDepth 400000 in
set_option maxHeartbeats 4000000 in
theorem t_X5_fewestRounds_0 (k1 : Nat) (x2 : Int32) (x3 : Int32) (x4 : Int32) (σ : en_M) : T_X5_fewestRounds_0 k1 x2 x3 x4 σ = (T_X5_fewestRounds_11 en_FU k1 x2 x3 x4 (0 : Int32) (0 : Int32) (en_up σ 103 6 x3)) := rfl
set_option maxRecDepth 400000 in
set_option maxHeartbeats 4000000 in
theorem t_X5_fewestRounds_11 (n : Nat) (k1 : Nat) (x2 : Int32) (x3 : Int32) (x4 : Int32) (x6 : Int32) (x7 : Int32) (σ : en_M) : T_X5_fewestRounds_11 (n + 1) k1 x2 x3 x4 x6 x7 σ = (if x7 < x2 then (if x7 < (5 : Int32) then (T_X5_fewestRounds_11 n k1 x2 x3 x4 (x6 ||| (en_shl x3 ((2 : Int32) * x7))) (x7 + (1 : Int32)) σ) else ((O_X5_beginNaps [.inr (103, 5, 0, 0), .inr (k1, 7, 0, 0), .inl x4] σ).bind fun r2 => T_X5_fewestRounds_50 n k1 x2 x3 x4 x6 (1 : Int32) r2)) else ((O_X5_beginNaps [.inr (103, 5, 0, 0), .inr (k1, 7, 0, 0), .inl x4] σ).bind fun r1 => T_X5_fewestRounds_50 n k1 x2 x3 x4 x6 (1 : Int32) r1)) := rfl
set_option maxRecDepth 400000 in
set_option maxHeartbeats 4000000 in
theorem t_X5_fewestRounds_50 (n : Nat) (k1 : Nat) (x2 : Int32) (x3 : Int32) (x4 : Int32) (x6 : Int32) (x7 : Int32) (σ : en_M) : T_X5_fewestRounds_50 (n + 1) k1 x2 x3 x4 x6 x7 σ = (if x7 < x4 then ((en_ix x7 13).bind fun j7 => (en_ix x6 1024).bind fun j8 => if (σ (145 + 1 + j7) j8) = 0 then ((O_X5_widen [.inr (103, 5, 0, 0), .inl x7] σ).bind fun r13 => T_X5_fewestRounds_50 n k1 x2 x3 x4 x6 (x7 + (1 : Int32)) r13) else ((en_ix x7 13).bind fun j9 => (en_ix x6 1024).bind fun j10 => if (σ (145 + 1 + j9) j10) = 0 then (en_ri (-2 : Int32) σ) else ((O_X5_narrow [.inr (103, 5, 0, 0), .inl x7, .inl x6] σ).bind fun r11 => (O_X5_tellNaps [.inr (103, 5, 0, 0), .inr (k1, 7, 0, 0), .inl x7, .inr (3, 9, 0, 0)] r11).bind fun r12 => en_ri x7 r12))) else ((en_ix x7 13).bind fun j3 => (en_ix x6 1024).bind fun j4 => if (σ (145 + 1 + j3) j4) = 0 then (en_ri (-2 : Int32) σ) else ((O_X5_narrow [.inr (103, 5, 0, 0), .inl x7, .inl x6] σ).bind fun r5 => (O_X5_tellNaps [.inr (103, 5, 0, 0), .inr (k1, 7, 0, 0), .inl x7, .inr (3, 9, 0, 0)] r5).bind fun r6 => en_ri x7 r6))) := rfl
noncomputable def P_X5_fewestRounds : List en_V → en_M → Option (Int32 × en_M) := fun av σ => match av with
  | [.inr (103, 5, 0, 0), .inr (k1, 7, 0, 0), .inl x2, .inl x3, .inl x4, .inr (3, 9, 0, 0)] => en_oi (T_X5_fewestRounds_0 k1 x2 x3 x4 σ)
  | _ => none
theorem ox_X5_fewestRounds : ∃ f, f = P_X5_fewestRounds := ⟨_, rfl⟩
noncomputable def O_X5_fewestRounds : List en_V → en_M → Option (Int32 × en_M) := Classical.choose ox_X5_fewestRounds
theorem oe_X5_fewestRounds : O_X5_fewestRounds = P_X5_fewestRounds := Classical.choose_spec ox_X5_fewestRounds
theorem o_X5_fewestRounds (k1 : Nat) (x2 : Int32) (x3 : Int32) (x4 : Int32) (σ : en_M) : O_X5_fewestRounds [.inr (103, 5, 0, 0), .inr (k1, 7, 0, 0), .inl x2, .inl x3, .inl x4, .inr (3, 9, 0, 0)] σ = en_oi (T_X5_fewestRounds_0 k1 x2 x3 x4 σ) := by rw [oe_X5_fewestRounds]; rfl
theorem i_X5_fewestRounds (G : en_G) (hst : G.2.2.2.2.2 = true) : en_I G 6 yX5_fewestRounds cX5_fewestRounds 8 (some .int) 0 0 (en_wi (O_X5_fewestRounds)) := en_of_i (M := M_X5_fewestRounds) hst (s_X5_fewestRounds_0 G hst _ (l_X5_fewestRounds G hst en_FU)) (plainFor_of_name (by decide +kernel)) rfl rfl rfl (Or.inl ⟨rfl, rfl⟩) (fun av σ x σ' h => by
  rw [oe_X5_fewestRounds] at h; unfold P_X5_fewestRounds at h
  split at h
  · exact ⟨(Nat.le_of_ble_eq_true rfl), en_oi_some h⟩
  · cases h)
