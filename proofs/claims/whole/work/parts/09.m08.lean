-- EachMayMissOne$Plan.nextSet(IIII)I
def M_X5_nextSet : en_Me := (cX5_nextSet, RX5, 7, false, 4, false)
theorem cs_X5_nextSet : en_cs yX5_nextSet cX5_nextSet 7 (some .int) 4 := ⟨wm_943, wm_42, ⟨(by decide +kernel), (by decide +kernel), (by decide +kernel)⟩, (Nat.le_of_ble_eq_true rfl)⟩
noncomputable def B_X5_nextSet_58 (kc : Nat → en_B) : en_B := (op_const (-1 : Int32) op_iret)
set_option maxRecDepth 20000 in
theorem s_X5_nextSet_58 (G : en_G) (hst : G.2.2.2.2.2 = true) (kc : Nat → en_B) (hk : ∀ t, en_Snd G M_X5_nextSet t (kc t)) : en_Snd G M_X5_nextSet 58 (B_X5_nextSet_58 kc) := (sn_iconst (n := -1) (v := -1) (by decide +kernel) rfl (sn_iret (by decide +kernel) rfl))
noncomputable def B_X5_nextSet_52 (kc : Nat → en_B) : en_B := (op_iinc 5 (1 : Int32) (kc 3))
set_option maxRecDepth 20000 in
theorem s_X5_nextSet_52 (G : en_G) (hst : G.2.2.2.2.2 = true) (kc : Nat → en_B) (hk : ∀ t, en_Snd G M_X5_nextSet t (kc t)) : en_Snd G M_X5_nextSet 52 (B_X5_nextSet_52 kc) := (sn_iinc (i := 5) (n := 1) (v := 1) (by decide +kernel) rfl (sn_goto (off := -52) (tgt := 3) (by decide +kernel) rfl (hk 3)))
noncomputable def B_X5_nextSet_3 (kc : Nat → en_B) : en_B := (op_iload 5 (op_aload 0 (op_gets 5 14 (20, 12, 0) (op_iload 1 (op_ald 20 (op_iclt (op_aload 0 (op_gets 5 1 (23, 12, 128) (op_iload 1 (op_aldM (op_iload 5 (op_ald 20 (op_istore 6 (op_aload 0 (op_iload 1 (op_iload 6 (op_iload 3 (op_iload 4 (op_rcv 5 4 (op_calli O_X5_mayFollow 5 (op_ifeq (B_X5_nextSet_52 kc) (op_aload 0 (op_iload 1 (op_iload 2 (op_iload 6 (op_rcv 5 3 (op_calli O_X5_leadsOn 4 (op_ifeq (B_X5_nextSet_52 kc) (op_iload 6 op_iret))))))))))))))))))))))) (B_X5_nextSet_58 kc)))))))
set_option maxRecDepth 20000 in
theorem s_X5_nextSet_3 (G : en_G) (hst : G.2.2.2.2.2 = true) (kc : Nat → en_B) (hk : ∀ t, en_Snd G M_X5_nextSet t (kc t)) : en_Snd G M_X5_nextSet 3 (B_X5_nextSet_3 kc) := (sn_iload (i := 5) (by decide +kernel) (sn_aload_n (i := 0) (n := 0) (by decide +kernel) rfl (sn_gets (ci := 5) (j := 1) (off := 14) hst en_c5 of_5_14 (Nat.le_of_ble_eq_true rfl) (by decide +kernel) wm_873 (Nat.le_of_ble_eq_true rfl) rfl (sn_iload_n (i := 1) (n := 1) (by decide +kernel) rfl (sn_iald (by decide +kernel) (sn_icge (off := 47) (tgt := 58) (by decide +kernel) rfl (s_X5_nextSet_58 G hst kc hk) (sn_aload_n (i := 0) (n := 0) (by decide +kernel) rfl (sn_gets (ci := 5) (j := 0) (off := 1) hst en_c5 of_5_1 (Nat.le_of_ble_eq_true rfl) (by decide +kernel) wm_872 (Nat.le_of_ble_eq_true rfl) rfl (sn_iload_n (i := 1) (n := 1) (by decide +kernel) rfl (sn_aldM hst (by decide +kernel) (sn_iload (i := 5) (by decide +kernel) (sn_iald (by decide +kernel) (sn_istore (i := 6) (by decide +kernel) (Nat.le_of_ble_eq_true rfl) (sn_aload_n (i := 0) (n := 0) (by decide +kernel) rfl (sn_iload_n (i := 1) (n := 1) (by decide +kernel) rfl (sn_iload (i := 6) (by decide +kernel) (sn_iload_n (i := 3) (n := 3) (by decide +kernel) rfl (sn_iload (i := 4) (by decide +kernel) (sn_callVi (n := 4) (idx := 81) (ci := 5) (i_X5_mayFollow G hst) (Nat.le_of_ble_eq_true rfl) cs_X5_mayFollow ⟨wm_885, wm_886, wm_907⟩ ⟨⟨_, rfl, rfl⟩, (Nat.le_of_ble_eq_true rfl)⟩ (by decide +kernel) (sn_ifeq (off := 17) (tgt := 52) (by decide +kernel) rfl (s_X5_nextSet_52 G hst kc hk) (sn_aload_n (i := 0) (n := 0) (by decide +kernel) rfl (sn_iload_n (i := 1) (n := 1) (by decide +kernel) rfl (sn_iload_n (i := 2) (n := 2) (by decide +kernel) rfl (sn_iload (i := 6) (by decide +kernel) (sn_callVi (n := 3) (idx := 115) (ci := 5) (i_X5_leadsOn G hst) (Nat.le_of_ble_eq_true rfl) cs_X5_leadsOn ⟨wm_940, wm_941, wm_938⟩ ⟨⟨_, rfl, rfl⟩, (Nat.le_of_ble_eq_true rfl)⟩ (by decide +kernel) (sn_ifeq (off := 6) (tgt := 52) (by decide +kernel) rfl (s_X5_nextSet_52 G hst kc hk) (sn_iload (i := 6) (by decide +kernel) (sn_iret (by decide +kernel) rfl))))))))))))))))))))))))))))
noncomputable def B_X5_nextSet_0 (kc : Nat → en_B) : en_B := (op_const (0 : Int32) (op_istore 5 (kc 3)))
set_option maxRecDepth 20000 in
theorem s_X5_nextSet_0 (G : en_G) (hst : G.2.2.2.2.2 = true) (kc : Nat → en_B) (hk : ∀ t, en_Snd G M_X5_nextSet t (kc t)) : en_Snd G M_X5_nextSet 0 (B_X5_nextSet_0 kc) := (sn_iconst (n := 0) (v := 0) (by decide +kernel) rfl (sn_istore (i := 5) (by decide +kernel) (Nat.le_of_ble_eq_true rfl) (hk 3)))
noncomputable def LK_X5_nextSet : Nat → Nat → en_B
  | 0, _ => en_no
  | n + 1, t => if t = 3 then B_X5_nextSet_3 (LK_X5_nextSet n) else en_no
theorem l_X5_nextSet (G : en_G) (hst : G.2.2.2.2.2 = true) : ∀ n t, en_Snd G M_X5_nextSet t (LK_X5_nextSet n t)
  | 0, _ => sn_no
  | n + 1, t => by
    show en_Snd G M_X5_nextSet t (if t = 3 then B_X5_nextSet_3 (LK_X5_nextSet n) else en_no)
    by_cases h_3 : t = 3
    · rw [if_pos h_3, h_3]; exact s_X5_nextSet_3 G hst _ (l_X5_nextSet G hst n)
    rw [if_neg h_3]
    exact sn_no
noncomputable def T_X5_nextSet_0 (x1 : Int32) (x2 : Int32) (x3 : Int32) (x4 : Int32) (σ : en_M) : en_R := B_X5_nextSet_0 (LK_X5_nextSet en_FU) [.inr (103, 5, 0, 0), .inl x1, .inl x2, .inl x3, .inl x4, en_un, en_un] [] en_zz σ
noncomputable def T_X5_nextSet_3 (n : Nat) (x1 : Int32) (x2 : Int32) (x3 : Int32) (x4 : Int32) (x5 : Int32) (u6 : en_V) (σ : en_M) : en_R := LK_X5_nextSet n 3 [.inr (103, 5, 0, 0), .inl x1, .inl x2, .inl x3, .inl x4, .inl x5, u6] [] en_zz σ
set_option maxRecDepth 20000 in
set_option maxHeartbeats 2000000 in
theorem t_X5_nextSet_0 (x1 : Int32) (x2 : Int32) (x3 : Int32) (x4 : Int32) (σ : en_M) : T_X5_nextSet_0 x1 x2 x3 x4 σ = (T_X5_nextSet_3 en_FU x1 x2 x3 x4 (0 : Int32) (en_un) σ) := rfl
set_option maxRecDepth 20000 in
set_option maxHeartbeats 2000000 in
theorem t_X5_nextSet_3 (n : Nat) (x1 : Int32) (x2 : Int32) (x3 : Int32) (x4 : Int32) (x5 : Int32) (u6 : en_V) (σ : en_M) : T_X5_nextSet_3 (n + 1) x1 x2 x3 x4 x5 u6 σ = ((en_ix x1 12).bind fun j1 => if x5 < (σ 117 j1) then ((en_ix x1 12).bind fun j2 => (en_ix x5 128).bind fun j3 => (O_X5_mayFollow [.inr (103, 5, 0, 0), .inl x1, .inl (σ (104 + 1 + j2) j3), .inl x3, .inl x4] σ).bind fun r4 => if r4.1 = 0 then (T_X5_nextSet_3 n x1 x2 x3 x4 (x5 + (1 : Int32)) (.inl (σ (104 + 1 + j2) j3)) r4.2) else ((O_X5_leadsOn [.inr (103, 5, 0, 0), .inl x1, .inl x2, .inl (σ (104 + 1 + j2) j3)] r4.2).bind fun r5 => if r5.1 = 0 then (T_X5_nextSet_3 n x1 x2 x3 x4 (x5 + (1 : Int32)) (.inl (σ (104 + 1 + j2) j3)) r5.2) else (en_ri (σ (104 + 1 + j2) j3) r5.2))) else (en_ri (-1 : Int32) σ)) := rfl
noncomputable def P_X5_nextSet : List en_V → en_M → Option (Int32 × en_M) := fun av σ => match av with
  | [.inr (103, 5, 0, 0), .inl x1, .inl x2, .inl x3, .inl x4] => en_oi (T_X5_nextSet_0 x1 x2 x3 x4 σ)
  | _ => none
theorem ox_X5_nextSet : ∃ f, f = P_X5_nextSet := ⟨_, rfl⟩
noncomputable def O_X5_nextSet : List en_V → en_M → Option (Int32 × en_M) := Classical.choose ox_X5_nextSet
theorem oe_X5_nextSet : O_X5_nextSet = P_X5_nextSet := Classical.choose_spec ox_X5_nextSet
theorem o_X5_nextSet (x1 : Int32) (x2 : Int32) (x3 : Int32) (x4 : Int32) (σ : en_M) : O_X5_nextSet [.inr (103, 5, 0, 0), .inl x1, .inl x2, .inl x3, .inl x4] σ = en_oi (T_X5_nextSet_0 x1 x2 x3 x4 σ) := by rw [oe_X5_nextSet]; rfl
theorem i_X5_nextSet (G : en_G) (hst : G.2.2.2.2.2 = true) : en_I G 4 yX5_nextSet cX5_nextSet 7 (some .int) 0 0 (en_wi (O_X5_nextSet)) := en_of_i (M := M_X5_nextSet) hst (s_X5_nextSet_0 G hst _ (l_X5_nextSet G hst en_FU)) (plainFor_of_name (by decide +kernel)) rfl rfl rfl (Or.inl ⟨rfl, rfl⟩) (fun av σ x σ' h => by
  rw [oe_X5_nextSet] at h; unfold P_X5_nextSet at h
  split at h
  · exact ⟨(Nat.le_of_ble_eq_true rfl), en_oi_some h⟩
  · cases h)
-- EachMayMissOne$Plan.tellNaps(LEachMayMissOne$State;ILEachMayMissOne$Told;)V
def M_X5_tellNaps : en_Me := (cX5_tellNaps, RX5, 9, false, 5, false)
theorem cs_X5_tellNaps : en_cs yX5_tellNaps cX5_tellNaps 9 none 3 := ⟨wm_946, wm_42, ⟨(by decide +kernel), (by decide +kernel), (by decide +kernel)⟩, (Nat.le_of_ble_eq_true rfl)⟩
noncomputable def B_X5_tellNaps_84 (kc : Nat → en_B) : en_B := op_vret
set_option maxRecDepth 20000 in
theorem s_X5_tellNaps_84 (G : en_G) (hst : G.2.2.2.2.2 = true) (kc : Nat → en_B) (hk : ∀ t, en_Snd G M_X5_tellNaps t (kc t)) : en_Snd G M_X5_tellNaps 84 (B_X5_tellNaps_84 kc) := (sn_vret (by decide +kernel))
noncomputable def B_X5_tellNaps_22 (kc : Nat → en_B) : en_B := (op_iload 7 (op_iload 2 (op_iclt (op_const (0 : Int32) (op_aload 0 (op_iload 7 (op_iload 6 (op_iload 4 (op_iload 5 (op_rcv 5 4 (op_calli O_X5_nextSet 5 (op_calli O_J9_max_7cf53 2 (op_istore 8 (op_aload 3 (op_iload 8 (op_rcv 9 1 (op_callv O_X9_add 2 (op_aload 0 (op_iload 6 (op_iload 8 (op_rcv 5 2 (op_calli O_X5_napsWith 3 (op_istore 6 (op_iload 8 (op_istore 4 (op_aload 0 (op_gets 5 15 (23, 12, 128) (op_iload 7 (op_aldM (op_iload 8 (op_ald 20 (op_istore 5 (op_iinc 7 (1 : Int32) (kc 22))))))))))))))))))))))))))))))) (B_X5_tellNaps_84 kc))))
set_option maxRecDepth 20000 in
theorem s_X5_tellNaps_22 (G : en_G) (hst : G.2.2.2.2.2 = true) (kc : Nat → en_B) (hk : ∀ t, en_Snd G M_X5_tellNaps t (kc t)) : en_Snd G M_X5_tellNaps 22 (B_X5_tellNaps_22 kc) := (sn_iload (i := 7) (by decide +kernel) (sn_iload_n (i := 2) (n := 2) (by decide +kernel) rfl (sn_icge (off := 59) (tgt := 84) (by decide +kernel) rfl (s_X5_tellNaps_84 G hst kc hk) (sn_iconst (n := 0) (v := 0) (by decide +kernel) rfl (sn_aload_n (i := 0) (n := 0) (by decide +kernel) rfl (sn_iload (i := 7) (by decide +kernel) (sn_iload (i := 6) (by decide +kernel) (sn_iload (i := 4) (by decide +kernel) (sn_iload (i := 5) (by decide +kernel) (sn_callVi (n := 4) (idx := 122) (ci := 5) (i_X5_nextSet G hst) (Nat.le_of_ble_eq_true rfl) cs_X5_nextSet ⟨wm_944, wm_945, wm_949⟩ ⟨⟨_, rfl, rfl⟩, (Nat.le_of_ble_eq_true rfl)⟩ (by decide +kernel) (sn_callSi (n := 2) (idx := 126) (i_J9_max_7cf53 G hst) (Nat.le_of_ble_eq_true rfl) cs_J9_max_7cf53 ⟨wm_267, Or.inl wm_950⟩ (by decide +kernel) (sn_istore (i := 8) (by decide +kernel) (Nat.le_of_ble_eq_true rfl) (sn_aload_n (i := 3) (n := 3) (by decide +kernel) rfl (sn_iload (i := 8) (by decide +kernel) (sn_callVv (n := 1) (idx := 71) (ci := 9) (i_X9_add G hst) (Nat.le_of_ble_eq_true rfl) cs_X9_add ⟨wm_1090, wm_1091, wm_899⟩ ⟨⟨_, rfl, rfl⟩, (Nat.le_of_ble_eq_true rfl)⟩ (by decide +kernel) (sn_aload_n (i := 0) (n := 0) (by decide +kernel) rfl (sn_iload (i := 6) (by decide +kernel) (sn_iload (i := 8) (by decide +kernel) (sn_callVi (n := 2) (idx := 106) (ci := 5) (i_X5_napsWith G hst) (Nat.le_of_ble_eq_true rfl) cs_X5_napsWith ⟨wm_952, wm_953, wm_920⟩ ⟨⟨_, rfl, rfl⟩, (Nat.le_of_ble_eq_true rfl)⟩ (by decide +kernel) (sn_istore (i := 6) (by decide +kernel) (Nat.le_of_ble_eq_true rfl) (sn_iload (i := 8) (by decide +kernel) (sn_istore (i := 4) (by decide +kernel) (Nat.le_of_ble_eq_true rfl) (sn_aload_n (i := 0) (n := 0) (by decide +kernel) rfl (sn_gets (ci := 5) (j := 2) (off := 15) hst en_c5 of_5_15 (Nat.le_of_ble_eq_true rfl) (by decide +kernel) wm_874 (Nat.le_of_ble_eq_true rfl) rfl (sn_iload (i := 7) (by decide +kernel) (sn_aldM hst (by decide +kernel) (sn_iload (i := 8) (by decide +kernel) (sn_iald (by decide +kernel) (sn_istore (i := 5) (by decide +kernel) (Nat.le_of_ble_eq_true rfl) (sn_iinc (i := 7) (n := 1) (v := 1) (by decide +kernel) rfl (sn_goto (off := -59) (tgt := 22) (by decide +kernel) rfl (hk 22))))))))))))))))))))))))))))))))
noncomputable def B_X5_tellNaps_0 (kc : Nat → en_B) : en_B := (op_aload 3 (op_rcv 9 0 (op_callv O_X9_begin 1 (op_aload 1 (op_geti 7 7 (op_istore 4 (op_aload 1 (op_geti 7 8 (op_istore 5 (op_const (0 : Int32) (op_istore 6 (op_const (0 : Int32) (op_istore 7 (kc 22))))))))))))))
set_option maxRecDepth 20000 in
theorem s_X5_tellNaps_0 (G : en_G) (hst : G.2.2.2.2.2 = true) (kc : Nat → en_B) (hk : ∀ t, en_Snd G M_X5_tellNaps t (kc t)) : en_Snd G M_X5_tellNaps 0 (B_X5_tellNaps_0 kc) := (sn_aload_n (i := 3) (n := 3) (by decide +kernel) rfl (sn_callVv (n := 0) (idx := 59) (ci := 9) (i_X9_begin G hst) (Nat.le_of_ble_eq_true rfl) cs_X9_begin ⟨wm_1086, wm_1087, wm_896⟩ ⟨⟨_, rfl, rfl⟩, (Nat.le_of_ble_eq_true rfl)⟩ (by decide +kernel) (sn_aload_n (i := 1) (n := 1) (by decide +kernel) rfl (sn_geti (ci := 7) (j := 7) en_c7 (by decide +kernel) wm_897 (Nat.le_of_ble_eq_true rfl) rfl (sn_istore (i := 4) (by decide +kernel) (Nat.le_of_ble_eq_true rfl) (sn_aload_n (i := 1) (n := 1) (by decide +kernel) rfl (sn_geti (ci := 7) (j := 8) en_c7 (by decide +kernel) wm_898 (Nat.le_of_ble_eq_true rfl) rfl (sn_istore (i := 5) (by decide +kernel) (Nat.le_of_ble_eq_true rfl) (sn_iconst (n := 0) (v := 0) (by decide +kernel) rfl (sn_istore (i := 6) (by decide +kernel) (Nat.le_of_ble_eq_true rfl) (sn_iconst (n := 0) (v := 0) (by decide +kernel) rfl (sn_istore (i := 7) (by decide +kernel) (Nat.le_of_ble_eq_true rfl) (hk 22)))))))))))))
noncomputable def LK_X5_tellNaps : Nat → Nat → en_B
  | 0, _ => en_no
  | n + 1, t => if t = 22 then B_X5_tellNaps_22 (LK_X5_tellNaps n) else en_no
theorem l_X5_tellNaps (G : en_G) (hst : G.2.2.2.2.2 = true) : ∀ n t, en_Snd G M_X5_tellNaps t (LK_X5_tellNaps n t)
  | 0, _ => sn_no
  | n + 1, t => by
    show en_Snd G M_X5_tellNaps t (if t = 22 then B_X5_tellNaps_22 (LK_X5_tellNaps n) else en_no)
    by_cases h_22 : t = 22
    · rw [if_pos h_22, h_22]; exact s_X5_tellNaps_22 G hst _ (l_X5_tellNaps G hst n)
    rw [if_neg h_22]
    exact sn_no
noncomputable def T_X5_tellNaps_0 (k1 : Nat) (x2 : Int32) (σ : en_M) : en_R := B_X5_tellNaps_0 (LK_X5_tellNaps en_FU) [.inr (103, 5, 0, 0), .inr (k1, 7, 0, 0), .inl x2, .inr (3, 9, 0, 0), en_un, en_un, en_un, en_un, en_un] [] en_zz σ
noncomputable def T_X5_tellNaps_22 (n : Nat) (k1 : Nat) (x2 : Int32) (x4 : Int32) (x5 : Int32) (x6 : Int32) (x7 : Int32) (u8 : en_V) (σ : en_M) : en_R := LK_X5_tellNaps n 22 [.inr (103, 5, 0, 0), .inr (k1, 7, 0, 0), .inl x2, .inr (3, 9, 0, 0), .inl x4, .inl x5, .inl x6, .inl x7, u8] [] en_zz σ
set_option maxRecDepth 20000 in
set_option maxHeartbeats 2000000 in
theorem t_X5_tellNaps_0 (k1 : Nat) (x2 : Int32) (σ : en_M) : T_X5_tellNaps_0 k1 x2 σ = ((O_X9_begin [.inr (3, 9, 0, 0)] σ).bind fun r1 => T_X5_tellNaps_22 en_FU k1 x2 (r1 k1 7) (r1 k1 8) (0 : Int32) (0 : Int32) (en_un) r1) := rfl
set_option maxRecDepth 20000 in
set_option maxHeartbeats 2000000 in
theorem t_X5_tellNaps_22 (n : Nat) (k1 : Nat) (x2 : Int32) (x4 : Int32) (x5 : Int32) (x6 : Int32) (x7 : Int32) (u8 : en_V) (σ : en_M) : T_X5_tellNaps_22 (n + 1) k1 x2 x4 x5 x6 x7 u8 σ = (if x7 < x2 then ((O_X5_nextSet [.inr (103, 5, 0, 0), .inl x7, .inl x6, .inl x4, .inl x5] σ).bind fun r2 => (O_J9_max_7cf53 [.inl (0 : Int32), .inl r2.1] r2.2).bind fun r3 => (O_X9_add [.inr (3, 9, 0, 0), .inl r3.1] r3.2).bind fun r4 => (O_X5_napsWith [.inr (103, 5, 0, 0), .inl x6, .inl r3.1] r4).bind fun r5 => (en_ix x7 12).bind fun j6 => (en_ix r3.1 128).bind fun j7 => T_X5_tellNaps_22 n k1 x2 r3.1 (r5.2 (118 + 1 + j6) j7) r5.1 (x7 + (1 : Int32)) (.inl r3.1) r5.2) else (en_rv σ)) := rfl
noncomputable def P_X5_tellNaps : List en_V → en_M → Option en_M := fun av σ => match av with
  | [.inr (103, 5, 0, 0), .inr (k1, 7, 0, 0), .inl x2, .inr (3, 9, 0, 0)] => en_ov (T_X5_tellNaps_0 k1 x2 σ)
  | _ => none
theorem ox_X5_tellNaps : ∃ f, f = P_X5_tellNaps := ⟨_, rfl⟩
noncomputable def O_X5_tellNaps : List en_V → en_M → Option en_M := Classical.choose ox_X5_tellNaps
theorem oe_X5_tellNaps : O_X5_tellNaps = P_X5_tellNaps := Classical.choose_spec ox_X5_tellNaps
theorem o_X5_tellNaps (k1 : Nat) (x2 : Int32) (σ : en_M) : O_X5_tellNaps [.inr (103, 5, 0, 0), .inr (k1, 7, 0, 0), .inl x2, .inr (3, 9, 0, 0)] σ = en_ov (T_X5_tellNaps_0 k1 x2 σ) := by rw [oe_X5_tellNaps]; rfl
theorem i_X5_tellNaps (G : en_G) (hst : G.2.2.2.2.2 = true) : en_I G 5 yX5_tellNaps cX5_tellNaps 9 none 0 0 (en_wv (O_X5_tellNaps)) := en_of_v (M := M_X5_tellNaps) hst (s_X5_tellNaps_0 G hst _ (l_X5_tellNaps G hst en_FU)) (plainFor_of_name (by decide +kernel)) rfl rfl rfl (fun av σ σ' h => by
  rw [oe_X5_tellNaps] at h; unfold P_X5_tellNaps at h
  split at h
  · exact ⟨(Nat.le_of_ble_eq_true rfl), en_ov_some h⟩
  · cases h)
-- EachMayMissOne$Plan.fewestRounds(LEachMayMissOne$State;IIILEachMayMissOne$Told;)I
def M_X5_fewestRounds : en_Me := (cX5_fewestRounds, RX5, 8, false, 6, false)
theorem cs_X5_fewestRounds : en_cs yX5_fewestRounds cX5_fewestRounds 8 (some .int) 5 := ⟨wm_908, wm_42, ⟨(by decide +kernel), (by decide +kernel), (by decide +kernel)⟩, (Nat.le_of_ble_eq_true rfl)⟩
noncomputable def B_X5_fewestRounds_98 (kc : Nat → en_B) : en_B := (op_aload 0 (op_iload 7 (op_iload 6 (op_rcv 5 2 (op_callv O_X5_narrow 3 (op_aload 0 (op_aload 1 (op_iload 7 (op_aload 5 (op_rcv 5 3 (op_callv O_X5_tellNaps 4 (op_iload 7 op_iret))))))))))))
set_option maxRecDepth 20000 in
theorem s_X5_fewestRounds_98 (G : en_G) (hst : G.2.2.2.2.2 = true) (kc : Nat → en_B) (hk : ∀ t, en_Snd G M_X5_fewestRounds t (kc t)) : en_Snd G M_X5_fewestRounds 98 (B_X5_fewestRounds_98 kc) := (sn_aload_n (i := 0) (n := 0) (by decide +kernel) rfl (sn_iload (i := 7) (by decide +kernel) (sn_iload (i := 6) (by decide +kernel) (sn_callVv (n := 2) (idx := 95) (ci := 5) (i_X5_narrow G hst) (Nat.le_of_ble_eq_true rfl) cs_X5_narrow ⟨wm_932, wm_933, wm_914⟩ ⟨⟨_, rfl, rfl⟩, (Nat.le_of_ble_eq_true rfl)⟩ (by decide +kernel) (sn_aload_n (i := 0) (n := 0) (by decide +kernel) rfl (sn_aload_n (i := 1) (n := 1) (by decide +kernel) rfl (sn_iload (i := 7) (by decide +kernel) (sn_aload (i := 5) (by decide +kernel) (sn_callVv (n := 3) (idx := 99) (ci := 5) (i_X5_tellNaps G hst) (Nat.le_of_ble_eq_true rfl) cs_X5_tellNaps ⟨wm_947, wm_948, wm_915⟩ ⟨⟨_, rfl, rfl⟩, (Nat.le_of_ble_eq_true rfl)⟩ (by decide +kernel) (sn_iload (i := 7) (by decide +kernel) (sn_iret (by decide +kernel) rfl)))))))))))
noncomputable def B_X5_fewestRounds_82 (kc : Nat → en_B) : en_B := (op_aload 0 (op_gets 5 42 (23, 13, 1024) (op_iload 7 (op_aldM (op_iload 6 (op_ald 20 (op_ifeq (op_const (-2 : Int32) op_iret) (B_X5_fewestRounds_98 kc))))))))
set_option maxRecDepth 20000 in
theorem s_X5_fewestRounds_82 (G : en_G) (hst : G.2.2.2.2.2 = true) (kc : Nat → en_B) (hk : ∀ t, en_Snd G M_X5_fewestRounds t (kc t)) : en_Snd G M_X5_fewestRounds 82 (B_X5_fewestRounds_82 kc) := (sn_aload_n (i := 0) (n := 0) (by decide +kernel) rfl (sn_gets (ci := 5) (j := 4) (off := 42) hst en_c5 of_5_42 (Nat.le_of_ble_eq_true rfl) (by decide +kernel) wm_876 (Nat.le_of_ble_eq_true rfl) rfl (sn_iload (i := 7) (by decide +kernel) (sn_aldM hst (by decide +kernel) (sn_iload (i := 6) (by decide +kernel) (sn_iald (by decide +kernel) (sn_ifne (off := 6) (tgt := 98) (by decide +kernel) rfl (s_X5_fewestRounds_98 G hst kc hk) (sn_bipush (n := -2) (v := -2) (by decide +kernel) rfl (sn_iret (by decide +kernel) rfl)))))))))
noncomputable def B_X5_fewestRounds_50 (kc : Nat → en_B) : en_B := (op_iload 7 (op_iload 4 (op_iclt (op_aload 0 (op_gets 5 42 (23, 13, 1024) (op_iload 7 (op_aldM (op_iload 6 (op_ald 20 (op_ifeq (op_aload 0 (op_iload 7 (op_rcv 5 1 (op_callv O_X5_widen 2 (op_iinc 7 (1 : Int32) (kc 50)))))) (B_X5_fewestRounds_82 kc)))))))) (B_X5_fewestRounds_82 kc))))
set_option maxRecDepth 20000 in
theorem s_X5_fewestRounds_50 (G : en_G) (hst : G.2.2.2.2.2 = true) (kc : Nat → en_B) (hk : ∀ t, en_Snd G M_X5_fewestRounds t (kc t)) : en_Snd G M_X5_fewestRounds 50 (B_X5_fewestRounds_50 kc) := (sn_iload (i := 7) (by decide +kernel) (sn_iload (i := 4) (by decide +kernel) (sn_icge (off := 28) (tgt := 82) (by decide +kernel) rfl (s_X5_fewestRounds_82 G hst kc hk) (sn_aload_n (i := 0) (n := 0) (by decide +kernel) rfl (sn_gets (ci := 5) (j := 4) (off := 42) hst en_c5 of_5_42 (Nat.le_of_ble_eq_true rfl) (by decide +kernel) wm_876 (Nat.le_of_ble_eq_true rfl) rfl (sn_iload (i := 7) (by decide +kernel) (sn_aldM hst (by decide +kernel) (sn_iload (i := 6) (by decide +kernel) (sn_iald (by decide +kernel) (sn_ifne (off := 15) (tgt := 82) (by decide +kernel) rfl (s_X5_fewestRounds_82 G hst kc hk) (sn_aload_n (i := 0) (n := 0) (by decide +kernel) rfl (sn_iload (i := 7) (by decide +kernel) (sn_callVv (n := 1) (idx := 92) (ci := 5) (i_X5_widen G hst) (Nat.le_of_ble_eq_true rfl) cs_X5_widen ⟨wm_925, wm_926, wm_913⟩ ⟨⟨_, rfl, rfl⟩, (Nat.le_of_ble_eq_true rfl)⟩ (by decide +kernel) (sn_iinc (i := 7) (n := 1) (v := 1) (by decide +kernel) rfl (sn_goto (off := -29) (tgt := 50) (by decide +kernel) rfl (hk 50))))))))))))))))
noncomputable def B_X5_fewestRounds_40 (kc : Nat → en_B) : en_B := (op_aload 0 (op_aload 1 (op_iload 4 (op_rcv 5 2 (op_callv O_X5_beginNaps 3 (op_const (1 : Int32) (op_istore 7 (kc 50))))))))
set_option maxRecDepth 20000 in
theorem s_X5_fewestRounds_40 (G : en_G) (hst : G.2.2.2.2.2 = true) (kc : Nat → en_B) (hk : ∀ t, en_Snd G M_X5_fewestRounds t (kc t)) : en_Snd G M_X5_fewestRounds 40 (B_X5_fewestRounds_40 kc) := (sn_aload_n (i := 0) (n := 0) (by decide +kernel) rfl (sn_aload_n (i := 1) (n := 1) (by decide +kernel) rfl (sn_iload (i := 4) (by decide +kernel) (sn_callVv (n := 2) (idx := 88) (ci := 5) (i_X5_beginNaps G hst) (Nat.le_of_ble_eq_true rfl) cs_X5_beginNaps ⟨wm_917, wm_918, wm_912⟩ ⟨⟨_, rfl, rfl⟩, (Nat.le_of_ble_eq_true rfl)⟩ (by decide +kernel) (sn_iconst (n := 1) (v := 1) (by decide +kernel) rfl (sn_istore (i := 7) (by decide +kernel) (Nat.le_of_ble_eq_true rfl) (hk 50)))))))
noncomputable def B_X5_fewestRounds_11 (kc : Nat → en_B) : en_B := (op_iload 7 (op_iload 2 (op_iclt (op_iload 7 (op_const (5 : Int32) (op_iclt (op_iload 6 (op_iload 3 (op_const (2 : Int32) (op_iload 7 (op_bin (fun (x y : Int32) => x * y) (op_bin en_shl (op_bin (fun (x y : Int32) => x ||| y) (op_istore 6 (op_iinc 7 (1 : Int32) (kc 11)))))))))) (B_X5_fewestRounds_40 kc)))) (B_X5_fewestRounds_40 kc))))
set_option maxRecDepth 20000 in
theorem s_X5_fewestRounds_11 (G : en_G) (hst : G.2.2.2.2.2 = true) (kc : Nat → en_B) (hk : ∀ t, en_Snd G M_X5_fewestRounds t (kc t)) : en_Snd G M_X5_fewestRounds 11 (B_X5_fewestRounds_11 kc) := (sn_iload (i := 7) (by decide +kernel) (sn_iload_n (i := 2) (n := 2) (by decide +kernel) rfl (sn_icge (off := 26) (tgt := 40) (by decide +kernel) rfl (s_X5_fewestRounds_40 G hst kc hk) (sn_iload (i := 7) (by decide +kernel) (sn_iconst (n := 5) (v := 5) (by decide +kernel) rfl (sn_icge (off := 20) (tgt := 40) (by decide +kernel) rfl (s_X5_fewestRounds_40 G hst kc hk) (sn_iload (i := 6) (by decide +kernel) (sn_iload_n (i := 3) (n := 3) (by decide +kernel) rfl (sn_iconst (n := 2) (v := 2) (by decide +kernel) rfl (sn_iload (i := 7) (by decide +kernel) (sn_imul (by decide +kernel) (sn_ishl (by decide +kernel) (sn_ior (by decide +kernel) (sn_istore (i := 6) (by decide +kernel) (Nat.le_of_ble_eq_true rfl) (sn_iinc (i := 7) (n := 1) (v := 1) (by decide +kernel) rfl (sn_goto (off := -26) (tgt := 11) (by decide +kernel) rfl (hk 11)))))))))))))))))
noncomputable def B_X5_fewestRounds_0 (kc : Nat → en_B) : en_B := (op_aload 0 (op_iload 3 (op_puti 5 6 (op_const (0 : Int32) (op_istore 6 (op_const (0 : Int32) (op_istore 7 (kc 11))))))))
set_option maxRecDepth 20000 in
theorem s_X5_fewestRounds_0 (G : en_G) (hst : G.2.2.2.2.2 = true) (kc : Nat → en_B) (hk : ∀ t, en_Snd G M_X5_fewestRounds t (kc t)) : en_Snd G M_X5_fewestRounds 0 (B_X5_fewestRounds_0 kc) := (sn_aload_n (i := 0) (n := 0) (by decide +kernel) rfl (sn_iload_n (i := 3) (n := 3) (by decide +kernel) rfl (sn_puti (ci := 5) (j := 6) en_c5 (by decide +kernel) wm_911 (Nat.le_of_ble_eq_true rfl) rfl rfl rfl (sn_iconst (n := 0) (v := 0) (by decide +kernel) rfl (sn_istore (i := 6) (by decide +kernel) (Nat.le_of_ble_eq_true rfl) (sn_iconst (n := 0) (v := 0) (by decide +kernel) rfl (sn_istore (i := 7) (by decide +kernel) (Nat.le_of_ble_eq_true rfl) (hk 11))))))))
noncomputable def LK_X5_fewestRounds : Nat → Nat → en_B
  | 0, _ => en_no
  | n + 1, t => if t = 11 then B_X5_fewestRounds_11 (LK_X5_fewestRounds n) else if t = 50 then B_X5_fewestRounds_50 (LK_X5_fewestRounds n) else en_no
theorem l_X5_fewestRounds (G : en_G) (hst : G.2.2.2.2.2 = true) : ∀ n t, en_Snd G M_X5_fewestRounds t (LK_X5_fewestRounds n t)
  | 0, _ => sn_no
  | n + 1, t => by
    show en_Snd G M_X5_fewestRounds t (if t = 11 then B_X5_fewestRounds_11 (LK_X5_fewestRounds n) else if t = 50 then B_X5_fewestRounds_50 (LK_X5_fewestRounds n) else en_no)
    by_cases h_11 : t = 11
    · rw [if_pos h_11, h_11]; exact s_X5_fewestRounds_11 G hst _ (l_X5_fewestRounds G hst n)
    rw [if_neg h_11]
    by_cases h_50 : t = 50
    · rw [if_pos h_50, h_50]; exact s_X5_fewestRounds_50 G hst _ (l_X5_fewestRounds G hst n)
    rw [if_neg h_50]
    exact sn_no
noncomputable def T_X5_fewestRounds_0 (k1 : Nat) (x2 : Int32) (x3 : Int32) (x4 : Int32) (σ : en_M) : en_R := B_X5_fewestRounds_0 (LK_X5_fewestRounds en_FU) [.inr (103, 5, 0, 0), .inr (k1, 7, 0, 0), .inl x2, .inl x3, .inl x4, .inr (3, 9, 0, 0), en_un, en_un] [] en_zz σ
noncomputable def T_X5_fewestRounds_11 (n : Nat) (k1 : Nat) (x2 : Int32) (x3 : Int32) (x4 : Int32) (x6 : Int32) (x7 : Int32) (σ : en_M) : en_R := LK_X5_fewestRounds n 11 [.inr (103, 5, 0, 0), .inr (k1, 7, 0, 0), .inl x2, .inl x3, .inl x4, .inr (3, 9, 0, 0), .inl x6, .inl x7] [] en_zz σ
noncomputable def T_X5_fewestRounds_50 (n : Nat) (k1 : Nat) (x2 : Int32) (x3 : Int32) (x4 : Int32) (x6 : Int32) (x7 : Int32) (σ : en_M) : en_R := LK_X5_fewestRounds n 50 [.inr (103, 5, 0, 0), .inr (k1, 7, 0, 0), .inl x2, .inl x3, .inl x4, .inr (3, 9, 0, 0), .inl x6, .inl x7] [] en_zz σ
set_option maxRecDepth 20000 in
set_option maxHeartbeats 2000000 in
theorem t_X5_fewestRounds_0 (k1 : Nat) (x2 : Int32) (x3 : Int32) (x4 : Int32) (σ : en_M) : T_X5_fewestRounds_0 k1 x2 x3 x4 σ = (T_X5_fewestRounds_11 en_FU k1 x2 x3 x4 (0 : Int32) (0 : Int32) (en_up σ 103 6 x3)) := rfl
set_option maxRecDepth 20000 in
set_option maxHeartbeats 2000000 in
theorem t_X5_fewestRounds_11 (n : Nat) (k1 : Nat) (x2 : Int32) (x3 : Int32) (x4 : Int32) (x6 : Int32) (x7 : Int32) (σ : en_M) : T_X5_fewestRounds_11 (n + 1) k1 x2 x3 x4 x6 x7 σ = (if x7 < x2 then (if x7 < (5 : Int32) then (T_X5_fewestRounds_11 n k1 x2 x3 x4 (x6 ||| (en_shl x3 ((2 : Int32) * x7))) (x7 + (1 : Int32)) σ) else ((O_X5_beginNaps [.inr (103, 5, 0, 0), .inr (k1, 7, 0, 0), .inl x4] σ).bind fun r2 => T_X5_fewestRounds_50 n k1 x2 x3 x4 x6 (1 : Int32) r2)) else ((O_X5_beginNaps [.inr (103, 5, 0, 0), .inr (k1, 7, 0, 0), .inl x4] σ).bind fun r1 => T_X5_fewestRounds_50 n k1 x2 x3 x4 x6 (1 : Int32) r1)) := rfl
set_option maxRecDepth 20000 in
set_option maxHeartbeats 2000000 in
theorem t_X5_fewestRounds_50 (n : Nat) (k1 : Nat) (x2 : Int32) (x3 : Int32) (x4 : Int32) (x6 : Int32) (x7 : Int32) (σ : en_M) : T_X5_fewestRounds_50 (n + 1) k1 x2 x3 x4 x6 x7 σ = (if x7 < x4 then ((en_ix x7 13).bind fun j7 => (en_ix x6 1024).bind fun j8 => if (σ (145 + 1 + j7) j8) = 0 then ((O_X5_widen [.inr (103, 5, 0, 0), .inl x7] σ).bind fun r13 => T_X5_fewestRounds_50 n k1 x2 x3 x4 x6 (x7 + (1 : Int32)) r13) else ((en_ix x7 13).bind fun j9 => (en_ix x6 1024).bind fun j10 => if (σ (145 + 1 + j9) j10) = 0 then (en_ri (-2 : Int32) σ) else ((O_X5_narrow [.inr (103, 5, 0, 0), .inl x7, .inl x6] σ).bind fun r11 => (O_X5_tellNaps [.inr (103, 5, 0, 0), .inr (k1, 7, 0, 0), .inl x7, .inr (3, 9, 0, 0)] r11).bind fun r12 => en_ri x7 r12))) else ((en_ix x7 13).bind fun j3 => (en_ix x6 1024).bind fun j4 => if (σ (145 + 1 + j3) j4) = 0 then (en_ri (-2 : Int32) σ) else ((O_X5_narrow [.inr (103, 5, 0, 0), .inl x7, .inl x6] σ).bind fun r5 => (O_X5_tellNaps [.inr (103, 5, 0, 0), .inr (k1, 7, 0, 0), .inl x7, .inr (3, 9, 0, 0)] r5).bind fun r6 => en_ri x7 r6))) := rfl
noncomputable def P_X5_fewestRounds : List en_V → en_M → Option (Int32 × en_M) := fun av σ => match av with
  | [.inr (103, 5, 0, 0), .inr (k1, 7, 0, 0), .inl x2, .inl x3, .inl x4, .inr (3, 9, 0, 0)] => en_oi (T_X5_fewestRounds_0 k1 x2 x3 x4 σ)
  | _ => none
theorem ox_X5_fewestRounds : ∃ f, f = P_X5_fewestRounds := ⟨_, rfl⟩
noncomputable def O_X5_fewestRounds : List en_V → en_M → Option (Int32 × en_M) := Classical.choose ox_X5_fewestRounds
theorem oe_X5_fewestRounds : O_X5_fewestRounds = P_X5_fewestRounds := Classical.choose_spec ox_X5_fewestRounds
theorem o_X5_fewestRounds (k1 : Nat) (x2 : Int32) (x3 : Int32) (x4 : Int32) (σ : en_M) : O_X5_fewestRounds [.inr (103, 5, 0, 0), .inr (k1, 7, 0, 0), .inl x2, .inl x3, .inl x4, .inr (3, 9, 0, 0)] σ = en_oi (T_X5_fewestRounds_0 k1 x2 x3 x4 σ) := by rw [oe_X5_fewestRounds]; rfl
theorem i_X5_fewestRounds (G : en_G) (hst : G.2.2.2.2.2 = true) : en_I G 6 yX5_fewestRounds cX5_fewestRounds 8 (some .int) 0 0 (en_wi (O_X5_fewestRounds)) := en_of_i (M := M_X5_fewestRounds) hst (s_X5_fewestRounds_0 G hst _ (l_X5_fewestRounds G hst en_FU)) (plainFor_of_name (by decide +kernel)) rfl rfl rfl (Or.inl ⟨rfl, rfl⟩) (fun av σ x σ' h => by
  rw [oe_X5_fewestRounds] at h; unfold P_X5_fewestRounds at h
  split at h
  · exact ⟨(Nat.le_of_ble_eq_true rfl), en_oi_some h⟩
  · cases h)
-- EachMayMissOne.sign(I)I
def M_X11_sign : en_Me := (cX11_sign, RX11, 2, false, 2, false)
theorem cs_X11_sign : en_cs yX11_sign cX11_sign 2 (some .int) 1 := ⟨wm_53, wm_2, ⟨(by decide +kernel), (by decide +kernel), (by decide +kernel)⟩, (Nat.le_of_ble_eq_true rfl)⟩
noncomputable def B_X11_sign_22 (kc : Nat → en_B) : en_B := op_iret
set_option maxRecDepth 20000 in
theorem s_X11_sign_22 (G : en_G) (hst : G.2.2.2.2.2 = true) (kc : Nat → en_B) (hk : ∀ t, en_Snd G M_X11_sign t (kc t)) : en_Snd G M_X11_sign 22 (B_X11_sign_22 kc) := (sn_iret (by decide +kernel) rfl)
noncomputable def B_X11_sign_21 (kc : Nat → en_B) : en_B := (op_const (-1 : Int32) (B_X11_sign_22 kc))
set_option maxRecDepth 20000 in
theorem s_X11_sign_21 (G : en_G) (hst : G.2.2.2.2.2 = true) (kc : Nat → en_B) (hk : ∀ t, en_Snd G M_X11_sign t (kc t)) : en_Snd G M_X11_sign 21 (B_X11_sign_21 kc) := (sn_iconst (n := -1) (v := -1) (by decide +kernel) rfl (s_X11_sign_22 G hst kc hk))
noncomputable def B_X11_sign_0 (kc : Nat → en_B) : en_B := (op_aload 0 (op_gets 11 1 (8, 0, 0) (op_iload 1 (op_rcv 8 1 (op_calli O_X8_addFour 2 (op_ifeq (B_X11_sign_21 kc) (op_aload 0 (op_gets 11 1 (8, 0, 0) (op_geti 8 1 (B_X11_sign_22 kc))))))))))
set_option maxRecDepth 20000 in
theorem s_X11_sign_0 (G : en_G) (hst : G.2.2.2.2.2 = true) (kc : Nat → en_B) (hk : ∀ t, en_Snd G M_X11_sign t (kc t)) : en_Snd G M_X11_sign 0 (B_X11_sign_0 kc) := (sn_aload_n (i := 0) (n := 0) (by decide +kernel) rfl (sn_gets (ci := 11) (j := 0) (off := 1) hst en_c11 of_11_1 (Nat.le_of_ble_eq_true rfl) (by decide +kernel) wm_8 (Nat.le_of_ble_eq_true rfl) rfl (sn_iload_n (i := 1) (n := 1) (by decide +kernel) rfl (sn_callVi (n := 1) (idx := 85) (ci := 8) (i_X8_addFour G hst) (Nat.le_of_ble_eq_true rfl) cs_X8_addFour ⟨wm_1069, wm_1070, wm_56⟩ ⟨⟨_, rfl, rfl⟩, (Nat.le_of_ble_eq_true rfl)⟩ (by decide +kernel) (sn_ifeq (off := 13) (tgt := 21) (by decide +kernel) rfl (s_X11_sign_21 G hst kc hk) (sn_aload_n (i := 0) (n := 0) (by decide +kernel) rfl (sn_gets (ci := 11) (j := 0) (off := 1) hst en_c11 of_11_1 (Nat.le_of_ble_eq_true rfl) (by decide +kernel) wm_8 (Nat.le_of_ble_eq_true rfl) rfl (sn_geti (ci := 8) (j := 1) en_c8 (by decide +kernel) wm_57 (Nat.le_of_ble_eq_true rfl) rfl (sn_goto (off := 4) (tgt := 22) (by decide +kernel) rfl (s_X11_sign_22 G hst kc hk))))))))))
noncomputable def LK_X11_sign : Nat → Nat → en_B
  | 0, _ => en_no
  | n + 1, t => en_no
theorem l_X11_sign (G : en_G) (hst : G.2.2.2.2.2 = true) : ∀ n t, en_Snd G M_X11_sign t (LK_X11_sign n t)
  | 0, _ => sn_no
  | n + 1, t => by
    show en_Snd G M_X11_sign t (en_no)
    exact sn_no
noncomputable def T_X11_sign_0 (x1 : Int32) (σ : en_M) : en_R := B_X11_sign_0 (LK_X11_sign en_FU) [.inr (0, 11, 0, 0), .inl x1] [] en_zz σ
set_option maxRecDepth 20000 in
set_option maxHeartbeats 2000000 in
theorem t_X11_sign_0 (x1 : Int32) (σ : en_M) : T_X11_sign_0 x1 σ = ((O_X8_addFour [.inr (1, 8, 0, 0), .inl x1] σ).bind fun r1 => if r1.1 = 0 then (en_ri (-1 : Int32) r1.2) else (en_ri (r1.2 1 1) r1.2)) := rfl
noncomputable def P_X11_sign : List en_V → en_M → Option (Int32 × en_M) := fun av σ => match av with
  | [.inr (0, 11, 0, 0), .inl x1] => en_oi (T_X11_sign_0 x1 σ)
  | _ => none
theorem ox_X11_sign : ∃ f, f = P_X11_sign := ⟨_, rfl⟩
noncomputable def O_X11_sign : List en_V → en_M → Option (Int32 × en_M) := Classical.choose ox_X11_sign
theorem oe_X11_sign : O_X11_sign = P_X11_sign := Classical.choose_spec ox_X11_sign
theorem o_X11_sign (x1 : Int32) (σ : en_M) : O_X11_sign [.inr (0, 11, 0, 0), .inl x1] σ = en_oi (T_X11_sign_0 x1 σ) := by rw [oe_X11_sign]; rfl
theorem i_X11_sign (G : en_G) (hst : G.2.2.2.2.2 = true) : en_I G 2 yX11_sign cX11_sign 2 (some .int) 0 0 (en_wi (O_X11_sign)) := en_of_i (M := M_X11_sign) hst (s_X11_sign_0 G hst _ (l_X11_sign G hst en_FU)) (plainFor_of_name (by decide +kernel)) rfl rfl rfl (Or.inl ⟨rfl, rfl⟩) (fun av σ x σ' h => by
  rw [oe_X11_sign] at h; unfold P_X11_sign at h
  split at h
  · exact ⟨(Nat.le_of_ble_eq_true rfl), en_oi_some h⟩
  · cases h)
-- EachMayMissOne.end(I)Z
def M_X11_end : en_Me := (cX11_end, RX11, 2, false, 2, true)
theorem cs_X11_end : en_cs yX11_end cX11_end 2 (some .boolean) 1 := ⟨wm_58, wm_2, ⟨(by decide +kernel), (by decide +kernel), (by decide +kernel)⟩, (Nat.le_of_ble_eq_true rfl)⟩
noncomputable def B_X11_end_0 (kc : Nat → en_B) : en_B := (op_aload 0 (op_gets 11 1 (8, 0, 0) (op_iload 1 (op_rcv 8 1 (op_calli O_X8_cutTo 2 op_zret)))))
set_option maxRecDepth 20000 in
theorem s_X11_end_0 (G : en_G) (hst : G.2.2.2.2.2 = true) (kc : Nat → en_B) (hk : ∀ t, en_Snd G M_X11_end t (kc t)) : en_Snd G M_X11_end 0 (B_X11_end_0 kc) := (sn_aload_n (i := 0) (n := 0) (by decide +kernel) rfl (sn_gets (ci := 11) (j := 0) (off := 1) hst en_c11 of_11_1 (Nat.le_of_ble_eq_true rfl) (by decide +kernel) wm_8 (Nat.le_of_ble_eq_true rfl) rfl (sn_iload_n (i := 1) (n := 1) (by decide +kernel) rfl (sn_callVi (n := 1) (idx := 93) (ci := 8) (i_X8_cutTo G hst) (Nat.le_of_ble_eq_true rfl) cs_X8_cutTo ⟨wm_1073, wm_1074, wm_61⟩ ⟨⟨_, rfl, rfl⟩, (Nat.le_of_ble_eq_true rfl)⟩ (by decide +kernel) (sn_zret (by decide +kernel))))))
noncomputable def LK_X11_end : Nat → Nat → en_B
  | 0, _ => en_no
  | n + 1, t => en_no
theorem l_X11_end (G : en_G) (hst : G.2.2.2.2.2 = true) : ∀ n t, en_Snd G M_X11_end t (LK_X11_end n t)
  | 0, _ => sn_no
  | n + 1, t => by
    show en_Snd G M_X11_end t (en_no)
    exact sn_no
noncomputable def T_X11_end_0 (x1 : Int32) (σ : en_M) : en_R := B_X11_end_0 (LK_X11_end en_FU) [.inr (0, 11, 0, 0), .inl x1] [] en_zz σ
set_option maxRecDepth 20000 in
set_option maxHeartbeats 2000000 in
theorem t_X11_end_0 (x1 : Int32) (σ : en_M) : T_X11_end_0 x1 σ = ((O_X8_cutTo [.inr (1, 8, 0, 0), .inl x1] σ).bind fun r1 => if r1.1 = 0 ∨ r1.1 = 1 then en_ri r1.1 r1.2 else none) := rfl
noncomputable def P_X11_end : List en_V → en_M → Option (Int32 × en_M) := fun av σ => match av with
  | [.inr (0, 11, 0, 0), .inl x1] => en_oi (T_X11_end_0 x1 σ)
  | _ => none
theorem ox_X11_end : ∃ f, f = P_X11_end := ⟨_, rfl⟩
noncomputable def O_X11_end : List en_V → en_M → Option (Int32 × en_M) := Classical.choose ox_X11_end
theorem oe_X11_end : O_X11_end = P_X11_end := Classical.choose_spec ox_X11_end
theorem o_X11_end (x1 : Int32) (σ : en_M) : O_X11_end [.inr (0, 11, 0, 0), .inl x1] σ = en_oi (T_X11_end_0 x1 σ) := by rw [oe_X11_end]; rfl
theorem i_X11_end (G : en_G) (hst : G.2.2.2.2.2 = true) : en_I G 2 yX11_end cX11_end 2 (some .boolean) 0 0 (en_wi (O_X11_end)) := en_of_i (M := M_X11_end) hst (s_X11_end_0 G hst _ (l_X11_end G hst en_FU)) (plainFor_of_name (by decide +kernel)) rfl rfl rfl (Or.inr ⟨rfl, rfl⟩) (fun av σ x σ' h => by
  rw [oe_X11_end] at h; unfold P_X11_end at h
  split at h
  · exact ⟨(Nat.le_of_ble_eq_true rfl), en_oi_some h⟩
  · cases h)
-- EachMayMissOne.tower()I
def M_X11_tower : en_Me := (cX11_tower, RX11, 2, false, 4, false)
theorem cs_X11_tower : en_cs yX11_tower cX11_tower 2 (some .int) 0 := ⟨wm_62, wm_2, ⟨(by decide +kernel), (by decide +kernel), (by decide +kernel)⟩, (Nat.le_of_ble_eq_true rfl)⟩
noncomputable def B_X11_tower_44 (kc : Nat → en_B) : en_B := (op_iload 1 op_iret)
set_option maxRecDepth 20000 in
theorem s_X11_tower_44 (G : en_G) (hst : G.2.2.2.2.2 = true) (kc : Nat → en_B) (hk : ∀ t, en_Snd G M_X11_tower t (kc t)) : en_Snd G M_X11_tower 44 (B_X11_tower_44 kc) := (sn_iload_n (i := 1) (n := 1) (by decide +kernel) rfl (sn_iret (by decide +kernel) rfl))
noncomputable def B_X11_tower_0 (kc : Nat → en_B) : en_B := (op_aload 0 (op_gets 11 5 (10, 0, 0) (op_aload 0 (op_gets 11 1 (8, 0, 0) (op_rcv 10 1 (op_calli O_X10_readWeights 2 (op_istore 1 (op_aload 0 (op_gets 11 1 (8, 0, 0) (op_rcv 8 0 (op_callv O_X8_clear 1 (op_iload 1 (op_ifgt (op_aload 0 (op_gets 11 15 (7, 0, 0) (op_rcv 7 0 (op_callv O_X7_begin 1 (op_aload 0 (op_gets 11 25 (4, 0, 0) (op_rcv 4 0 (op_callv O_X4_forget 1 (op_aload 0 (op_gets 11 87 (1, 0, 0) (op_rcv 1 0 (op_callv O_X1_forget 1 (B_X11_tower_44 kc))))))))))))) (B_X11_tower_44 kc))))))))))))))
set_option maxRecDepth 20000 in
theorem s_X11_tower_0 (G : en_G) (hst : G.2.2.2.2.2 = true) (kc : Nat → en_B) (hk : ∀ t, en_Snd G M_X11_tower t (kc t)) : en_Snd G M_X11_tower 0 (B_X11_tower_0 kc) := (sn_aload_n (i := 0) (n := 0) (by decide +kernel) rfl (sn_gets (ci := 11) (j := 2) (off := 5) hst en_c11 of_11_5 (Nat.le_of_ble_eq_true rfl) (by decide +kernel) wm_18 (Nat.le_of_ble_eq_true rfl) rfl (sn_aload_n (i := 0) (n := 0) (by decide +kernel) rfl (sn_gets (ci := 11) (j := 0) (off := 1) hst en_c11 of_11_1 (Nat.le_of_ble_eq_true rfl) (by decide +kernel) wm_8 (Nat.le_of_ble_eq_true rfl) rfl (sn_callVi (n := 1) (idx := 96) (ci := 10) (i_X10_readWeights G hst) (Nat.le_of_ble_eq_true rfl) cs_X10_readWeights ⟨wm_1108, wm_1109, wm_65⟩ ⟨⟨_, rfl, rfl⟩, (Nat.le_of_ble_eq_true rfl)⟩ (by decide +kernel) (sn_istore_n (i := 1) (n := 1) (by decide +kernel) rfl (Nat.le_of_ble_eq_true rfl) (sn_aload_n (i := 0) (n := 0) (by decide +kernel) rfl (sn_gets (ci := 11) (j := 0) (off := 1) hst en_c11 of_11_1 (Nat.le_of_ble_eq_true rfl) (by decide +kernel) wm_8 (Nat.le_of_ble_eq_true rfl) rfl (sn_callVv (n := 0) (idx := 100) (ci := 8) (i_X8_clear G hst) (Nat.le_of_ble_eq_true rfl) cs_X8_clear ⟨wm_1076, wm_1077, wm_66⟩ ⟨⟨_, rfl, rfl⟩, (Nat.le_of_ble_eq_true rfl)⟩ (by decide +kernel) (sn_iload_n (i := 1) (n := 1) (by decide +kernel) rfl (sn_ifle (off := 24) (tgt := 44) (by decide +kernel) rfl (s_X11_tower_44 G hst kc hk) (sn_aload_n (i := 0) (n := 0) (by decide +kernel) rfl (sn_gets (ci := 11) (j := 3) (off := 15) hst en_c11 of_11_15 (Nat.le_of_ble_eq_true rfl) (by decide +kernel) wm_23 (Nat.le_of_ble_eq_true rfl) rfl (sn_callVv (n := 0) (idx := 103) (ci := 7) (i_X7_begin G hst) (Nat.le_of_ble_eq_true rfl) cs_X7_begin ⟨wm_1033, wm_1034, wm_67⟩ ⟨⟨_, rfl, rfl⟩, (Nat.le_of_ble_eq_true rfl)⟩ (by decide +kernel) (sn_aload_n (i := 0) (n := 0) (by decide +kernel) rfl (sn_gets (ci := 11) (j := 5) (off := 25) hst en_c11 of_11_25 (Nat.le_of_ble_eq_true rfl) (by decide +kernel) wm_29 (Nat.le_of_ble_eq_true rfl) rfl (sn_callVv (n := 0) (idx := 106) (ci := 4) (i_X4_forget G hst) (Nat.le_of_ble_eq_true rfl) cs_X4_forget ⟨wm_866, wm_867, wm_68⟩ ⟨⟨_, rfl, rfl⟩, (Nat.le_of_ble_eq_true rfl)⟩ (by decide +kernel) (sn_aload_n (i := 0) (n := 0) (by decide +kernel) rfl (sn_gets (ci := 11) (j := 6) (off := 87) hst en_c11 of_11_87 (Nat.le_of_ble_eq_true rfl) (by decide +kernel) wm_34 (Nat.le_of_ble_eq_true rfl) rfl (sn_callVv (n := 0) (idx := 109) (ci := 1) (i_X1_forget G hst) (Nat.le_of_ble_eq_true rfl) cs_X1_forget ⟨wm_777, wm_778, wm_69⟩ ⟨⟨_, rfl, rfl⟩, (Nat.le_of_ble_eq_true rfl)⟩ (by decide +kernel) (s_X11_tower_44 G hst kc hk)))))))))))))))))))))
noncomputable def LK_X11_tower : Nat → Nat → en_B
  | 0, _ => en_no
  | n + 1, t => en_no
theorem l_X11_tower (G : en_G) (hst : G.2.2.2.2.2 = true) : ∀ n t, en_Snd G M_X11_tower t (LK_X11_tower n t)
  | 0, _ => sn_no
  | n + 1, t => by
    show en_Snd G M_X11_tower t (en_no)
    exact sn_no
noncomputable def T_X11_tower_0 (σ : en_M) : en_R := B_X11_tower_0 (LK_X11_tower en_FU) [.inr (0, 11, 0, 0), en_un] [] en_zz σ
set_option maxRecDepth 20000 in
set_option maxHeartbeats 2000000 in
theorem t_X11_tower_0 (σ : en_M) : T_X11_tower_0 σ = ((O_X10_readWeights [.inr (5, 10, 0, 0), .inr (1, 8, 0, 0)] σ).bind fun r1 => (O_X8_clear [.inr (1, 8, 0, 0)] r1.2).bind fun r2 => if 0 < r1.1 then ((O_X7_begin [.inr (15, 7, 0, 0)] r2).bind fun r3 => (O_X4_forget [.inr (25, 4, 0, 0)] r3).bind fun r4 => (O_X1_forget [.inr (87, 1, 0, 0)] r4).bind fun r5 => en_ri r1.1 r5) else (en_ri r1.1 r2)) := rfl
noncomputable def P_X11_tower : List en_V → en_M → Option (Int32 × en_M) := fun av σ => match av with
  | [.inr (0, 11, 0, 0)] => en_oi (T_X11_tower_0 σ)
  | _ => none
theorem ox_X11_tower : ∃ f, f = P_X11_tower := ⟨_, rfl⟩
noncomputable def O_X11_tower : List en_V → en_M → Option (Int32 × en_M) := Classical.choose ox_X11_tower
theorem oe_X11_tower : O_X11_tower = P_X11_tower := Classical.choose_spec ox_X11_tower
theorem o_X11_tower (σ : en_M) : O_X11_tower [.inr (0, 11, 0, 0)] σ = en_oi (T_X11_tower_0 σ) := by rw [oe_X11_tower]; rfl
theorem i_X11_tower (G : en_G) (hst : G.2.2.2.2.2 = true) : en_I G 4 yX11_tower cX11_tower 2 (some .int) 0 0 (en_wi (O_X11_tower)) := en_of_i (M := M_X11_tower) hst (s_X11_tower_0 G hst _ (l_X11_tower G hst en_FU)) (plainFor_of_name (by decide +kernel)) rfl rfl rfl (Or.inl ⟨rfl, rfl⟩) (fun av σ x σ' h => by
  rw [oe_X11_tower] at h; unfold P_X11_tower at h
  split at h
  · exact ⟨(Nat.le_of_ble_eq_true rfl), en_oi_some h⟩
  · cases h)
-- EachMayMissOne.method()I
def M_X11_method : en_Me := (cX11_method, RX11, 2, false, 4, false)
theorem cs_X11_method : en_cs yX11_method cX11_method 2 (some .int) 0 := ⟨wm_70, wm_2, ⟨(by decide +kernel), (by decide +kernel), (by decide +kernel)⟩, (Nat.le_of_ble_eq_true rfl)⟩
noncomputable def B_X11_method_47 (kc : Nat → en_B) : en_B := (op_iload 1 op_iret)
set_option maxRecDepth 20000 in
theorem s_X11_method_47 (G : en_G) (hst : G.2.2.2.2.2 = true) (kc : Nat → en_B) (hk : ∀ t, en_Snd G M_X11_method t (kc t)) : en_Snd G M_X11_method 47 (B_X11_method_47 kc) := (sn_iload_n (i := 1) (n := 1) (by decide +kernel) rfl (sn_iret (by decide +kernel) rfl))
noncomputable def B_X11_method_0 (kc : Nat → en_B) : en_B := (op_aload 0 (op_gets 11 5 (10, 0, 0) (op_gets 10 2 (0, 0, 0) (op_aload 0 (op_gets 11 1 (8, 0, 0) (op_aload 0 (op_gets 11 5 (10, 0, 0) (op_geti 10 3 (op_rcv 0 2 (op_calli O_X0_read 3 (op_istore 1 (op_aload 0 (op_gets 11 1 (8, 0, 0) (op_rcv 8 0 (op_callv O_X8_clear 1 (op_iload 1 (op_ifgt (op_aload 0 (op_gets 11 25 (4, 0, 0) (op_rcv 4 0 (op_callv O_X4_forget 1 (op_aload 0 (op_gets 11 87 (1, 0, 0) (op_rcv 1 0 (op_callv O_X1_forget 1 (B_X11_method_47 kc))))))))) (B_X11_method_47 kc))))))))))))))))))
set_option maxRecDepth 20000 in
theorem s_X11_method_0 (G : en_G) (hst : G.2.2.2.2.2 = true) (kc : Nat → en_B) (hk : ∀ t, en_Snd G M_X11_method t (kc t)) : en_Snd G M_X11_method 0 (B_X11_method_0 kc) := (sn_aload_n (i := 0) (n := 0) (by decide +kernel) rfl (sn_gets (ci := 11) (j := 2) (off := 5) hst en_c11 of_11_5 (Nat.le_of_ble_eq_true rfl) (by decide +kernel) wm_18 (Nat.le_of_ble_eq_true rfl) rfl (sn_gets (ci := 10) (j := 1) (off := 2) hst en_c10 of_10_2 (Nat.le_of_ble_eq_true rfl) (by decide +kernel) wm_73 (Nat.le_of_ble_eq_true rfl) rfl (sn_aload_n (i := 0) (n := 0) (by decide +kernel) rfl (sn_gets (ci := 11) (j := 0) (off := 1) hst en_c11 of_11_1 (Nat.le_of_ble_eq_true rfl) (by decide +kernel) wm_8 (Nat.le_of_ble_eq_true rfl) rfl (sn_aload_n (i := 0) (n := 0) (by decide +kernel) rfl (sn_gets (ci := 11) (j := 2) (off := 5) hst en_c11 of_11_5 (Nat.le_of_ble_eq_true rfl) (by decide +kernel) wm_18 (Nat.le_of_ble_eq_true rfl) rfl (sn_geti (ci := 10) (j := 3) en_c10 (by decide +kernel) wm_74 (Nat.le_of_ble_eq_true rfl) rfl (sn_callVi (n := 2) (idx := 117) (ci := 0) (i_X0_read G hst) (Nat.le_of_ble_eq_true rfl) cs_X0_read ⟨wm_729, wm_730, wm_75⟩ ⟨⟨_, rfl, rfl⟩, (Nat.le_of_ble_eq_true rfl)⟩ (by decide +kernel) (sn_istore_n (i := 1) (n := 1) (by decide +kernel) rfl (Nat.le_of_ble_eq_true rfl) (sn_aload_n (i := 0) (n := 0) (by decide +kernel) rfl (sn_gets (ci := 11) (j := 0) (off := 1) hst en_c11 of_11_1 (Nat.le_of_ble_eq_true rfl) (by decide +kernel) wm_8 (Nat.le_of_ble_eq_true rfl) rfl (sn_callVv (n := 0) (idx := 100) (ci := 8) (i_X8_clear G hst) (Nat.le_of_ble_eq_true rfl) cs_X8_clear ⟨wm_1076, wm_1077, wm_66⟩ ⟨⟨_, rfl, rfl⟩, (Nat.le_of_ble_eq_true rfl)⟩ (by decide +kernel) (sn_iload_n (i := 1) (n := 1) (by decide +kernel) rfl (sn_ifle (off := 17) (tgt := 47) (by decide +kernel) rfl (s_X11_method_47 G hst kc hk) (sn_aload_n (i := 0) (n := 0) (by decide +kernel) rfl (sn_gets (ci := 11) (j := 5) (off := 25) hst en_c11 of_11_25 (Nat.le_of_ble_eq_true rfl) (by decide +kernel) wm_29 (Nat.le_of_ble_eq_true rfl) rfl (sn_callVv (n := 0) (idx := 106) (ci := 4) (i_X4_forget G hst) (Nat.le_of_ble_eq_true rfl) cs_X4_forget ⟨wm_866, wm_867, wm_68⟩ ⟨⟨_, rfl, rfl⟩, (Nat.le_of_ble_eq_true rfl)⟩ (by decide +kernel) (sn_aload_n (i := 0) (n := 0) (by decide +kernel) rfl (sn_gets (ci := 11) (j := 6) (off := 87) hst en_c11 of_11_87 (Nat.le_of_ble_eq_true rfl) (by decide +kernel) wm_34 (Nat.le_of_ble_eq_true rfl) rfl (sn_callVv (n := 0) (idx := 109) (ci := 1) (i_X1_forget G hst) (Nat.le_of_ble_eq_true rfl) cs_X1_forget ⟨wm_777, wm_778, wm_69⟩ ⟨⟨_, rfl, rfl⟩, (Nat.le_of_ble_eq_true rfl)⟩ (by decide +kernel) (s_X11_method_47 G hst kc hk))))))))))))))))))))))
noncomputable def LK_X11_method : Nat → Nat → en_B
  | 0, _ => en_no
  | n + 1, t => en_no
theorem l_X11_method (G : en_G) (hst : G.2.2.2.2.2 = true) : ∀ n t, en_Snd G M_X11_method t (LK_X11_method n t)
  | 0, _ => sn_no
  | n + 1, t => by
    show en_Snd G M_X11_method t (en_no)
    exact sn_no
noncomputable def T_X11_method_0 (σ : en_M) : en_R := B_X11_method_0 (LK_X11_method en_FU) [.inr (0, 11, 0, 0), en_un] [] en_zz σ
set_option maxRecDepth 20000 in
set_option maxHeartbeats 2000000 in
theorem t_X11_method_0 (σ : en_M) : T_X11_method_0 σ = ((O_X0_read [.inr (7, 0, 0, 0), .inr (1, 8, 0, 0), .inl (σ 5 3)] σ).bind fun r1 => (O_X8_clear [.inr (1, 8, 0, 0)] r1.2).bind fun r2 => if 0 < r1.1 then ((O_X4_forget [.inr (25, 4, 0, 0)] r2).bind fun r3 => (O_X1_forget [.inr (87, 1, 0, 0)] r3).bind fun r4 => en_ri r1.1 r4) else (en_ri r1.1 r2)) := rfl
noncomputable def P_X11_method : List en_V → en_M → Option (Int32 × en_M) := fun av σ => match av with
  | [.inr (0, 11, 0, 0)] => en_oi (T_X11_method_0 σ)
  | _ => none
theorem ox_X11_method : ∃ f, f = P_X11_method := ⟨_, rfl⟩
noncomputable def O_X11_method : List en_V → en_M → Option (Int32 × en_M) := Classical.choose ox_X11_method
theorem oe_X11_method : O_X11_method = P_X11_method := Classical.choose_spec ox_X11_method
theorem o_X11_method (σ : en_M) : O_X11_method [.inr (0, 11, 0, 0)] σ = en_oi (T_X11_method_0 σ) := by rw [oe_X11_method]; rfl
theorem i_X11_method (G : en_G) (hst : G.2.2.2.2.2 = true) : en_I G 4 yX11_method cX11_method 2 (some .int) 0 0 (en_wi (O_X11_method)) := en_of_i (M := M_X11_method) hst (s_X11_method_0 G hst _ (l_X11_method G hst en_FU)) (plainFor_of_name (by decide +kernel)) rfl rfl rfl (Or.inl ⟨rfl, rfl⟩) (fun av σ x σ' h => by
  rw [oe_X11_method] at h; unfold P_X11_method at h
  split at h
  · exact ⟨(Nat.le_of_ble_eq_true rfl), en_oi_some h⟩
  · cases h)
-- EachMayMissOne.set(II)I
def M_X11_set : en_Me := (cX11_set, RX11, 4, false, 1, false)
theorem cs_X11_set : en_cs yX11_set cX11_set 4 (some .int) 2 := ⟨wm_98, wm_2, ⟨(by decide +kernel), (by decide +kernel), (by decide +kernel)⟩, (Nat.le_of_ble_eq_true rfl)⟩
noncomputable def B_X11_set_67 (kc : Nat → en_B) : en_B := (op_iload 3 op_iret)
set_option maxRecDepth 20000 in
theorem s_X11_set_67 (G : en_G) (hst : G.2.2.2.2.2 = true) (kc : Nat → en_B) (hk : ∀ t, en_Snd G M_X11_set t (kc t)) : en_Snd G M_X11_set 67 (B_X11_set_67 kc) := (sn_iload_n (i := 3) (n := 3) (by decide +kernel) rfl (sn_iret (by decide +kernel) rfl))
noncomputable def B_X11_set_35 (kc : Nat → en_B) : en_B := (op_iload 1 (op_const (1 : Int32) (op_iceq (op_iload 2 (op_const (1 : Int32) (op_iclt (B_X11_set_67 kc) (op_iload 2 (op_const (99 : Int32) (op_icgt (B_X11_set_67 kc) (op_aload 0 (op_gets 11 5 (10, 0, 0) (op_geti 10 6 (op_istore 3 (op_aload 0 (op_gets 11 5 (10, 0, 0) (op_iload 2 (op_puti 10 6 (B_X11_set_67 kc))))))))))))))) (B_X11_set_67 kc))))
set_option maxRecDepth 20000 in
theorem s_X11_set_35 (G : en_G) (hst : G.2.2.2.2.2 = true) (kc : Nat → en_B) (hk : ∀ t, en_Snd G M_X11_set t (kc t)) : en_Snd G M_X11_set 35 (B_X11_set_35 kc) := (sn_iload_n (i := 1) (n := 1) (by decide +kernel) rfl (sn_iconst (n := 1) (v := 1) (by decide +kernel) rfl (sn_icne (off := 30) (tgt := 67) (by decide +kernel) rfl (s_X11_set_67 G hst kc hk) (sn_iload_n (i := 2) (n := 2) (by decide +kernel) rfl (sn_iconst (n := 1) (v := 1) (by decide +kernel) rfl (sn_iclt (off := 25) (tgt := 67) (by decide +kernel) rfl (s_X11_set_67 G hst kc hk) (sn_iload_n (i := 2) (n := 2) (by decide +kernel) rfl (sn_bipush (n := 99) (v := 99) (by decide +kernel) rfl (sn_icgt (off := 19) (tgt := 67) (by decide +kernel) rfl (s_X11_set_67 G hst kc hk) (sn_aload_n (i := 0) (n := 0) (by decide +kernel) rfl (sn_gets (ci := 11) (j := 2) (off := 5) hst en_c11 of_11_5 (Nat.le_of_ble_eq_true rfl) (by decide +kernel) wm_18 (Nat.le_of_ble_eq_true rfl) rfl (sn_geti (ci := 10) (j := 6) en_c10 (by decide +kernel) wm_102 (Nat.le_of_ble_eq_true rfl) rfl (sn_istore_n (i := 3) (n := 3) (by decide +kernel) rfl (Nat.le_of_ble_eq_true rfl) (sn_aload_n (i := 0) (n := 0) (by decide +kernel) rfl (sn_gets (ci := 11) (j := 2) (off := 5) hst en_c11 of_11_5 (Nat.le_of_ble_eq_true rfl) (by decide +kernel) wm_18 (Nat.le_of_ble_eq_true rfl) rfl (sn_iload_n (i := 2) (n := 2) (by decide +kernel) rfl (sn_puti (ci := 10) (j := 6) en_c10 (by decide +kernel) wm_102 (Nat.le_of_ble_eq_true rfl) rfl rfl rfl (s_X11_set_67 G hst kc hk))))))))))))))))))
noncomputable def B_X11_set_0 (kc : Nat → en_B) : en_B := (op_const (-1 : Int32) (op_istore 3 (op_iload 1 (op_ifeq (op_iload 2 (op_const (1 : Int32) (op_iclt (B_X11_set_35 kc) (op_iload 2 (op_const (3 : Int32) (op_icgt (B_X11_set_35 kc) (op_aload 0 (op_gets 11 5 (10, 0, 0) (op_geti 10 5 (op_istore 3 (op_aload 0 (op_gets 11 5 (10, 0, 0) (op_iload 2 (op_puti 10 5 (B_X11_set_67 kc))))))))))))))) (B_X11_set_35 kc)))))
set_option maxRecDepth 20000 in
theorem s_X11_set_0 (G : en_G) (hst : G.2.2.2.2.2 = true) (kc : Nat → en_B) (hk : ∀ t, en_Snd G M_X11_set t (kc t)) : en_Snd G M_X11_set 0 (B_X11_set_0 kc) := (sn_iconst (n := -1) (v := -1) (by decide +kernel) rfl (sn_istore_n (i := 3) (n := 3) (by decide +kernel) rfl (Nat.le_of_ble_eq_true rfl) (sn_iload_n (i := 1) (n := 1) (by decide +kernel) rfl (sn_ifne (off := 32) (tgt := 35) (by decide +kernel) rfl (s_X11_set_35 G hst kc hk) (sn_iload_n (i := 2) (n := 2) (by decide +kernel) rfl (sn_iconst (n := 1) (v := 1) (by decide +kernel) rfl (sn_iclt (off := 27) (tgt := 35) (by decide +kernel) rfl (s_X11_set_35 G hst kc hk) (sn_iload_n (i := 2) (n := 2) (by decide +kernel) rfl (sn_iconst (n := 3) (v := 3) (by decide +kernel) rfl (sn_icgt (off := 22) (tgt := 35) (by decide +kernel) rfl (s_X11_set_35 G hst kc hk) (sn_aload_n (i := 0) (n := 0) (by decide +kernel) rfl (sn_gets (ci := 11) (j := 2) (off := 5) hst en_c11 of_11_5 (Nat.le_of_ble_eq_true rfl) (by decide +kernel) wm_18 (Nat.le_of_ble_eq_true rfl) rfl (sn_geti (ci := 10) (j := 5) en_c10 (by decide +kernel) wm_101 (Nat.le_of_ble_eq_true rfl) rfl (sn_istore_n (i := 3) (n := 3) (by decide +kernel) rfl (Nat.le_of_ble_eq_true rfl) (sn_aload_n (i := 0) (n := 0) (by decide +kernel) rfl (sn_gets (ci := 11) (j := 2) (off := 5) hst en_c11 of_11_5 (Nat.le_of_ble_eq_true rfl) (by decide +kernel) wm_18 (Nat.le_of_ble_eq_true rfl) rfl (sn_iload_n (i := 2) (n := 2) (by decide +kernel) rfl (sn_puti (ci := 10) (j := 5) en_c10 (by decide +kernel) wm_101 (Nat.le_of_ble_eq_true rfl) rfl rfl rfl (sn_goto (off := 35) (tgt := 67) (by decide +kernel) rfl (s_X11_set_67 G hst kc hk))))))))))))))))))))
noncomputable def LK_X11_set : Nat → Nat → en_B
  | 0, _ => en_no
  | n + 1, t => en_no
theorem l_X11_set (G : en_G) (hst : G.2.2.2.2.2 = true) : ∀ n t, en_Snd G M_X11_set t (LK_X11_set n t)
  | 0, _ => sn_no
  | n + 1, t => by
    show en_Snd G M_X11_set t (en_no)
    exact sn_no
noncomputable def T_X11_set_0 (x1 : Int32) (x2 : Int32) (σ : en_M) : en_R := B_X11_set_0 (LK_X11_set en_FU) [.inr (0, 11, 0, 0), .inl x1, .inl x2, en_un] [] en_zz σ
set_option maxRecDepth 20000 in
set_option maxHeartbeats 2000000 in
theorem t_X11_set_0 (x1 : Int32) (x2 : Int32) (σ : en_M) : T_X11_set_0 x1 x2 σ = (if x1 = 0 then (if x2 < (1 : Int32) then (if x1 = (1 : Int32) then (if x2 < (1 : Int32) then (en_ri (-1 : Int32) σ) else (if (99 : Int32) < x2 then (en_ri (-1 : Int32) σ) else (en_ri (σ 5 6) (en_up σ 5 6 x2)))) else (en_ri (-1 : Int32) σ)) else (if (3 : Int32) < x2 then (if x1 = (1 : Int32) then (if x2 < (1 : Int32) then (en_ri (-1 : Int32) σ) else (if (99 : Int32) < x2 then (en_ri (-1 : Int32) σ) else (en_ri (σ 5 6) (en_up σ 5 6 x2)))) else (en_ri (-1 : Int32) σ)) else (en_ri (σ 5 5) (en_up σ 5 5 x2)))) else (if x1 = (1 : Int32) then (if x2 < (1 : Int32) then (en_ri (-1 : Int32) σ) else (if (99 : Int32) < x2 then (en_ri (-1 : Int32) σ) else (en_ri (σ 5 6) (en_up σ 5 6 x2)))) else (en_ri (-1 : Int32) σ))) := rfl
noncomputable def P_X11_set : List en_V → en_M → Option (Int32 × en_M) := fun av σ => match av with
  | [.inr (0, 11, 0, 0), .inl x1, .inl x2] => en_oi (T_X11_set_0 x1 x2 σ)
  | _ => none
theorem ox_X11_set : ∃ f, f = P_X11_set := ⟨_, rfl⟩
noncomputable def O_X11_set : List en_V → en_M → Option (Int32 × en_M) := Classical.choose ox_X11_set
theorem oe_X11_set : O_X11_set = P_X11_set := Classical.choose_spec ox_X11_set
theorem o_X11_set (x1 : Int32) (x2 : Int32) (σ : en_M) : O_X11_set [.inr (0, 11, 0, 0), .inl x1, .inl x2] σ = en_oi (T_X11_set_0 x1 x2 σ) := by rw [oe_X11_set]; rfl
theorem i_X11_set (G : en_G) (hst : G.2.2.2.2.2 = true) : en_I G 1 yX11_set cX11_set 4 (some .int) 0 0 (en_wi (O_X11_set)) := en_of_i (M := M_X11_set) hst (s_X11_set_0 G hst _ (l_X11_set G hst en_FU)) (plainFor_of_name (by decide +kernel)) rfl rfl rfl (Or.inl ⟨rfl, rfl⟩) (fun av σ x σ' h => by
  rw [oe_X11_set] at h; unfold P_X11_set at h
  split at h
  · exact ⟨(Nat.le_of_ble_eq_true rfl), en_oi_some h⟩
  · cases h)
-- EachMayMissOne.narrowed(II)I
def M_X11_narrowed : en_Me := (cX11_narrowed, RX11, 2, false, 1, false)
theorem cs_X11_narrowed : en_cs yX11_narrowed cX11_narrowed 2 (some .int) 2 := ⟨wm_269, wm_2, ⟨(by decide +kernel), (by decide +kernel), (by decide +kernel)⟩, (Nat.le_of_ble_eq_true rfl)⟩
noncomputable def B_X11_narrowed_18 (kc : Nat → en_B) : en_B := op_iret
set_option maxRecDepth 20000 in
theorem s_X11_narrowed_18 (G : en_G) (hst : G.2.2.2.2.2 = true) (kc : Nat → en_B) (hk : ∀ t, en_Snd G M_X11_narrowed t (kc t)) : en_Snd G M_X11_narrowed 18 (B_X11_narrowed_18 kc) := (sn_iret (by decide +kernel) rfl)
noncomputable def B_X11_narrowed_17 (kc : Nat → en_B) : en_B := (op_iload 1 (B_X11_narrowed_18 kc))
set_option maxRecDepth 20000 in
theorem s_X11_narrowed_17 (G : en_G) (hst : G.2.2.2.2.2 = true) (kc : Nat → en_B) (hk : ∀ t, en_Snd G M_X11_narrowed t (kc t)) : en_Snd G M_X11_narrowed 17 (B_X11_narrowed_17 kc) := (sn_iload_n (i := 1) (n := 1) (by decide +kernel) rfl (s_X11_narrowed_18 G hst kc hk))
noncomputable def B_X11_narrowed_7 (kc : Nat → en_B) : en_B := (op_iload 0 (op_const (1 : Int32) (op_iceq (op_iload 1 (op_un en_i2s (B_X11_narrowed_18 kc))) (B_X11_narrowed_17 kc))))
set_option maxRecDepth 20000 in
theorem s_X11_narrowed_7 (G : en_G) (hst : G.2.2.2.2.2 = true) (kc : Nat → en_B) (hk : ∀ t, en_Snd G M_X11_narrowed t (kc t)) : en_Snd G M_X11_narrowed 7 (B_X11_narrowed_7 kc) := (sn_iload_n (i := 0) (n := 0) (by decide +kernel) rfl (sn_iconst (n := 1) (v := 1) (by decide +kernel) rfl (sn_icne (off := 8) (tgt := 17) (by decide +kernel) rfl (s_X11_narrowed_17 G hst kc hk) (sn_iload_n (i := 1) (n := 1) (by decide +kernel) rfl (sn_i2s (by decide +kernel) (sn_goto (off := 4) (tgt := 18) (by decide +kernel) rfl (s_X11_narrowed_18 G hst kc hk)))))))
noncomputable def B_X11_narrowed_0 (kc : Nat → en_B) : en_B := (op_iload 0 (op_ifeq (op_iload 1 (op_un en_i2b op_iret)) (B_X11_narrowed_7 kc)))
set_option maxRecDepth 20000 in
theorem s_X11_narrowed_0 (G : en_G) (hst : G.2.2.2.2.2 = true) (kc : Nat → en_B) (hk : ∀ t, en_Snd G M_X11_narrowed t (kc t)) : en_Snd G M_X11_narrowed 0 (B_X11_narrowed_0 kc) := (sn_iload_n (i := 0) (n := 0) (by decide +kernel) rfl (sn_ifne (off := 6) (tgt := 7) (by decide +kernel) rfl (s_X11_narrowed_7 G hst kc hk) (sn_iload_n (i := 1) (n := 1) (by decide +kernel) rfl (sn_i2b (by decide +kernel) (sn_iret (by decide +kernel) rfl)))))
noncomputable def LK_X11_narrowed : Nat → Nat → en_B
  | 0, _ => en_no
  | n + 1, t => en_no
theorem l_X11_narrowed (G : en_G) (hst : G.2.2.2.2.2 = true) : ∀ n t, en_Snd G M_X11_narrowed t (LK_X11_narrowed n t)
  | 0, _ => sn_no
  | n + 1, t => by
    show en_Snd G M_X11_narrowed t (en_no)
    exact sn_no
noncomputable def T_X11_narrowed_0 (x0 : Int32) (x1 : Int32) (σ : en_M) : en_R := B_X11_narrowed_0 (LK_X11_narrowed en_FU) [.inl x0, .inl x1] [] en_zz σ
set_option maxRecDepth 20000 in
set_option maxHeartbeats 2000000 in
theorem t_X11_narrowed_0 (x0 : Int32) (x1 : Int32) (σ : en_M) : T_X11_narrowed_0 x0 x1 σ = (if x0 = 0 then (en_ri (en_i2b x1) σ) else (if x0 = (1 : Int32) then (en_ri (en_i2s x1) σ) else (en_ri x1 σ))) := rfl
noncomputable def P_X11_narrowed : List en_V → en_M → Option (Int32 × en_M) := fun av σ => match av with
  | [.inl x0, .inl x1] => en_oi (T_X11_narrowed_0 x0 x1 σ)
  | _ => none
theorem ox_X11_narrowed : ∃ f, f = P_X11_narrowed := ⟨_, rfl⟩
noncomputable def O_X11_narrowed : List en_V → en_M → Option (Int32 × en_M) := Classical.choose ox_X11_narrowed
theorem oe_X11_narrowed : O_X11_narrowed = P_X11_narrowed := Classical.choose_spec ox_X11_narrowed
theorem o_X11_narrowed (x0 : Int32) (x1 : Int32) (σ : en_M) : O_X11_narrowed [.inl x0, .inl x1] σ = en_oi (T_X11_narrowed_0 x0 x1 σ) := by rw [oe_X11_narrowed]; rfl
theorem i_X11_narrowed (G : en_G) (hst : G.2.2.2.2.2 = true) : en_I G 1 yX11_narrowed cX11_narrowed 2 (some .int) 0 0 (en_wi (O_X11_narrowed)) := en_of_i (M := M_X11_narrowed) hst (s_X11_narrowed_0 G hst _ (l_X11_narrowed G hst en_FU)) (plainFor_of_name (by decide +kernel)) rfl rfl rfl (Or.inl ⟨rfl, rfl⟩) (fun av σ x σ' h => by
  rw [oe_X11_narrowed] at h; unfold P_X11_narrowed at h
  split at h
  · exact ⟨(Nat.le_of_ble_eq_true rfl), en_oi_some h⟩
  · cases h)
-- EachMayMissOne.sum([I)I
def M_X11_sum : en_Me := (cX11_sum, RX11, 6, false, 1, false)
theorem cs_X11_sum : en_cs yX11_sum cX11_sum 6 (some .int) 1 := ⟨wm_271, wm_2, ⟨(by decide +kernel), (by decide +kernel), (by decide +kernel)⟩, (Nat.le_of_ble_eq_true rfl)⟩
noncomputable def B_X11_sum_33 (kc : Nat → en_B) : en_B := (op_iload 1 op_iret)
set_option maxRecDepth 20000 in
theorem s_X11_sum_33 (G : en_G) (hst : G.2.2.2.2.2 = true) (kc : Nat → en_B) (hk : ∀ t, en_Snd G M_X11_sum t (kc t)) : en_Snd G M_X11_sum 33 (B_X11_sum_33 kc) := (sn_iload_n (i := 1) (n := 1) (by decide +kernel) rfl (sn_iret (by decide +kernel) rfl))
noncomputable def B_X11_sum_10 (kc : Nat → en_B) : en_B := (op_iload 4 (op_iload 3 (op_iclt (op_aload 2 (op_iload 4 (op_ald 20 (op_istore 5 (op_iload 1 (op_iload 5 (op_bin (fun (x y : Int32) => x + y) (op_istore 1 (op_iinc 4 (1 : Int32) (kc 10)))))))))) (B_X11_sum_33 kc))))
set_option maxRecDepth 20000 in
theorem s_X11_sum_10 (G : en_G) (hst : G.2.2.2.2.2 = true) (kc : Nat → en_B) (hk : ∀ t, en_Snd G M_X11_sum t (kc t)) : en_Snd G M_X11_sum 10 (B_X11_sum_10 kc) := (sn_iload (i := 4) (by decide +kernel) (sn_iload_n (i := 3) (n := 3) (by decide +kernel) rfl (sn_icge (off := 20) (tgt := 33) (by decide +kernel) rfl (s_X11_sum_33 G hst kc hk) (sn_aload_n (i := 2) (n := 2) (by decide +kernel) rfl (sn_iload (i := 4) (by decide +kernel) (sn_iald (by decide +kernel) (sn_istore (i := 5) (by decide +kernel) (Nat.le_of_ble_eq_true rfl) (sn_iload_n (i := 1) (n := 1) (by decide +kernel) rfl (sn_iload (i := 5) (by decide +kernel) (sn_iadd (by decide +kernel) (sn_istore_n (i := 1) (n := 1) (by decide +kernel) rfl (Nat.le_of_ble_eq_true rfl) (sn_iinc (i := 4) (n := 1) (v := 1) (by decide +kernel) rfl (sn_goto (off := -20) (tgt := 10) (by decide +kernel) rfl (hk 10))))))))))))))
noncomputable def B_X11_sum_0 (kc : Nat → en_B) : en_B := (op_const (0 : Int32) (op_istore 1 (op_aload 0 (op_astore 2 (op_aload 2 (op_alen (op_istore 3 (op_const (0 : Int32) (op_istore 4 (kc 10))))))))))
set_option maxRecDepth 20000 in
theorem s_X11_sum_0 (G : en_G) (hst : G.2.2.2.2.2 = true) (kc : Nat → en_B) (hk : ∀ t, en_Snd G M_X11_sum t (kc t)) : en_Snd G M_X11_sum 0 (B_X11_sum_0 kc) := (sn_iconst (n := 0) (v := 0) (by decide +kernel) rfl (sn_istore_n (i := 1) (n := 1) (by decide +kernel) rfl (Nat.le_of_ble_eq_true rfl) (sn_aload_n (i := 0) (n := 0) (by decide +kernel) rfl (sn_astore_n (i := 2) (n := 2) (by decide +kernel) rfl (Nat.le_of_ble_eq_true rfl) (sn_aload_n (i := 2) (n := 2) (by decide +kernel) rfl (sn_alen (by decide +kernel) (sn_istore_n (i := 3) (n := 3) (by decide +kernel) rfl (Nat.le_of_ble_eq_true rfl) (sn_iconst (n := 0) (v := 0) (by decide +kernel) rfl (sn_istore (i := 4) (by decide +kernel) (Nat.le_of_ble_eq_true rfl) (hk 10))))))))))
noncomputable def LK_X11_sum : Nat → Nat → en_B
  | 0, _ => en_no
  | n + 1, t => if t = 10 then B_X11_sum_10 (LK_X11_sum n) else en_no
theorem l_X11_sum (G : en_G) (hst : G.2.2.2.2.2 = true) : ∀ n t, en_Snd G M_X11_sum t (LK_X11_sum n t)
  | 0, _ => sn_no
  | n + 1, t => by
    show en_Snd G M_X11_sum t (if t = 10 then B_X11_sum_10 (LK_X11_sum n) else en_no)
    by_cases h_10 : t = 10
    · rw [if_pos h_10, h_10]; exact s_X11_sum_10 G hst _ (l_X11_sum G hst n)
    rw [if_neg h_10]
    exact sn_no
noncomputable def T_X11_sum_0 (k0 : Nat) (σ : en_M) : en_R := B_X11_sum_0 (LK_X11_sum en_FU) [.inr (k0, 20, 7, 0), en_un, en_un, en_un, en_un, en_un] [] en_zz σ
noncomputable def T_X11_sum_10 (n : Nat) (k0 : Nat) (x1 : Int32) (x3 : Int32) (x4 : Int32) (u5 : en_V) (σ : en_M) : en_R := LK_X11_sum n 10 [.inr (k0, 20, 7, 0), .inl x1, .inr (k0, 20, 7, 0), .inl x3, .inl x4, u5] [] en_zz σ
set_option maxRecDepth 20000 in
set_option maxHeartbeats 2000000 in
theorem t_X11_sum_0 (k0 : Nat) (σ : en_M) : T_X11_sum_0 k0 σ = (T_X11_sum_10 en_FU k0 (0 : Int32) (Int32.ofNat 7) (0 : Int32) (en_un) σ) := rfl
set_option maxRecDepth 20000 in
set_option maxHeartbeats 2000000 in
theorem t_X11_sum_10 (n : Nat) (k0 : Nat) (x1 : Int32) (x3 : Int32) (x4 : Int32) (u5 : en_V) (σ : en_M) : T_X11_sum_10 (n + 1) k0 x1 x3 x4 u5 σ = (if x4 < x3 then ((en_ix x4 7).bind fun j1 => T_X11_sum_10 n k0 (x1 + (σ k0 j1)) x3 (x4 + (1 : Int32)) (.inl (σ k0 j1)) σ) else (en_ri x1 σ)) := rfl
noncomputable def P_X11_sum : List en_V → en_M → Option (Int32 × en_M) := fun av σ => match av with
  | [.inr (k0, 20, 7, 0)] => en_oi (T_X11_sum_0 k0 σ)
  | _ => none
theorem ox_X11_sum : ∃ f, f = P_X11_sum := ⟨_, rfl⟩
noncomputable def O_X11_sum : List en_V → en_M → Option (Int32 × en_M) := Classical.choose ox_X11_sum
theorem oe_X11_sum : O_X11_sum = P_X11_sum := Classical.choose_spec ox_X11_sum
theorem o_X11_sum (k0 : Nat) (σ : en_M) : O_X11_sum [.inr (k0, 20, 7, 0)] σ = en_oi (T_X11_sum_0 k0 σ) := by rw [oe_X11_sum]; rfl
theorem i_X11_sum (G : en_G) (hst : G.2.2.2.2.2 = true) : en_I G 1 yX11_sum cX11_sum 6 (some .int) 0 0 (en_wi (O_X11_sum)) := en_of_i (M := M_X11_sum) hst (s_X11_sum_0 G hst _ (l_X11_sum G hst en_FU)) (plainFor_of_name (by decide +kernel)) rfl rfl rfl (Or.inl ⟨rfl, rfl⟩) (fun av σ x σ' h => by
  rw [oe_X11_sum] at h; unfold P_X11_sum at h
  split at h
  · exact ⟨(Nat.le_of_ble_eq_true rfl), en_oi_some h⟩
  · cases h)
