-- EachMayMissOneModel.wearyOf(I)I
def M_X12_wearyOf : en_Me := (cX12_wearyOf, RX12, 2, false, 1, false)
theorem cs_X12_wearyOf : en_cs yX12_wearyOf cX12_wearyOf 2 (some .int) 1 := ⟨wm_698, wm_337, ⟨(by decide +kernel), (by decide +kernel), (by decide +kernel)⟩, (Nat.le_of_ble_eq_true rfl)⟩
noncomputable def B_X12_wearyOf_0 (kc : Nat → en_B) : en_B := (op_aload 0 (op_gets 12 13 (20, 53, 0) (op_const (7 : Int32) (op_iload 1 (op_bin (fun (x y : Int32) => x + y) (op_ald 20 (op_const (100 : Int32) (op_aload 0 (op_gets 12 13 (20, 53, 0) (op_const (21 : Int32) (op_iload 1 (op_bin (fun (x y : Int32) => x + y) (op_ald 20 (op_aload 0 (op_gets 12 1 (20, 53, 0) (op_const (21 : Int32) (op_iload 1 (op_bin (fun (x y : Int32) => x + y) (op_ald 20 (op_bin (fun (x y : Int32) => x - y) (op_bin (fun (x y : Int32) => x * y) (op_bin (fun (x y : Int32) => x + y) op_iret))))))))))))))))))))))
set_option maxRecDepth 20000 in
theorem s_X12_wearyOf_0 (G : en_G) (hst : G.2.2.2.2.2 = true) (kc : Nat → en_B) (hk : ∀ t, en_Snd G M_X12_wearyOf t (kc t)) : en_Snd G M_X12_wearyOf 0 (B_X12_wearyOf_0 kc) := (sn_aload_n (i := 0) (n := 0) (by decide +kernel) rfl (sn_gets (ci := 12) (j := 31) (off := 13) hst en_c12 of_12_13 (Nat.le_of_ble_eq_true rfl) (by decide +kernel) wm_354 (Nat.le_of_ble_eq_true rfl) rfl (sn_bipush (n := 7) (v := 7) (by decide +kernel) rfl (sn_iload_n (i := 1) (n := 1) (by decide +kernel) rfl (sn_iadd (by decide +kernel) (sn_iald (by decide +kernel) (sn_bipush (n := 100) (v := 100) (by decide +kernel) rfl (sn_aload_n (i := 0) (n := 0) (by decide +kernel) rfl (sn_gets (ci := 12) (j := 31) (off := 13) hst en_c12 of_12_13 (Nat.le_of_ble_eq_true rfl) (by decide +kernel) wm_354 (Nat.le_of_ble_eq_true rfl) rfl (sn_bipush (n := 21) (v := 21) (by decide +kernel) rfl (sn_iload_n (i := 1) (n := 1) (by decide +kernel) rfl (sn_iadd (by decide +kernel) (sn_iald (by decide +kernel) (sn_aload_n (i := 0) (n := 0) (by decide +kernel) rfl (sn_gets (ci := 12) (j := 0) (off := 1) hst en_c12 of_12_1 (Nat.le_of_ble_eq_true rfl) (by decide +kernel) wm_339 (Nat.le_of_ble_eq_true rfl) rfl (sn_bipush (n := 21) (v := 21) (by decide +kernel) rfl (sn_iload_n (i := 1) (n := 1) (by decide +kernel) rfl (sn_iadd (by decide +kernel) (sn_iald (by decide +kernel) (sn_isub (by decide +kernel) (sn_imul (by decide +kernel) (sn_iadd (by decide +kernel) (sn_iret (by decide +kernel) rfl)))))))))))))))))))))))
noncomputable def LK_X12_wearyOf : Nat → Nat → en_B
  | 0, _ => en_no
  | n + 1, t => en_no
theorem l_X12_wearyOf (G : en_G) (hst : G.2.2.2.2.2 = true) : ∀ n t, en_Snd G M_X12_wearyOf t (LK_X12_wearyOf n t)
  | 0, _ => sn_no
  | n + 1, t => by
    show en_Snd G M_X12_wearyOf t (en_no)
    exact sn_no
noncomputable def T_X12_wearyOf_0 (x1 : Int32) (σ : en_M) : en_R := B_X12_wearyOf_0 (LK_X12_wearyOf en_FU) [.inr (185, 12, 0, 0), .inl x1] [] en_zz σ
set_option maxRecDepth 400000 in
set_option maxHeartbeats 4000000 in
theorem t_X12_wearyOf_0 (x1 : Int32) (σ : en_M) : T_X12_wearyOf_0 x1 σ = ((en_ix ((7 : Int32) + x1) 53).bind fun j1 => (en_ix ((21 : Int32) + x1) 53).bind fun j2 => (en_ix ((21 : Int32) + x1) 53).bind fun j3 => en_ri ((σ 198 j1) + ((100 : Int32) * ((σ 198 j2) - (σ 186 j3)))) σ) := rfl
noncomputable def P_X12_wearyOf : List en_V → en_M → Option (Int32 × en_M) := fun av σ => match av with
  | [.inr (185, 12, 0, 0), .inl x1] => en_oi (T_X12_wearyOf_0 x1 σ)
  | _ => none
theorem ox_X12_wearyOf : ∃ f, f = P_X12_wearyOf := ⟨_, rfl⟩
noncomputable def O_X12_wearyOf : List en_V → en_M → Option (Int32 × en_M) := Classical.choose ox_X12_wearyOf
theorem oe_X12_wearyOf : O_X12_wearyOf = P_X12_wearyOf := Classical.choose_spec ox_X12_wearyOf
theorem o_X12_wearyOf (x1 : Int32) (σ : en_M) : O_X12_wearyOf [.inr (185, 12, 0, 0), .inl x1] σ = en_oi (T_X12_wearyOf_0 x1 σ) := by rw [oe_X12_wearyOf]; rfl
theorem i_X12_wearyOf (G : en_G) (hst : G.2.2.2.2.2 = true) : en_I G 1 yX12_wearyOf cX12_wearyOf 2 (some .int) 0 0 (en_wi (O_X12_wearyOf)) := en_of_i (M := M_X12_wearyOf) hst (s_X12_wearyOf_0 G hst _ (l_X12_wearyOf G hst en_FU)) (plainFor_of_name (by decide +kernel)) rfl rfl rfl (Or.inl ⟨rfl, rfl⟩) (fun av σ x σ' h => by
  rw [oe_X12_wearyOf] at h; unfold P_X12_wearyOf at h
  split at h
  · exact ⟨(Nat.le_of_ble_eq_true rfl), en_oi_some h⟩
  · cases h)
-- EachMayMissOneModel.weariest(I)I
def M_X12_weariest : en_Me := (cX12_weariest, RX12, 4, false, 257, false)
theorem cs_X12_weariest : en_cs yX12_weariest cX12_weariest 4 (some .int) 1 := ⟨wm_694, wm_337, ⟨(by decide +kernel), (by decide +kernel), (by decide +kernel)⟩, (Nat.le_of_ble_eq_true rfl)⟩
noncomputable def B_X12_weariest_91 (kc : Nat → en_B) : en_B := (op_aload 0 (op_const (0 : Int32) (op_puti 12 10 (op_aload 0 (op_aload 0 (op_gets 12 13 (20, 53, 0) (op_const (7 : Int32) (op_iload 2 (op_bin (fun (x y : Int32) => x + y) (op_ald 20 (op_rcv 12 1 (op_callv O_X12_tell 2 (op_aload 0 (op_aload 0 (op_gets 12 13 (20, 53, 0) (op_const (21 : Int32) (op_iload 2 (op_bin (fun (x y : Int32) => x + y) (op_ald 20 (op_aload 0 (op_gets 12 1 (20, 53, 0) (op_const (21 : Int32) (op_iload 2 (op_bin (fun (x y : Int32) => x + y) (op_ald 20 (op_bin (fun (x y : Int32) => x - y) (op_rcv 12 1 (op_callv O_X12_tell 2 (op_iload 2 op_iret)))))))))))))))))))))))))))))
set_option maxRecDepth 20000 in
theorem s_X12_weariest_91 (G : en_G) (hst : G.2.2.2.2.2 = true) (kc : Nat → en_B) (hk : ∀ t, en_Snd G M_X12_weariest t (kc t)) : en_Snd G M_X12_weariest 91 (B_X12_weariest_91 kc) := (sn_aload_n (i := 0) (n := 0) (by decide +kernel) rfl (sn_iconst (n := 0) (v := 0) (by decide +kernel) rfl (sn_puti (ci := 12) (j := 10) en_c12 (by decide +kernel) wm_379 (Nat.le_of_ble_eq_true rfl) rfl rfl rfl (sn_aload_n (i := 0) (n := 0) (by decide +kernel) rfl (sn_aload_n (i := 0) (n := 0) (by decide +kernel) rfl (sn_gets (ci := 12) (j := 31) (off := 13) hst en_c12 of_12_13 (Nat.le_of_ble_eq_true rfl) (by decide +kernel) wm_354 (Nat.le_of_ble_eq_true rfl) rfl (sn_bipush (n := 7) (v := 7) (by decide +kernel) rfl (sn_iload_n (i := 2) (n := 2) (by decide +kernel) rfl (sn_iadd (by decide +kernel) (sn_iald (by decide +kernel) (sn_callVv (n := 1) (idx := 251) (ci := 12) (i_X12_tell G hst) (Nat.le_of_ble_eq_true rfl) cs_X12_tell ⟨wm_377, wm_378, wm_536⟩ ⟨⟨_, rfl, rfl⟩, (Nat.le_of_ble_eq_true rfl)⟩ (by decide +kernel) (sn_aload_n (i := 0) (n := 0) (by decide +kernel) rfl (sn_aload_n (i := 0) (n := 0) (by decide +kernel) rfl (sn_gets (ci := 12) (j := 31) (off := 13) hst en_c12 of_12_13 (Nat.le_of_ble_eq_true rfl) (by decide +kernel) wm_354 (Nat.le_of_ble_eq_true rfl) rfl (sn_bipush (n := 21) (v := 21) (by decide +kernel) rfl (sn_iload_n (i := 2) (n := 2) (by decide +kernel) rfl (sn_iadd (by decide +kernel) (sn_iald (by decide +kernel) (sn_aload_n (i := 0) (n := 0) (by decide +kernel) rfl (sn_gets (ci := 12) (j := 0) (off := 1) hst en_c12 of_12_1 (Nat.le_of_ble_eq_true rfl) (by decide +kernel) wm_339 (Nat.le_of_ble_eq_true rfl) rfl (sn_bipush (n := 21) (v := 21) (by decide +kernel) rfl (sn_iload_n (i := 2) (n := 2) (by decide +kernel) rfl (sn_iadd (by decide +kernel) (sn_iald (by decide +kernel) (sn_isub (by decide +kernel) (sn_callVv (n := 1) (idx := 251) (ci := 12) (i_X12_tell G hst) (Nat.le_of_ble_eq_true rfl) cs_X12_tell ⟨wm_377, wm_378, wm_536⟩ ⟨⟨_, rfl, rfl⟩, (Nat.le_of_ble_eq_true rfl)⟩ (by decide +kernel) (sn_iload_n (i := 2) (n := 2) (by decide +kernel) rfl (sn_iret (by decide +kernel) rfl))))))))))))))))))))))))))))
noncomputable def B_X12_weariest_85 (kc : Nat → en_B) : en_B := (op_iinc 3 (1 : Int32) (kc 62))
set_option maxRecDepth 20000 in
theorem s_X12_weariest_85 (G : en_G) (hst : G.2.2.2.2.2 = true) (kc : Nat → en_B) (hk : ∀ t, en_Snd G M_X12_weariest t (kc t)) : en_Snd G M_X12_weariest 85 (B_X12_weariest_85 kc) := (sn_iinc (i := 3) (n := 1) (v := 1) (by decide +kernel) rfl (sn_goto (off := -26) (tgt := 62) (by decide +kernel) rfl (hk 62)))
noncomputable def B_X12_weariest_62 (kc : Nat → en_B) : en_B := (op_iload 3 (op_aload 0 (op_geti 12 1 (op_iclt (op_aload 0 (op_iload 3 (op_rcv 12 1 (op_calli O_X12_wearyOf 2 (op_aload 0 (op_iload 2 (op_rcv 12 1 (op_calli O_X12_wearyOf 2 (op_icgt (op_iload 3 (op_istore 2 (B_X12_weariest_85 kc))) (B_X12_weariest_85 kc)))))))))) (B_X12_weariest_91 kc)))))
set_option maxRecDepth 20000 in
theorem s_X12_weariest_62 (G : en_G) (hst : G.2.2.2.2.2 = true) (kc : Nat → en_B) (hk : ∀ t, en_Snd G M_X12_weariest t (kc t)) : en_Snd G M_X12_weariest 62 (B_X12_weariest_62 kc) := (sn_iload_n (i := 3) (n := 3) (by decide +kernel) rfl (sn_aload_n (i := 0) (n := 0) (by decide +kernel) rfl (sn_geti (ci := 12) (j := 1) en_c12 (by decide +kernel) wm_383 (Nat.le_of_ble_eq_true rfl) rfl (sn_icge (off := 24) (tgt := 91) (by decide +kernel) rfl (s_X12_weariest_91 G hst kc hk) (sn_aload_n (i := 0) (n := 0) (by decide +kernel) rfl (sn_iload_n (i := 3) (n := 3) (by decide +kernel) rfl (sn_callVi (n := 1) (idx := 331) (ci := 12) (i_X12_wearyOf G hst) (Nat.le_of_ble_eq_true rfl) cs_X12_wearyOf ⟨wm_699, wm_700, wm_697⟩ ⟨⟨_, rfl, rfl⟩, (Nat.le_of_ble_eq_true rfl)⟩ (by decide +kernel) (sn_aload_n (i := 0) (n := 0) (by decide +kernel) rfl (sn_iload_n (i := 2) (n := 2) (by decide +kernel) rfl (sn_callVi (n := 1) (idx := 331) (ci := 12) (i_X12_wearyOf G hst) (Nat.le_of_ble_eq_true rfl) cs_X12_wearyOf ⟨wm_699, wm_700, wm_697⟩ ⟨⟨_, rfl, rfl⟩, (Nat.le_of_ble_eq_true rfl)⟩ (by decide +kernel) (sn_icle (off := 5) (tgt := 85) (by decide +kernel) rfl (s_X12_weariest_85 G hst kc hk) (sn_iload_n (i := 3) (n := 3) (by decide +kernel) rfl (sn_istore_n (i := 2) (n := 2) (by decide +kernel) rfl (Nat.le_of_ble_eq_true rfl) (s_X12_weariest_85 G hst kc hk))))))))))))))
noncomputable def B_X12_weariest_58 (kc : Nat → en_B) : en_B := (op_const (0 : Int32) (op_istore 2 (op_const (1 : Int32) (op_istore 3 (kc 62)))))
set_option maxRecDepth 20000 in
theorem s_X12_weariest_58 (G : en_G) (hst : G.2.2.2.2.2 = true) (kc : Nat → en_B) (hk : ∀ t, en_Snd G M_X12_weariest t (kc t)) : en_Snd G M_X12_weariest 58 (B_X12_weariest_58 kc) := (sn_iconst (n := 0) (v := 0) (by decide +kernel) rfl (sn_istore_n (i := 2) (n := 2) (by decide +kernel) rfl (Nat.le_of_ble_eq_true rfl) (sn_iconst (n := 1) (v := 1) (by decide +kernel) rfl (sn_istore_n (i := 3) (n := 3) (by decide +kernel) rfl (Nat.le_of_ble_eq_true rfl) (hk 62)))))
noncomputable def B_X12_weariest_38 (kc : Nat → en_B) : en_B := (op_iload 2 (op_iload 1 (op_iclt (op_aload 0 (op_aload 0 (op_gets 12 13 (20, 53, 0) (op_const (0 : Int32) (op_rcv 12 2 (op_callv O_X12_goRound 3 (op_iinc 2 (1 : Int32) (kc 38)))))))) (B_X12_weariest_58 kc))))
set_option maxRecDepth 20000 in
theorem s_X12_weariest_38 (G : en_G) (hst : G.2.2.2.2.2 = true) (kc : Nat → en_B) (hk : ∀ t, en_Snd G M_X12_weariest t (kc t)) : en_Snd G M_X12_weariest 38 (B_X12_weariest_38 kc) := (sn_iload_n (i := 2) (n := 2) (by decide +kernel) rfl (sn_iload_n (i := 1) (n := 1) (by decide +kernel) rfl (sn_icge (off := 18) (tgt := 58) (by decide +kernel) rfl (s_X12_weariest_58 G hst kc hk) (sn_aload_n (i := 0) (n := 0) (by decide +kernel) rfl (sn_aload_n (i := 0) (n := 0) (by decide +kernel) rfl (sn_gets (ci := 12) (j := 31) (off := 13) hst en_c12 of_12_13 (Nat.le_of_ble_eq_true rfl) (by decide +kernel) wm_354 (Nat.le_of_ble_eq_true rfl) rfl (sn_iconst (n := 0) (v := 0) (by decide +kernel) rfl (sn_callVv (n := 2) (idx := 247) (ci := 12) (i_X12_goRound G hst) (Nat.le_of_ble_eq_true rfl) cs_X12_goRound ⟨wm_524, wm_525, wm_535⟩ ⟨⟨_, rfl, rfl⟩, (Nat.le_of_ble_eq_true rfl)⟩ (by decide +kernel) (sn_iinc (i := 2) (n := 1) (v := 1) (by decide +kernel) rfl (sn_goto (off := -17) (tgt := 38) (by decide +kernel) rfl (hk 38)))))))))))
noncomputable def B_X12_weariest_24 (kc : Nat → en_B) : en_B := (op_aload 0 (op_gets 12 1 (20, 53, 0) (op_aload 0 (op_gets 12 13 (20, 53, 0) (op_const (0 : Int32) (op_callv O_X12_lay 3 (op_const (0 : Int32) (op_istore 2 (kc 38)))))))))
set_option maxRecDepth 20000 in
theorem s_X12_weariest_24 (G : en_G) (hst : G.2.2.2.2.2 = true) (kc : Nat → en_B) (hk : ∀ t, en_Snd G M_X12_weariest t (kc t)) : en_Snd G M_X12_weariest 24 (B_X12_weariest_24 kc) := (sn_aload_n (i := 0) (n := 0) (by decide +kernel) rfl (sn_gets (ci := 12) (j := 0) (off := 1) hst en_c12 of_12_1 (Nat.le_of_ble_eq_true rfl) (by decide +kernel) wm_339 (Nat.le_of_ble_eq_true rfl) rfl (sn_aload_n (i := 0) (n := 0) (by decide +kernel) rfl (sn_gets (ci := 12) (j := 31) (off := 13) hst en_c12 of_12_13 (Nat.le_of_ble_eq_true rfl) (by decide +kernel) wm_354 (Nat.le_of_ble_eq_true rfl) rfl (sn_iconst (n := 0) (v := 0) (by decide +kernel) rfl (sn_callSv (n := 3) (idx := 209) (i_X12_lay G hst) (Nat.le_of_ble_eq_true rfl) cs_X12_lay ⟨wm_502, Or.inl wm_506⟩ (by decide +kernel) (sn_iconst (n := 0) (v := 0) (by decide +kernel) rfl (sn_istore_n (i := 2) (n := 2) (by decide +kernel) rfl (Nat.le_of_ble_eq_true rfl) (hk 38)))))))))
noncomputable def B_X12_weariest_22 (kc : Nat → en_B) : en_B := (op_const (-1 : Int32) op_iret)
set_option maxRecDepth 20000 in
theorem s_X12_weariest_22 (G : en_G) (hst : G.2.2.2.2.2 = true) (kc : Nat → en_B) (hk : ∀ t, en_Snd G M_X12_weariest t (kc t)) : en_Snd G M_X12_weariest 22 (B_X12_weariest_22 kc) := (sn_iconst (n := -1) (v := -1) (by decide +kernel) rfl (sn_iret (by decide +kernel) rfl))
noncomputable def B_X12_weariest_0 (kc : Nat → en_B) : en_B := (op_aload 0 (op_const (0 : Int32) (op_puti 12 11 (op_iload 1 (op_const (0 : Int32) (op_const (60 : Int32) (op_calli O_X12_in 3 (op_ifeq (B_X12_weariest_22 kc) (op_aload 0 (op_geti 12 1 (op_ifeq (B_X12_weariest_22 kc) (B_X12_weariest_24 kc))))))))))))
set_option maxRecDepth 20000 in
theorem s_X12_weariest_0 (G : en_G) (hst : G.2.2.2.2.2 = true) (kc : Nat → en_B) (hk : ∀ t, en_Snd G M_X12_weariest t (kc t)) : en_Snd G M_X12_weariest 0 (B_X12_weariest_0 kc) := (sn_aload_n (i := 0) (n := 0) (by decide +kernel) rfl (sn_iconst (n := 0) (v := 0) (by decide +kernel) rfl (sn_puti (ci := 12) (j := 11) en_c12 (by decide +kernel) wm_368 (Nat.le_of_ble_eq_true rfl) rfl rfl rfl (sn_iload_n (i := 1) (n := 1) (by decide +kernel) rfl (sn_iconst (n := 0) (v := 0) (by decide +kernel) rfl (sn_bipush (n := 60) (v := 60) (by decide +kernel) rfl (sn_callSi (n := 3) (idx := 100) (i_X12_in G hst) (Nat.le_of_ble_eq_true rfl) cs_X12_in ⟨wm_370, Or.inl wm_384⟩ (by decide +kernel) (sn_ifeq (off := 10) (tgt := 22) (by decide +kernel) rfl (s_X12_weariest_22 G hst kc hk) (sn_aload_n (i := 0) (n := 0) (by decide +kernel) rfl (sn_geti (ci := 12) (j := 1) en_c12 (by decide +kernel) wm_383 (Nat.le_of_ble_eq_true rfl) rfl (sn_ifne (off := 5) (tgt := 24) (by decide +kernel) rfl (s_X12_weariest_24 G hst kc hk) (s_X12_weariest_22 G hst kc hk))))))))))))
noncomputable def LK_X12_weariest : Nat → Nat → en_B
  | 0, _ => en_no
  | n + 1, t => if t = 38 then B_X12_weariest_38 (LK_X12_weariest n) else if t = 62 then B_X12_weariest_62 (LK_X12_weariest n) else en_no
theorem l_X12_weariest (G : en_G) (hst : G.2.2.2.2.2 = true) : ∀ n t, en_Snd G M_X12_weariest t (LK_X12_weariest n t)
  | 0, _ => sn_no
  | n + 1, t => by
    show en_Snd G M_X12_weariest t (if t = 38 then B_X12_weariest_38 (LK_X12_weariest n) else if t = 62 then B_X12_weariest_62 (LK_X12_weariest n) else en_no)
    by_cases h_38 : t = 38
    · rw [if_pos h_38, h_38]; exact s_X12_weariest_38 G hst _ (l_X12_weariest G hst n)
    rw [if_neg h_38]
    by_cases h_62 : t = 62
    · rw [if_pos h_62, h_62]; exact s_X12_weariest_62 G hst _ (l_X12_weariest G hst n)
    rw [if_neg h_62]
    exact sn_no
noncomputable def T_X12_weariest_0 (x1 : Int32) (σ : en_M) : en_R := B_X12_weariest_0 (LK_X12_weariest en_FU) [.inr (185, 12, 0, 0), .inl x1, en_un, en_un] [] en_zz σ
noncomputable def T_X12_weariest_38 (n : Nat) (x1 : Int32) (x2 : Int32) (σ : en_M) : en_R := LK_X12_weariest n 38 [.inr (185, 12, 0, 0), .inl x1, .inl x2, en_un] [] en_zz σ
noncomputable def T_X12_weariest_62 (n : Nat) (x1 : Int32) (x2 : Int32) (x3 : Int32) (σ : en_M) : en_R := LK_X12_weariest n 62 [.inr (185, 12, 0, 0), .inl x1, .inl x2, .inl x3] [] en_zz σ
set_option maxRecDepth 400000 in
set_option maxHeartbeats 4000000 in
theorem t_X12_weariest_0 (x1 : Int32) (σ : en_M) : T_X12_weariest_0 x1 σ = ((O_X12_in [.inl x1, .inl (0 : Int32), .inl (60 : Int32)] (en_up σ 185 11 (0 : Int32))).bind fun r1 => if r1.1 = 0 then (en_ri (-1 : Int32) r1.2) else (if (r1.2 185 1) = 0 then (en_ri (-1 : Int32) r1.2) else ((O_X12_lay [.inr (186, 20, 53, 0), .inr (198, 20, 53, 0), .inl (0 : Int32)] r1.2).bind fun r2 => T_X12_weariest_38 en_FU x1 (0 : Int32) r2))) := rfl
set_option maxRecDepth 400000 in
set_option maxHeartbeats 4000000 in
theorem t_X12_weariest_38 (n : Nat) (x1 : Int32) (x2 : Int32) (σ : en_M) : T_X12_weariest_38 (n + 1) x1 x2 σ = (if x2 < x1 then ((O_X12_goRound [.inr (185, 12, 0, 0), .inr (198, 20, 53, 0), .inl (0 : Int32)] σ).bind fun r3 => T_X12_weariest_38 n x1 (x2 + (1 : Int32)) r3) else (T_X12_weariest_62 n x1 (0 : Int32) (1 : Int32) σ)) := rfl
set_option maxRecDepth 400000 in
set_option maxHeartbeats 4000000 in
theorem t_X12_weariest_62 (n : Nat) (x1 : Int32) (x2 : Int32) (x3 : Int32) (σ : en_M) : T_X12_weariest_62 (n + 1) x1 x2 x3 σ = (if x3 < (σ 185 1) then ((O_X12_wearyOf [.inr (185, 12, 0, 0), .inl x3] σ).bind fun r9 => (O_X12_wearyOf [.inr (185, 12, 0, 0), .inl x2] r9.2).bind fun r10 => if r10.1 < r9.1 then (T_X12_weariest_62 n x1 x3 (x3 + (1 : Int32)) r10.2) else (T_X12_weariest_62 n x1 x2 (x3 + (1 : Int32)) r10.2)) else ((en_ix ((7 : Int32) + x2) 53).bind fun j4 => (O_X12_tell [.inr (185, 12, 0, 0), .inl (σ 198 j4)] (en_up σ 185 10 (0 : Int32))).bind fun r5 => (en_ix ((21 : Int32) + x2) 53).bind fun j6 => (en_ix ((21 : Int32) + x2) 53).bind fun j7 => (O_X12_tell [.inr (185, 12, 0, 0), .inl ((r5 198 j6) - (r5 186 j7))] r5).bind fun r8 => en_ri x2 r8)) := rfl
noncomputable def P_X12_weariest : List en_V → en_M → Option (Int32 × en_M) := fun av σ => match av with
  | [.inr (185, 12, 0, 0), .inl x1] => en_oi (T_X12_weariest_0 x1 σ)
  | _ => none
theorem ox_X12_weariest : ∃ f, f = P_X12_weariest := ⟨_, rfl⟩
noncomputable def O_X12_weariest : List en_V → en_M → Option (Int32 × en_M) := Classical.choose ox_X12_weariest
theorem oe_X12_weariest : O_X12_weariest = P_X12_weariest := Classical.choose_spec ox_X12_weariest
theorem o_X12_weariest (x1 : Int32) (σ : en_M) : O_X12_weariest [.inr (185, 12, 0, 0), .inl x1] σ = en_oi (T_X12_weariest_0 x1 σ) := by rw [oe_X12_weariest]; rfl
theorem i_X12_weariest (G : en_G) (hst : G.2.2.2.2.2 = true) : en_I G 257 yX12_weariest cX12_weariest 4 (some .int) 0 0 (en_wi (O_X12_weariest)) := en_of_i (M := M_X12_weariest) hst (s_X12_weariest_0 G hst _ (l_X12_weariest G hst en_FU)) (plainFor_of_name (by decide +kernel)) rfl rfl rfl (Or.inl ⟨rfl, rfl⟩) (fun av σ x σ' h => by
  rw [oe_X12_weariest] at h; unfold P_X12_weariest at h
  split at h
  · exact ⟨(Nat.le_of_ble_eq_true rfl), en_oi_some h⟩
  · cases h)
-- EachMayMissOneModel.coughs(III)I
def M_X12_coughs : en_Me := (cX12_coughs, RX12, 10, false, 257, false)
theorem cs_X12_coughs : en_cs yX12_coughs cX12_coughs 10 (some .int) 3 := ⟨wm_701, wm_337, ⟨(by decide +kernel), (by decide +kernel), (by decide +kernel)⟩, (Nat.le_of_ble_eq_true rfl)⟩
noncomputable def B_X12_coughs_195 (kc : Nat → en_B) : en_B := (op_aload 0 (op_const (0 : Int32) (op_puti 12 10 (op_aload 0 (op_iload 5 (op_rcv 12 1 (op_callv O_X12_tell 2 (op_aload 0 (op_iload 6 (op_rcv 12 1 (op_callv O_X12_tell 2 (op_aload 0 (op_iload 7 (op_rcv 12 1 (op_callv O_X12_tell 2 (op_aload 0 (op_gets 12 13 (20, 53, 0) (op_const (29 : Int32) (op_ald 20 (op_aload 0 (op_gets 12 1 (20, 53, 0) (op_const (29 : Int32) (op_ald 20 (op_bin (fun (x y : Int32) => x - y) op_iret))))))))))))))))))))))))
set_option maxRecDepth 20000 in
theorem s_X12_coughs_195 (G : en_G) (hst : G.2.2.2.2.2 = true) (kc : Nat → en_B) (hk : ∀ t, en_Snd G M_X12_coughs t (kc t)) : en_Snd G M_X12_coughs 195 (B_X12_coughs_195 kc) := (sn_aload_n (i := 0) (n := 0) (by decide +kernel) rfl (sn_iconst (n := 0) (v := 0) (by decide +kernel) rfl (sn_puti (ci := 12) (j := 10) en_c12 (by decide +kernel) wm_379 (Nat.le_of_ble_eq_true rfl) rfl rfl rfl (sn_aload_n (i := 0) (n := 0) (by decide +kernel) rfl (sn_iload (i := 5) (by decide +kernel) (sn_callVv (n := 1) (idx := 251) (ci := 12) (i_X12_tell G hst) (Nat.le_of_ble_eq_true rfl) cs_X12_tell ⟨wm_377, wm_378, wm_536⟩ ⟨⟨_, rfl, rfl⟩, (Nat.le_of_ble_eq_true rfl)⟩ (by decide +kernel) (sn_aload_n (i := 0) (n := 0) (by decide +kernel) rfl (sn_iload (i := 6) (by decide +kernel) (sn_callVv (n := 1) (idx := 251) (ci := 12) (i_X12_tell G hst) (Nat.le_of_ble_eq_true rfl) cs_X12_tell ⟨wm_377, wm_378, wm_536⟩ ⟨⟨_, rfl, rfl⟩, (Nat.le_of_ble_eq_true rfl)⟩ (by decide +kernel) (sn_aload_n (i := 0) (n := 0) (by decide +kernel) rfl (sn_iload (i := 7) (by decide +kernel) (sn_callVv (n := 1) (idx := 251) (ci := 12) (i_X12_tell G hst) (Nat.le_of_ble_eq_true rfl) cs_X12_tell ⟨wm_377, wm_378, wm_536⟩ ⟨⟨_, rfl, rfl⟩, (Nat.le_of_ble_eq_true rfl)⟩ (by decide +kernel) (sn_aload_n (i := 0) (n := 0) (by decide +kernel) rfl (sn_gets (ci := 12) (j := 31) (off := 13) hst en_c12 of_12_13 (Nat.le_of_ble_eq_true rfl) (by decide +kernel) wm_354 (Nat.le_of_ble_eq_true rfl) rfl (sn_bipush (n := 29) (v := 29) (by decide +kernel) rfl (sn_iald (by decide +kernel) (sn_aload_n (i := 0) (n := 0) (by decide +kernel) rfl (sn_gets (ci := 12) (j := 0) (off := 1) hst en_c12 of_12_1 (Nat.le_of_ble_eq_true rfl) (by decide +kernel) wm_339 (Nat.le_of_ble_eq_true rfl) rfl (sn_bipush (n := 29) (v := 29) (by decide +kernel) rfl (sn_iald (by decide +kernel) (sn_isub (by decide +kernel) (sn_iret (by decide +kernel) rfl))))))))))))))))))))))
noncomputable def B_X12_coughs_189 (kc : Nat → en_B) : en_B := (op_iinc 8 (1 : Int32) (kc 139))
set_option maxRecDepth 20000 in
theorem s_X12_coughs_189 (G : en_G) (hst : G.2.2.2.2.2 = true) (kc : Nat → en_B) (hk : ∀ t, en_Snd G M_X12_coughs t (kc t)) : en_Snd G M_X12_coughs 189 (B_X12_coughs_189 kc) := (sn_iinc (i := 8) (n := 1) (v := 1) (by decide +kernel) rfl (sn_goto (off := -53) (tgt := 139) (by decide +kernel) rfl (hk 139)))
noncomputable def B_X12_coughs_181 (kc : Nat → en_B) : en_B := (op_iload 8 (op_istore 6 (op_iload 9 (op_istore 7 (B_X12_coughs_189 kc)))))
set_option maxRecDepth 20000 in
theorem s_X12_coughs_181 (G : en_G) (hst : G.2.2.2.2.2 = true) (kc : Nat → en_B) (hk : ∀ t, en_Snd G M_X12_coughs t (kc t)) : en_Snd G M_X12_coughs 181 (B_X12_coughs_181 kc) := (sn_iload (i := 8) (by decide +kernel) (sn_istore (i := 6) (by decide +kernel) (Nat.le_of_ble_eq_true rfl) (sn_iload (i := 9) (by decide +kernel) (sn_istore (i := 7) (by decide +kernel) (Nat.le_of_ble_eq_true rfl) (s_X12_coughs_189 G hst kc hk)))))
noncomputable def B_X12_coughs_139 (kc : Nat → en_B) : en_B := (op_iload 8 (op_aload 0 (op_geti 12 1 (op_iclt (op_aload 0 (op_gets 12 13 (20, 53, 0) (op_const (14 : Int32) (op_iload 8 (op_bin (fun (x y : Int32) => x + y) (op_ald 20 (op_aload 0 (op_gets 12 1 (20, 53, 0) (op_const (14 : Int32) (op_iload 8 (op_bin (fun (x y : Int32) => x + y) (op_ald 20 (op_bin (fun (x y : Int32) => x - y) (op_istore 9 (op_iload 9 (op_iload 7 (op_icgt (B_X12_coughs_181 kc) (B_X12_coughs_189 kc)))))))))))))))))) (B_X12_coughs_195 kc)))))
set_option maxRecDepth 20000 in
theorem s_X12_coughs_139 (G : en_G) (hst : G.2.2.2.2.2 = true) (kc : Nat → en_B) (hk : ∀ t, en_Snd G M_X12_coughs t (kc t)) : en_Snd G M_X12_coughs 139 (B_X12_coughs_139 kc) := (sn_iload (i := 8) (by decide +kernel) (sn_aload_n (i := 0) (n := 0) (by decide +kernel) rfl (sn_geti (ci := 12) (j := 1) en_c12 (by decide +kernel) wm_383 (Nat.le_of_ble_eq_true rfl) rfl (sn_icge (off := 50) (tgt := 195) (by decide +kernel) rfl (s_X12_coughs_195 G hst kc hk) (sn_aload_n (i := 0) (n := 0) (by decide +kernel) rfl (sn_gets (ci := 12) (j := 31) (off := 13) hst en_c12 of_12_13 (Nat.le_of_ble_eq_true rfl) (by decide +kernel) wm_354 (Nat.le_of_ble_eq_true rfl) rfl (sn_bipush (n := 14) (v := 14) (by decide +kernel) rfl (sn_iload (i := 8) (by decide +kernel) (sn_iadd (by decide +kernel) (sn_iald (by decide +kernel) (sn_aload_n (i := 0) (n := 0) (by decide +kernel) rfl (sn_gets (ci := 12) (j := 0) (off := 1) hst en_c12 of_12_1 (Nat.le_of_ble_eq_true rfl) (by decide +kernel) wm_339 (Nat.le_of_ble_eq_true rfl) rfl (sn_bipush (n := 14) (v := 14) (by decide +kernel) rfl (sn_iload (i := 8) (by decide +kernel) (sn_iadd (by decide +kernel) (sn_iald (by decide +kernel) (sn_isub (by decide +kernel) (sn_istore (i := 9) (by decide +kernel) (Nat.le_of_ble_eq_true rfl) (sn_iload (i := 9) (by decide +kernel) (sn_iload (i := 7) (by decide +kernel) (sn_icgt (off := 6) (tgt := 181) (by decide +kernel) rfl (s_X12_coughs_181 G hst kc hk) (sn_goto (off := 11) (tgt := 189) (by decide +kernel) rfl (s_X12_coughs_189 G hst kc hk)))))))))))))))))))))))
noncomputable def B_X12_coughs_130 (kc : Nat → en_B) : en_B := (op_const (-1 : Int32) (op_istore 6 (op_const (0 : Int32) (op_istore 7 (op_const (0 : Int32) (op_istore 8 (kc 139)))))))
set_option maxRecDepth 20000 in
theorem s_X12_coughs_130 (G : en_G) (hst : G.2.2.2.2.2 = true) (kc : Nat → en_B) (hk : ∀ t, en_Snd G M_X12_coughs t (kc t)) : en_Snd G M_X12_coughs 130 (B_X12_coughs_130 kc) := (sn_iconst (n := -1) (v := -1) (by decide +kernel) rfl (sn_istore (i := 6) (by decide +kernel) (Nat.le_of_ble_eq_true rfl) (sn_iconst (n := 0) (v := 0) (by decide +kernel) rfl (sn_istore (i := 7) (by decide +kernel) (Nat.le_of_ble_eq_true rfl) (sn_iconst (n := 0) (v := 0) (by decide +kernel) rfl (sn_istore (i := 8) (by decide +kernel) (Nat.le_of_ble_eq_true rfl) (hk 139)))))))
noncomputable def B_X12_coughs_109 (kc : Nat → en_B) : en_B := (op_rcv 12 2 (op_callv O_X12_goRound 3 (op_iload 5 (op_aload 0 (op_geti 12 26 (op_calli O_J6_bitCount_0f7a4 1 (op_bin (fun (x y : Int32) => x + y) (op_istore 5 (op_iinc 6 (1 : Int32) (kc 55))))))))))
set_option maxRecDepth 20000 in
theorem s_X12_coughs_109 (G : en_G) (hst : G.2.2.2.2.2 = true) (kc : Nat → en_B) (hk : ∀ t, en_Snd G M_X12_coughs t (kc t)) : en_Snd G M_X12_coughs 109 (B_X12_coughs_109 kc) := (sn_callVv (n := 2) (idx := 247) (ci := 12) (i_X12_goRound G hst) (Nat.le_of_ble_eq_true rfl) cs_X12_goRound ⟨wm_524, wm_525, wm_535⟩ ⟨⟨_, rfl, rfl⟩, (Nat.le_of_ble_eq_true rfl)⟩ (by decide +kernel) (sn_iload (i := 5) (by decide +kernel) (sn_aload_n (i := 0) (n := 0) (by decide +kernel) rfl (sn_geti (ci := 12) (j := 26) en_c12 (by decide +kernel) wm_528 (Nat.le_of_ble_eq_true rfl) rfl (sn_callSi (n := 1) (idx := 213) (i_J6_bitCount_0f7a4 G hst) (Nat.le_of_ble_eq_true rfl) cs_J6_bitCount_0f7a4 ⟨wm_511, Or.inl wm_513⟩ (by decide +kernel) (sn_iadd (by decide +kernel) (sn_istore (i := 5) (by decide +kernel) (Nat.le_of_ble_eq_true rfl) (sn_iinc (i := 6) (n := 1) (v := 1) (by decide +kernel) rfl (sn_goto (off := -72) (tgt := 55) (by decide +kernel) rfl (hk 55))))))))))
noncomputable def B_X12_coughs_108 (kc : Nat → en_B) : en_B := (op_const (0 : Int32) (B_X12_coughs_109 kc))
set_option maxRecDepth 20000 in
theorem s_X12_coughs_108 (G : en_G) (hst : G.2.2.2.2.2 = true) (kc : Nat → en_B) (hk : ∀ t, en_Snd G M_X12_coughs t (kc t)) : en_Snd G M_X12_coughs 108 (B_X12_coughs_108 kc) := (sn_iconst (n := 0) (v := 0) (by decide +kernel) rfl (s_X12_coughs_109 G hst kc hk))
noncomputable def B_X12_coughs_55 (kc : Nat → en_B) : en_B := (op_iload 6 (op_iload 2 (op_iclt (op_iload 4 (op_const (1103515245 : Int32) (op_bin (fun (x y : Int32) => x * y) (op_const (12345 : Int32) (op_bin (fun (x y : Int32) => x + y) (op_istore 4 (op_iload 4 (op_const (16 : Int32) (op_bin en_ush (op_aload 0 (op_geti 12 1 (op_iload 3 (op_bin (fun (x y : Int32) => x + y) (op_div (fun (x y : Int32) => x - x / y * y) (op_istore 7 (op_aload 0 (op_aload 0 (op_gets 12 13 (20, 53, 0) (op_iload 7 (op_aload 0 (op_geti 12 1 (op_iclt (op_const (1 : Int32) (op_iload 7 (op_bin en_shl (B_X12_coughs_109 kc)))) (B_X12_coughs_108 kc))))))))))))))))))))))) (B_X12_coughs_130 kc))))
set_option maxRecDepth 20000 in
theorem s_X12_coughs_55 (G : en_G) (hst : G.2.2.2.2.2 = true) (kc : Nat → en_B) (hk : ∀ t, en_Snd G M_X12_coughs t (kc t)) : en_Snd G M_X12_coughs 55 (B_X12_coughs_55 kc) := (sn_iload (i := 6) (by decide +kernel) (sn_iload_n (i := 2) (n := 2) (by decide +kernel) rfl (sn_icge (off := 72) (tgt := 130) (by decide +kernel) rfl (s_X12_coughs_130 G hst kc hk) (sn_iload (i := 4) (by decide +kernel) (sn_ldcw (n := 334) (v := 1103515245) wm_704 (by decide +kernel) (sn_imul (by decide +kernel) (sn_sipush (n := 12345) (v := 12345) (by decide +kernel) rfl (sn_iadd (by decide +kernel) (sn_istore (i := 4) (by decide +kernel) (Nat.le_of_ble_eq_true rfl) (sn_iload (i := 4) (by decide +kernel) (sn_bipush (n := 16) (v := 16) (by decide +kernel) rfl (sn_iushr (by decide +kernel) (sn_aload_n (i := 0) (n := 0) (by decide +kernel) rfl (sn_geti (ci := 12) (j := 1) en_c12 (by decide +kernel) wm_383 (Nat.le_of_ble_eq_true rfl) rfl (sn_iload_n (i := 3) (n := 3) (by decide +kernel) rfl (sn_iadd (by decide +kernel) (sn_irem (by decide +kernel) (sn_istore (i := 7) (by decide +kernel) (Nat.le_of_ble_eq_true rfl) (sn_aload_n (i := 0) (n := 0) (by decide +kernel) rfl (sn_aload_n (i := 0) (n := 0) (by decide +kernel) rfl (sn_gets (ci := 12) (j := 31) (off := 13) hst en_c12 of_12_13 (Nat.le_of_ble_eq_true rfl) (by decide +kernel) wm_354 (Nat.le_of_ble_eq_true rfl) rfl (sn_iload (i := 7) (by decide +kernel) (sn_aload_n (i := 0) (n := 0) (by decide +kernel) rfl (sn_geti (ci := 12) (j := 1) en_c12 (by decide +kernel) wm_383 (Nat.le_of_ble_eq_true rfl) rfl (sn_icge (off := 10) (tgt := 108) (by decide +kernel) rfl (s_X12_coughs_108 G hst kc hk) (sn_iconst (n := 1) (v := 1) (by decide +kernel) rfl (sn_iload (i := 7) (by decide +kernel) (sn_ishl (by decide +kernel) (sn_goto (off := 4) (tgt := 109) (by decide +kernel) rfl (s_X12_coughs_109 G hst kc hk))))))))))))))))))))))))))))))
noncomputable def B_X12_coughs_34 (kc : Nat → en_B) : en_B := (op_iload 1 (op_istore 4 (op_const (0 : Int32) (op_istore 5 (op_aload 0 (op_gets 12 1 (20, 53, 0) (op_aload 0 (op_gets 12 13 (20, 53, 0) (op_const (0 : Int32) (op_callv O_X12_lay 3 (op_const (0 : Int32) (op_istore 6 (kc 55)))))))))))))
set_option maxRecDepth 20000 in
theorem s_X12_coughs_34 (G : en_G) (hst : G.2.2.2.2.2 = true) (kc : Nat → en_B) (hk : ∀ t, en_Snd G M_X12_coughs t (kc t)) : en_Snd G M_X12_coughs 34 (B_X12_coughs_34 kc) := (sn_iload_n (i := 1) (n := 1) (by decide +kernel) rfl (sn_istore (i := 4) (by decide +kernel) (Nat.le_of_ble_eq_true rfl) (sn_iconst (n := 0) (v := 0) (by decide +kernel) rfl (sn_istore (i := 5) (by decide +kernel) (Nat.le_of_ble_eq_true rfl) (sn_aload_n (i := 0) (n := 0) (by decide +kernel) rfl (sn_gets (ci := 12) (j := 0) (off := 1) hst en_c12 of_12_1 (Nat.le_of_ble_eq_true rfl) (by decide +kernel) wm_339 (Nat.le_of_ble_eq_true rfl) rfl (sn_aload_n (i := 0) (n := 0) (by decide +kernel) rfl (sn_gets (ci := 12) (j := 31) (off := 13) hst en_c12 of_12_13 (Nat.le_of_ble_eq_true rfl) (by decide +kernel) wm_354 (Nat.le_of_ble_eq_true rfl) rfl (sn_iconst (n := 0) (v := 0) (by decide +kernel) rfl (sn_callSv (n := 3) (idx := 209) (i_X12_lay G hst) (Nat.le_of_ble_eq_true rfl) cs_X12_lay ⟨wm_502, Or.inl wm_506⟩ (by decide +kernel) (sn_iconst (n := 0) (v := 0) (by decide +kernel) rfl (sn_istore (i := 6) (by decide +kernel) (Nat.le_of_ble_eq_true rfl) (hk 55)))))))))))))
noncomputable def B_X12_coughs_32 (kc : Nat → en_B) : en_B := (op_const (-1 : Int32) op_iret)
set_option maxRecDepth 20000 in
theorem s_X12_coughs_32 (G : en_G) (hst : G.2.2.2.2.2 = true) (kc : Nat → en_B) (hk : ∀ t, en_Snd G M_X12_coughs t (kc t)) : en_Snd G M_X12_coughs 32 (B_X12_coughs_32 kc) := (sn_iconst (n := -1) (v := -1) (by decide +kernel) rfl (sn_iret (by decide +kernel) rfl))
noncomputable def B_X12_coughs_0 (kc : Nat → en_B) : en_B := (op_aload 0 (op_const (0 : Int32) (op_puti 12 11 (op_iload 2 (op_const (1 : Int32) (op_const (60 : Int32) (op_calli O_X12_in 3 (op_ifeq (B_X12_coughs_32 kc) (op_iload 3 (op_const (1 : Int32) (op_const (9 : Int32) (op_calli O_X12_in 3 (op_ifeq (B_X12_coughs_32 kc) (op_aload 0 (op_geti 12 1 (op_ifeq (B_X12_coughs_32 kc) (B_X12_coughs_34 kc)))))))))))))))))
set_option maxRecDepth 20000 in
theorem s_X12_coughs_0 (G : en_G) (hst : G.2.2.2.2.2 = true) (kc : Nat → en_B) (hk : ∀ t, en_Snd G M_X12_coughs t (kc t)) : en_Snd G M_X12_coughs 0 (B_X12_coughs_0 kc) := (sn_aload_n (i := 0) (n := 0) (by decide +kernel) rfl (sn_iconst (n := 0) (v := 0) (by decide +kernel) rfl (sn_puti (ci := 12) (j := 11) en_c12 (by decide +kernel) wm_368 (Nat.le_of_ble_eq_true rfl) rfl rfl rfl (sn_iload_n (i := 2) (n := 2) (by decide +kernel) rfl (sn_iconst (n := 1) (v := 1) (by decide +kernel) rfl (sn_bipush (n := 60) (v := 60) (by decide +kernel) rfl (sn_callSi (n := 3) (idx := 100) (i_X12_in G hst) (Nat.le_of_ble_eq_true rfl) cs_X12_in ⟨wm_370, Or.inl wm_384⟩ (by decide +kernel) (sn_ifeq (off := 20) (tgt := 32) (by decide +kernel) rfl (s_X12_coughs_32 G hst kc hk) (sn_iload_n (i := 3) (n := 3) (by decide +kernel) rfl (sn_iconst (n := 1) (v := 1) (by decide +kernel) rfl (sn_bipush (n := 9) (v := 9) (by decide +kernel) rfl (sn_callSi (n := 3) (idx := 100) (i_X12_in G hst) (Nat.le_of_ble_eq_true rfl) cs_X12_in ⟨wm_370, Or.inl wm_384⟩ (by decide +kernel) (sn_ifeq (off := 10) (tgt := 32) (by decide +kernel) rfl (s_X12_coughs_32 G hst kc hk) (sn_aload_n (i := 0) (n := 0) (by decide +kernel) rfl (sn_geti (ci := 12) (j := 1) en_c12 (by decide +kernel) wm_383 (Nat.le_of_ble_eq_true rfl) rfl (sn_ifne (off := 5) (tgt := 34) (by decide +kernel) rfl (s_X12_coughs_34 G hst kc hk) (s_X12_coughs_32 G hst kc hk)))))))))))))))))
noncomputable def LK_X12_coughs : Nat → Nat → en_B
  | 0, _ => en_no
  | n + 1, t => if t = 55 then B_X12_coughs_55 (LK_X12_coughs n) else if t = 139 then B_X12_coughs_139 (LK_X12_coughs n) else en_no
theorem l_X12_coughs (G : en_G) (hst : G.2.2.2.2.2 = true) : ∀ n t, en_Snd G M_X12_coughs t (LK_X12_coughs n t)
  | 0, _ => sn_no
  | n + 1, t => by
    show en_Snd G M_X12_coughs t (if t = 55 then B_X12_coughs_55 (LK_X12_coughs n) else if t = 139 then B_X12_coughs_139 (LK_X12_coughs n) else en_no)
    by_cases h_55 : t = 55
    · rw [if_pos h_55, h_55]; exact s_X12_coughs_55 G hst _ (l_X12_coughs G hst n)
    rw [if_neg h_55]
    by_cases h_139 : t = 139
    · rw [if_pos h_139, h_139]; exact s_X12_coughs_139 G hst _ (l_X12_coughs G hst n)
    rw [if_neg h_139]
    exact sn_no
noncomputable def T_X12_coughs_0 (x1 : Int32) (x2 : Int32) (x3 : Int32) (σ : en_M) : en_R := B_X12_coughs_0 (LK_X12_coughs en_FU) [.inr (185, 12, 0, 0), .inl x1, .inl x2, .inl x3, en_un, en_un, en_un, en_un, en_un, en_un] [] en_zz σ
noncomputable def T_X12_coughs_55 (n : Nat) (x1 : Int32) (x2 : Int32) (x3 : Int32) (x4 : Int32) (x5 : Int32) (x6 : Int32) (u7 : en_V) (σ : en_M) : en_R := LK_X12_coughs n 55 [.inr (185, 12, 0, 0), .inl x1, .inl x2, .inl x3, .inl x4, .inl x5, .inl x6, u7, en_un, en_un] [] en_zz σ
noncomputable def T_X12_coughs_139 (n : Nat) (x1 : Int32) (x2 : Int32) (x3 : Int32) (x4 : Int32) (x5 : Int32) (x6 : Int32) (x7 : Int32) (x8 : Int32) (u9 : en_V) (σ : en_M) : en_R := LK_X12_coughs n 139 [.inr (185, 12, 0, 0), .inl x1, .inl x2, .inl x3, .inl x4, .inl x5, .inl x6, .inl x7, .inl x8, u9] [] en_zz σ
set_option maxRecDepth 400000 in
set_option maxHeartbeats 4000000 in
theorem t_X12_coughs_0 (x1 : Int32) (x2 : Int32) (x3 : Int32) (σ : en_M) : T_X12_coughs_0 x1 x2 x3 σ = ((O_X12_in [.inl x2, .inl (1 : Int32), .inl (60 : Int32)] (en_up σ 185 11 (0 : Int32))).bind fun r1 => if r1.1 = 0 then (en_ri (-1 : Int32) r1.2) else ((O_X12_in [.inl x3, .inl (1 : Int32), .inl (9 : Int32)] r1.2).bind fun r2 => if r2.1 = 0 then (en_ri (-1 : Int32) r2.2) else (if (r2.2 185 1) = 0 then (en_ri (-1 : Int32) r2.2) else ((O_X12_lay [.inr (186, 20, 53, 0), .inr (198, 20, 53, 0), .inl (0 : Int32)] r2.2).bind fun r3 => T_X12_coughs_55 en_FU x1 x2 x3 x1 (0 : Int32) (0 : Int32) (en_un) r3)))) := rfl
set_option maxRecDepth 400000 in
set_option maxHeartbeats 4000000 in
theorem t_X12_coughs_55 (n : Nat) (x1 : Int32) (x2 : Int32) (x3 : Int32) (x4 : Int32) (x5 : Int32) (x6 : Int32) (u7 : en_V) (σ : en_M) : T_X12_coughs_55 (n + 1) x1 x2 x3 x4 x5 x6 u7 σ = (if x6 < x2 then (if ((σ 185 1) + x3) = 0 then none else (if ((en_ush ((x4 * (1103515245 : Int32)) + (12345 : Int32)) (16 : Int32)) - (en_ush ((x4 * (1103515245 : Int32)) + (12345 : Int32)) (16 : Int32)) / ((σ 185 1) + x3) * ((σ 185 1) + x3)) < (σ 185 1) then ((O_X12_goRound [.inr (185, 12, 0, 0), .inr (198, 20, 53, 0), .inl (en_shl (1 : Int32) ((en_ush ((x4 * (1103515245 : Int32)) + (12345 : Int32)) (16 : Int32)) - (en_ush ((x4 * (1103515245 : Int32)) + (12345 : Int32)) (16 : Int32)) / ((σ 185 1) + x3) * ((σ 185 1) + x3)))] σ).bind fun r6 => (O_J6_bitCount_0f7a4 [.inl (r6 185 26)] r6).bind fun r7 => T_X12_coughs_55 n x1 x2 x3 ((x4 * (1103515245 : Int32)) + (12345 : Int32)) (x5 + r7.1) (x6 + (1 : Int32)) (.inl ((en_ush ((x4 * (1103515245 : Int32)) + (12345 : Int32)) (16 : Int32)) - (en_ush ((x4 * (1103515245 : Int32)) + (12345 : Int32)) (16 : Int32)) / ((σ 185 1) + x3) * ((σ 185 1) + x3))) r7.2) else ((O_X12_goRound [.inr (185, 12, 0, 0), .inr (198, 20, 53, 0), .inl (0 : Int32)] σ).bind fun r4 => (O_J6_bitCount_0f7a4 [.inl (r4 185 26)] r4).bind fun r5 => T_X12_coughs_55 n x1 x2 x3 ((x4 * (1103515245 : Int32)) + (12345 : Int32)) (x5 + r5.1) (x6 + (1 : Int32)) (.inl ((en_ush ((x4 * (1103515245 : Int32)) + (12345 : Int32)) (16 : Int32)) - (en_ush ((x4 * (1103515245 : Int32)) + (12345 : Int32)) (16 : Int32)) / ((σ 185 1) + x3) * ((σ 185 1) + x3))) r5.2))) else (T_X12_coughs_139 n x1 x2 x3 x4 x5 (-1 : Int32) (0 : Int32) (0 : Int32) (en_un) σ)) := rfl
set_option maxRecDepth 400000 in
set_option maxHeartbeats 4000000 in
theorem t_X12_coughs_139 (n : Nat) (x1 : Int32) (x2 : Int32) (x3 : Int32) (x4 : Int32) (x5 : Int32) (x6 : Int32) (x7 : Int32) (x8 : Int32) (u9 : en_V) (σ : en_M) : T_X12_coughs_139 (n + 1) x1 x2 x3 x4 x5 x6 x7 x8 u9 σ = (if x8 < (σ 185 1) then ((en_ix ((14 : Int32) + x8) 53).bind fun j13 => (en_ix ((14 : Int32) + x8) 53).bind fun j14 => if x7 < ((σ 198 j13) - (σ 186 j14)) then (T_X12_coughs_139 n x1 x2 x3 x4 x5 x8 ((σ 198 j13) - (σ 186 j14)) (x8 + (1 : Int32)) (.inl ((σ 198 j13) - (σ 186 j14))) σ) else (T_X12_coughs_139 n x1 x2 x3 x4 x5 x6 x7 (x8 + (1 : Int32)) (.inl ((σ 198 j13) - (σ 186 j14))) σ)) else ((O_X12_tell [.inr (185, 12, 0, 0), .inl x5] (en_up σ 185 10 (0 : Int32))).bind fun r8 => (O_X12_tell [.inr (185, 12, 0, 0), .inl x6] r8).bind fun r9 => (O_X12_tell [.inr (185, 12, 0, 0), .inl x7] r9).bind fun r10 => (en_ix (29 : Int32) 53).bind fun j11 => (en_ix (29 : Int32) 53).bind fun j12 => en_ri ((r10 198 j11) - (r10 186 j12)) r10)) := rfl
noncomputable def P_X12_coughs : List en_V → en_M → Option (Int32 × en_M) := fun av σ => match av with
  | [.inr (185, 12, 0, 0), .inl x1, .inl x2, .inl x3] => en_oi (T_X12_coughs_0 x1 x2 x3 σ)
  | _ => none
theorem ox_X12_coughs : ∃ f, f = P_X12_coughs := ⟨_, rfl⟩
noncomputable def O_X12_coughs : List en_V → en_M → Option (Int32 × en_M) := Classical.choose ox_X12_coughs
theorem oe_X12_coughs : O_X12_coughs = P_X12_coughs := Classical.choose_spec ox_X12_coughs
theorem o_X12_coughs (x1 : Int32) (x2 : Int32) (x3 : Int32) (σ : en_M) : O_X12_coughs [.inr (185, 12, 0, 0), .inl x1, .inl x2, .inl x3] σ = en_oi (T_X12_coughs_0 x1 x2 x3 σ) := by rw [oe_X12_coughs]; rfl
theorem i_X12_coughs (G : en_G) (hst : G.2.2.2.2.2 = true) : en_I G 257 yX12_coughs cX12_coughs 10 (some .int) 0 0 (en_wi (O_X12_coughs)) := en_of_i (M := M_X12_coughs) hst (s_X12_coughs_0 G hst _ (l_X12_coughs G hst en_FU)) (plainFor_of_name (by decide +kernel)) rfl rfl rfl (Or.inl ⟨rfl, rfl⟩) (fun av σ x σ' h => by
  rw [oe_X12_coughs] at h; unfold P_X12_coughs at h
  split at h
  · exact ⟨(Nat.le_of_ble_eq_true rfl), en_oi_some h⟩
  · cases h)
-- EachMayMissOneModel.keep(I)Z
def M_X12_keep : en_Me := (cX12_keep, RX12, 2, false, 2, true)
theorem cs_X12_keep : en_cs yX12_keep cX12_keep 2 (some .boolean) 1 := ⟨wm_705, wm_337, ⟨(by decide +kernel), (by decide +kernel), (by decide +kernel)⟩, (Nat.le_of_ble_eq_true rfl)⟩
noncomputable def B_X12_keep_16 (kc : Nat → en_B) : en_B := (op_aload 0 (op_gets 12 23 (22, 2, 0) (op_iload 1 (op_const (1 : Int32) (op_ast 22 (vp_nar .boolean) (op_aload 0 (op_gets 12 1 (20, 53, 0) (op_aload 0 (op_gets 12 22 (20, 106, 0) (op_const (53 : Int32) (op_iload 1 (op_bin (fun (x y : Int32) => x * y) (op_callv O_X12_lay 3 (op_const (1 : Int32) op_zret))))))))))))))
set_option maxRecDepth 20000 in
theorem s_X12_keep_16 (G : en_G) (hst : G.2.2.2.2.2 = true) (kc : Nat → en_B) (hk : ∀ t, en_Snd G M_X12_keep t (kc t)) : en_Snd G M_X12_keep 16 (B_X12_keep_16 kc) := (sn_aload_n (i := 0) (n := 0) (by decide +kernel) rfl (sn_gets (ci := 12) (j := 43) (off := 23) hst en_c12 of_12_23 (Nat.le_of_ble_eq_true rfl) (by decide +kernel) wm_364 (Nat.le_of_ble_eq_true rfl) rfl (sn_iload_n (i := 1) (n := 1) (by decide +kernel) rfl (sn_iconst (n := 1) (v := 1) (by decide +kernel) rfl (sn_zast (by decide +kernel) (sn_aload_n (i := 0) (n := 0) (by decide +kernel) rfl (sn_gets (ci := 12) (j := 0) (off := 1) hst en_c12 of_12_1 (Nat.le_of_ble_eq_true rfl) (by decide +kernel) wm_339 (Nat.le_of_ble_eq_true rfl) rfl (sn_aload_n (i := 0) (n := 0) (by decide +kernel) rfl (sn_gets (ci := 12) (j := 42) (off := 22) hst en_c12 of_12_22 (Nat.le_of_ble_eq_true rfl) (by decide +kernel) wm_363 (Nat.le_of_ble_eq_true rfl) rfl (sn_bipush (n := 53) (v := 53) (by decide +kernel) rfl (sn_iload_n (i := 1) (n := 1) (by decide +kernel) rfl (sn_imul (by decide +kernel) (sn_callSv (n := 3) (idx := 209) (i_X12_lay G hst) (Nat.le_of_ble_eq_true rfl) cs_X12_lay ⟨wm_502, Or.inl wm_506⟩ (by decide +kernel) (sn_iconst (n := 1) (v := 1) (by decide +kernel) rfl (sn_zret (by decide +kernel))))))))))))))))
noncomputable def B_X12_keep_0 (kc : Nat → en_B) : en_B := (op_aload 0 (op_const (0 : Int32) (op_puti 12 11 (op_iload 1 (op_const (0 : Int32) (op_const (1 : Int32) (op_calli O_X12_in 3 (op_ifeq (op_const (0 : Int32) op_zret) (B_X12_keep_16 kc)))))))))
set_option maxRecDepth 20000 in
theorem s_X12_keep_0 (G : en_G) (hst : G.2.2.2.2.2 = true) (kc : Nat → en_B) (hk : ∀ t, en_Snd G M_X12_keep t (kc t)) : en_Snd G M_X12_keep 0 (B_X12_keep_0 kc) := (sn_aload_n (i := 0) (n := 0) (by decide +kernel) rfl (sn_iconst (n := 0) (v := 0) (by decide +kernel) rfl (sn_puti (ci := 12) (j := 11) en_c12 (by decide +kernel) wm_368 (Nat.le_of_ble_eq_true rfl) rfl rfl rfl (sn_iload_n (i := 1) (n := 1) (by decide +kernel) rfl (sn_iconst (n := 0) (v := 0) (by decide +kernel) rfl (sn_iconst (n := 1) (v := 1) (by decide +kernel) rfl (sn_callSi (n := 3) (idx := 100) (i_X12_in G hst) (Nat.le_of_ble_eq_true rfl) cs_X12_in ⟨wm_370, Or.inl wm_384⟩ (by decide +kernel) (sn_ifne (off := 5) (tgt := 16) (by decide +kernel) rfl (s_X12_keep_16 G hst kc hk) (sn_iconst (n := 0) (v := 0) (by decide +kernel) rfl (sn_zret (by decide +kernel)))))))))))
noncomputable def LK_X12_keep : Nat → Nat → en_B
  | 0, _ => en_no
  | n + 1, t => en_no
theorem l_X12_keep (G : en_G) (hst : G.2.2.2.2.2 = true) : ∀ n t, en_Snd G M_X12_keep t (LK_X12_keep n t)
  | 0, _ => sn_no
  | n + 1, t => by
    show en_Snd G M_X12_keep t (en_no)
    exact sn_no
noncomputable def T_X12_keep_0 (x1 : Int32) (σ : en_M) : en_R := B_X12_keep_0 (LK_X12_keep en_FU) [.inr (185, 12, 0, 0), .inl x1] [] en_zz σ
set_option maxRecDepth 400000 in
set_option maxHeartbeats 4000000 in
theorem t_X12_keep_0 (x1 : Int32) (σ : en_M) : T_X12_keep_0 x1 σ = ((O_X12_in [.inl x1, .inl (0 : Int32), .inl (1 : Int32)] (en_up σ 185 11 (0 : Int32))).bind fun r1 => if r1.1 = 0 then (if (0 : Int32) = 0 ∨ (0 : Int32) = 1 then en_ri (0 : Int32) r1.2 else none) else ((en_ix x1 2).bind fun j2 => (O_X12_lay [.inr (186, 20, 53, 0), .inr (207, 20, 106, 0), .inl ((53 : Int32) * x1)] (en_up r1.2 208 j2 (vp_nar .boolean (1 : Int32)))).bind fun r3 => if (1 : Int32) = 0 ∨ (1 : Int32) = 1 then en_ri (1 : Int32) r3 else none)) := rfl
noncomputable def P_X12_keep : List en_V → en_M → Option (Int32 × en_M) := fun av σ => match av with
  | [.inr (185, 12, 0, 0), .inl x1] => en_oi (T_X12_keep_0 x1 σ)
  | _ => none
theorem ox_X12_keep : ∃ f, f = P_X12_keep := ⟨_, rfl⟩
noncomputable def O_X12_keep : List en_V → en_M → Option (Int32 × en_M) := Classical.choose ox_X12_keep
theorem oe_X12_keep : O_X12_keep = P_X12_keep := Classical.choose_spec ox_X12_keep
theorem o_X12_keep (x1 : Int32) (σ : en_M) : O_X12_keep [.inr (185, 12, 0, 0), .inl x1] σ = en_oi (T_X12_keep_0 x1 σ) := by rw [oe_X12_keep]; rfl
theorem i_X12_keep (G : en_G) (hst : G.2.2.2.2.2 = true) : en_I G 2 yX12_keep cX12_keep 2 (some .boolean) 0 0 (en_wi (O_X12_keep)) := en_of_i (M := M_X12_keep) hst (s_X12_keep_0 G hst _ (l_X12_keep G hst en_FU)) (plainFor_of_name (by decide +kernel)) rfl rfl rfl (Or.inr ⟨Or.inl rfl, rfl⟩) (fun av σ x σ' h => by
  rw [oe_X12_keep] at h; unfold P_X12_keep at h
  split at h
  · exact ⟨(Nat.le_of_ble_eq_true rfl), en_oi_some h⟩
  · cases h)
-- EachMayMissOneModel.again(I)Z
def M_X12_again : en_Me := (cX12_again, RX12, 3, false, 2, true)
theorem cs_X12_again : en_cs yX12_again cX12_again 3 (some .boolean) 1 := ⟨wm_708, wm_337, ⟨(by decide +kernel), (by decide +kernel), (by decide +kernel)⟩, (Nat.le_of_ble_eq_true rfl)⟩
noncomputable def B_X12_again_56 (kc : Nat → en_B) : en_B := (op_aload 0 (op_const (0 : Int32) (op_puti 12 23 (op_const (1 : Int32) op_zret))))
set_option maxRecDepth 20000 in
theorem s_X12_again_56 (G : en_G) (hst : G.2.2.2.2.2 = true) (kc : Nat → en_B) (hk : ∀ t, en_Snd G M_X12_again t (kc t)) : en_Snd G M_X12_again 56 (B_X12_again_56 kc) := (sn_aload_n (i := 0) (n := 0) (by decide +kernel) rfl (sn_iconst (n := 0) (v := 0) (by decide +kernel) rfl (sn_puti (ci := 12) (j := 23) en_c12 (by decide +kernel) wm_436 (Nat.le_of_ble_eq_true rfl) rfl rfl rfl (sn_iconst (n := 1) (v := 1) (by decide +kernel) rfl (sn_zret (by decide +kernel))))))
noncomputable def B_X12_again_27 (kc : Nat → en_B) : en_B := (op_iload 2 (op_const (53 : Int32) (op_iclt (op_aload 0 (op_gets 12 1 (20, 53, 0) (op_iload 2 (op_aload 0 (op_gets 12 22 (20, 106, 0) (op_const (53 : Int32) (op_iload 1 (op_bin (fun (x y : Int32) => x * y) (op_iload 2 (op_bin (fun (x y : Int32) => x + y) (op_ald 20 (op_ast 20 (fun (x : Int32) => x) (op_iinc 2 (1 : Int32) (kc 27)))))))))))))) (B_X12_again_56 kc))))
set_option maxRecDepth 20000 in
theorem s_X12_again_27 (G : en_G) (hst : G.2.2.2.2.2 = true) (kc : Nat → en_B) (hk : ∀ t, en_Snd G M_X12_again t (kc t)) : en_Snd G M_X12_again 27 (B_X12_again_27 kc) := (sn_iload_n (i := 2) (n := 2) (by decide +kernel) rfl (sn_bipush (n := 53) (v := 53) (by decide +kernel) rfl (sn_icge (off := 26) (tgt := 56) (by decide +kernel) rfl (s_X12_again_56 G hst kc hk) (sn_aload_n (i := 0) (n := 0) (by decide +kernel) rfl (sn_gets (ci := 12) (j := 0) (off := 1) hst en_c12 of_12_1 (Nat.le_of_ble_eq_true rfl) (by decide +kernel) wm_339 (Nat.le_of_ble_eq_true rfl) rfl (sn_iload_n (i := 2) (n := 2) (by decide +kernel) rfl (sn_aload_n (i := 0) (n := 0) (by decide +kernel) rfl (sn_gets (ci := 12) (j := 42) (off := 22) hst en_c12 of_12_22 (Nat.le_of_ble_eq_true rfl) (by decide +kernel) wm_363 (Nat.le_of_ble_eq_true rfl) rfl (sn_bipush (n := 53) (v := 53) (by decide +kernel) rfl (sn_iload_n (i := 1) (n := 1) (by decide +kernel) rfl (sn_imul (by decide +kernel) (sn_iload_n (i := 2) (n := 2) (by decide +kernel) rfl (sn_iadd (by decide +kernel) (sn_iald (by decide +kernel) (sn_iast (by decide +kernel) (sn_iinc (i := 2) (n := 1) (v := 1) (by decide +kernel) rfl (sn_goto (off := -26) (tgt := 27) (by decide +kernel) rfl (hk 27))))))))))))))))))
noncomputable def B_X12_again_25 (kc : Nat → en_B) : en_B := (op_const (0 : Int32) (op_istore 2 (kc 27)))
set_option maxRecDepth 20000 in
theorem s_X12_again_25 (G : en_G) (hst : G.2.2.2.2.2 = true) (kc : Nat → en_B) (hk : ∀ t, en_Snd G M_X12_again t (kc t)) : en_Snd G M_X12_again 25 (B_X12_again_25 kc) := (sn_iconst (n := 0) (v := 0) (by decide +kernel) rfl (sn_istore_n (i := 2) (n := 2) (by decide +kernel) rfl (Nat.le_of_ble_eq_true rfl) (hk 27)))
noncomputable def B_X12_again_23 (kc : Nat → en_B) : en_B := (op_const (0 : Int32) op_zret)
set_option maxRecDepth 20000 in
theorem s_X12_again_23 (G : en_G) (hst : G.2.2.2.2.2 = true) (kc : Nat → en_B) (hk : ∀ t, en_Snd G M_X12_again t (kc t)) : en_Snd G M_X12_again 23 (B_X12_again_23 kc) := (sn_iconst (n := 0) (v := 0) (by decide +kernel) rfl (sn_zret (by decide +kernel)))
noncomputable def B_X12_again_0 (kc : Nat → en_B) : en_B := (op_aload 0 (op_const (0 : Int32) (op_puti 12 11 (op_iload 1 (op_const (0 : Int32) (op_const (1 : Int32) (op_calli O_X12_in 3 (op_ifeq (B_X12_again_23 kc) (op_aload 0 (op_gets 12 23 (22, 2, 0) (op_iload 1 (op_ald 22 (op_ifeq (B_X12_again_23 kc) (B_X12_again_25 kc))))))))))))))
set_option maxRecDepth 20000 in
theorem s_X12_again_0 (G : en_G) (hst : G.2.2.2.2.2 = true) (kc : Nat → en_B) (hk : ∀ t, en_Snd G M_X12_again t (kc t)) : en_Snd G M_X12_again 0 (B_X12_again_0 kc) := (sn_aload_n (i := 0) (n := 0) (by decide +kernel) rfl (sn_iconst (n := 0) (v := 0) (by decide +kernel) rfl (sn_puti (ci := 12) (j := 11) en_c12 (by decide +kernel) wm_368 (Nat.le_of_ble_eq_true rfl) rfl rfl rfl (sn_iload_n (i := 1) (n := 1) (by decide +kernel) rfl (sn_iconst (n := 0) (v := 0) (by decide +kernel) rfl (sn_iconst (n := 1) (v := 1) (by decide +kernel) rfl (sn_callSi (n := 3) (idx := 100) (i_X12_in G hst) (Nat.le_of_ble_eq_true rfl) cs_X12_in ⟨wm_370, Or.inl wm_384⟩ (by decide +kernel) (sn_ifeq (off := 12) (tgt := 23) (by decide +kernel) rfl (s_X12_again_23 G hst kc hk) (sn_aload_n (i := 0) (n := 0) (by decide +kernel) rfl (sn_gets (ci := 12) (j := 43) (off := 23) hst en_c12 of_12_23 (Nat.le_of_ble_eq_true rfl) (by decide +kernel) wm_364 (Nat.le_of_ble_eq_true rfl) rfl (sn_iload_n (i := 1) (n := 1) (by decide +kernel) rfl (sn_zald (by decide +kernel) (sn_ifne (off := 5) (tgt := 25) (by decide +kernel) rfl (s_X12_again_25 G hst kc hk) (s_X12_again_23 G hst kc hk))))))))))))))
noncomputable def LK_X12_again : Nat → Nat → en_B
  | 0, _ => en_no
  | n + 1, t => if t = 27 then B_X12_again_27 (LK_X12_again n) else en_no
theorem l_X12_again (G : en_G) (hst : G.2.2.2.2.2 = true) : ∀ n t, en_Snd G M_X12_again t (LK_X12_again n t)
  | 0, _ => sn_no
  | n + 1, t => by
    show en_Snd G M_X12_again t (if t = 27 then B_X12_again_27 (LK_X12_again n) else en_no)
    by_cases h_27 : t = 27
    · rw [if_pos h_27, h_27]; exact s_X12_again_27 G hst _ (l_X12_again G hst n)
    rw [if_neg h_27]
    exact sn_no
noncomputable def T_X12_again_0 (x1 : Int32) (σ : en_M) : en_R := B_X12_again_0 (LK_X12_again en_FU) [.inr (185, 12, 0, 0), .inl x1, en_un] [] en_zz σ
noncomputable def T_X12_again_27 (n : Nat) (x1 : Int32) (x2 : Int32) (σ : en_M) : en_R := LK_X12_again n 27 [.inr (185, 12, 0, 0), .inl x1, .inl x2] [] en_zz σ
set_option maxRecDepth 400000 in
set_option maxHeartbeats 4000000 in
theorem t_X12_again_0 (x1 : Int32) (σ : en_M) : T_X12_again_0 x1 σ = ((O_X12_in [.inl x1, .inl (0 : Int32), .inl (1 : Int32)] (en_up σ 185 11 (0 : Int32))).bind fun r1 => if r1.1 = 0 then (if (0 : Int32) = 0 ∨ (0 : Int32) = 1 then en_ri (0 : Int32) r1.2 else none) else ((en_ix x1 2).bind fun j2 => if (r1.2 208 j2) = 0 then (if (0 : Int32) = 0 ∨ (0 : Int32) = 1 then en_ri (0 : Int32) r1.2 else none) else (T_X12_again_27 en_FU x1 (0 : Int32) r1.2))) := rfl
set_option maxRecDepth 400000 in
set_option maxHeartbeats 4000000 in
theorem t_X12_again_27 (n : Nat) (x1 : Int32) (x2 : Int32) (σ : en_M) : T_X12_again_27 (n + 1) x1 x2 σ = (if x2 < (53 : Int32) then ((en_ix (((53 : Int32) * x1) + x2) 106).bind fun j3 => (en_ix x2 53).bind fun j4 => T_X12_again_27 n x1 (x2 + (1 : Int32)) (en_up σ 186 j4 (σ 207 j3))) else (if (1 : Int32) = 0 ∨ (1 : Int32) = 1 then en_ri (1 : Int32) (en_up σ 185 23 (0 : Int32)) else none)) := rfl
noncomputable def P_X12_again : List en_V → en_M → Option (Int32 × en_M) := fun av σ => match av with
  | [.inr (185, 12, 0, 0), .inl x1] => en_oi (T_X12_again_0 x1 σ)
  | _ => none
theorem ox_X12_again : ∃ f, f = P_X12_again := ⟨_, rfl⟩
noncomputable def O_X12_again : List en_V → en_M → Option (Int32 × en_M) := Classical.choose ox_X12_again
theorem oe_X12_again : O_X12_again = P_X12_again := Classical.choose_spec ox_X12_again
theorem o_X12_again (x1 : Int32) (σ : en_M) : O_X12_again [.inr (185, 12, 0, 0), .inl x1] σ = en_oi (T_X12_again_0 x1 σ) := by rw [oe_X12_again]; rfl
theorem i_X12_again (G : en_G) (hst : G.2.2.2.2.2 = true) : en_I G 2 yX12_again cX12_again 3 (some .boolean) 0 0 (en_wi (O_X12_again)) := en_of_i (M := M_X12_again) hst (s_X12_again_0 G hst _ (l_X12_again G hst en_FU)) (plainFor_of_name (by decide +kernel)) rfl rfl rfl (Or.inr ⟨Or.inl rfl, rfl⟩) (fun av σ x σ' h => by
  rw [oe_X12_again] at h; unfold P_X12_again at h
  split at h
  · exact ⟨(Nat.le_of_ble_eq_true rfl), en_oi_some h⟩
  · cases h)
-- EachMayMissOneModel.sumOf(I)I
def M_X12_sumOf : en_Me := (cX12_sumOf, RX12, 4, false, 1, false)
theorem cs_X12_sumOf : en_cs yX12_sumOf cX12_sumOf 4 (some .int) 1 := ⟨wm_711, wm_337, ⟨(by decide +kernel), (by decide +kernel), (by decide +kernel)⟩, (Nat.le_of_ble_eq_true rfl)⟩
noncomputable def B_X12_sumOf_29 (kc : Nat → en_B) : en_B := (op_iload 2 op_iret)
set_option maxRecDepth 20000 in
theorem s_X12_sumOf_29 (G : en_G) (hst : G.2.2.2.2.2 = true) (kc : Nat → en_B) (hk : ∀ t, en_Snd G M_X12_sumOf t (kc t)) : en_Snd G M_X12_sumOf 29 (B_X12_sumOf_29 kc) := (sn_iload_n (i := 2) (n := 2) (by decide +kernel) rfl (sn_iret (by decide +kernel) rfl))
noncomputable def B_X12_sumOf_4 (kc : Nat → en_B) : en_B := (op_iload 3 (op_aload 0 (op_geti 12 1 (op_iclt (op_iload 2 (op_aload 0 (op_gets 12 1 (20, 53, 0) (op_iload 1 (op_iload 3 (op_bin (fun (x y : Int32) => x + y) (op_ald 20 (op_bin (fun (x y : Int32) => x + y) (op_istore 2 (op_iinc 3 (1 : Int32) (kc 4))))))))))) (B_X12_sumOf_29 kc)))))
set_option maxRecDepth 20000 in
theorem s_X12_sumOf_4 (G : en_G) (hst : G.2.2.2.2.2 = true) (kc : Nat → en_B) (hk : ∀ t, en_Snd G M_X12_sumOf t (kc t)) : en_Snd G M_X12_sumOf 4 (B_X12_sumOf_4 kc) := (sn_iload_n (i := 3) (n := 3) (by decide +kernel) rfl (sn_aload_n (i := 0) (n := 0) (by decide +kernel) rfl (sn_geti (ci := 12) (j := 1) en_c12 (by decide +kernel) wm_383 (Nat.le_of_ble_eq_true rfl) rfl (sn_icge (off := 20) (tgt := 29) (by decide +kernel) rfl (s_X12_sumOf_29 G hst kc hk) (sn_iload_n (i := 2) (n := 2) (by decide +kernel) rfl (sn_aload_n (i := 0) (n := 0) (by decide +kernel) rfl (sn_gets (ci := 12) (j := 0) (off := 1) hst en_c12 of_12_1 (Nat.le_of_ble_eq_true rfl) (by decide +kernel) wm_339 (Nat.le_of_ble_eq_true rfl) rfl (sn_iload_n (i := 1) (n := 1) (by decide +kernel) rfl (sn_iload_n (i := 3) (n := 3) (by decide +kernel) rfl (sn_iadd (by decide +kernel) (sn_iald (by decide +kernel) (sn_iadd (by decide +kernel) (sn_istore_n (i := 2) (n := 2) (by decide +kernel) rfl (Nat.le_of_ble_eq_true rfl) (sn_iinc (i := 3) (n := 1) (v := 1) (by decide +kernel) rfl (sn_goto (off := -22) (tgt := 4) (by decide +kernel) rfl (hk 4))))))))))))))))
noncomputable def B_X12_sumOf_0 (kc : Nat → en_B) : en_B := (op_const (0 : Int32) (op_istore 2 (op_const (0 : Int32) (op_istore 3 (kc 4)))))
set_option maxRecDepth 20000 in
theorem s_X12_sumOf_0 (G : en_G) (hst : G.2.2.2.2.2 = true) (kc : Nat → en_B) (hk : ∀ t, en_Snd G M_X12_sumOf t (kc t)) : en_Snd G M_X12_sumOf 0 (B_X12_sumOf_0 kc) := (sn_iconst (n := 0) (v := 0) (by decide +kernel) rfl (sn_istore_n (i := 2) (n := 2) (by decide +kernel) rfl (Nat.le_of_ble_eq_true rfl) (sn_iconst (n := 0) (v := 0) (by decide +kernel) rfl (sn_istore_n (i := 3) (n := 3) (by decide +kernel) rfl (Nat.le_of_ble_eq_true rfl) (hk 4)))))
noncomputable def LK_X12_sumOf : Nat → Nat → en_B
  | 0, _ => en_no
  | n + 1, t => if t = 4 then B_X12_sumOf_4 (LK_X12_sumOf n) else en_no
theorem l_X12_sumOf (G : en_G) (hst : G.2.2.2.2.2 = true) : ∀ n t, en_Snd G M_X12_sumOf t (LK_X12_sumOf n t)
  | 0, _ => sn_no
  | n + 1, t => by
    show en_Snd G M_X12_sumOf t (if t = 4 then B_X12_sumOf_4 (LK_X12_sumOf n) else en_no)
    by_cases h_4 : t = 4
    · rw [if_pos h_4, h_4]; exact s_X12_sumOf_4 G hst _ (l_X12_sumOf G hst n)
    rw [if_neg h_4]
    exact sn_no
noncomputable def T_X12_sumOf_0 (x1 : Int32) (σ : en_M) : en_R := B_X12_sumOf_0 (LK_X12_sumOf en_FU) [.inr (185, 12, 0, 0), .inl x1, en_un, en_un] [] en_zz σ
noncomputable def T_X12_sumOf_4 (n : Nat) (x1 : Int32) (x2 : Int32) (x3 : Int32) (σ : en_M) : en_R := LK_X12_sumOf n 4 [.inr (185, 12, 0, 0), .inl x1, .inl x2, .inl x3] [] en_zz σ
set_option maxRecDepth 400000 in
set_option maxHeartbeats 4000000 in
theorem t_X12_sumOf_0 (x1 : Int32) (σ : en_M) : T_X12_sumOf_0 x1 σ = (T_X12_sumOf_4 en_FU x1 (0 : Int32) (0 : Int32) σ) := rfl
set_option maxRecDepth 400000 in
set_option maxHeartbeats 4000000 in
theorem t_X12_sumOf_4 (n : Nat) (x1 : Int32) (x2 : Int32) (x3 : Int32) (σ : en_M) : T_X12_sumOf_4 (n + 1) x1 x2 x3 σ = (if x3 < (σ 185 1) then ((en_ix (x1 + x3) 53).bind fun j1 => T_X12_sumOf_4 n x1 (x2 + (σ 186 j1)) (x3 + (1 : Int32)) σ) else (en_ri x2 σ)) := rfl
noncomputable def P_X12_sumOf : List en_V → en_M → Option (Int32 × en_M) := fun av σ => match av with
  | [.inr (185, 12, 0, 0), .inl x1] => en_oi (T_X12_sumOf_0 x1 σ)
  | _ => none
theorem ox_X12_sumOf : ∃ f, f = P_X12_sumOf := ⟨_, rfl⟩
noncomputable def O_X12_sumOf : List en_V → en_M → Option (Int32 × en_M) := Classical.choose ox_X12_sumOf
theorem oe_X12_sumOf : O_X12_sumOf = P_X12_sumOf := Classical.choose_spec ox_X12_sumOf
theorem o_X12_sumOf (x1 : Int32) (σ : en_M) : O_X12_sumOf [.inr (185, 12, 0, 0), .inl x1] σ = en_oi (T_X12_sumOf_0 x1 σ) := by rw [oe_X12_sumOf]; rfl
theorem i_X12_sumOf (G : en_G) (hst : G.2.2.2.2.2 = true) : en_I G 1 yX12_sumOf cX12_sumOf 4 (some .int) 0 0 (en_wi (O_X12_sumOf)) := en_of_i (M := M_X12_sumOf) hst (s_X12_sumOf_0 G hst _ (l_X12_sumOf G hst en_FU)) (plainFor_of_name (by decide +kernel)) rfl rfl rfl (Or.inl ⟨rfl, rfl⟩) (fun av σ x σ' h => by
  rw [oe_X12_sumOf] at h; unfold P_X12_sumOf at h
  split at h
  · exact ⟨(Nat.le_of_ble_eq_true rfl), en_oi_some h⟩
  · cases h)
-- EachMayMissOneModel.count(I)I
def M_X12_count : en_Me := (cX12_count, RX12, 2, false, 2, false)
theorem cs_X12_count : en_cs yX12_count cX12_count 2 (some .int) 1 := ⟨wm_714, wm_337, ⟨(by decide +kernel), (by decide +kernel), (by decide +kernel)⟩, (Nat.le_of_ble_eq_true rfl)⟩
noncomputable def B_X12_count_161 (kc : Nat → en_B) : en_B := (op_const (-100 : Int32) op_iret)
set_option maxRecDepth 20000 in
theorem s_X12_count_161 (G : en_G) (hst : G.2.2.2.2.2 = true) (kc : Nat → en_B) (hk : ∀ t, en_Snd G M_X12_count t (kc t)) : en_Snd G M_X12_count 161 (B_X12_count_161 kc) := (sn_bipush (n := -100) (v := -100) (by decide +kernel) rfl (sn_iret (by decide +kernel) rfl))
noncomputable def B_X12_count_156 (kc : Nat → en_B) : en_B := (op_aload 0 (op_geti 12 8 op_iret))
set_option maxRecDepth 20000 in
theorem s_X12_count_156 (G : en_G) (hst : G.2.2.2.2.2 = true) (kc : Nat → en_B) (hk : ∀ t, en_Snd G M_X12_count t (kc t)) : en_Snd G M_X12_count 156 (B_X12_count_156 kc) := (sn_aload_n (i := 0) (n := 0) (by decide +kernel) rfl (sn_geti (ci := 12) (j := 8) en_c12 (by decide +kernel) wm_399 (Nat.le_of_ble_eq_true rfl) rfl (sn_iret (by decide +kernel) rfl)))
noncomputable def B_X12_count_151 (kc : Nat → en_B) : en_B := (op_aload 0 (op_geti 12 10 op_iret))
set_option maxRecDepth 20000 in
theorem s_X12_count_151 (G : en_G) (hst : G.2.2.2.2.2 = true) (kc : Nat → en_B) (hk : ∀ t, en_Snd G M_X12_count t (kc t)) : en_Snd G M_X12_count 151 (B_X12_count_151 kc) := (sn_aload_n (i := 0) (n := 0) (by decide +kernel) rfl (sn_geti (ci := 12) (j := 10) en_c12 (by decide +kernel) wm_379 (Nat.le_of_ble_eq_true rfl) rfl (sn_iret (by decide +kernel) rfl)))
noncomputable def B_X12_count_146 (kc : Nat → en_B) : en_B := (op_aload 0 (op_geti 12 23 op_iret))
set_option maxRecDepth 20000 in
theorem s_X12_count_146 (G : en_G) (hst : G.2.2.2.2.2 = true) (kc : Nat → en_B) (hk : ∀ t, en_Snd G M_X12_count t (kc t)) : en_Snd G M_X12_count 146 (B_X12_count_146 kc) := (sn_aload_n (i := 0) (n := 0) (by decide +kernel) rfl (sn_geti (ci := 12) (j := 23) en_c12 (by decide +kernel) wm_436 (Nat.le_of_ble_eq_true rfl) rfl (sn_iret (by decide +kernel) rfl)))
noncomputable def B_X12_count_141 (kc : Nat → en_B) : en_B := (op_aload 0 (op_geti 12 6 op_iret))
set_option maxRecDepth 20000 in
theorem s_X12_count_141 (G : en_G) (hst : G.2.2.2.2.2 = true) (kc : Nat → en_B) (hk : ∀ t, en_Snd G M_X12_count t (kc t)) : en_Snd G M_X12_count 141 (B_X12_count_141 kc) := (sn_aload_n (i := 0) (n := 0) (by decide +kernel) rfl (sn_geti (ci := 12) (j := 6) en_c12 (by decide +kernel) wm_344 (Nat.le_of_ble_eq_true rfl) rfl (sn_iret (by decide +kernel) rfl)))
noncomputable def B_X12_count_136 (kc : Nat → en_B) : en_B := (op_aload 0 (op_geti 12 5 op_iret))
set_option maxRecDepth 20000 in
theorem s_X12_count_136 (G : en_G) (hst : G.2.2.2.2.2 = true) (kc : Nat → en_B) (hk : ∀ t, en_Snd G M_X12_count t (kc t)) : en_Snd G M_X12_count 136 (B_X12_count_136 kc) := (sn_aload_n (i := 0) (n := 0) (by decide +kernel) rfl (sn_geti (ci := 12) (j := 5) en_c12 (by decide +kernel) wm_343 (Nat.le_of_ble_eq_true rfl) rfl (sn_iret (by decide +kernel) rfl)))
noncomputable def B_X12_count_128 (kc : Nat → en_B) : en_B := (op_aload 0 (op_gets 12 1 (20, 53, 0) (op_const (31 : Int32) (op_ald 20 op_iret))))
set_option maxRecDepth 20000 in
theorem s_X12_count_128 (G : en_G) (hst : G.2.2.2.2.2 = true) (kc : Nat → en_B) (hk : ∀ t, en_Snd G M_X12_count t (kc t)) : en_Snd G M_X12_count 128 (B_X12_count_128 kc) := (sn_aload_n (i := 0) (n := 0) (by decide +kernel) rfl (sn_gets (ci := 12) (j := 0) (off := 1) hst en_c12 of_12_1 (Nat.le_of_ble_eq_true rfl) (by decide +kernel) wm_339 (Nat.le_of_ble_eq_true rfl) rfl (sn_bipush (n := 31) (v := 31) (by decide +kernel) rfl (sn_iald (by decide +kernel) (sn_iret (by decide +kernel) rfl)))))
noncomputable def B_X12_count_123 (kc : Nat → en_B) : en_B := (op_aload 0 (op_rcv 12 0 (op_calli O_X12_tenor 1 op_iret)))
set_option maxRecDepth 20000 in
theorem s_X12_count_123 (G : en_G) (hst : G.2.2.2.2.2 = true) (kc : Nat → en_B) (hk : ∀ t, en_Snd G M_X12_count t (kc t)) : en_Snd G M_X12_count 123 (B_X12_count_123 kc) := (sn_aload_n (i := 0) (n := 0) (by decide +kernel) rfl (sn_callVi (n := 0) (idx := 218) (ci := 12) (i_X12_tenor G hst) (Nat.le_of_ble_eq_true rfl) cs_X12_tenor ⟨wm_485, wm_486, wm_514⟩ ⟨⟨_, rfl, rfl⟩, (Nat.le_of_ble_eq_true rfl)⟩ (by decide +kernel) (sn_iret (by decide +kernel) rfl)))
noncomputable def B_X12_count_116 (kc : Nat → en_B) : en_B := (op_aload 0 (op_const (7 : Int32) (op_rcv 12 1 (op_calli O_X12_sumOf 2 op_iret))))
set_option maxRecDepth 20000 in
theorem s_X12_count_116 (G : en_G) (hst : G.2.2.2.2.2 = true) (kc : Nat → en_B) (hk : ∀ t, en_Snd G M_X12_count t (kc t)) : en_Snd G M_X12_count 116 (B_X12_count_116 kc) := (sn_aload_n (i := 0) (n := 0) (by decide +kernel) rfl (sn_bipush (n := 7) (v := 7) (by decide +kernel) rfl (sn_callVi (n := 1) (idx := 335) (ci := 12) (i_X12_sumOf G hst) (Nat.le_of_ble_eq_true rfl) cs_X12_sumOf ⟨wm_712, wm_713, wm_717⟩ ⟨⟨_, rfl, rfl⟩, (Nat.le_of_ble_eq_true rfl)⟩ (by decide +kernel) (sn_iret (by decide +kernel) rfl))))
noncomputable def B_X12_count_109 (kc : Nat → en_B) : en_B := (op_aload 0 (op_const (14 : Int32) (op_rcv 12 1 (op_calli O_X12_sumOf 2 op_iret))))
set_option maxRecDepth 20000 in
theorem s_X12_count_109 (G : en_G) (hst : G.2.2.2.2.2 = true) (kc : Nat → en_B) (hk : ∀ t, en_Snd G M_X12_count t (kc t)) : en_Snd G M_X12_count 109 (B_X12_count_109 kc) := (sn_aload_n (i := 0) (n := 0) (by decide +kernel) rfl (sn_bipush (n := 14) (v := 14) (by decide +kernel) rfl (sn_callVi (n := 1) (idx := 335) (ci := 12) (i_X12_sumOf G hst) (Nat.le_of_ble_eq_true rfl) cs_X12_sumOf ⟨wm_712, wm_713, wm_717⟩ ⟨⟨_, rfl, rfl⟩, (Nat.le_of_ble_eq_true rfl)⟩ (by decide +kernel) (sn_iret (by decide +kernel) rfl))))
noncomputable def B_X12_count_102 (kc : Nat → en_B) : en_B := (op_aload 0 (op_const (21 : Int32) (op_rcv 12 1 (op_calli O_X12_sumOf 2 op_iret))))
set_option maxRecDepth 20000 in
theorem s_X12_count_102 (G : en_G) (hst : G.2.2.2.2.2 = true) (kc : Nat → en_B) (hk : ∀ t, en_Snd G M_X12_count t (kc t)) : en_Snd G M_X12_count 102 (B_X12_count_102 kc) := (sn_aload_n (i := 0) (n := 0) (by decide +kernel) rfl (sn_bipush (n := 21) (v := 21) (by decide +kernel) rfl (sn_callVi (n := 1) (idx := 335) (ci := 12) (i_X12_sumOf G hst) (Nat.le_of_ble_eq_true rfl) cs_X12_sumOf ⟨wm_712, wm_713, wm_717⟩ ⟨⟨_, rfl, rfl⟩, (Nat.le_of_ble_eq_true rfl)⟩ (by decide +kernel) (sn_iret (by decide +kernel) rfl))))
noncomputable def B_X12_count_94 (kc : Nat → en_B) : en_B := (op_aload 0 (op_gets 12 1 (20, 53, 0) (op_const (29 : Int32) (op_ald 20 op_iret))))
set_option maxRecDepth 20000 in
theorem s_X12_count_94 (G : en_G) (hst : G.2.2.2.2.2 = true) (kc : Nat → en_B) (hk : ∀ t, en_Snd G M_X12_count t (kc t)) : en_Snd G M_X12_count 94 (B_X12_count_94 kc) := (sn_aload_n (i := 0) (n := 0) (by decide +kernel) rfl (sn_gets (ci := 12) (j := 0) (off := 1) hst en_c12 of_12_1 (Nat.le_of_ble_eq_true rfl) (by decide +kernel) wm_339 (Nat.le_of_ble_eq_true rfl) rfl (sn_bipush (n := 29) (v := 29) (by decide +kernel) rfl (sn_iald (by decide +kernel) (sn_iret (by decide +kernel) rfl)))))
noncomputable def B_X12_count_86 (kc : Nat → en_B) : en_B := (op_aload 0 (op_gets 12 1 (20, 53, 0) (op_const (28 : Int32) (op_ald 20 op_iret))))
set_option maxRecDepth 20000 in
theorem s_X12_count_86 (G : en_G) (hst : G.2.2.2.2.2 = true) (kc : Nat → en_B) (hk : ∀ t, en_Snd G M_X12_count t (kc t)) : en_Snd G M_X12_count 86 (B_X12_count_86 kc) := (sn_aload_n (i := 0) (n := 0) (by decide +kernel) rfl (sn_gets (ci := 12) (j := 0) (off := 1) hst en_c12 of_12_1 (Nat.le_of_ble_eq_true rfl) (by decide +kernel) wm_339 (Nat.le_of_ble_eq_true rfl) rfl (sn_bipush (n := 28) (v := 28) (by decide +kernel) rfl (sn_iald (by decide +kernel) (sn_iret (by decide +kernel) rfl)))))
noncomputable def B_X12_count_81 (kc : Nat → en_B) : en_B := (op_aload 0 (op_geti 12 4 op_iret))
set_option maxRecDepth 20000 in
theorem s_X12_count_81 (G : en_G) (hst : G.2.2.2.2.2 = true) (kc : Nat → en_B) (hk : ∀ t, en_Snd G M_X12_count t (kc t)) : en_Snd G M_X12_count 81 (B_X12_count_81 kc) := (sn_aload_n (i := 0) (n := 0) (by decide +kernel) rfl (sn_geti (ci := 12) (j := 4) en_c12 (by decide +kernel) wm_342 (Nat.le_of_ble_eq_true rfl) rfl (sn_iret (by decide +kernel) rfl)))
noncomputable def B_X12_count_76 (kc : Nat → en_B) : en_B := (op_aload 0 (op_geti 12 1 op_iret))
set_option maxRecDepth 20000 in
theorem s_X12_count_76 (G : en_G) (hst : G.2.2.2.2.2 = true) (kc : Nat → en_B) (hk : ∀ t, en_Snd G M_X12_count t (kc t)) : en_Snd G M_X12_count 76 (B_X12_count_76 kc) := (sn_aload_n (i := 0) (n := 0) (by decide +kernel) rfl (sn_geti (ci := 12) (j := 1) en_c12 (by decide +kernel) wm_383 (Nat.le_of_ble_eq_true rfl) rfl (sn_iret (by decide +kernel) rfl)))
/-- the switch at 6 -/
noncomputable def B_X12_count_0 (kc : Nat → en_B) : en_B := (op_aload 0 (op_const (0 : Int32) (op_puti 12 11 (op_iload 1 (op_sw [((0 : Int32), (B_X12_count_76 kc)), ((1 : Int32), (B_X12_count_81 kc)), ((2 : Int32), (B_X12_count_86 kc)), ((3 : Int32), (B_X12_count_94 kc)), ((4 : Int32), (B_X12_count_102 kc)), ((5 : Int32), (B_X12_count_109 kc)), ((6 : Int32), (B_X12_count_116 kc)), ((7 : Int32), (B_X12_count_123 kc)), ((8 : Int32), (B_X12_count_128 kc)), ((9 : Int32), (B_X12_count_136 kc)), ((10 : Int32), (B_X12_count_141 kc)), ((11 : Int32), (B_X12_count_146 kc)), ((12 : Int32), (B_X12_count_151 kc)), ((13 : Int32), (B_X12_count_156 kc))] (B_X12_count_161 kc))))))
set_option maxRecDepth 20000 in
theorem s_X12_count_0 (G : en_G) (hst : G.2.2.2.2.2 = true) (kc : Nat → en_B) (hk : ∀ t, en_Snd G M_X12_count t (kc t)) : en_Snd G M_X12_count 0 (B_X12_count_0 kc) := (sn_aload_n (i := 0) (n := 0) (by decide +kernel) rfl (sn_iconst (n := 0) (v := 0) (by decide +kernel) rfl (sn_puti (ci := 12) (j := 11) en_c12 (by decide +kernel) wm_368 (Nat.le_of_ble_eq_true rfl) rfl rfl rfl (sn_iload_n (i := 1) (n := 1) (by decide +kernel) rfl (sn_tsw (offs := #[70, 75, 80, 88, 96, 103, 110, 117, 122, 130, 135, 140, 145, 150]) (len := 70) (dflt := 155) (hi := 13) (dt := 161) (by decide +kernel) rfl (show 14 < 2 ^ 31 by decide) rfl (s_X12_count_161 G hst kc hk) (fun i hi => match i, hi with | 0, _ => ⟨rfl, 70, 76, rfl, rfl, (s_X12_count_76 G hst kc hk)⟩ | 1, _ => ⟨rfl, 75, 81, rfl, rfl, (s_X12_count_81 G hst kc hk)⟩ | 2, _ => ⟨rfl, 80, 86, rfl, rfl, (s_X12_count_86 G hst kc hk)⟩ | 3, _ => ⟨rfl, 88, 94, rfl, rfl, (s_X12_count_94 G hst kc hk)⟩ | 4, _ => ⟨rfl, 96, 102, rfl, rfl, (s_X12_count_102 G hst kc hk)⟩ | 5, _ => ⟨rfl, 103, 109, rfl, rfl, (s_X12_count_109 G hst kc hk)⟩ | 6, _ => ⟨rfl, 110, 116, rfl, rfl, (s_X12_count_116 G hst kc hk)⟩ | 7, _ => ⟨rfl, 117, 123, rfl, rfl, (s_X12_count_123 G hst kc hk)⟩ | 8, _ => ⟨rfl, 122, 128, rfl, rfl, (s_X12_count_128 G hst kc hk)⟩ | 9, _ => ⟨rfl, 130, 136, rfl, rfl, (s_X12_count_136 G hst kc hk)⟩ | 10, _ => ⟨rfl, 135, 141, rfl, rfl, (s_X12_count_141 G hst kc hk)⟩ | 11, _ => ⟨rfl, 140, 146, rfl, rfl, (s_X12_count_146 G hst kc hk)⟩ | 12, _ => ⟨rfl, 145, 151, rfl, rfl, (s_X12_count_151 G hst kc hk)⟩ | 13, _ => ⟨rfl, 150, 156, rfl, rfl, (s_X12_count_156 G hst kc hk)⟩ | n + 14, h9 => absurd h9 (by simp)))))))
noncomputable def LK_X12_count : Nat → Nat → en_B
  | 0, _ => en_no
  | n + 1, t => en_no
theorem l_X12_count (G : en_G) (hst : G.2.2.2.2.2 = true) : ∀ n t, en_Snd G M_X12_count t (LK_X12_count n t)
  | 0, _ => sn_no
  | n + 1, t => by
    show en_Snd G M_X12_count t (en_no)
    exact sn_no
noncomputable def T_X12_count_0 (x1 : Int32) (σ : en_M) : en_R := B_X12_count_0 (LK_X12_count en_FU) [.inr (185, 12, 0, 0), .inl x1] [] en_zz σ
set_option maxRecDepth 400000 in
set_option maxHeartbeats 4000000 in
theorem t_X12_count_0 (x1 : Int32) (σ : en_M) : T_X12_count_0 x1 σ = ((if x1 = (0 : Int32) then (en_ri (σ 185 1) (en_up σ 185 11 (0 : Int32))) else (if x1 = (1 : Int32) then (en_ri (σ 185 4) (en_up σ 185 11 (0 : Int32))) else (if x1 = (2 : Int32) then ((en_ix (28 : Int32) 53).bind fun j1 => en_ri (σ 186 j1) (en_up σ 185 11 (0 : Int32))) else (if x1 = (3 : Int32) then ((en_ix (29 : Int32) 53).bind fun j2 => en_ri (σ 186 j2) (en_up σ 185 11 (0 : Int32))) else (if x1 = (4 : Int32) then ((O_X12_sumOf [.inr (185, 12, 0, 0), .inl (21 : Int32)] (en_up σ 185 11 (0 : Int32))).bind fun r3 => en_ri r3.1 r3.2) else (if x1 = (5 : Int32) then ((O_X12_sumOf [.inr (185, 12, 0, 0), .inl (14 : Int32)] (en_up σ 185 11 (0 : Int32))).bind fun r4 => en_ri r4.1 r4.2) else (if x1 = (6 : Int32) then ((O_X12_sumOf [.inr (185, 12, 0, 0), .inl (7 : Int32)] (en_up σ 185 11 (0 : Int32))).bind fun r5 => en_ri r5.1 r5.2) else (if x1 = (7 : Int32) then ((O_X12_tenor [.inr (185, 12, 0, 0)] (en_up σ 185 11 (0 : Int32))).bind fun r6 => en_ri r6.1 r6.2) else (if x1 = (8 : Int32) then ((en_ix (31 : Int32) 53).bind fun j7 => en_ri (σ 186 j7) (en_up σ 185 11 (0 : Int32))) else (if x1 = (9 : Int32) then (en_ri (σ 185 5) (en_up σ 185 11 (0 : Int32))) else (if x1 = (10 : Int32) then (en_ri (σ 185 6) (en_up σ 185 11 (0 : Int32))) else (if x1 = (11 : Int32) then (en_ri (σ 185 23) (en_up σ 185 11 (0 : Int32))) else (if x1 = (12 : Int32) then (en_ri (σ 185 10) (en_up σ 185 11 (0 : Int32))) else (if x1 = (13 : Int32) then (en_ri (σ 185 8) (en_up σ 185 11 (0 : Int32))) else (en_ri (-100 : Int32) (en_up σ 185 11 (0 : Int32)))))))))))))))))) := rfl
noncomputable def P_X12_count : List en_V → en_M → Option (Int32 × en_M) := fun av σ => match av with
  | [.inr (185, 12, 0, 0), .inl x1] => en_oi (T_X12_count_0 x1 σ)
  | _ => none
theorem ox_X12_count : ∃ f, f = P_X12_count := ⟨_, rfl⟩
noncomputable def O_X12_count : List en_V → en_M → Option (Int32 × en_M) := Classical.choose ox_X12_count
theorem oe_X12_count : O_X12_count = P_X12_count := Classical.choose_spec ox_X12_count
theorem o_X12_count (x1 : Int32) (σ : en_M) : O_X12_count [.inr (185, 12, 0, 0), .inl x1] σ = en_oi (T_X12_count_0 x1 σ) := by rw [oe_X12_count]; rfl
theorem i_X12_count (G : en_G) (hst : G.2.2.2.2.2 = true) : en_I G 2 yX12_count cX12_count 2 (some .int) 0 0 (en_wi (O_X12_count)) := en_of_i (M := M_X12_count) hst (s_X12_count_0 G hst _ (l_X12_count G hst en_FU)) (plainFor_of_name (by decide +kernel)) rfl rfl rfl (Or.inl ⟨rfl, rfl⟩) (fun av σ x σ' h => by
  rw [oe_X12_count] at h; unfold P_X12_count at h
  split at h
  · exact ⟨(Nat.le_of_ble_eq_true rfl), en_oi_some h⟩
  · cases h)
