-- EachMayMissOneModel.asWanted(I)I
def M_X12_asWanted : en_Me := (cX12_asWanted, RX12, 4, false, 1, false)
theorem cs_X12_asWanted : en_cs yX12_asWanted cX12_asWanted 4 (some .int) 1 := ⟨wm_590, wm_337, ⟨(by decide +kernel), (by decide +kernel), (by decide +kernel)⟩, (Nat.le_of_ble_eq_true rfl)⟩
noncomputable def B_X12_asWanted_46 (kc : Nat → en_B) : en_B := (op_iload 2 op_iret)
set_option maxRecDepth 20000 in
theorem s_X12_asWanted_46 (G : en_G) (hst : G.2.2.2.2.2 = true) (kc : Nat → en_B) (hk : ∀ t, en_Snd G M_X12_asWanted t (kc t)) : en_Snd G M_X12_asWanted 46 (B_X12_asWanted_46 kc) := (sn_iload_n (i := 2) (n := 2) (by decide +kernel) rfl (sn_iret (by decide +kernel) rfl))
noncomputable def B_X12_asWanted_38 (kc : Nat → en_B) : en_B := (op_bin (fun (x y : Int32) => x + y) (op_istore 2 (op_iinc 3 (1 : Int32) (kc 4))))
set_option maxRecDepth 20000 in
theorem s_X12_asWanted_38 (G : en_G) (hst : G.2.2.2.2.2 = true) (kc : Nat → en_B) (hk : ∀ t, en_Snd G M_X12_asWanted t (kc t)) : en_Snd G M_X12_asWanted 38 (B_X12_asWanted_38 kc) := (sn_iadd (by decide +kernel) (sn_istore_n (i := 2) (n := 2) (by decide +kernel) rfl (Nat.le_of_ble_eq_true rfl) (sn_iinc (i := 3) (n := 1) (v := 1) (by decide +kernel) rfl (sn_goto (off := -39) (tgt := 4) (by decide +kernel) rfl (hk 4)))))
noncomputable def B_X12_asWanted_37 (kc : Nat → en_B) : en_B := (op_const (0 : Int32) (B_X12_asWanted_38 kc))
set_option maxRecDepth 20000 in
theorem s_X12_asWanted_37 (G : en_G) (hst : G.2.2.2.2.2 = true) (kc : Nat → en_B) (hk : ∀ t, en_Snd G M_X12_asWanted t (kc t)) : en_Snd G M_X12_asWanted 37 (B_X12_asWanted_37 kc) := (sn_iconst (n := 0) (v := 0) (by decide +kernel) rfl (s_X12_asWanted_38 G hst kc hk))
noncomputable def B_X12_asWanted_4 (kc : Nat → en_B) : en_B := (op_iload 3 (op_aload 0 (op_geti 12 1 (op_iclt (op_iload 2 (op_aload 0 (op_gets 12 12 (20, 1484, 0) (op_const (7 : Int32) (op_iload 1 (op_bin (fun (x y : Int32) => x * y) (op_iload 3 (op_bin (fun (x y : Int32) => x + y) (op_ald 20 (op_aload 0 (op_gets 12 14 (20, 7, 0) (op_iload 3 (op_ald 20 (op_iceq (op_const (1 : Int32) (B_X12_asWanted_38 kc)) (B_X12_asWanted_37 kc))))))))))))))) (B_X12_asWanted_46 kc)))))
set_option maxRecDepth 20000 in
theorem s_X12_asWanted_4 (G : en_G) (hst : G.2.2.2.2.2 = true) (kc : Nat → en_B) (hk : ∀ t, en_Snd G M_X12_asWanted t (kc t)) : en_Snd G M_X12_asWanted 4 (B_X12_asWanted_4 kc) := (sn_iload_n (i := 3) (n := 3) (by decide +kernel) rfl (sn_aload_n (i := 0) (n := 0) (by decide +kernel) rfl (sn_geti (ci := 12) (j := 1) en_c12 (by decide +kernel) wm_383 (Nat.le_of_ble_eq_true rfl) rfl (sn_icge (off := 37) (tgt := 46) (by decide +kernel) rfl (s_X12_asWanted_46 G hst kc hk) (sn_iload_n (i := 2) (n := 2) (by decide +kernel) rfl (sn_aload_n (i := 0) (n := 0) (by decide +kernel) rfl (sn_gets (ci := 12) (j := 30) (off := 12) hst en_c12 of_12_12 (Nat.le_of_ble_eq_true rfl) (by decide +kernel) wm_353 (Nat.le_of_ble_eq_true rfl) rfl (sn_bipush (n := 7) (v := 7) (by decide +kernel) rfl (sn_iload_n (i := 1) (n := 1) (by decide +kernel) rfl (sn_imul (by decide +kernel) (sn_iload_n (i := 3) (n := 3) (by decide +kernel) rfl (sn_iadd (by decide +kernel) (sn_iald (by decide +kernel) (sn_aload_n (i := 0) (n := 0) (by decide +kernel) rfl (sn_gets (ci := 12) (j := 32) (off := 14) hst en_c12 of_12_14 (Nat.le_of_ble_eq_true rfl) (by decide +kernel) wm_355 (Nat.le_of_ble_eq_true rfl) rfl (sn_iload_n (i := 3) (n := 3) (by decide +kernel) rfl (sn_iald (by decide +kernel) (sn_icne (off := 7) (tgt := 37) (by decide +kernel) rfl (s_X12_asWanted_37 G hst kc hk) (sn_iconst (n := 1) (v := 1) (by decide +kernel) rfl (sn_goto (off := 4) (tgt := 38) (by decide +kernel) rfl (s_X12_asWanted_38 G hst kc hk)))))))))))))))))))))
noncomputable def B_X12_asWanted_0 (kc : Nat → en_B) : en_B := (op_const (0 : Int32) (op_istore 2 (op_const (0 : Int32) (op_istore 3 (kc 4)))))
set_option maxRecDepth 20000 in
theorem s_X12_asWanted_0 (G : en_G) (hst : G.2.2.2.2.2 = true) (kc : Nat → en_B) (hk : ∀ t, en_Snd G M_X12_asWanted t (kc t)) : en_Snd G M_X12_asWanted 0 (B_X12_asWanted_0 kc) := (sn_iconst (n := 0) (v := 0) (by decide +kernel) rfl (sn_istore_n (i := 2) (n := 2) (by decide +kernel) rfl (Nat.le_of_ble_eq_true rfl) (sn_iconst (n := 0) (v := 0) (by decide +kernel) rfl (sn_istore_n (i := 3) (n := 3) (by decide +kernel) rfl (Nat.le_of_ble_eq_true rfl) (hk 4)))))
noncomputable def LK_X12_asWanted : Nat → Nat → en_B
  | 0, _ => en_no
  | n + 1, t => if t = 4 then B_X12_asWanted_4 (LK_X12_asWanted n) else en_no
theorem l_X12_asWanted (G : en_G) (hst : G.2.2.2.2.2 = true) : ∀ n t, en_Snd G M_X12_asWanted t (LK_X12_asWanted n t)
  | 0, _ => sn_no
  | n + 1, t => by
    show en_Snd G M_X12_asWanted t (if t = 4 then B_X12_asWanted_4 (LK_X12_asWanted n) else en_no)
    by_cases h_4 : t = 4
    · rw [if_pos h_4, h_4]; exact s_X12_asWanted_4 G hst _ (l_X12_asWanted G hst n)
    rw [if_neg h_4]
    exact sn_no
noncomputable def T_X12_asWanted_0 (x1 : Int32) (σ : en_M) : en_R := B_X12_asWanted_0 (LK_X12_asWanted en_FU) [.inr (185, 12, 0, 0), .inl x1, en_un, en_un] [] en_zz σ
noncomputable def T_X12_asWanted_4 (n : Nat) (x1 : Int32) (x2 : Int32) (x3 : Int32) (σ : en_M) : en_R := LK_X12_asWanted n 4 [.inr (185, 12, 0, 0), .inl x1, .inl x2, .inl x3] [] en_zz σ
set_option maxRecDepth 400000 in
set_option maxHeartbeats 4000000 in
theorem t_X12_asWanted_0 (x1 : Int32) (σ : en_M) : T_X12_asWanted_0 x1 σ = (T_X12_asWanted_4 en_FU x1 (0 : Int32) (0 : Int32) σ) := rfl
set_option maxRecDepth 400000 in
set_option maxHeartbeats 4000000 in
theorem t_X12_asWanted_4 (n : Nat) (x1 : Int32) (x2 : Int32) (x3 : Int32) (σ : en_M) : T_X12_asWanted_4 (n + 1) x1 x2 x3 σ = (if x3 < (σ 185 1) then ((en_ix (((7 : Int32) * x1) + x3) 1484).bind fun j1 => (en_ix x3 7).bind fun j2 => if (σ 197 j1) = (σ 199 j2) then (T_X12_asWanted_4 n x1 (x2 + (1 : Int32)) (x3 + (1 : Int32)) σ) else (T_X12_asWanted_4 n x1 (x2 + (0 : Int32)) (x3 + (1 : Int32)) σ)) else (en_ri x2 σ)) := rfl
noncomputable def P_X12_asWanted : List en_V → en_M → Option (Int32 × en_M) := fun av σ => match av with
  | [.inr (185, 12, 0, 0), .inl x1] => en_oi (T_X12_asWanted_0 x1 σ)
  | _ => none
theorem ox_X12_asWanted : ∃ f, f = P_X12_asWanted := ⟨_, rfl⟩
noncomputable def O_X12_asWanted : List en_V → en_M → Option (Int32 × en_M) := Classical.choose ox_X12_asWanted
theorem oe_X12_asWanted : O_X12_asWanted = P_X12_asWanted := Classical.choose_spec ox_X12_asWanted
theorem o_X12_asWanted (x1 : Int32) (σ : en_M) : O_X12_asWanted [.inr (185, 12, 0, 0), .inl x1] σ = en_oi (T_X12_asWanted_0 x1 σ) := by rw [oe_X12_asWanted]; rfl
theorem i_X12_asWanted (G : en_G) (hst : G.2.2.2.2.2 = true) : en_I G 1 yX12_asWanted cX12_asWanted 4 (some .int) 0 0 (en_wi (O_X12_asWanted)) := en_of_i (M := M_X12_asWanted) hst (s_X12_asWanted_0 G hst _ (l_X12_asWanted G hst en_FU)) (plainFor_of_name (by decide +kernel)) rfl rfl rfl (Or.inl ⟨rfl, rfl⟩) (fun av σ x σ' h => by
  rw [oe_X12_asWanted] at h; unfold P_X12_asWanted at h
  split at h
  · exact ⟨(Nat.le_of_ble_eq_true rfl), en_oi_some h⟩
  · cases h)
-- EachMayMissOneModel.comes()I
def M_X12_comes : en_Me := (cX12_comes, RX12, 4, false, 4, false)
theorem cs_X12_comes : en_cs yX12_comes cX12_comes 4 (some .int) 0 := ⟨wm_586, wm_337, ⟨(by decide +kernel), (by decide +kernel), (by decide +kernel)⟩, (Nat.le_of_ble_eq_true rfl)⟩
noncomputable def B_X12_comes_182 (kc : Nat → en_B) : en_B := (op_const (-2 : Int32) op_iret)
set_option maxRecDepth 20000 in
theorem s_X12_comes_182 (G : en_G) (hst : G.2.2.2.2.2 = true) (kc : Nat → en_B) (hk : ∀ t, en_Snd G M_X12_comes t (kc t)) : en_Snd G M_X12_comes 182 (B_X12_comes_182 kc) := (sn_bipush (n := -2) (v := -2) (by decide +kernel) rfl (sn_iret (by decide +kernel) rfl))
noncomputable def B_X12_comes_176 (kc : Nat → en_B) : en_B := (op_iinc 3 (1 : Int32) (kc 138))
set_option maxRecDepth 20000 in
theorem s_X12_comes_176 (G : en_G) (hst : G.2.2.2.2.2 = true) (kc : Nat → en_B) (hk : ∀ t, en_Snd G M_X12_comes t (kc t)) : en_Snd G M_X12_comes 176 (B_X12_comes_176 kc) := (sn_iinc (i := 3) (n := 1) (v := 1) (by decide +kernel) rfl (sn_goto (off := -41) (tgt := 138) (by decide +kernel) rfl (hk 138)))
noncomputable def B_X12_comes_160 (kc : Nat → en_B) : en_B := (op_aload 0 (op_const (0 : Int32) (op_puti 12 10 (op_aload 0 (op_aload 0 (op_const (0 : Int32) (op_rcv 12 1 (op_calli O_X12_asWanted 2 (op_rcv 12 1 (op_callv O_X12_tell 2 (op_iload 3 op_iret)))))))))))
set_option maxRecDepth 20000 in
theorem s_X12_comes_160 (G : en_G) (hst : G.2.2.2.2.2 = true) (kc : Nat → en_B) (hk : ∀ t, en_Snd G M_X12_comes t (kc t)) : en_Snd G M_X12_comes 160 (B_X12_comes_160 kc) := (sn_aload_n (i := 0) (n := 0) (by decide +kernel) rfl (sn_iconst (n := 0) (v := 0) (by decide +kernel) rfl (sn_puti (ci := 12) (j := 10) en_c12 (by decide +kernel) wm_379 (Nat.le_of_ble_eq_true rfl) rfl rfl rfl (sn_aload_n (i := 0) (n := 0) (by decide +kernel) rfl (sn_aload_n (i := 0) (n := 0) (by decide +kernel) rfl (sn_iconst (n := 0) (v := 0) (by decide +kernel) rfl (sn_callVi (n := 1) (idx := 278) (ci := 12) (i_X12_asWanted G hst) (Nat.le_of_ble_eq_true rfl) cs_X12_asWanted ⟨wm_591, wm_592, wm_589⟩ ⟨⟨_, rfl, rfl⟩, (Nat.le_of_ble_eq_true rfl)⟩ (by decide +kernel) (sn_callVv (n := 1) (idx := 251) (ci := 12) (i_X12_tell G hst) (Nat.le_of_ble_eq_true rfl) cs_X12_tell ⟨wm_377, wm_378, wm_536⟩ ⟨⟨_, rfl, rfl⟩, (Nat.le_of_ble_eq_true rfl)⟩ (by decide +kernel) (sn_iload_n (i := 3) (n := 3) (by decide +kernel) rfl (sn_iret (by decide +kernel) rfl))))))))))
noncomputable def B_X12_comes_138 (kc : Nat → en_B) : en_B := (op_iload 3 (op_const (200 : Int32) (op_icgt (B_X12_comes_182 kc) (op_aload 0 (op_iload 3 (op_rcv 12 1 (op_calli O_X12_asWanted 2 (op_aload 0 (op_geti 12 1 (op_iclt (B_X12_comes_176 kc) (B_X12_comes_160 kc)))))))))))
set_option maxRecDepth 20000 in
theorem s_X12_comes_138 (G : en_G) (hst : G.2.2.2.2.2 = true) (kc : Nat → en_B) (hk : ∀ t, en_Snd G M_X12_comes t (kc t)) : en_Snd G M_X12_comes 138 (B_X12_comes_138 kc) := (sn_iload_n (i := 3) (n := 3) (by decide +kernel) rfl (sn_sipush (n := 200) (v := 200) (by decide +kernel) rfl (sn_icgt (off := 40) (tgt := 182) (by decide +kernel) rfl (s_X12_comes_182 G hst kc hk) (sn_aload_n (i := 0) (n := 0) (by decide +kernel) rfl (sn_iload_n (i := 3) (n := 3) (by decide +kernel) rfl (sn_callVi (n := 1) (idx := 278) (ci := 12) (i_X12_asWanted G hst) (Nat.le_of_ble_eq_true rfl) cs_X12_asWanted ⟨wm_591, wm_592, wm_589⟩ ⟨⟨_, rfl, rfl⟩, (Nat.le_of_ble_eq_true rfl)⟩ (by decide +kernel) (sn_aload_n (i := 0) (n := 0) (by decide +kernel) rfl (sn_geti (ci := 12) (j := 1) en_c12 (by decide +kernel) wm_383 (Nat.le_of_ble_eq_true rfl) rfl (sn_icge (off := 6) (tgt := 160) (by decide +kernel) rfl (s_X12_comes_160 G hst kc hk) (sn_goto (off := 19) (tgt := 176) (by decide +kernel) rfl (s_X12_comes_176 G hst kc hk)))))))))))
noncomputable def B_X12_comes_129 (kc : Nat → en_B) : en_B := (op_aload 0 (op_const (200 : Int32) (op_rcv 12 1 (op_callv O_X12_layOrders 2 (op_const (0 : Int32) (op_istore 3 (kc 138)))))))
set_option maxRecDepth 20000 in
theorem s_X12_comes_129 (G : en_G) (hst : G.2.2.2.2.2 = true) (kc : Nat → en_B) (hk : ∀ t, en_Snd G M_X12_comes t (kc t)) : en_Snd G M_X12_comes 129 (B_X12_comes_129 kc) := (sn_aload_n (i := 0) (n := 0) (by decide +kernel) rfl (sn_sipush (n := 200) (v := 200) (by decide +kernel) rfl (sn_callVv (n := 1) (idx := 272) (ci := 12) (i_X12_layOrders G hst) (Nat.le_of_ble_eq_true rfl) cs_X12_layOrders ⟨wm_567, wm_568, wm_575⟩ ⟨⟨_, rfl, rfl⟩, (Nat.le_of_ble_eq_true rfl)⟩ (by decide +kernel) (sn_iconst (n := 0) (v := 0) (by decide +kernel) rfl (sn_istore_n (i := 3) (n := 3) (by decide +kernel) rfl (Nat.le_of_ble_eq_true rfl) (hk 138))))))
noncomputable def B_X12_comes_117 (kc : Nat → en_B) : en_B := (op_iload 1 (op_aload 0 (op_geti 12 1 (op_iclt (op_const (-1 : Int32) (op_iload 1 (op_bin (fun (x y : Int32) => x - y) op_iret))) (B_X12_comes_129 kc)))))
set_option maxRecDepth 20000 in
theorem s_X12_comes_117 (G : en_G) (hst : G.2.2.2.2.2 = true) (kc : Nat → en_B) (hk : ∀ t, en_Snd G M_X12_comes t (kc t)) : en_Snd G M_X12_comes 117 (B_X12_comes_117 kc) := (sn_iload_n (i := 1) (n := 1) (by decide +kernel) rfl (sn_aload_n (i := 0) (n := 0) (by decide +kernel) rfl (sn_geti (ci := 12) (j := 1) en_c12 (by decide +kernel) wm_383 (Nat.le_of_ble_eq_true rfl) rfl (sn_icge (off := 7) (tgt := 129) (by decide +kernel) rfl (s_X12_comes_129 G hst kc hk) (sn_iconst (n := -1) (v := -1) (by decide +kernel) rfl (sn_iload_n (i := 1) (n := 1) (by decide +kernel) rfl (sn_isub (by decide +kernel) (sn_iret (by decide +kernel) rfl))))))))
noncomputable def B_X12_comes_85 (kc : Nat → en_B) : en_B := (op_aload 0 (op_gets 12 14 (20, 7, 0) (op_iload 3 (op_aload 0 (op_gets 12 4 (21, 80, 0) (op_iload 3 (op_ald 21 (op_const (97 : Int32) (op_bin (fun (x y : Int32) => x - y) (op_ast 20 (fun (x : Int32) => x) (op_iload 2 (op_const (1 : Int32) (op_aload 0 (op_gets 12 14 (20, 7, 0) (op_iload 3 (op_ald 20 (op_bin en_shl (op_bin (fun (x y : Int32) => x ||| y) (op_istore 2 (op_iinc 3 (1 : Int32) (kc 29)))))))))))))))))))))
set_option maxRecDepth 20000 in
theorem s_X12_comes_85 (G : en_G) (hst : G.2.2.2.2.2 = true) (kc : Nat → en_B) (hk : ∀ t, en_Snd G M_X12_comes t (kc t)) : en_Snd G M_X12_comes 85 (B_X12_comes_85 kc) := (sn_aload_n (i := 0) (n := 0) (by decide +kernel) rfl (sn_gets (ci := 12) (j := 32) (off := 14) hst en_c12 of_12_14 (Nat.le_of_ble_eq_true rfl) (by decide +kernel) wm_355 (Nat.le_of_ble_eq_true rfl) rfl (sn_iload_n (i := 3) (n := 3) (by decide +kernel) rfl (sn_aload_n (i := 0) (n := 0) (by decide +kernel) rfl (sn_gets (ci := 12) (j := 7) (off := 4) hst en_c12 of_12_4 (Nat.le_of_ble_eq_true rfl) (by decide +kernel) wm_345 (Nat.le_of_ble_eq_true rfl) rfl (sn_iload_n (i := 3) (n := 3) (by decide +kernel) rfl (sn_bald (by decide +kernel) (sn_bipush (n := 97) (v := 97) (by decide +kernel) rfl (sn_isub (by decide +kernel) (sn_iast (by decide +kernel) (sn_iload_n (i := 2) (n := 2) (by decide +kernel) rfl (sn_iconst (n := 1) (v := 1) (by decide +kernel) rfl (sn_aload_n (i := 0) (n := 0) (by decide +kernel) rfl (sn_gets (ci := 12) (j := 32) (off := 14) hst en_c12 of_12_14 (Nat.le_of_ble_eq_true rfl) (by decide +kernel) wm_355 (Nat.le_of_ble_eq_true rfl) rfl (sn_iload_n (i := 3) (n := 3) (by decide +kernel) rfl (sn_iald (by decide +kernel) (sn_ishl (by decide +kernel) (sn_ior (by decide +kernel) (sn_istore_n (i := 2) (n := 2) (by decide +kernel) rfl (Nat.le_of_ble_eq_true rfl) (sn_iinc (i := 3) (n := 1) (v := 1) (by decide +kernel) rfl (sn_goto (off := -85) (tgt := 29) (by decide +kernel) rfl (hk 29))))))))))))))))))))))
noncomputable def B_X12_comes_81 (kc : Nat → en_B) : en_B := (op_const (-1 : Int32) (op_iload 3 (op_bin (fun (x y : Int32) => x - y) op_iret)))
set_option maxRecDepth 20000 in
theorem s_X12_comes_81 (G : en_G) (hst : G.2.2.2.2.2 = true) (kc : Nat → en_B) (hk : ∀ t, en_Snd G M_X12_comes t (kc t)) : en_Snd G M_X12_comes 81 (B_X12_comes_81 kc) := (sn_iconst (n := -1) (v := -1) (by decide +kernel) rfl (sn_iload_n (i := 3) (n := 3) (by decide +kernel) rfl (sn_isub (by decide +kernel) (sn_iret (by decide +kernel) rfl))))
noncomputable def B_X12_comes_29 (kc : Nat → en_B) : en_B := (op_iload 3 (op_iload 1 (op_iclt (op_iload 3 (op_aload 0 (op_geti 12 1 (op_iceq (B_X12_comes_81 kc) (op_aload 0 (op_gets 12 4 (21, 80, 0) (op_iload 3 (op_ald 21 (op_const (97 : Int32) (op_const (97 : Int32) (op_aload 0 (op_geti 12 1 (op_bin (fun (x y : Int32) => x + y) (op_const (1 : Int32) (op_bin (fun (x y : Int32) => x - y) (op_calli O_X12_in 3 (op_ifeq (B_X12_comes_81 kc) (op_iload 2 (op_aload 0 (op_gets 12 4 (21, 80, 0) (op_iload 3 (op_ald 21 (op_const (97 : Int32) (op_bin (fun (x y : Int32) => x - y) (op_calli O_X12_has 2 (op_ifeq (B_X12_comes_85 kc) (B_X12_comes_81 kc))))))))))))))))))))))))))) (B_X12_comes_117 kc))))
set_option maxRecDepth 20000 in
theorem s_X12_comes_29 (G : en_G) (hst : G.2.2.2.2.2 = true) (kc : Nat → en_B) (hk : ∀ t, en_Snd G M_X12_comes t (kc t)) : en_Snd G M_X12_comes 29 (B_X12_comes_29 kc) := (sn_iload_n (i := 3) (n := 3) (by decide +kernel) rfl (sn_iload_n (i := 1) (n := 1) (by decide +kernel) rfl (sn_icge (off := 86) (tgt := 117) (by decide +kernel) rfl (s_X12_comes_117 G hst kc hk) (sn_iload_n (i := 3) (n := 3) (by decide +kernel) rfl (sn_aload_n (i := 0) (n := 0) (by decide +kernel) rfl (sn_geti (ci := 12) (j := 1) en_c12 (by decide +kernel) wm_383 (Nat.le_of_ble_eq_true rfl) rfl (sn_iceq (off := 42) (tgt := 81) (by decide +kernel) rfl (s_X12_comes_81 G hst kc hk) (sn_aload_n (i := 0) (n := 0) (by decide +kernel) rfl (sn_gets (ci := 12) (j := 7) (off := 4) hst en_c12 of_12_4 (Nat.le_of_ble_eq_true rfl) (by decide +kernel) wm_345 (Nat.le_of_ble_eq_true rfl) rfl (sn_iload_n (i := 3) (n := 3) (by decide +kernel) rfl (sn_bald (by decide +kernel) (sn_bipush (n := 97) (v := 97) (by decide +kernel) rfl (sn_bipush (n := 97) (v := 97) (by decide +kernel) rfl (sn_aload_n (i := 0) (n := 0) (by decide +kernel) rfl (sn_geti (ci := 12) (j := 1) en_c12 (by decide +kernel) wm_383 (Nat.le_of_ble_eq_true rfl) rfl (sn_iadd (by decide +kernel) (sn_iconst (n := 1) (v := 1) (by decide +kernel) rfl (sn_isub (by decide +kernel) (sn_callSi (n := 3) (idx := 100) (i_X12_in G hst) (Nat.le_of_ble_eq_true rfl) cs_X12_in ⟨wm_370, Or.inl wm_384⟩ (by decide +kernel) (sn_ifeq (off := 19) (tgt := 81) (by decide +kernel) rfl (s_X12_comes_81 G hst kc hk) (sn_iload_n (i := 2) (n := 2) (by decide +kernel) rfl (sn_aload_n (i := 0) (n := 0) (by decide +kernel) rfl (sn_gets (ci := 12) (j := 7) (off := 4) hst en_c12 of_12_4 (Nat.le_of_ble_eq_true rfl) (by decide +kernel) wm_345 (Nat.le_of_ble_eq_true rfl) rfl (sn_iload_n (i := 3) (n := 3) (by decide +kernel) rfl (sn_bald (by decide +kernel) (sn_bipush (n := 97) (v := 97) (by decide +kernel) rfl (sn_isub (by decide +kernel) (sn_callSi (n := 2) (idx := 198) (i_X12_has G hst) (Nat.le_of_ble_eq_true rfl) cs_X12_has ⟨wm_372, Or.inl wm_483⟩ (by decide +kernel) (sn_ifeq (off := 7) (tgt := 85) (by decide +kernel) rfl (s_X12_comes_85 G hst kc hk) (s_X12_comes_81 G hst kc hk))))))))))))))))))))))))))))))
noncomputable def B_X12_comes_25 (kc : Nat → en_B) : en_B := (op_const (0 : Int32) (op_istore 2 (op_const (0 : Int32) (op_istore 3 (kc 29)))))
set_option maxRecDepth 20000 in
theorem s_X12_comes_25 (G : en_G) (hst : G.2.2.2.2.2 = true) (kc : Nat → en_B) (hk : ∀ t, en_Snd G M_X12_comes t (kc t)) : en_Snd G M_X12_comes 25 (B_X12_comes_25 kc) := (sn_iconst (n := 0) (v := 0) (by decide +kernel) rfl (sn_istore_n (i := 2) (n := 2) (by decide +kernel) rfl (Nat.le_of_ble_eq_true rfl) (sn_iconst (n := 0) (v := 0) (by decide +kernel) rfl (sn_istore_n (i := 3) (n := 3) (by decide +kernel) rfl (Nat.le_of_ble_eq_true rfl) (hk 29)))))
noncomputable def B_X12_comes_0 (kc : Nat → en_B) : en_B := (op_aload 0 (op_const (0 : Int32) (op_puti 12 11 (op_aload 0 (op_geti 12 8 (op_istore 1 (op_aload 0 (op_const (0 : Int32) (op_puti 12 8 (op_aload 0 (op_geti 12 1 (op_ifeq (op_const (-100 : Int32) op_iret) (B_X12_comes_25 kc)))))))))))))
set_option maxRecDepth 20000 in
theorem s_X12_comes_0 (G : en_G) (hst : G.2.2.2.2.2 = true) (kc : Nat → en_B) (hk : ∀ t, en_Snd G M_X12_comes t (kc t)) : en_Snd G M_X12_comes 0 (B_X12_comes_0 kc) := (sn_aload_n (i := 0) (n := 0) (by decide +kernel) rfl (sn_iconst (n := 0) (v := 0) (by decide +kernel) rfl (sn_puti (ci := 12) (j := 11) en_c12 (by decide +kernel) wm_368 (Nat.le_of_ble_eq_true rfl) rfl rfl rfl (sn_aload_n (i := 0) (n := 0) (by decide +kernel) rfl (sn_geti (ci := 12) (j := 8) en_c12 (by decide +kernel) wm_399 (Nat.le_of_ble_eq_true rfl) rfl (sn_istore_n (i := 1) (n := 1) (by decide +kernel) rfl (Nat.le_of_ble_eq_true rfl) (sn_aload_n (i := 0) (n := 0) (by decide +kernel) rfl (sn_iconst (n := 0) (v := 0) (by decide +kernel) rfl (sn_puti (ci := 12) (j := 8) en_c12 (by decide +kernel) wm_399 (Nat.le_of_ble_eq_true rfl) rfl rfl rfl (sn_aload_n (i := 0) (n := 0) (by decide +kernel) rfl (sn_geti (ci := 12) (j := 1) en_c12 (by decide +kernel) wm_383 (Nat.le_of_ble_eq_true rfl) rfl (sn_ifne (off := 6) (tgt := 25) (by decide +kernel) rfl (s_X12_comes_25 G hst kc hk) (sn_bipush (n := -100) (v := -100) (by decide +kernel) rfl (sn_iret (by decide +kernel) rfl))))))))))))))
noncomputable def LK_X12_comes : Nat → Nat → en_B
  | 0, _ => en_no
  | n + 1, t => if t = 29 then B_X12_comes_29 (LK_X12_comes n) else if t = 138 then B_X12_comes_138 (LK_X12_comes n) else en_no
theorem l_X12_comes (G : en_G) (hst : G.2.2.2.2.2 = true) : ∀ n t, en_Snd G M_X12_comes t (LK_X12_comes n t)
  | 0, _ => sn_no
  | n + 1, t => by
    show en_Snd G M_X12_comes t (if t = 29 then B_X12_comes_29 (LK_X12_comes n) else if t = 138 then B_X12_comes_138 (LK_X12_comes n) else en_no)
    by_cases h_29 : t = 29
    · rw [if_pos h_29, h_29]; exact s_X12_comes_29 G hst _ (l_X12_comes G hst n)
    rw [if_neg h_29]
    by_cases h_138 : t = 138
    · rw [if_pos h_138, h_138]; exact s_X12_comes_138 G hst _ (l_X12_comes G hst n)
    rw [if_neg h_138]
    exact sn_no
noncomputable def T_X12_comes_0 (σ : en_M) : en_R := B_X12_comes_0 (LK_X12_comes en_FU) [.inr (185, 12, 0, 0), en_un, en_un, en_un] [] en_zz σ
noncomputable def T_X12_comes_29 (n : Nat) (x1 : Int32) (x2 : Int32) (x3 : Int32) (σ : en_M) : en_R := LK_X12_comes n 29 [.inr (185, 12, 0, 0), .inl x1, .inl x2, .inl x3] [] en_zz σ
noncomputable def T_X12_comes_138 (n : Nat) (x1 : Int32) (x2 : Int32) (x3 : Int32) (σ : en_M) : en_R := LK_X12_comes n 138 [.inr (185, 12, 0, 0), .inl x1, .inl x2, .inl x3] [] en_zz σ
set_option maxRecDepth 400000 in
set_option maxHeartbeats 4000000 in
theorem t_X12_comes_0 (σ : en_M) : T_X12_comes_0 σ = (if (σ 185 1) = 0 then (en_ri (-100 : Int32) (en_up (en_up σ 185 11 (0 : Int32)) 185 8 (0 : Int32))) else (T_X12_comes_29 en_FU (σ 185 8) (0 : Int32) (0 : Int32) (en_up (en_up σ 185 11 (0 : Int32)) 185 8 (0 : Int32)))) := rfl
set_option maxRecDepth 400000 in
set_option maxHeartbeats 4000000 in
theorem t_X12_comes_29 (n : Nat) (x1 : Int32) (x2 : Int32) (x3 : Int32) (σ : en_M) : T_X12_comes_29 (n + 1) x1 x2 x3 σ = (if x3 < x1 then (if x3 = (σ 185 1) then (en_ri ((-1 : Int32) - x3) σ) else ((en_ix x3 80).bind fun j2 => (O_X12_in [.inl (σ 189 j2), .inl (97 : Int32), .inl (((97 : Int32) + (σ 185 1)) - (1 : Int32))] σ).bind fun r3 => if r3.1 = 0 then (en_ri ((-1 : Int32) - x3) r3.2) else ((en_ix x3 80).bind fun j4 => (O_X12_has [.inl x2, .inl ((r3.2 189 j4) - (97 : Int32))] r3.2).bind fun r5 => if r5.1 = 0 then ((en_ix x3 80).bind fun j6 => (en_ix x3 7).bind fun j7 => (en_ix x3 7).bind fun j8 => T_X12_comes_29 n x1 (x2 ||| (en_shl (1 : Int32) ((en_up r5.2 199 j7 ((r5.2 189 j6) - (97 : Int32))) 199 j8))) (x3 + (1 : Int32)) (en_up r5.2 199 j7 ((r5.2 189 j6) - (97 : Int32)))) else (en_ri ((-1 : Int32) - x3) r5.2)))) else (if x1 < (σ 185 1) then (en_ri ((-1 : Int32) - x1) σ) else ((O_X12_layOrders [.inr (185, 12, 0, 0), .inl (200 : Int32)] σ).bind fun r1 => T_X12_comes_138 n x1 x2 (0 : Int32) r1))) := rfl
set_option maxRecDepth 400000 in
set_option maxHeartbeats 4000000 in
theorem t_X12_comes_138 (n : Nat) (x1 : Int32) (x2 : Int32) (x3 : Int32) (σ : en_M) : T_X12_comes_138 (n + 1) x1 x2 x3 σ = (if (200 : Int32) < x3 then (en_ri (-2 : Int32) σ) else ((O_X12_asWanted [.inr (185, 12, 0, 0), .inl x3] σ).bind fun r9 => if r9.1 < (r9.2 185 1) then (T_X12_comes_138 n x1 x2 (x3 + (1 : Int32)) r9.2) else ((O_X12_asWanted [.inr (185, 12, 0, 0), .inl (0 : Int32)] (en_up r9.2 185 10 (0 : Int32))).bind fun r10 => (O_X12_tell [.inr (185, 12, 0, 0), .inl r10.1] r10.2).bind fun r11 => en_ri x3 r11))) := rfl
noncomputable def P_X12_comes : List en_V → en_M → Option (Int32 × en_M) := fun av σ => match av with
  | [.inr (185, 12, 0, 0)] => en_oi (T_X12_comes_0 σ)
  | _ => none
theorem ox_X12_comes : ∃ f, f = P_X12_comes := ⟨_, rfl⟩
noncomputable def O_X12_comes : List en_V → en_M → Option (Int32 × en_M) := Classical.choose ox_X12_comes
theorem oe_X12_comes : O_X12_comes = P_X12_comes := Classical.choose_spec ox_X12_comes
theorem o_X12_comes (σ : en_M) : O_X12_comes [.inr (185, 12, 0, 0)] σ = en_oi (T_X12_comes_0 σ) := by rw [oe_X12_comes]; rfl
theorem i_X12_comes (G : en_G) (hst : G.2.2.2.2.2 = true) : en_I G 4 yX12_comes cX12_comes 4 (some .int) 0 0 (en_wi (O_X12_comes)) := en_of_i (M := M_X12_comes) hst (s_X12_comes_0 G hst _ (l_X12_comes G hst en_FU)) (plainFor_of_name (by decide +kernel)) rfl rfl rfl (Or.inl ⟨rfl, rfl⟩) (fun av σ x σ' h => by
  rw [oe_X12_comes] at h; unfold P_X12_comes at h
  split at h
  · exact ⟨(Nat.le_of_ble_eq_true rfl), en_oi_some h⟩
  · cases h)
-- EachMayMissOneModel.course(III)I
def M_X12_course : en_Me := (cX12_course, RX12, 10, false, 4, false)
theorem cs_X12_course : en_cs yX12_course cX12_course 10 (some .int) 3 := ⟨wm_593, wm_337, ⟨(by decide +kernel), (by decide +kernel), (by decide +kernel)⟩, (Nat.le_of_ble_eq_true rfl)⟩
noncomputable def B_X12_course_149 (kc : Nat → en_B) : en_B := (op_aload 0 (op_const (0 : Int32) (op_puti 12 10 (op_aload 0 (op_iload 5 (op_rcv 12 1 (op_callv O_X12_tell 2 (op_iload 4 op_iret))))))))
set_option maxRecDepth 20000 in
theorem s_X12_course_149 (G : en_G) (hst : G.2.2.2.2.2 = true) (kc : Nat → en_B) (hk : ∀ t, en_Snd G M_X12_course t (kc t)) : en_Snd G M_X12_course 149 (B_X12_course_149 kc) := (sn_aload_n (i := 0) (n := 0) (by decide +kernel) rfl (sn_iconst (n := 0) (v := 0) (by decide +kernel) rfl (sn_puti (ci := 12) (j := 10) en_c12 (by decide +kernel) wm_379 (Nat.le_of_ble_eq_true rfl) rfl rfl rfl (sn_aload_n (i := 0) (n := 0) (by decide +kernel) rfl (sn_iload (i := 5) (by decide +kernel) (sn_callVv (n := 1) (idx := 251) (ci := 12) (i_X12_tell G hst) (Nat.le_of_ble_eq_true rfl) cs_X12_tell ⟨wm_377, wm_378, wm_536⟩ ⟨⟨_, rfl, rfl⟩, (Nat.le_of_ble_eq_true rfl)⟩ (by decide +kernel) (sn_iload (i := 4) (by decide +kernel) (sn_iret (by decide +kernel) rfl))))))))
noncomputable def B_X12_course_143 (kc : Nat → en_B) : en_B := (op_iinc 6 (1 : Int32) (kc 41))
set_option maxRecDepth 20000 in
theorem s_X12_course_143 (G : en_G) (hst : G.2.2.2.2.2 = true) (kc : Nat → en_B) (hk : ∀ t, en_Snd G M_X12_course t (kc t)) : en_Snd G M_X12_course 143 (B_X12_course_143 kc) := (sn_iinc (i := 6) (n := 1) (v := 1) (by decide +kernel) rfl (sn_goto (off := -105) (tgt := 41) (by decide +kernel) rfl (hk 41)))
noncomputable def B_X12_course_137 (kc : Nat → en_B) : en_B := (op_iinc 7 (1 : Int32) (kc 50))
set_option maxRecDepth 20000 in
theorem s_X12_course_137 (G : en_G) (hst : G.2.2.2.2.2 = true) (kc : Nat → en_B) (hk : ∀ t, en_Snd G M_X12_course t (kc t)) : en_Snd G M_X12_course 137 (B_X12_course_137 kc) := (sn_iinc (i := 7) (n := 1) (v := 1) (by decide +kernel) rfl (sn_goto (off := -90) (tgt := 50) (by decide +kernel) rfl (hk 50)))
noncomputable def B_X12_course_132 (kc : Nat → en_B) : en_B := (op_istore 5 (op_iinc 4 (1 : Int32) (B_X12_course_137 kc)))
set_option maxRecDepth 20000 in
theorem s_X12_course_132 (G : en_G) (hst : G.2.2.2.2.2 = true) (kc : Nat → en_B) (hk : ∀ t, en_Snd G M_X12_course t (kc t)) : en_Snd G M_X12_course 132 (B_X12_course_132 kc) := (sn_istore (i := 5) (by decide +kernel) (Nat.le_of_ble_eq_true rfl) (sn_iinc (i := 4) (n := 1) (v := 1) (by decide +kernel) rfl (s_X12_course_137 G hst kc hk)))
noncomputable def B_X12_course_130 (kc : Nat → en_B) : en_B := (op_iload 5 (B_X12_course_132 kc))
set_option maxRecDepth 20000 in
theorem s_X12_course_130 (G : en_G) (hst : G.2.2.2.2.2 = true) (kc : Nat → en_B) (hk : ∀ t, en_Snd G M_X12_course t (kc t)) : en_Snd G M_X12_course 130 (B_X12_course_130 kc) := (sn_iload (i := 5) (by decide +kernel) (s_X12_course_132 G hst kc hk))
noncomputable def B_X12_course_120 (kc : Nat → en_B) : en_B := (op_iload 4 (op_ifeq (op_iload 6 (B_X12_course_132 kc)) (B_X12_course_130 kc)))
set_option maxRecDepth 20000 in
theorem s_X12_course_120 (G : en_G) (hst : G.2.2.2.2.2 = true) (kc : Nat → en_B) (hk : ∀ t, en_Snd G M_X12_course t (kc t)) : en_Snd G M_X12_course 120 (B_X12_course_120 kc) := (sn_iload (i := 4) (by decide +kernel) (sn_ifne (off := 8) (tgt := 130) (by decide +kernel) rfl (s_X12_course_130 G hst kc hk) (sn_iload (i := 6) (by decide +kernel) (sn_goto (off := 5) (tgt := 132) (by decide +kernel) rfl (s_X12_course_132 G hst kc hk)))))
noncomputable def B_X12_course_105 (kc : Nat → en_B) : en_B := (op_iload 8 (op_iload 2 (op_iceq (op_iload 9 (op_iload 1 (op_iceq (B_X12_course_120 kc) (B_X12_course_137 kc)))) (B_X12_course_137 kc))))
set_option maxRecDepth 20000 in
theorem s_X12_course_105 (G : en_G) (hst : G.2.2.2.2.2 = true) (kc : Nat → en_B) (hk : ∀ t, en_Snd G M_X12_course t (kc t)) : en_Snd G M_X12_course 105 (B_X12_course_105 kc) := (sn_iload (i := 8) (by decide +kernel) (sn_iload_n (i := 2) (n := 2) (by decide +kernel) rfl (sn_icne (off := 29) (tgt := 137) (by decide +kernel) rfl (s_X12_course_137 G hst kc hk) (sn_iload (i := 9) (by decide +kernel) (sn_iload_n (i := 1) (n := 1) (by decide +kernel) rfl (sn_iceq (off := 6) (tgt := 120) (by decide +kernel) rfl (s_X12_course_120 G hst kc hk) (sn_goto (off := 20) (tgt := 137) (by decide +kernel) rfl (s_X12_course_137 G hst kc hk))))))))
noncomputable def B_X12_course_50 (kc : Nat → en_B) : en_B := (op_iload 7 (op_const (1 : Int32) (op_bin (fun (x y : Int32) => x + y) (op_aload 0 (op_geti 12 1 (op_iclt (op_aload 0 (op_gets 12 12 (20, 1484, 0) (op_const (7 : Int32) (op_iload 6 (op_bin (fun (x y : Int32) => x * y) (op_iload 7 (op_bin (fun (x y : Int32) => x + y) (op_ald 20 (op_istore 8 (op_aload 0 (op_gets 12 12 (20, 1484, 0) (op_const (7 : Int32) (op_iload 6 (op_bin (fun (x y : Int32) => x * y) (op_iload 7 (op_bin (fun (x y : Int32) => x + y) (op_const (1 : Int32) (op_bin (fun (x y : Int32) => x + y) (op_ald 20 (op_istore 9 (op_iload 8 (op_iload 1 (op_iceq (op_iload 9 (op_iload 2 (op_iceq (B_X12_course_120 kc) (B_X12_course_105 kc)))) (B_X12_course_105 kc)))))))))))))))))))))))) (B_X12_course_143 kc)))))))
set_option maxRecDepth 20000 in
theorem s_X12_course_50 (G : en_G) (hst : G.2.2.2.2.2 = true) (kc : Nat → en_B) (hk : ∀ t, en_Snd G M_X12_course t (kc t)) : en_Snd G M_X12_course 50 (B_X12_course_50 kc) := (sn_iload (i := 7) (by decide +kernel) (sn_iconst (n := 1) (v := 1) (by decide +kernel) rfl (sn_iadd (by decide +kernel) (sn_aload_n (i := 0) (n := 0) (by decide +kernel) rfl (sn_geti (ci := 12) (j := 1) en_c12 (by decide +kernel) wm_383 (Nat.le_of_ble_eq_true rfl) rfl (sn_icge (off := 85) (tgt := 143) (by decide +kernel) rfl (s_X12_course_143 G hst kc hk) (sn_aload_n (i := 0) (n := 0) (by decide +kernel) rfl (sn_gets (ci := 12) (j := 30) (off := 12) hst en_c12 of_12_12 (Nat.le_of_ble_eq_true rfl) (by decide +kernel) wm_353 (Nat.le_of_ble_eq_true rfl) rfl (sn_bipush (n := 7) (v := 7) (by decide +kernel) rfl (sn_iload (i := 6) (by decide +kernel) (sn_imul (by decide +kernel) (sn_iload (i := 7) (by decide +kernel) (sn_iadd (by decide +kernel) (sn_iald (by decide +kernel) (sn_istore (i := 8) (by decide +kernel) (Nat.le_of_ble_eq_true rfl) (sn_aload_n (i := 0) (n := 0) (by decide +kernel) rfl (sn_gets (ci := 12) (j := 30) (off := 12) hst en_c12 of_12_12 (Nat.le_of_ble_eq_true rfl) (by decide +kernel) wm_353 (Nat.le_of_ble_eq_true rfl) rfl (sn_bipush (n := 7) (v := 7) (by decide +kernel) rfl (sn_iload (i := 6) (by decide +kernel) (sn_imul (by decide +kernel) (sn_iload (i := 7) (by decide +kernel) (sn_iadd (by decide +kernel) (sn_iconst (n := 1) (v := 1) (by decide +kernel) rfl (sn_iadd (by decide +kernel) (sn_iald (by decide +kernel) (sn_istore (i := 9) (by decide +kernel) (Nat.le_of_ble_eq_true rfl) (sn_iload (i := 8) (by decide +kernel) (sn_iload_n (i := 1) (n := 1) (by decide +kernel) rfl (sn_icne (off := 9) (tgt := 105) (by decide +kernel) rfl (s_X12_course_105 G hst kc hk) (sn_iload (i := 9) (by decide +kernel) (sn_iload_n (i := 2) (n := 2) (by decide +kernel) rfl (sn_iceq (off := 18) (tgt := 120) (by decide +kernel) rfl (s_X12_course_120 G hst kc hk) (s_X12_course_105 G hst kc hk)))))))))))))))))))))))))))))))))
noncomputable def B_X12_course_41 (kc : Nat → en_B) : en_B := (op_iload 6 (op_iload 3 (op_iclt (op_const (0 : Int32) (op_istore 7 (kc 50))) (B_X12_course_149 kc))))
set_option maxRecDepth 20000 in
theorem s_X12_course_41 (G : en_G) (hst : G.2.2.2.2.2 = true) (kc : Nat → en_B) (hk : ∀ t, en_Snd G M_X12_course t (kc t)) : en_Snd G M_X12_course 41 (B_X12_course_41 kc) := (sn_iload (i := 6) (by decide +kernel) (sn_iload_n (i := 3) (n := 3) (by decide +kernel) rfl (sn_icge (off := 105) (tgt := 149) (by decide +kernel) rfl (s_X12_course_149 G hst kc hk) (sn_iconst (n := 0) (v := 0) (by decide +kernel) rfl (sn_istore (i := 7) (by decide +kernel) (Nat.le_of_ble_eq_true rfl) (hk 50))))))
noncomputable def B_X12_course_27 (kc : Nat → en_B) : en_B := (op_aload 0 (op_iload 3 (op_rcv 12 1 (op_callv O_X12_layOrders 2 (op_const (0 : Int32) (op_istore 4 (op_const (-1 : Int32) (op_istore 5 (op_const (0 : Int32) (op_istore 6 (kc 41)))))))))))
set_option maxRecDepth 20000 in
theorem s_X12_course_27 (G : en_G) (hst : G.2.2.2.2.2 = true) (kc : Nat → en_B) (hk : ∀ t, en_Snd G M_X12_course t (kc t)) : en_Snd G M_X12_course 27 (B_X12_course_27 kc) := (sn_aload_n (i := 0) (n := 0) (by decide +kernel) rfl (sn_iload_n (i := 3) (n := 3) (by decide +kernel) rfl (sn_callVv (n := 1) (idx := 272) (ci := 12) (i_X12_layOrders G hst) (Nat.le_of_ble_eq_true rfl) cs_X12_layOrders ⟨wm_567, wm_568, wm_575⟩ ⟨⟨_, rfl, rfl⟩, (Nat.le_of_ble_eq_true rfl)⟩ (by decide +kernel) (sn_iconst (n := 0) (v := 0) (by decide +kernel) rfl (sn_istore (i := 4) (by decide +kernel) (Nat.le_of_ble_eq_true rfl) (sn_iconst (n := -1) (v := -1) (by decide +kernel) rfl (sn_istore (i := 5) (by decide +kernel) (Nat.le_of_ble_eq_true rfl) (sn_iconst (n := 0) (v := 0) (by decide +kernel) rfl (sn_istore (i := 6) (by decide +kernel) (Nat.le_of_ble_eq_true rfl) (hk 41))))))))))
noncomputable def B_X12_course_25 (kc : Nat → en_B) : en_B := (op_const (-1 : Int32) op_iret)
set_option maxRecDepth 20000 in
theorem s_X12_course_25 (G : en_G) (hst : G.2.2.2.2.2 = true) (kc : Nat → en_B) (hk : ∀ t, en_Snd G M_X12_course t (kc t)) : en_Snd G M_X12_course 25 (B_X12_course_25 kc) := (sn_iconst (n := -1) (v := -1) (by decide +kernel) rfl (sn_iret (by decide +kernel) rfl))
noncomputable def B_X12_course_0 (kc : Nat → en_B) : en_B := (op_aload 0 (op_const (0 : Int32) (op_puti 12 11 (op_aload 0 (op_iload 1 (op_iload 2 (op_rcv 12 2 (op_calli O_X12_areTwo 3 (op_ifeq (B_X12_course_25 kc) (op_iload 3 (op_const (1 : Int32) (op_const (200 : Int32) (op_calli O_X12_in 3 (op_ifeq (B_X12_course_25 kc) (B_X12_course_27 kc)))))))))))))))
set_option maxRecDepth 20000 in
theorem s_X12_course_0 (G : en_G) (hst : G.2.2.2.2.2 = true) (kc : Nat → en_B) (hk : ∀ t, en_Snd G M_X12_course t (kc t)) : en_Snd G M_X12_course 0 (B_X12_course_0 kc) := (sn_aload_n (i := 0) (n := 0) (by decide +kernel) rfl (sn_iconst (n := 0) (v := 0) (by decide +kernel) rfl (sn_puti (ci := 12) (j := 11) en_c12 (by decide +kernel) wm_368 (Nat.le_of_ble_eq_true rfl) rfl rfl rfl (sn_aload_n (i := 0) (n := 0) (by decide +kernel) rfl (sn_iload_n (i := 1) (n := 1) (by decide +kernel) rfl (sn_iload_n (i := 2) (n := 2) (by decide +kernel) rfl (sn_callVi (n := 2) (idx := 281) (ci := 12) (i_X12_areTwo G hst) (Nat.le_of_ble_eq_true rfl) cs_X12_areTwo ⟨wm_386, wm_387, wm_596⟩ ⟨⟨_, rfl, rfl⟩, (Nat.le_of_ble_eq_true rfl)⟩ (by decide +kernel) (sn_ifeq (off := 14) (tgt := 25) (by decide +kernel) rfl (s_X12_course_25 G hst kc hk) (sn_iload_n (i := 3) (n := 3) (by decide +kernel) rfl (sn_iconst (n := 1) (v := 1) (by decide +kernel) rfl (sn_sipush (n := 200) (v := 200) (by decide +kernel) rfl (sn_callSi (n := 3) (idx := 100) (i_X12_in G hst) (Nat.le_of_ble_eq_true rfl) cs_X12_in ⟨wm_370, Or.inl wm_384⟩ (by decide +kernel) (sn_ifne (off := 5) (tgt := 27) (by decide +kernel) rfl (s_X12_course_27 G hst kc hk) (s_X12_course_25 G hst kc hk))))))))))))))
noncomputable def LK_X12_course : Nat → Nat → en_B
  | 0, _ => en_no
  | n + 1, t => if t = 41 then B_X12_course_41 (LK_X12_course n) else if t = 50 then B_X12_course_50 (LK_X12_course n) else en_no
theorem l_X12_course (G : en_G) (hst : G.2.2.2.2.2 = true) : ∀ n t, en_Snd G M_X12_course t (LK_X12_course n t)
  | 0, _ => sn_no
  | n + 1, t => by
    show en_Snd G M_X12_course t (if t = 41 then B_X12_course_41 (LK_X12_course n) else if t = 50 then B_X12_course_50 (LK_X12_course n) else en_no)
    by_cases h_41 : t = 41
    · rw [if_pos h_41, h_41]; exact s_X12_course_41 G hst _ (l_X12_course G hst n)
    rw [if_neg h_41]
    by_cases h_50 : t = 50
    · rw [if_pos h_50, h_50]; exact s_X12_course_50 G hst _ (l_X12_course G hst n)
    rw [if_neg h_50]
    exact sn_no
noncomputable def T_X12_course_0 (x1 : Int32) (x2 : Int32) (x3 : Int32) (σ : en_M) : en_R := B_X12_course_0 (LK_X12_course en_FU) [.inr (185, 12, 0, 0), .inl x1, .inl x2, .inl x3, en_un, en_un, en_un, en_un, en_un, en_un] [] en_zz σ
noncomputable def T_X12_course_41 (n : Nat) (x1 : Int32) (x2 : Int32) (x3 : Int32) (x4 : Int32) (x5 : Int32) (x6 : Int32) (u7 : en_V) (u8 : en_V) (u9 : en_V) (σ : en_M) : en_R := LK_X12_course n 41 [.inr (185, 12, 0, 0), .inl x1, .inl x2, .inl x3, .inl x4, .inl x5, .inl x6, u7, u8, u9] [] en_zz σ
noncomputable def T_X12_course_50 (n : Nat) (x1 : Int32) (x2 : Int32) (x3 : Int32) (x4 : Int32) (x5 : Int32) (x6 : Int32) (x7 : Int32) (u8 : en_V) (u9 : en_V) (σ : en_M) : en_R := LK_X12_course n 50 [.inr (185, 12, 0, 0), .inl x1, .inl x2, .inl x3, .inl x4, .inl x5, .inl x6, .inl x7, u8, u9] [] en_zz σ
set_option maxRecDepth 400000 in
set_option maxHeartbeats 4000000 in
theorem t_X12_course_0 (x1 : Int32) (x2 : Int32) (x3 : Int32) (σ : en_M) : T_X12_course_0 x1 x2 x3 σ = ((O_X12_areTwo [.inr (185, 12, 0, 0), .inl x1, .inl x2] (en_up σ 185 11 (0 : Int32))).bind fun r1 => if r1.1 = 0 then (en_ri (-1 : Int32) r1.2) else ((O_X12_in [.inl x3, .inl (1 : Int32), .inl (200 : Int32)] r1.2).bind fun r2 => if r2.1 = 0 then (en_ri (-1 : Int32) r2.2) else ((O_X12_layOrders [.inr (185, 12, 0, 0), .inl x3] r2.2).bind fun r3 => T_X12_course_41 en_FU x1 x2 x3 (0 : Int32) (-1 : Int32) (0 : Int32) (en_un) (en_un) (en_un) r3))) := rfl
set_option maxRecDepth 400000 in
set_option maxHeartbeats 4000000 in
theorem t_X12_course_41 (n : Nat) (x1 : Int32) (x2 : Int32) (x3 : Int32) (x4 : Int32) (x5 : Int32) (x6 : Int32) (u7 : en_V) (u8 : en_V) (u9 : en_V) (σ : en_M) : T_X12_course_41 (n + 1) x1 x2 x3 x4 x5 x6 u7 u8 u9 σ = (if x6 < x3 then (T_X12_course_50 n x1 x2 x3 x4 x5 x6 (0 : Int32) (u8) (u9) σ) else ((O_X12_tell [.inr (185, 12, 0, 0), .inl x5] (en_up σ 185 10 (0 : Int32))).bind fun r4 => en_ri x4 r4)) := rfl
set_option maxRecDepth 400000 in
set_option maxHeartbeats 4000000 in
theorem t_X12_course_50 (n : Nat) (x1 : Int32) (x2 : Int32) (x3 : Int32) (x4 : Int32) (x5 : Int32) (x6 : Int32) (x7 : Int32) (u8 : en_V) (u9 : en_V) (σ : en_M) : T_X12_course_50 (n + 1) x1 x2 x3 x4 x5 x6 x7 u8 u9 σ = (if (x7 + (1 : Int32)) < (σ 185 1) then ((en_ix (((7 : Int32) * x6) + x7) 1484).bind fun j5 => (en_ix ((((7 : Int32) * x6) + x7) + (1 : Int32)) 1484).bind fun j6 => if (σ 197 j5) = x1 then (if (σ 197 j6) = x2 then (if x4 = 0 then (T_X12_course_50 n x1 x2 x3 (x4 + (1 : Int32)) x6 x6 (x7 + (1 : Int32)) (.inl (σ 197 j5)) (.inl (σ 197 j6)) σ) else (T_X12_course_50 n x1 x2 x3 (x4 + (1 : Int32)) x5 x6 (x7 + (1 : Int32)) (.inl (σ 197 j5)) (.inl (σ 197 j6)) σ)) else (if (σ 197 j5) = x2 then (if (σ 197 j6) = x1 then (if x4 = 0 then (T_X12_course_50 n x1 x2 x3 (x4 + (1 : Int32)) x6 x6 (x7 + (1 : Int32)) (.inl (σ 197 j5)) (.inl (σ 197 j6)) σ) else (T_X12_course_50 n x1 x2 x3 (x4 + (1 : Int32)) x5 x6 (x7 + (1 : Int32)) (.inl (σ 197 j5)) (.inl (σ 197 j6)) σ)) else (T_X12_course_50 n x1 x2 x3 x4 x5 x6 (x7 + (1 : Int32)) (.inl (σ 197 j5)) (.inl (σ 197 j6)) σ)) else (T_X12_course_50 n x1 x2 x3 x4 x5 x6 (x7 + (1 : Int32)) (.inl (σ 197 j5)) (.inl (σ 197 j6)) σ))) else (if (σ 197 j5) = x2 then (if (σ 197 j6) = x1 then (if x4 = 0 then (T_X12_course_50 n x1 x2 x3 (x4 + (1 : Int32)) x6 x6 (x7 + (1 : Int32)) (.inl (σ 197 j5)) (.inl (σ 197 j6)) σ) else (T_X12_course_50 n x1 x2 x3 (x4 + (1 : Int32)) x5 x6 (x7 + (1 : Int32)) (.inl (σ 197 j5)) (.inl (σ 197 j6)) σ)) else (T_X12_course_50 n x1 x2 x3 x4 x5 x6 (x7 + (1 : Int32)) (.inl (σ 197 j5)) (.inl (σ 197 j6)) σ)) else (T_X12_course_50 n x1 x2 x3 x4 x5 x6 (x7 + (1 : Int32)) (.inl (σ 197 j5)) (.inl (σ 197 j6)) σ))) else (T_X12_course_41 n x1 x2 x3 x4 x5 (x6 + (1 : Int32)) (.inl x7) (u8) (u9) σ)) := rfl
noncomputable def P_X12_course : List en_V → en_M → Option (Int32 × en_M) := fun av σ => match av with
  | [.inr (185, 12, 0, 0), .inl x1, .inl x2, .inl x3] => en_oi (T_X12_course_0 x1 x2 x3 σ)
  | _ => none
theorem ox_X12_course : ∃ f, f = P_X12_course := ⟨_, rfl⟩
noncomputable def O_X12_course : List en_V → en_M → Option (Int32 × en_M) := Classical.choose ox_X12_course
theorem oe_X12_course : O_X12_course = P_X12_course := Classical.choose_spec ox_X12_course
theorem o_X12_course (x1 : Int32) (x2 : Int32) (x3 : Int32) (σ : en_M) : O_X12_course [.inr (185, 12, 0, 0), .inl x1, .inl x2, .inl x3] σ = en_oi (T_X12_course_0 x1 x2 x3 σ) := by rw [oe_X12_course]; rfl
theorem i_X12_course (G : en_G) (hst : G.2.2.2.2.2 = true) : en_I G 4 yX12_course cX12_course 10 (some .int) 0 0 (en_wi (O_X12_course)) := en_of_i (M := M_X12_course) hst (s_X12_course_0 G hst _ (l_X12_course G hst en_FU)) (plainFor_of_name (by decide +kernel)) rfl rfl rfl (Or.inl ⟨rfl, rfl⟩) (fun av σ x σ' h => by
  rw [oe_X12_course] at h; unfold P_X12_course at h
  split at h
  · exact ⟨(Nat.le_of_ble_eq_true rfl), en_oi_some h⟩
  · cases h)
-- EachMayMissOneModel.may(I)I
def M_X12_may : en_Me := (cX12_may, RX12, 2, false, 4, false)
theorem cs_X12_may : en_cs yX12_may cX12_may 2 (some .int) 1 := ⟨wm_597, wm_337, ⟨(by decide +kernel), (by decide +kernel), (by decide +kernel)⟩, (Nat.le_of_ble_eq_true rfl)⟩
noncomputable def B_X12_may_36 (kc : Nat → en_B) : en_B := op_iret
set_option maxRecDepth 20000 in
theorem s_X12_may_36 (G : en_G) (hst : G.2.2.2.2.2 = true) (kc : Nat → en_B) (hk : ∀ t, en_Snd G M_X12_may t (kc t)) : en_Snd G M_X12_may 36 (B_X12_may_36 kc) := (sn_iret (by decide +kernel) rfl)
noncomputable def B_X12_may_35 (kc : Nat → en_B) : en_B := (op_const (-1 : Int32) (B_X12_may_36 kc))
set_option maxRecDepth 20000 in
theorem s_X12_may_35 (G : en_G) (hst : G.2.2.2.2.2 = true) (kc : Nat → en_B) (hk : ∀ t, en_Snd G M_X12_may t (kc t)) : en_Snd G M_X12_may 35 (B_X12_may_35 kc) := (sn_iconst (n := -1) (v := -1) (by decide +kernel) rfl (s_X12_may_36 G hst kc hk))
noncomputable def B_X12_may_15 (kc : Nat → en_B) : en_B := (op_aload 0 (op_iload 1 (op_rcv 12 1 (op_calli O_X12_areThose 2 (op_ifeq (B_X12_may_35 kc) (op_aload 0 (op_aload 0 (op_gets 12 1 (20, 53, 0) (op_iload 1 (op_rcv 12 2 (op_calli O_X12_broken 3 (B_X12_may_36 kc))))))))))))
set_option maxRecDepth 20000 in
theorem s_X12_may_15 (G : en_G) (hst : G.2.2.2.2.2 = true) (kc : Nat → en_B) (hk : ∀ t, en_Snd G M_X12_may t (kc t)) : en_Snd G M_X12_may 15 (B_X12_may_15 kc) := (sn_aload_n (i := 0) (n := 0) (by decide +kernel) rfl (sn_iload_n (i := 1) (n := 1) (by decide +kernel) rfl (sn_callVi (n := 1) (idx := 241) (ci := 12) (i_X12_areThose G hst) (Nat.le_of_ble_eq_true rfl) cs_X12_areThose ⟨wm_393, wm_394, wm_533⟩ ⟨⟨_, rfl, rfl⟩, (Nat.le_of_ble_eq_true rfl)⟩ (by decide +kernel) (sn_ifeq (off := 15) (tgt := 35) (by decide +kernel) rfl (s_X12_may_35 G hst kc hk) (sn_aload_n (i := 0) (n := 0) (by decide +kernel) rfl (sn_aload_n (i := 0) (n := 0) (by decide +kernel) rfl (sn_gets (ci := 12) (j := 0) (off := 1) hst en_c12 of_12_1 (Nat.le_of_ble_eq_true rfl) (by decide +kernel) wm_339 (Nat.le_of_ble_eq_true rfl) rfl (sn_iload_n (i := 1) (n := 1) (by decide +kernel) rfl (sn_callVi (n := 2) (idx := 228) (ci := 12) (i_X12_broken G hst) (Nat.le_of_ble_eq_true rfl) cs_X12_broken ⟨wm_516, wm_517, wm_526⟩ ⟨⟨_, rfl, rfl⟩, (Nat.le_of_ble_eq_true rfl)⟩ (by decide +kernel) (sn_goto (off := 4) (tgt := 36) (by decide +kernel) rfl (s_X12_may_36 G hst kc hk)))))))))))
noncomputable def B_X12_may_0 (kc : Nat → en_B) : en_B := (op_aload 0 (op_const (0 : Int32) (op_puti 12 11 (op_aload 0 (op_geti 12 1 (op_ifeq (op_const (-2 : Int32) op_iret) (B_X12_may_15 kc)))))))
set_option maxRecDepth 20000 in
theorem s_X12_may_0 (G : en_G) (hst : G.2.2.2.2.2 = true) (kc : Nat → en_B) (hk : ∀ t, en_Snd G M_X12_may t (kc t)) : en_Snd G M_X12_may 0 (B_X12_may_0 kc) := (sn_aload_n (i := 0) (n := 0) (by decide +kernel) rfl (sn_iconst (n := 0) (v := 0) (by decide +kernel) rfl (sn_puti (ci := 12) (j := 11) en_c12 (by decide +kernel) wm_368 (Nat.le_of_ble_eq_true rfl) rfl rfl rfl (sn_aload_n (i := 0) (n := 0) (by decide +kernel) rfl (sn_geti (ci := 12) (j := 1) en_c12 (by decide +kernel) wm_383 (Nat.le_of_ble_eq_true rfl) rfl (sn_ifne (off := 6) (tgt := 15) (by decide +kernel) rfl (s_X12_may_15 G hst kc hk) (sn_bipush (n := -2) (v := -2) (by decide +kernel) rfl (sn_iret (by decide +kernel) rfl))))))))
noncomputable def LK_X12_may : Nat → Nat → en_B
  | 0, _ => en_no
  | n + 1, t => en_no
theorem l_X12_may (G : en_G) (hst : G.2.2.2.2.2 = true) : ∀ n t, en_Snd G M_X12_may t (LK_X12_may n t)
  | 0, _ => sn_no
  | n + 1, t => by
    show en_Snd G M_X12_may t (en_no)
    exact sn_no
noncomputable def T_X12_may_0 (x1 : Int32) (σ : en_M) : en_R := B_X12_may_0 (LK_X12_may en_FU) [.inr (185, 12, 0, 0), .inl x1] [] en_zz σ
set_option maxRecDepth 400000 in
set_option maxHeartbeats 4000000 in
theorem t_X12_may_0 (x1 : Int32) (σ : en_M) : T_X12_may_0 x1 σ = (if (σ 185 1) = 0 then (en_ri (-2 : Int32) (en_up σ 185 11 (0 : Int32))) else ((O_X12_areThose [.inr (185, 12, 0, 0), .inl x1] (en_up σ 185 11 (0 : Int32))).bind fun r1 => if r1.1 = 0 then (en_ri (-1 : Int32) r1.2) else ((O_X12_broken [.inr (185, 12, 0, 0), .inr (186, 20, 53, 0), .inl x1] r1.2).bind fun r2 => en_ri r2.1 r2.2))) := rfl
noncomputable def P_X12_may : List en_V → en_M → Option (Int32 × en_M) := fun av σ => match av with
  | [.inr (185, 12, 0, 0), .inl x1] => en_oi (T_X12_may_0 x1 σ)
  | _ => none
theorem ox_X12_may : ∃ f, f = P_X12_may := ⟨_, rfl⟩
noncomputable def O_X12_may : List en_V → en_M → Option (Int32 × en_M) := Classical.choose ox_X12_may
theorem oe_X12_may : O_X12_may = P_X12_may := Classical.choose_spec ox_X12_may
theorem o_X12_may (x1 : Int32) (σ : en_M) : O_X12_may [.inr (185, 12, 0, 0), .inl x1] σ = en_oi (T_X12_may_0 x1 σ) := by rw [oe_X12_may]; rfl
theorem i_X12_may (G : en_G) (hst : G.2.2.2.2.2 = true) : en_I G 4 yX12_may cX12_may 2 (some .int) 0 0 (en_wi (O_X12_may)) := en_of_i (M := M_X12_may) hst (s_X12_may_0 G hst _ (l_X12_may G hst en_FU)) (plainFor_of_name (by decide +kernel)) rfl rfl rfl (Or.inl ⟨rfl, rfl⟩) (fun av σ x σ' h => by
  rw [oe_X12_may] at h; unfold P_X12_may at h
  split at h
  · exact ⟨(Nat.le_of_ble_eq_true rfl), en_oi_some h⟩
  · cases h)
-- EachMayMissOneModel.lawful()I
def M_X12_lawful : en_Me := (cX12_lawful, RX12, 8, false, 4, false)
theorem cs_X12_lawful : en_cs yX12_lawful cX12_lawful 8 (some .int) 0 := ⟨wm_600, wm_337, ⟨(by decide +kernel), (by decide +kernel), (by decide +kernel)⟩, (Nat.le_of_ble_eq_true rfl)⟩
noncomputable def B_X12_lawful_133 (kc : Nat → en_B) : en_B := (op_aload 0 (op_const (0 : Int32) (op_puti 12 10 (op_aload 0 (op_iload 2 (op_rcv 12 1 (op_callv O_X12_tell 2 (op_aload 0 (op_iload 4 (op_rcv 12 1 (op_callv O_X12_tell 2 (op_iload 1 op_iret))))))))))))
set_option maxRecDepth 20000 in
theorem s_X12_lawful_133 (G : en_G) (hst : G.2.2.2.2.2 = true) (kc : Nat → en_B) (hk : ∀ t, en_Snd G M_X12_lawful t (kc t)) : en_Snd G M_X12_lawful 133 (B_X12_lawful_133 kc) := (sn_aload_n (i := 0) (n := 0) (by decide +kernel) rfl (sn_iconst (n := 0) (v := 0) (by decide +kernel) rfl (sn_puti (ci := 12) (j := 10) en_c12 (by decide +kernel) wm_379 (Nat.le_of_ble_eq_true rfl) rfl rfl rfl (sn_aload_n (i := 0) (n := 0) (by decide +kernel) rfl (sn_iload_n (i := 2) (n := 2) (by decide +kernel) rfl (sn_callVv (n := 1) (idx := 251) (ci := 12) (i_X12_tell G hst) (Nat.le_of_ble_eq_true rfl) cs_X12_tell ⟨wm_377, wm_378, wm_536⟩ ⟨⟨_, rfl, rfl⟩, (Nat.le_of_ble_eq_true rfl)⟩ (by decide +kernel) (sn_aload_n (i := 0) (n := 0) (by decide +kernel) rfl (sn_iload (i := 4) (by decide +kernel) (sn_callVv (n := 1) (idx := 251) (ci := 12) (i_X12_tell G hst) (Nat.le_of_ble_eq_true rfl) cs_X12_tell ⟨wm_377, wm_378, wm_536⟩ ⟨⟨_, rfl, rfl⟩, (Nat.le_of_ble_eq_true rfl)⟩ (by decide +kernel) (sn_iload_n (i := 1) (n := 1) (by decide +kernel) rfl (sn_iret (by decide +kernel) rfl)))))))))))
noncomputable def B_X12_lawful_127 (kc : Nat → en_B) : en_B := (op_iinc 5 (1 : Int32) (kc 27))
set_option maxRecDepth 20000 in
theorem s_X12_lawful_127 (G : en_G) (hst : G.2.2.2.2.2 = true) (kc : Nat → en_B) (hk : ∀ t, en_Snd G M_X12_lawful t (kc t)) : en_Snd G M_X12_lawful 127 (B_X12_lawful_127 kc) := (sn_iinc (i := 5) (n := 1) (v := 1) (by decide +kernel) rfl (sn_goto (off := -103) (tgt := 27) (by decide +kernel) rfl (hk 27)))
noncomputable def B_X12_lawful_121 (kc : Nat → en_B) : en_B := (op_iload 5 (op_istore 2 (op_iload 6 (op_istore 3 (B_X12_lawful_127 kc)))))
set_option maxRecDepth 20000 in
theorem s_X12_lawful_121 (G : en_G) (hst : G.2.2.2.2.2 = true) (kc : Nat → en_B) (hk : ∀ t, en_Snd G M_X12_lawful t (kc t)) : en_Snd G M_X12_lawful 121 (B_X12_lawful_121 kc) := (sn_iload (i := 5) (by decide +kernel) (sn_istore_n (i := 2) (n := 2) (by decide +kernel) rfl (Nat.le_of_ble_eq_true rfl) (sn_iload (i := 6) (by decide +kernel) (sn_istore_n (i := 3) (n := 3) (by decide +kernel) rfl (Nat.le_of_ble_eq_true rfl) (s_X12_lawful_127 G hst kc hk)))))
noncomputable def B_X12_lawful_112 (kc : Nat → en_B) : en_B := (op_iload 6 (op_iload 3 (op_icgt (B_X12_lawful_121 kc) (B_X12_lawful_127 kc))))
set_option maxRecDepth 20000 in
theorem s_X12_lawful_112 (G : en_G) (hst : G.2.2.2.2.2 = true) (kc : Nat → en_B) (hk : ∀ t, en_Snd G M_X12_lawful t (kc t)) : en_Snd G M_X12_lawful 112 (B_X12_lawful_112 kc) := (sn_iload (i := 6) (by decide +kernel) (sn_iload_n (i := 3) (n := 3) (by decide +kernel) rfl (sn_icgt (off := 6) (tgt := 121) (by decide +kernel) rfl (s_X12_lawful_121 G hst kc hk) (sn_goto (off := 9) (tgt := 127) (by decide +kernel) rfl (s_X12_lawful_127 G hst kc hk)))))
noncomputable def B_X12_lawful_103 (kc : Nat → en_B) : en_B := (op_bin (fun (x y : Int32) => x + y) (op_istore 6 (op_iinc 7 (1 : Int32) (kc 68))))
set_option maxRecDepth 20000 in
theorem s_X12_lawful_103 (G : en_G) (hst : G.2.2.2.2.2 = true) (kc : Nat → en_B) (hk : ∀ t, en_Snd G M_X12_lawful t (kc t)) : en_Snd G M_X12_lawful 103 (B_X12_lawful_103 kc) := (sn_iadd (by decide +kernel) (sn_istore (i := 6) (by decide +kernel) (Nat.le_of_ble_eq_true rfl) (sn_iinc (i := 7) (n := 1) (v := 1) (by decide +kernel) rfl (sn_goto (off := -41) (tgt := 68) (by decide +kernel) rfl (hk 68)))))
noncomputable def B_X12_lawful_102 (kc : Nat → en_B) : en_B := (op_const (0 : Int32) (B_X12_lawful_103 kc))
set_option maxRecDepth 20000 in
theorem s_X12_lawful_102 (G : en_G) (hst : G.2.2.2.2.2 = true) (kc : Nat → en_B) (hk : ∀ t, en_Snd G M_X12_lawful t (kc t)) : en_Snd G M_X12_lawful 102 (B_X12_lawful_102 kc) := (sn_iconst (n := 0) (v := 0) (by decide +kernel) rfl (s_X12_lawful_103 G hst kc hk))
noncomputable def B_X12_lawful_68 (kc : Nat → en_B) : en_B := (op_iload 7 (op_aload 0 (op_geti 12 1 (op_iclt (op_iload 6 (op_iload 5 (op_iload 7 (op_calli O_X12_has 2 (op_ifeq (B_X12_lawful_102 kc) (op_aload 0 (op_gets 12 1 (20, 53, 0) (op_const (7 : Int32) (op_iload 7 (op_bin (fun (x y : Int32) => x + y) (op_ald 20 (B_X12_lawful_103 kc)))))))))))) (B_X12_lawful_112 kc)))))
set_option maxRecDepth 20000 in
theorem s_X12_lawful_68 (G : en_G) (hst : G.2.2.2.2.2 = true) (kc : Nat → en_B) (hk : ∀ t, en_Snd G M_X12_lawful t (kc t)) : en_Snd G M_X12_lawful 68 (B_X12_lawful_68 kc) := (sn_iload (i := 7) (by decide +kernel) (sn_aload_n (i := 0) (n := 0) (by decide +kernel) rfl (sn_geti (ci := 12) (j := 1) en_c12 (by decide +kernel) wm_383 (Nat.le_of_ble_eq_true rfl) rfl (sn_icge (off := 38) (tgt := 112) (by decide +kernel) rfl (s_X12_lawful_112 G hst kc hk) (sn_iload (i := 6) (by decide +kernel) (sn_iload (i := 5) (by decide +kernel) (sn_iload (i := 7) (by decide +kernel) (sn_callSi (n := 2) (idx := 198) (i_X12_has G hst) (Nat.le_of_ble_eq_true rfl) cs_X12_has ⟨wm_372, Or.inl wm_483⟩ (by decide +kernel) (sn_ifeq (off := 16) (tgt := 102) (by decide +kernel) rfl (s_X12_lawful_102 G hst kc hk) (sn_aload_n (i := 0) (n := 0) (by decide +kernel) rfl (sn_gets (ci := 12) (j := 0) (off := 1) hst en_c12 of_12_1 (Nat.le_of_ble_eq_true rfl) (by decide +kernel) wm_339 (Nat.le_of_ble_eq_true rfl) rfl (sn_bipush (n := 7) (v := 7) (by decide +kernel) rfl (sn_iload (i := 7) (by decide +kernel) (sn_iadd (by decide +kernel) (sn_iald (by decide +kernel) (sn_goto (off := 4) (tgt := 103) (by decide +kernel) rfl (s_X12_lawful_103 G hst kc hk)))))))))))))))))
noncomputable def B_X12_lawful_52 (kc : Nat → en_B) : en_B := (op_iinc 1 (1 : Int32) (op_iload 4 (op_iload 5 (op_bin (fun (x y : Int32) => x ||| y) (op_istore 4 (op_const (0 : Int32) (op_istore 6 (op_const (0 : Int32) (op_istore 7 (kc 68))))))))))
set_option maxRecDepth 20000 in
theorem s_X12_lawful_52 (G : en_G) (hst : G.2.2.2.2.2 = true) (kc : Nat → en_B) (hk : ∀ t, en_Snd G M_X12_lawful t (kc t)) : en_Snd G M_X12_lawful 52 (B_X12_lawful_52 kc) := (sn_iinc (i := 1) (n := 1) (v := 1) (by decide +kernel) rfl (sn_iload (i := 4) (by decide +kernel) (sn_iload (i := 5) (by decide +kernel) (sn_ior (by decide +kernel) (sn_istore (i := 4) (by decide +kernel) (Nat.le_of_ble_eq_true rfl) (sn_iconst (n := 0) (v := 0) (by decide +kernel) rfl (sn_istore (i := 6) (by decide +kernel) (Nat.le_of_ble_eq_true rfl) (sn_iconst (n := 0) (v := 0) (by decide +kernel) rfl (sn_istore (i := 7) (by decide +kernel) (Nat.le_of_ble_eq_true rfl) (hk 68))))))))))
noncomputable def B_X12_lawful_27 (kc : Nat → en_B) : en_B := (op_iload 5 (op_aload 0 (op_rcv 12 0 (op_calli O_X12_everybody 1 (op_icgt (B_X12_lawful_133 kc) (op_aload 0 (op_aload 0 (op_gets 12 1 (20, 53, 0) (op_iload 5 (op_rcv 12 2 (op_calli O_X12_broken 3 (op_ifeq (B_X12_lawful_52 kc) (B_X12_lawful_127 kc)))))))))))))
set_option maxRecDepth 20000 in
theorem s_X12_lawful_27 (G : en_G) (hst : G.2.2.2.2.2 = true) (kc : Nat → en_B) (hk : ∀ t, en_Snd G M_X12_lawful t (kc t)) : en_Snd G M_X12_lawful 27 (B_X12_lawful_27 kc) := (sn_iload (i := 5) (by decide +kernel) (sn_aload_n (i := 0) (n := 0) (by decide +kernel) rfl (sn_callVi (n := 0) (idx := 108) (ci := 12) (i_X12_everybody G hst) (Nat.le_of_ble_eq_true rfl) cs_X12_everybody ⟨wm_390, wm_391, wm_395⟩ ⟨⟨_, rfl, rfl⟩, (Nat.le_of_ble_eq_true rfl)⟩ (by decide +kernel) (sn_icgt (off := 100) (tgt := 133) (by decide +kernel) rfl (s_X12_lawful_133 G hst kc hk) (sn_aload_n (i := 0) (n := 0) (by decide +kernel) rfl (sn_aload_n (i := 0) (n := 0) (by decide +kernel) rfl (sn_gets (ci := 12) (j := 0) (off := 1) hst en_c12 of_12_1 (Nat.le_of_ble_eq_true rfl) (by decide +kernel) wm_339 (Nat.le_of_ble_eq_true rfl) rfl (sn_iload (i := 5) (by decide +kernel) (sn_callVi (n := 2) (idx := 228) (ci := 12) (i_X12_broken G hst) (Nat.le_of_ble_eq_true rfl) cs_X12_broken ⟨wm_516, wm_517, wm_526⟩ ⟨⟨_, rfl, rfl⟩, (Nat.le_of_ble_eq_true rfl)⟩ (by decide +kernel) (sn_ifeq (off := 6) (tgt := 52) (by decide +kernel) rfl (s_X12_lawful_52 G hst kc hk) (sn_goto (off := 78) (tgt := 127) (by decide +kernel) rfl (s_X12_lawful_127 G hst kc hk))))))))))))
noncomputable def B_X12_lawful_15 (kc : Nat → en_B) : en_B := (op_const (0 : Int32) (op_istore 1 (op_const (0 : Int32) (op_istore 2 (op_const (-1 : Int32) (op_istore 3 (op_const (0 : Int32) (op_istore 4 (op_const (0 : Int32) (op_istore 5 (kc 27)))))))))))
set_option maxRecDepth 20000 in
theorem s_X12_lawful_15 (G : en_G) (hst : G.2.2.2.2.2 = true) (kc : Nat → en_B) (hk : ∀ t, en_Snd G M_X12_lawful t (kc t)) : en_Snd G M_X12_lawful 15 (B_X12_lawful_15 kc) := (sn_iconst (n := 0) (v := 0) (by decide +kernel) rfl (sn_istore_n (i := 1) (n := 1) (by decide +kernel) rfl (Nat.le_of_ble_eq_true rfl) (sn_iconst (n := 0) (v := 0) (by decide +kernel) rfl (sn_istore_n (i := 2) (n := 2) (by decide +kernel) rfl (Nat.le_of_ble_eq_true rfl) (sn_iconst (n := -1) (v := -1) (by decide +kernel) rfl (sn_istore_n (i := 3) (n := 3) (by decide +kernel) rfl (Nat.le_of_ble_eq_true rfl) (sn_iconst (n := 0) (v := 0) (by decide +kernel) rfl (sn_istore (i := 4) (by decide +kernel) (Nat.le_of_ble_eq_true rfl) (sn_iconst (n := 0) (v := 0) (by decide +kernel) rfl (sn_istore (i := 5) (by decide +kernel) (Nat.le_of_ble_eq_true rfl) (hk 27)))))))))))
noncomputable def B_X12_lawful_0 (kc : Nat → en_B) : en_B := (op_aload 0 (op_const (0 : Int32) (op_puti 12 11 (op_aload 0 (op_geti 12 1 (op_ifeq (op_const (-2 : Int32) op_iret) (B_X12_lawful_15 kc)))))))
set_option maxRecDepth 20000 in
theorem s_X12_lawful_0 (G : en_G) (hst : G.2.2.2.2.2 = true) (kc : Nat → en_B) (hk : ∀ t, en_Snd G M_X12_lawful t (kc t)) : en_Snd G M_X12_lawful 0 (B_X12_lawful_0 kc) := (sn_aload_n (i := 0) (n := 0) (by decide +kernel) rfl (sn_iconst (n := 0) (v := 0) (by decide +kernel) rfl (sn_puti (ci := 12) (j := 11) en_c12 (by decide +kernel) wm_368 (Nat.le_of_ble_eq_true rfl) rfl rfl rfl (sn_aload_n (i := 0) (n := 0) (by decide +kernel) rfl (sn_geti (ci := 12) (j := 1) en_c12 (by decide +kernel) wm_383 (Nat.le_of_ble_eq_true rfl) rfl (sn_ifne (off := 6) (tgt := 15) (by decide +kernel) rfl (s_X12_lawful_15 G hst kc hk) (sn_bipush (n := -2) (v := -2) (by decide +kernel) rfl (sn_iret (by decide +kernel) rfl))))))))
noncomputable def LK_X12_lawful : Nat → Nat → en_B
  | 0, _ => en_no
  | n + 1, t => if t = 27 then B_X12_lawful_27 (LK_X12_lawful n) else if t = 68 then B_X12_lawful_68 (LK_X12_lawful n) else en_no
theorem l_X12_lawful (G : en_G) (hst : G.2.2.2.2.2 = true) : ∀ n t, en_Snd G M_X12_lawful t (LK_X12_lawful n t)
  | 0, _ => sn_no
  | n + 1, t => by
    show en_Snd G M_X12_lawful t (if t = 27 then B_X12_lawful_27 (LK_X12_lawful n) else if t = 68 then B_X12_lawful_68 (LK_X12_lawful n) else en_no)
    by_cases h_27 : t = 27
    · rw [if_pos h_27, h_27]; exact s_X12_lawful_27 G hst _ (l_X12_lawful G hst n)
    rw [if_neg h_27]
    by_cases h_68 : t = 68
    · rw [if_pos h_68, h_68]; exact s_X12_lawful_68 G hst _ (l_X12_lawful G hst n)
    rw [if_neg h_68]
    exact sn_no
noncomputable def T_X12_lawful_0 (σ : en_M) : en_R := B_X12_lawful_0 (LK_X12_lawful en_FU) [.inr (185, 12, 0, 0), en_un, en_un, en_un, en_un, en_un, en_un, en_un] [] en_zz σ
noncomputable def T_X12_lawful_27 (n : Nat) (x1 : Int32) (x2 : Int32) (x3 : Int32) (x4 : Int32) (x5 : Int32) (u6 : en_V) (u7 : en_V) (σ : en_M) : en_R := LK_X12_lawful n 27 [.inr (185, 12, 0, 0), .inl x1, .inl x2, .inl x3, .inl x4, .inl x5, u6, u7] [] en_zz σ
noncomputable def T_X12_lawful_68 (n : Nat) (x1 : Int32) (x2 : Int32) (x3 : Int32) (x4 : Int32) (x5 : Int32) (x6 : Int32) (x7 : Int32) (σ : en_M) : en_R := LK_X12_lawful n 68 [.inr (185, 12, 0, 0), .inl x1, .inl x2, .inl x3, .inl x4, .inl x5, .inl x6, .inl x7] [] en_zz σ
set_option maxRecDepth 400000 in
set_option maxHeartbeats 4000000 in
theorem t_X12_lawful_0 (σ : en_M) : T_X12_lawful_0 σ = (if (σ 185 1) = 0 then (en_ri (-2 : Int32) (en_up σ 185 11 (0 : Int32))) else (T_X12_lawful_27 en_FU (0 : Int32) (0 : Int32) (-1 : Int32) (0 : Int32) (0 : Int32) (en_un) (en_un) (en_up σ 185 11 (0 : Int32)))) := rfl
set_option maxRecDepth 400000 in
set_option maxHeartbeats 4000000 in
theorem t_X12_lawful_27 (n : Nat) (x1 : Int32) (x2 : Int32) (x3 : Int32) (x4 : Int32) (x5 : Int32) (u6 : en_V) (u7 : en_V) (σ : en_M) : T_X12_lawful_27 (n + 1) x1 x2 x3 x4 x5 u6 u7 σ = ((O_X12_everybody [.inr (185, 12, 0, 0)] σ).bind fun r1 => if r1.1 < x5 then ((O_X12_tell [.inr (185, 12, 0, 0), .inl x2] (en_up r1.2 185 10 (0 : Int32))).bind fun r2 => (O_X12_tell [.inr (185, 12, 0, 0), .inl x4] r2).bind fun r3 => en_ri x1 r3) else ((O_X12_broken [.inr (185, 12, 0, 0), .inr (186, 20, 53, 0), .inl x5] r1.2).bind fun r4 => if r4.1 = 0 then (T_X12_lawful_68 n (x1 + (1 : Int32)) x2 x3 (x4 ||| x5) x5 (0 : Int32) (0 : Int32) r4.2) else (T_X12_lawful_27 n x1 x2 x3 x4 (x5 + (1 : Int32)) (u6) (u7) r4.2))) := rfl
set_option maxRecDepth 400000 in
set_option maxHeartbeats 4000000 in
theorem t_X12_lawful_68 (n : Nat) (x1 : Int32) (x2 : Int32) (x3 : Int32) (x4 : Int32) (x5 : Int32) (x6 : Int32) (x7 : Int32) (σ : en_M) : T_X12_lawful_68 (n + 1) x1 x2 x3 x4 x5 x6 x7 σ = (if x7 < (σ 185 1) then ((O_X12_has [.inl x5, .inl x7] σ).bind fun r5 => if r5.1 = 0 then (T_X12_lawful_68 n x1 x2 x3 x4 x5 (x6 + (0 : Int32)) (x7 + (1 : Int32)) r5.2) else ((en_ix ((7 : Int32) + x7) 53).bind fun j6 => T_X12_lawful_68 n x1 x2 x3 x4 x5 (x6 + (r5.2 186 j6)) (x7 + (1 : Int32)) r5.2)) else (if x3 < x6 then (T_X12_lawful_27 n x1 x5 x6 x4 (x5 + (1 : Int32)) (.inl x6) (.inl x7) σ) else (T_X12_lawful_27 n x1 x2 x3 x4 (x5 + (1 : Int32)) (.inl x6) (.inl x7) σ))) := rfl
noncomputable def P_X12_lawful : List en_V → en_M → Option (Int32 × en_M) := fun av σ => match av with
  | [.inr (185, 12, 0, 0)] => en_oi (T_X12_lawful_0 σ)
  | _ => none
theorem ox_X12_lawful : ∃ f, f = P_X12_lawful := ⟨_, rfl⟩
noncomputable def O_X12_lawful : List en_V → en_M → Option (Int32 × en_M) := Classical.choose ox_X12_lawful
theorem oe_X12_lawful : O_X12_lawful = P_X12_lawful := Classical.choose_spec ox_X12_lawful
theorem o_X12_lawful (σ : en_M) : O_X12_lawful [.inr (185, 12, 0, 0)] σ = en_oi (T_X12_lawful_0 σ) := by rw [oe_X12_lawful]; rfl
theorem i_X12_lawful (G : en_G) (hst : G.2.2.2.2.2 = true) : en_I G 4 yX12_lawful cX12_lawful 8 (some .int) 0 0 (en_wi (O_X12_lawful)) := en_of_i (M := M_X12_lawful) hst (s_X12_lawful_0 G hst _ (l_X12_lawful G hst en_FU)) (plainFor_of_name (by decide +kernel)) rfl rfl rfl (Or.inl ⟨rfl, rfl⟩) (fun av σ x σ' h => by
  rw [oe_X12_lawful] at h; unfold P_X12_lawful at h
  split at h
  · exact ⟨(Nat.le_of_ble_eq_true rfl), en_oi_some h⟩
  · cases h)
