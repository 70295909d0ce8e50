-- EachMayMissOneModel.undo()I
def M_X12_undo : en_Me := (cX12_undo, RX12, 2, false, 1, false)
theorem cs_X12_undo : en_cs yX12_undo cX12_undo 2 (some .int) 0 := ⟨wm_563, wm_337, ⟨(by decide +kernel), (by decide +kernel), (by decide +kernel)⟩, (Nat.le_of_ble_eq_true rfl)⟩
noncomputable def B_X12_undo_58 (kc : Nat → en_B) : en_B := (op_aload 0 (op_geti 12 23 op_iret))
set_option maxRecDepth 20000 in
theorem s_X12_undo_58 (G : en_G) (hst : G.2.2.2.2.2 = true) (kc : Nat → en_B) (hk : ∀ t, en_Snd G M_X12_undo t (kc t)) : en_Snd G M_X12_undo 58 (B_X12_undo_58 kc) := (sn_aload_n (i := 0) (n := 0) (by decide +kernel) rfl (sn_geti (ci := 12) (j := 23) en_c12 (by decide +kernel) wm_436 (Nat.le_of_ble_eq_true rfl) rfl (sn_iret (by decide +kernel) rfl)))
noncomputable def B_X12_undo_26 (kc : Nat → en_B) : en_B := (op_iload 1 (op_const (53 : Int32) (op_iclt (op_aload 0 (op_gets 12 1 (20, 53, 0) (op_iload 1 (op_aload 0 (op_gets 12 9 (20, 636, 0) (op_const (53 : Int32) (op_aload 0 (op_geti 12 23 (op_bin (fun (x y : Int32) => x * y) (op_iload 1 (op_bin (fun (x y : Int32) => x + y) (op_ald 20 (op_ast 20 (fun (x : Int32) => x) (op_iinc 1 (1 : Int32) (kc 26))))))))))))))) (B_X12_undo_58 kc))))
set_option maxRecDepth 20000 in
theorem s_X12_undo_26 (G : en_G) (hst : G.2.2.2.2.2 = true) (kc : Nat → en_B) (hk : ∀ t, en_Snd G M_X12_undo t (kc t)) : en_Snd G M_X12_undo 26 (B_X12_undo_26 kc) := (sn_iload_n (i := 1) (n := 1) (by decide +kernel) rfl (sn_bipush (n := 53) (v := 53) (by decide +kernel) rfl (sn_icge (off := 29) (tgt := 58) (by decide +kernel) rfl (s_X12_undo_58 G hst kc hk) (sn_aload_n (i := 0) (n := 0) (by decide +kernel) rfl (sn_gets (ci := 12) (j := 0) (off := 1) hst en_c12 of_12_1 (Nat.le_of_ble_eq_true rfl) (by decide +kernel) wm_339 (Nat.le_of_ble_eq_true rfl) rfl (sn_iload_n (i := 1) (n := 1) (by decide +kernel) rfl (sn_aload_n (i := 0) (n := 0) (by decide +kernel) rfl (sn_gets (ci := 12) (j := 22) (off := 9) hst en_c12 of_12_9 (Nat.le_of_ble_eq_true rfl) (by decide +kernel) wm_350 (Nat.le_of_ble_eq_true rfl) rfl (sn_bipush (n := 53) (v := 53) (by decide +kernel) rfl (sn_aload_n (i := 0) (n := 0) (by decide +kernel) rfl (sn_geti (ci := 12) (j := 23) en_c12 (by decide +kernel) wm_436 (Nat.le_of_ble_eq_true rfl) rfl (sn_imul (by decide +kernel) (sn_iload_n (i := 1) (n := 1) (by decide +kernel) rfl (sn_iadd (by decide +kernel) (sn_iald (by decide +kernel) (sn_iast (by decide +kernel) (sn_iinc (i := 1) (n := 1) (v := 1) (by decide +kernel) rfl (sn_goto (off := -29) (tgt := 26) (by decide +kernel) rfl (hk 26)))))))))))))))))))
noncomputable def B_X12_undo_14 (kc : Nat → en_B) : en_B := (op_aload 0 (op_dup (op_geti 12 23 (op_const (1 : Int32) (op_bin (fun (x y : Int32) => x - y) (op_puti 12 23 (op_const (0 : Int32) (op_istore 1 (kc 26)))))))))
set_option maxRecDepth 20000 in
theorem s_X12_undo_14 (G : en_G) (hst : G.2.2.2.2.2 = true) (kc : Nat → en_B) (hk : ∀ t, en_Snd G M_X12_undo t (kc t)) : en_Snd G M_X12_undo 14 (B_X12_undo_14 kc) := (sn_aload_n (i := 0) (n := 0) (by decide +kernel) rfl (sn_dup (by decide +kernel) (sn_geti (ci := 12) (j := 23) en_c12 (by decide +kernel) wm_436 (Nat.le_of_ble_eq_true rfl) rfl (sn_iconst (n := 1) (v := 1) (by decide +kernel) rfl (sn_isub (by decide +kernel) (sn_puti (ci := 12) (j := 23) en_c12 (by decide +kernel) wm_436 (Nat.le_of_ble_eq_true rfl) rfl rfl rfl (sn_iconst (n := 0) (v := 0) (by decide +kernel) rfl (sn_istore_n (i := 1) (n := 1) (by decide +kernel) rfl (Nat.le_of_ble_eq_true rfl) (hk 26)))))))))
noncomputable def B_X12_undo_0 (kc : Nat → en_B) : en_B := (op_aload 0 (op_const (0 : Int32) (op_puti 12 11 (op_aload 0 (op_geti 12 23 (op_ifeq (op_const (-1 : Int32) op_iret) (B_X12_undo_14 kc)))))))
set_option maxRecDepth 20000 in
theorem s_X12_undo_0 (G : en_G) (hst : G.2.2.2.2.2 = true) (kc : Nat → en_B) (hk : ∀ t, en_Snd G M_X12_undo t (kc t)) : en_Snd G M_X12_undo 0 (B_X12_undo_0 kc) := (sn_aload_n (i := 0) (n := 0) (by decide +kernel) rfl (sn_iconst (n := 0) (v := 0) (by decide +kernel) rfl (sn_puti (ci := 12) (j := 11) en_c12 (by decide +kernel) wm_368 (Nat.le_of_ble_eq_true rfl) rfl rfl rfl (sn_aload_n (i := 0) (n := 0) (by decide +kernel) rfl (sn_geti (ci := 12) (j := 23) en_c12 (by decide +kernel) wm_436 (Nat.le_of_ble_eq_true rfl) rfl (sn_ifne (off := 5) (tgt := 14) (by decide +kernel) rfl (s_X12_undo_14 G hst kc hk) (sn_iconst (n := -1) (v := -1) (by decide +kernel) rfl (sn_iret (by decide +kernel) rfl))))))))
noncomputable def LK_X12_undo : Nat → Nat → en_B
  | 0, _ => en_no
  | n + 1, t => if t = 26 then B_X12_undo_26 (LK_X12_undo n) else en_no
theorem l_X12_undo (G : en_G) (hst : G.2.2.2.2.2 = true) : ∀ n t, en_Snd G M_X12_undo t (LK_X12_undo n t)
  | 0, _ => sn_no
  | n + 1, t => by
    show en_Snd G M_X12_undo t (if t = 26 then B_X12_undo_26 (LK_X12_undo n) else en_no)
    by_cases h_26 : t = 26
    · rw [if_pos h_26, h_26]; exact s_X12_undo_26 G hst _ (l_X12_undo G hst n)
    rw [if_neg h_26]
    exact sn_no
noncomputable def T_X12_undo_0 (σ : en_M) : en_R := B_X12_undo_0 (LK_X12_undo en_FU) [.inr (185, 12, 0, 0), en_un] [] en_zz σ
noncomputable def T_X12_undo_26 (n : Nat) (x1 : Int32) (σ : en_M) : en_R := LK_X12_undo n 26 [.inr (185, 12, 0, 0), .inl x1] [] en_zz σ
set_option maxRecDepth 400000 in
set_option maxHeartbeats 4000000 in
theorem t_X12_undo_0 (σ : en_M) : T_X12_undo_0 σ = (if (σ 185 23) = 0 then (en_ri (-1 : Int32) (en_up σ 185 11 (0 : Int32))) else (T_X12_undo_26 en_FU (0 : Int32) (en_up (en_up σ 185 11 (0 : Int32)) 185 23 ((σ 185 23) - (1 : Int32))))) := rfl
set_option maxRecDepth 400000 in
set_option maxHeartbeats 4000000 in
theorem t_X12_undo_26 (n : Nat) (x1 : Int32) (σ : en_M) : T_X12_undo_26 (n + 1) x1 σ = (if x1 < (53 : Int32) then ((en_ix (((53 : Int32) * (σ 185 23)) + x1) 636).bind fun j1 => (en_ix x1 53).bind fun j2 => T_X12_undo_26 n (x1 + (1 : Int32)) (en_up σ 186 j2 (σ 194 j1))) else (en_ri (σ 185 23) σ)) := rfl
noncomputable def P_X12_undo : List en_V → en_M → Option (Int32 × en_M) := fun av σ => match av with
  | [.inr (185, 12, 0, 0)] => en_oi (T_X12_undo_0 σ)
  | _ => none
theorem ox_X12_undo : ∃ f, f = P_X12_undo := ⟨_, rfl⟩
noncomputable def O_X12_undo : List en_V → en_M → Option (Int32 × en_M) := Classical.choose ox_X12_undo
theorem oe_X12_undo : O_X12_undo = P_X12_undo := Classical.choose_spec ox_X12_undo
theorem o_X12_undo (σ : en_M) : O_X12_undo [.inr (185, 12, 0, 0)] σ = en_oi (T_X12_undo_0 σ) := by rw [oe_X12_undo]; rfl
theorem i_X12_undo (G : en_G) (hst : G.2.2.2.2.2 = true) : en_I G 1 yX12_undo cX12_undo 2 (some .int) 0 0 (en_wi (O_X12_undo)) := en_of_i (M := M_X12_undo) hst (s_X12_undo_0 G hst _ (l_X12_undo G hst en_FU)) (plainFor_of_name (by decide +kernel)) rfl rfl rfl (Or.inl ⟨rfl, rfl⟩) (fun av σ x σ' h => by
  rw [oe_X12_undo] at h; unfold P_X12_undo at h
  split at h
  · exact ⟨(Nat.le_of_ble_eq_true rfl), en_oi_some h⟩
  · cases h)
-- EachMayMissOneModel.layOrders(I)V
def M_X12_layOrders : en_Me := (cX12_layOrders, RX12, 4, false, 3, false)
theorem cs_X12_layOrders : en_cs yX12_layOrders cX12_layOrders 4 none 1 := ⟨wm_566, wm_337, ⟨(by decide +kernel), (by decide +kernel), (by decide +kernel)⟩, (Nat.le_of_ble_eq_true rfl)⟩
noncomputable def B_X12_layOrders_77 (kc : Nat → en_B) : en_B := op_vret
set_option maxRecDepth 20000 in
theorem s_X12_layOrders_77 (G : en_G) (hst : G.2.2.2.2.2 = true) (kc : Nat → en_B) (hk : ∀ t, en_Snd G M_X12_layOrders t (kc t)) : en_Snd G M_X12_layOrders 77 (B_X12_layOrders_77 kc) := (sn_vret (by decide +kernel))
noncomputable def B_X12_layOrders_52 (kc : Nat → en_B) : en_B := (op_aload 0 (op_aload 0 (op_gets 12 13 (20, 53, 0) (op_rcv 12 1 (op_callv O_X12_changeOrder 2 (op_aload 0 (op_gets 12 13 (20, 53, 0) (op_const (28 : Int32) (op_dup2 (op_ald 20 (op_const (1 : Int32) (op_bin (fun (x y : Int32) => x + y) (op_ast 20 (fun (x : Int32) => x) (op_iinc 2 (1 : Int32) (kc 14)))))))))))))))
set_option maxRecDepth 20000 in
theorem s_X12_layOrders_52 (G : en_G) (hst : G.2.2.2.2.2 = true) (kc : Nat → en_B) (hk : ∀ t, en_Snd G M_X12_layOrders t (kc t)) : en_Snd G M_X12_layOrders 52 (B_X12_layOrders_52 kc) := (sn_aload_n (i := 0) (n := 0) (by decide +kernel) rfl (sn_aload_n (i := 0) (n := 0) (by decide +kernel) rfl (sn_gets (ci := 12) (j := 31) (off := 13) hst en_c12 of_12_13 (Nat.le_of_ble_eq_true rfl) (by decide +kernel) wm_354 (Nat.le_of_ble_eq_true rfl) rfl (sn_callVv (n := 1) (idx := 237) (ci := 12) (i_X12_changeOrder G hst) (Nat.le_of_ble_eq_true rfl) cs_X12_changeOrder ⟨wm_521, wm_522, wm_529⟩ ⟨⟨_, rfl, rfl⟩, (Nat.le_of_ble_eq_true rfl)⟩ (by decide +kernel) (sn_aload_n (i := 0) (n := 0) (by decide +kernel) rfl (sn_gets (ci := 12) (j := 31) (off := 13) hst en_c12 of_12_13 (Nat.le_of_ble_eq_true rfl) (by decide +kernel) wm_354 (Nat.le_of_ble_eq_true rfl) rfl (sn_bipush (n := 28) (v := 28) (by decide +kernel) rfl (sn_dup2 (by decide +kernel) (sn_iald (by decide +kernel) (sn_iconst (n := 1) (v := 1) (by decide +kernel) rfl (sn_iadd (by decide +kernel) (sn_iast (by decide +kernel) (sn_iinc (i := 2) (n := 1) (v := 1) (by decide +kernel) rfl (sn_goto (off := -60) (tgt := 14) (by decide +kernel) rfl (hk 14)))))))))))))))
noncomputable def B_X12_layOrders_21 (kc : Nat → en_B) : en_B := (op_iload 3 (op_aload 0 (op_geti 12 1 (op_iclt (op_aload 0 (op_gets 12 12 (20, 1484, 0) (op_const (7 : Int32) (op_iload 2 (op_bin (fun (x y : Int32) => x * y) (op_iload 3 (op_bin (fun (x y : Int32) => x + y) (op_aload 0 (op_gets 12 13 (20, 53, 0) (op_iload 3 (op_ald 20 (op_ast 20 (fun (x : Int32) => x) (op_iinc 3 (1 : Int32) (kc 21)))))))))))))) (B_X12_layOrders_52 kc)))))
set_option maxRecDepth 20000 in
theorem s_X12_layOrders_21 (G : en_G) (hst : G.2.2.2.2.2 = true) (kc : Nat → en_B) (hk : ∀ t, en_Snd G M_X12_layOrders t (kc t)) : en_Snd G M_X12_layOrders 21 (B_X12_layOrders_21 kc) := (sn_iload_n (i := 3) (n := 3) (by decide +kernel) rfl (sn_aload_n (i := 0) (n := 0) (by decide +kernel) rfl (sn_geti (ci := 12) (j := 1) en_c12 (by decide +kernel) wm_383 (Nat.le_of_ble_eq_true rfl) rfl (sn_icge (off := 26) (tgt := 52) (by decide +kernel) rfl (s_X12_layOrders_52 G hst kc hk) (sn_aload_n (i := 0) (n := 0) (by decide +kernel) rfl (sn_gets (ci := 12) (j := 30) (off := 12) hst en_c12 of_12_12 (Nat.le_of_ble_eq_true rfl) (by decide +kernel) wm_353 (Nat.le_of_ble_eq_true rfl) rfl (sn_bipush (n := 7) (v := 7) (by decide +kernel) rfl (sn_iload_n (i := 2) (n := 2) (by decide +kernel) rfl (sn_imul (by decide +kernel) (sn_iload_n (i := 3) (n := 3) (by decide +kernel) rfl (sn_iadd (by decide +kernel) (sn_aload_n (i := 0) (n := 0) (by decide +kernel) rfl (sn_gets (ci := 12) (j := 31) (off := 13) hst en_c12 of_12_13 (Nat.le_of_ble_eq_true rfl) (by decide +kernel) wm_354 (Nat.le_of_ble_eq_true rfl) rfl (sn_iload_n (i := 3) (n := 3) (by decide +kernel) rfl (sn_iald (by decide +kernel) (sn_iast (by decide +kernel) (sn_iinc (i := 3) (n := 1) (v := 1) (by decide +kernel) rfl (sn_goto (off := -28) (tgt := 21) (by decide +kernel) rfl (hk 21)))))))))))))))))))
noncomputable def B_X12_layOrders_14 (kc : Nat → en_B) : en_B := (op_iload 2 (op_iload 1 (op_icgt (B_X12_layOrders_77 kc) (op_const (0 : Int32) (op_istore 3 (kc 21))))))
set_option maxRecDepth 20000 in
theorem s_X12_layOrders_14 (G : en_G) (hst : G.2.2.2.2.2 = true) (kc : Nat → en_B) (hk : ∀ t, en_Snd G M_X12_layOrders t (kc t)) : en_Snd G M_X12_layOrders 14 (B_X12_layOrders_14 kc) := (sn_iload_n (i := 2) (n := 2) (by decide +kernel) rfl (sn_iload_n (i := 1) (n := 1) (by decide +kernel) rfl (sn_icgt (off := 61) (tgt := 77) (by decide +kernel) rfl (s_X12_layOrders_77 G hst kc hk) (sn_iconst (n := 0) (v := 0) (by decide +kernel) rfl (sn_istore_n (i := 3) (n := 3) (by decide +kernel) rfl (Nat.le_of_ble_eq_true rfl) (hk 21))))))
noncomputable def B_X12_layOrders_0 (kc : Nat → en_B) : en_B := (op_aload 0 (op_gets 12 1 (20, 53, 0) (op_aload 0 (op_gets 12 13 (20, 53, 0) (op_const (0 : Int32) (op_callv O_X12_lay 3 (op_const (0 : Int32) (op_istore 2 (kc 14)))))))))
set_option maxRecDepth 20000 in
theorem s_X12_layOrders_0 (G : en_G) (hst : G.2.2.2.2.2 = true) (kc : Nat → en_B) (hk : ∀ t, en_Snd G M_X12_layOrders t (kc t)) : en_Snd G M_X12_layOrders 0 (B_X12_layOrders_0 kc) := (sn_aload_n (i := 0) (n := 0) (by decide +kernel) rfl (sn_gets (ci := 12) (j := 0) (off := 1) hst en_c12 of_12_1 (Nat.le_of_ble_eq_true rfl) (by decide +kernel) wm_339 (Nat.le_of_ble_eq_true rfl) rfl (sn_aload_n (i := 0) (n := 0) (by decide +kernel) rfl (sn_gets (ci := 12) (j := 31) (off := 13) hst en_c12 of_12_13 (Nat.le_of_ble_eq_true rfl) (by decide +kernel) wm_354 (Nat.le_of_ble_eq_true rfl) rfl (sn_iconst (n := 0) (v := 0) (by decide +kernel) rfl (sn_callSv (n := 3) (idx := 209) (i_X12_lay G hst) (Nat.le_of_ble_eq_true rfl) cs_X12_lay ⟨wm_502, Or.inl wm_506⟩ (by decide +kernel) (sn_iconst (n := 0) (v := 0) (by decide +kernel) rfl (sn_istore_n (i := 2) (n := 2) (by decide +kernel) rfl (Nat.le_of_ble_eq_true rfl) (hk 14)))))))))
noncomputable def LK_X12_layOrders : Nat → Nat → en_B
  | 0, _ => en_no
  | n + 1, t => if t = 14 then B_X12_layOrders_14 (LK_X12_layOrders n) else if t = 21 then B_X12_layOrders_21 (LK_X12_layOrders n) else en_no
theorem l_X12_layOrders (G : en_G) (hst : G.2.2.2.2.2 = true) : ∀ n t, en_Snd G M_X12_layOrders t (LK_X12_layOrders n t)
  | 0, _ => sn_no
  | n + 1, t => by
    show en_Snd G M_X12_layOrders t (if t = 14 then B_X12_layOrders_14 (LK_X12_layOrders n) else if t = 21 then B_X12_layOrders_21 (LK_X12_layOrders n) else en_no)
    by_cases h_14 : t = 14
    · rw [if_pos h_14, h_14]; exact s_X12_layOrders_14 G hst _ (l_X12_layOrders G hst n)
    rw [if_neg h_14]
    by_cases h_21 : t = 21
    · rw [if_pos h_21, h_21]; exact s_X12_layOrders_21 G hst _ (l_X12_layOrders G hst n)
    rw [if_neg h_21]
    exact sn_no
noncomputable def T_X12_layOrders_0 (x1 : Int32) (σ : en_M) : en_R := B_X12_layOrders_0 (LK_X12_layOrders en_FU) [.inr (185, 12, 0, 0), .inl x1, en_un, en_un] [] en_zz σ
noncomputable def T_X12_layOrders_14 (n : Nat) (x1 : Int32) (x2 : Int32) (u3 : en_V) (σ : en_M) : en_R := LK_X12_layOrders n 14 [.inr (185, 12, 0, 0), .inl x1, .inl x2, u3] [] en_zz σ
noncomputable def T_X12_layOrders_21 (n : Nat) (x1 : Int32) (x2 : Int32) (x3 : Int32) (σ : en_M) : en_R := LK_X12_layOrders n 21 [.inr (185, 12, 0, 0), .inl x1, .inl x2, .inl x3] [] en_zz σ
set_option maxRecDepth 400000 in
set_option maxHeartbeats 4000000 in
theorem t_X12_layOrders_0 (x1 : Int32) (σ : en_M) : T_X12_layOrders_0 x1 σ = ((O_X12_lay [.inr (186, 20, 53, 0), .inr (198, 20, 53, 0), .inl (0 : Int32)] σ).bind fun r1 => T_X12_layOrders_14 en_FU x1 (0 : Int32) (en_un) r1) := rfl
set_option maxRecDepth 400000 in
set_option maxHeartbeats 4000000 in
theorem t_X12_layOrders_14 (n : Nat) (x1 : Int32) (x2 : Int32) (u3 : en_V) (σ : en_M) : T_X12_layOrders_14 (n + 1) x1 x2 u3 σ = (if x1 < x2 then (en_rv σ) else (T_X12_layOrders_21 n x1 x2 (0 : Int32) σ)) := rfl
set_option maxRecDepth 400000 in
set_option maxHeartbeats 4000000 in
theorem t_X12_layOrders_21 (n : Nat) (x1 : Int32) (x2 : Int32) (x3 : Int32) (σ : en_M) : T_X12_layOrders_21 (n + 1) x1 x2 x3 σ = (if x3 < (σ 185 1) then ((en_ix x3 53).bind fun j5 => (en_ix (((7 : Int32) * x2) + x3) 1484).bind fun j6 => T_X12_layOrders_21 n x1 x2 (x3 + (1 : Int32)) (en_up σ 197 j6 (σ 198 j5))) else ((O_X12_changeOrder [.inr (185, 12, 0, 0), .inr (198, 20, 53, 0)] σ).bind fun r2 => (en_ix (28 : Int32) 53).bind fun j3 => (en_ix (28 : Int32) 53).bind fun j4 => T_X12_layOrders_14 n x1 (x2 + (1 : Int32)) (.inl x3) (en_up r2 198 j4 ((r2 198 j3) + (1 : Int32))))) := rfl
noncomputable def P_X12_layOrders : List en_V → en_M → Option en_M := fun av σ => match av with
  | [.inr (185, 12, 0, 0), .inl x1] => en_ov (T_X12_layOrders_0 x1 σ)
  | _ => none
theorem ox_X12_layOrders : ∃ f, f = P_X12_layOrders := ⟨_, rfl⟩
noncomputable def O_X12_layOrders : List en_V → en_M → Option en_M := Classical.choose ox_X12_layOrders
theorem oe_X12_layOrders : O_X12_layOrders = P_X12_layOrders := Classical.choose_spec ox_X12_layOrders
theorem o_X12_layOrders (x1 : Int32) (σ : en_M) : O_X12_layOrders [.inr (185, 12, 0, 0), .inl x1] σ = en_ov (T_X12_layOrders_0 x1 σ) := by rw [oe_X12_layOrders]; rfl
theorem i_X12_layOrders (G : en_G) (hst : G.2.2.2.2.2 = true) : en_I G 3 yX12_layOrders cX12_layOrders 4 none 0 0 (en_wv (O_X12_layOrders)) := en_of_v (M := M_X12_layOrders) hst (s_X12_layOrders_0 G hst _ (l_X12_layOrders G hst en_FU)) (plainFor_of_name (by decide +kernel)) rfl rfl rfl (fun av σ σ' h => by
  rw [oe_X12_layOrders] at h; unfold P_X12_layOrders at h
  split at h
  · exact ⟨(Nat.le_of_ble_eq_true rfl), en_ov_some h⟩
  · cases h)
-- EachMayMissOneModel.areLike(II)Z
def M_X12_areLike : en_Me := (cX12_areLike, RX12, 4, false, 1, true)
theorem cs_X12_areLike : en_cs yX12_areLike cX12_areLike 4 (some .boolean) 2 := ⟨wm_569, wm_337, ⟨(by decide +kernel), (by decide +kernel), (by decide +kernel)⟩, (Nat.le_of_ble_eq_true rfl)⟩
noncomputable def B_X12_areLike_43 (kc : Nat → en_B) : en_B := (op_const (1 : Int32) op_zret)
set_option maxRecDepth 20000 in
theorem s_X12_areLike_43 (G : en_G) (hst : G.2.2.2.2.2 = true) (kc : Nat → en_B) (hk : ∀ t, en_Snd G M_X12_areLike t (kc t)) : en_Snd G M_X12_areLike 43 (B_X12_areLike_43 kc) := (sn_iconst (n := 1) (v := 1) (by decide +kernel) rfl (sn_zret (by decide +kernel)))
noncomputable def B_X12_areLike_37 (kc : Nat → en_B) : en_B := (op_iinc 3 (1 : Int32) (kc 2))
set_option maxRecDepth 20000 in
theorem s_X12_areLike_37 (G : en_G) (hst : G.2.2.2.2.2 = true) (kc : Nat → en_B) (hk : ∀ t, en_Snd G M_X12_areLike t (kc t)) : en_Snd G M_X12_areLike 37 (B_X12_areLike_37 kc) := (sn_iinc (i := 3) (n := 1) (v := 1) (by decide +kernel) rfl (sn_goto (off := -38) (tgt := 2) (by decide +kernel) rfl (hk 2)))
noncomputable def B_X12_areLike_2 (kc : Nat → en_B) : en_B := (op_iload 3 (op_aload 0 (op_geti 12 1 (op_iclt (op_aload 0 (op_gets 12 12 (20, 1484, 0) (op_const (7 : Int32) (op_iload 1 (op_bin (fun (x y : Int32) => x * y) (op_iload 3 (op_bin (fun (x y : Int32) => x + y) (op_ald 20 (op_aload 0 (op_gets 12 12 (20, 1484, 0) (op_const (7 : Int32) (op_iload 2 (op_bin (fun (x y : Int32) => x * y) (op_iload 3 (op_bin (fun (x y : Int32) => x + y) (op_ald 20 (op_iceq (B_X12_areLike_37 kc) (op_const (0 : Int32) op_zret)))))))))))))))))) (B_X12_areLike_43 kc)))))
set_option maxRecDepth 20000 in
theorem s_X12_areLike_2 (G : en_G) (hst : G.2.2.2.2.2 = true) (kc : Nat → en_B) (hk : ∀ t, en_Snd G M_X12_areLike t (kc t)) : en_Snd G M_X12_areLike 2 (B_X12_areLike_2 kc) := (sn_iload_n (i := 3) (n := 3) (by decide +kernel) rfl (sn_aload_n (i := 0) (n := 0) (by decide +kernel) rfl (sn_geti (ci := 12) (j := 1) en_c12 (by decide +kernel) wm_383 (Nat.le_of_ble_eq_true rfl) rfl (sn_icge (off := 36) (tgt := 43) (by decide +kernel) rfl (s_X12_areLike_43 G hst kc hk) (sn_aload_n (i := 0) (n := 0) (by decide +kernel) rfl (sn_gets (ci := 12) (j := 30) (off := 12) hst en_c12 of_12_12 (Nat.le_of_ble_eq_true rfl) (by decide +kernel) wm_353 (Nat.le_of_ble_eq_true rfl) rfl (sn_bipush (n := 7) (v := 7) (by decide +kernel) rfl (sn_iload_n (i := 1) (n := 1) (by decide +kernel) rfl (sn_imul (by decide +kernel) (sn_iload_n (i := 3) (n := 3) (by decide +kernel) rfl (sn_iadd (by decide +kernel) (sn_iald (by decide +kernel) (sn_aload_n (i := 0) (n := 0) (by decide +kernel) rfl (sn_gets (ci := 12) (j := 30) (off := 12) hst en_c12 of_12_12 (Nat.le_of_ble_eq_true rfl) (by decide +kernel) wm_353 (Nat.le_of_ble_eq_true rfl) rfl (sn_bipush (n := 7) (v := 7) (by decide +kernel) rfl (sn_iload_n (i := 2) (n := 2) (by decide +kernel) rfl (sn_imul (by decide +kernel) (sn_iload_n (i := 3) (n := 3) (by decide +kernel) rfl (sn_iadd (by decide +kernel) (sn_iald (by decide +kernel) (sn_iceq (off := 5) (tgt := 37) (by decide +kernel) rfl (s_X12_areLike_37 G hst kc hk) (sn_iconst (n := 0) (v := 0) (by decide +kernel) rfl (sn_zret (by decide +kernel))))))))))))))))))))))))
noncomputable def B_X12_areLike_0 (kc : Nat → en_B) : en_B := (op_const (0 : Int32) (op_istore 3 (kc 2)))
set_option maxRecDepth 20000 in
theorem s_X12_areLike_0 (G : en_G) (hst : G.2.2.2.2.2 = true) (kc : Nat → en_B) (hk : ∀ t, en_Snd G M_X12_areLike t (kc t)) : en_Snd G M_X12_areLike 0 (B_X12_areLike_0 kc) := (sn_iconst (n := 0) (v := 0) (by decide +kernel) rfl (sn_istore_n (i := 3) (n := 3) (by decide +kernel) rfl (Nat.le_of_ble_eq_true rfl) (hk 2)))
noncomputable def LK_X12_areLike : Nat → Nat → en_B
  | 0, _ => en_no
  | n + 1, t => if t = 2 then B_X12_areLike_2 (LK_X12_areLike n) else en_no
theorem l_X12_areLike (G : en_G) (hst : G.2.2.2.2.2 = true) : ∀ n t, en_Snd G M_X12_areLike t (LK_X12_areLike n t)
  | 0, _ => sn_no
  | n + 1, t => by
    show en_Snd G M_X12_areLike t (if t = 2 then B_X12_areLike_2 (LK_X12_areLike n) else en_no)
    by_cases h_2 : t = 2
    · rw [if_pos h_2, h_2]; exact s_X12_areLike_2 G hst _ (l_X12_areLike G hst n)
    rw [if_neg h_2]
    exact sn_no
noncomputable def T_X12_areLike_0 (x1 : Int32) (x2 : Int32) (σ : en_M) : en_R := B_X12_areLike_0 (LK_X12_areLike en_FU) [.inr (185, 12, 0, 0), .inl x1, .inl x2, en_un] [] en_zz σ
noncomputable def T_X12_areLike_2 (n : Nat) (x1 : Int32) (x2 : Int32) (x3 : Int32) (σ : en_M) : en_R := LK_X12_areLike n 2 [.inr (185, 12, 0, 0), .inl x1, .inl x2, .inl x3] [] en_zz σ
set_option maxRecDepth 400000 in
set_option maxHeartbeats 4000000 in
theorem t_X12_areLike_0 (x1 : Int32) (x2 : Int32) (σ : en_M) : T_X12_areLike_0 x1 x2 σ = (T_X12_areLike_2 en_FU x1 x2 (0 : Int32) σ) := rfl
set_option maxRecDepth 400000 in
set_option maxHeartbeats 4000000 in
theorem t_X12_areLike_2 (n : Nat) (x1 : Int32) (x2 : Int32) (x3 : Int32) (σ : en_M) : T_X12_areLike_2 (n + 1) x1 x2 x3 σ = (if x3 < (σ 185 1) then ((en_ix (((7 : Int32) * x1) + x3) 1484).bind fun j1 => (en_ix (((7 : Int32) * x2) + x3) 1484).bind fun j2 => if (σ 197 j1) = (σ 197 j2) then (T_X12_areLike_2 n x1 x2 (x3 + (1 : Int32)) σ) else (if (0 : Int32) = 0 ∨ (0 : Int32) = 1 then en_ri (0 : Int32) σ else none)) else (if (1 : Int32) = 0 ∨ (1 : Int32) = 1 then en_ri (1 : Int32) σ else none)) := rfl
noncomputable def P_X12_areLike : List en_V → en_M → Option (Int32 × en_M) := fun av σ => match av with
  | [.inr (185, 12, 0, 0), .inl x1, .inl x2] => en_oi (T_X12_areLike_0 x1 x2 σ)
  | _ => none
theorem ox_X12_areLike : ∃ f, f = P_X12_areLike := ⟨_, rfl⟩
noncomputable def O_X12_areLike : List en_V → en_M → Option (Int32 × en_M) := Classical.choose ox_X12_areLike
theorem oe_X12_areLike : O_X12_areLike = P_X12_areLike := Classical.choose_spec ox_X12_areLike
theorem o_X12_areLike (x1 : Int32) (x2 : Int32) (σ : en_M) : O_X12_areLike [.inr (185, 12, 0, 0), .inl x1, .inl x2] σ = en_oi (T_X12_areLike_0 x1 x2 σ) := by rw [oe_X12_areLike]; rfl
theorem i_X12_areLike (G : en_G) (hst : G.2.2.2.2.2 = true) : en_I G 1 yX12_areLike cX12_areLike 4 (some .boolean) 0 0 (en_wi (O_X12_areLike)) := en_of_i (M := M_X12_areLike) hst (s_X12_areLike_0 G hst _ (l_X12_areLike G hst en_FU)) (plainFor_of_name (by decide +kernel)) rfl rfl rfl (Or.inr ⟨Or.inl rfl, rfl⟩) (fun av σ x σ' h => by
  rw [oe_X12_areLike] at h; unfold P_X12_areLike at h
  split at h
  · exact ⟨(Nat.le_of_ble_eq_true rfl), en_oi_some h⟩
  · cases h)
-- EachMayMissOneModel.order(I)I
def M_X12_order : en_Me := (cX12_order, RX12, 3, false, 4, false)
theorem cs_X12_order : en_cs yX12_order cX12_order 3 (some .int) 1 := ⟨wm_572, wm_337, ⟨(by decide +kernel), (by decide +kernel), (by decide +kernel)⟩, (Nat.le_of_ble_eq_true rfl)⟩
noncomputable def B_X12_order_69 (kc : Nat → en_B) : en_B := (op_aload 0 (op_gets 12 12 (20, 1484, 0) (op_const (7 : Int32) (op_iload 1 (op_bin (fun (x y : Int32) => x * y) (op_ald 20 op_iret))))))
set_option maxRecDepth 20000 in
theorem s_X12_order_69 (G : en_G) (hst : G.2.2.2.2.2 = true) (kc : Nat → en_B) (hk : ∀ t, en_Snd G M_X12_order t (kc t)) : en_Snd G M_X12_order 69 (B_X12_order_69 kc) := (sn_aload_n (i := 0) (n := 0) (by decide +kernel) rfl (sn_gets (ci := 12) (j := 30) (off := 12) hst en_c12 of_12_12 (Nat.le_of_ble_eq_true rfl) (by decide +kernel) wm_353 (Nat.le_of_ble_eq_true rfl) rfl (sn_bipush (n := 7) (v := 7) (by decide +kernel) rfl (sn_iload_n (i := 1) (n := 1) (by decide +kernel) rfl (sn_imul (by decide +kernel) (sn_iald (by decide +kernel) (sn_iret (by decide +kernel) rfl)))))))
noncomputable def B_X12_order_40 (kc : Nat → en_B) : en_B := (op_iload 2 (op_aload 0 (op_geti 12 1 (op_iclt (op_aload 0 (op_aload 0 (op_gets 12 12 (20, 1484, 0) (op_const (7 : Int32) (op_iload 1 (op_bin (fun (x y : Int32) => x * y) (op_iload 2 (op_bin (fun (x y : Int32) => x + y) (op_ald 20 (op_rcv 12 1 (op_callv O_X12_tell 2 (op_iinc 2 (1 : Int32) (kc 40))))))))))))) (B_X12_order_69 kc)))))
set_option maxRecDepth 20000 in
theorem s_X12_order_40 (G : en_G) (hst : G.2.2.2.2.2 = true) (kc : Nat → en_B) (hk : ∀ t, en_Snd G M_X12_order t (kc t)) : en_Snd G M_X12_order 40 (B_X12_order_40 kc) := (sn_iload_n (i := 2) (n := 2) (by decide +kernel) rfl (sn_aload_n (i := 0) (n := 0) (by decide +kernel) rfl (sn_geti (ci := 12) (j := 1) en_c12 (by decide +kernel) wm_383 (Nat.le_of_ble_eq_true rfl) rfl (sn_icge (off := 24) (tgt := 69) (by decide +kernel) rfl (s_X12_order_69 G hst kc hk) (sn_aload_n (i := 0) (n := 0) (by decide +kernel) rfl (sn_aload_n (i := 0) (n := 0) (by decide +kernel) rfl (sn_gets (ci := 12) (j := 30) (off := 12) hst en_c12 of_12_12 (Nat.le_of_ble_eq_true rfl) (by decide +kernel) wm_353 (Nat.le_of_ble_eq_true rfl) rfl (sn_bipush (n := 7) (v := 7) (by decide +kernel) rfl (sn_iload_n (i := 1) (n := 1) (by decide +kernel) rfl (sn_imul (by decide +kernel) (sn_iload_n (i := 2) (n := 2) (by decide +kernel) rfl (sn_iadd (by decide +kernel) (sn_iald (by decide +kernel) (sn_callVv (n := 1) (idx := 251) (ci := 12) (i_X12_tell G hst) (Nat.le_of_ble_eq_true rfl) cs_X12_tell ⟨wm_377, wm_378, wm_536⟩ ⟨⟨_, rfl, rfl⟩, (Nat.le_of_ble_eq_true rfl)⟩ (by decide +kernel) (sn_iinc (i := 2) (n := 1) (v := 1) (by decide +kernel) rfl (sn_goto (off := -26) (tgt := 40) (by decide +kernel) rfl (hk 40)))))))))))))))))
noncomputable def B_X12_order_28 (kc : Nat → en_B) : en_B := (op_aload 0 (op_iload 1 (op_rcv 12 1 (op_callv O_X12_layOrders 2 (op_aload 0 (op_const (0 : Int32) (op_puti 12 10 (op_const (0 : Int32) (op_istore 2 (kc 40))))))))))
set_option maxRecDepth 20000 in
theorem s_X12_order_28 (G : en_G) (hst : G.2.2.2.2.2 = true) (kc : Nat → en_B) (hk : ∀ t, en_Snd G M_X12_order t (kc t)) : en_Snd G M_X12_order 28 (B_X12_order_28 kc) := (sn_aload_n (i := 0) (n := 0) (by decide +kernel) rfl (sn_iload_n (i := 1) (n := 1) (by decide +kernel) rfl (sn_callVv (n := 1) (idx := 272) (ci := 12) (i_X12_layOrders G hst) (Nat.le_of_ble_eq_true rfl) cs_X12_layOrders ⟨wm_567, wm_568, wm_575⟩ ⟨⟨_, rfl, rfl⟩, (Nat.le_of_ble_eq_true rfl)⟩ (by decide +kernel) (sn_aload_n (i := 0) (n := 0) (by decide +kernel) rfl (sn_iconst (n := 0) (v := 0) (by decide +kernel) rfl (sn_puti (ci := 12) (j := 10) en_c12 (by decide +kernel) wm_379 (Nat.le_of_ble_eq_true rfl) rfl rfl rfl (sn_iconst (n := 0) (v := 0) (by decide +kernel) rfl (sn_istore_n (i := 2) (n := 2) (by decide +kernel) rfl (Nat.le_of_ble_eq_true rfl) (hk 40)))))))))
noncomputable def B_X12_order_15 (kc : Nat → en_B) : en_B := (op_iload 1 (op_const (0 : Int32) (op_const (200 : Int32) (op_calli O_X12_in 3 (op_ifeq (op_const (-1 : Int32) op_iret) (B_X12_order_28 kc))))))
set_option maxRecDepth 20000 in
theorem s_X12_order_15 (G : en_G) (hst : G.2.2.2.2.2 = true) (kc : Nat → en_B) (hk : ∀ t, en_Snd G M_X12_order t (kc t)) : en_Snd G M_X12_order 15 (B_X12_order_15 kc) := (sn_iload_n (i := 1) (n := 1) (by decide +kernel) rfl (sn_iconst (n := 0) (v := 0) (by decide +kernel) rfl (sn_sipush (n := 200) (v := 200) (by decide +kernel) rfl (sn_callSi (n := 3) (idx := 100) (i_X12_in G hst) (Nat.le_of_ble_eq_true rfl) cs_X12_in ⟨wm_370, Or.inl wm_384⟩ (by decide +kernel) (sn_ifne (off := 5) (tgt := 28) (by decide +kernel) rfl (s_X12_order_28 G hst kc hk) (sn_iconst (n := -1) (v := -1) (by decide +kernel) rfl (sn_iret (by decide +kernel) rfl)))))))
noncomputable def B_X12_order_0 (kc : Nat → en_B) : en_B := (op_aload 0 (op_const (0 : Int32) (op_puti 12 11 (op_aload 0 (op_geti 12 1 (op_ifeq (op_const (-2 : Int32) op_iret) (B_X12_order_15 kc)))))))
set_option maxRecDepth 20000 in
theorem s_X12_order_0 (G : en_G) (hst : G.2.2.2.2.2 = true) (kc : Nat → en_B) (hk : ∀ t, en_Snd G M_X12_order t (kc t)) : en_Snd G M_X12_order 0 (B_X12_order_0 kc) := (sn_aload_n (i := 0) (n := 0) (by decide +kernel) rfl (sn_iconst (n := 0) (v := 0) (by decide +kernel) rfl (sn_puti (ci := 12) (j := 11) en_c12 (by decide +kernel) wm_368 (Nat.le_of_ble_eq_true rfl) rfl rfl rfl (sn_aload_n (i := 0) (n := 0) (by decide +kernel) rfl (sn_geti (ci := 12) (j := 1) en_c12 (by decide +kernel) wm_383 (Nat.le_of_ble_eq_true rfl) rfl (sn_ifne (off := 6) (tgt := 15) (by decide +kernel) rfl (s_X12_order_15 G hst kc hk) (sn_bipush (n := -2) (v := -2) (by decide +kernel) rfl (sn_iret (by decide +kernel) rfl))))))))
noncomputable def LK_X12_order : Nat → Nat → en_B
  | 0, _ => en_no
  | n + 1, t => if t = 40 then B_X12_order_40 (LK_X12_order n) else en_no
theorem l_X12_order (G : en_G) (hst : G.2.2.2.2.2 = true) : ∀ n t, en_Snd G M_X12_order t (LK_X12_order n t)
  | 0, _ => sn_no
  | n + 1, t => by
    show en_Snd G M_X12_order t (if t = 40 then B_X12_order_40 (LK_X12_order n) else en_no)
    by_cases h_40 : t = 40
    · rw [if_pos h_40, h_40]; exact s_X12_order_40 G hst _ (l_X12_order G hst n)
    rw [if_neg h_40]
    exact sn_no
noncomputable def T_X12_order_0 (x1 : Int32) (σ : en_M) : en_R := B_X12_order_0 (LK_X12_order en_FU) [.inr (185, 12, 0, 0), .inl x1, en_un] [] en_zz σ
noncomputable def T_X12_order_40 (n : Nat) (x1 : Int32) (x2 : Int32) (σ : en_M) : en_R := LK_X12_order n 40 [.inr (185, 12, 0, 0), .inl x1, .inl x2] [] en_zz σ
set_option maxRecDepth 400000 in
set_option maxHeartbeats 4000000 in
theorem t_X12_order_0 (x1 : Int32) (σ : en_M) : T_X12_order_0 x1 σ = (if (σ 185 1) = 0 then (en_ri (-2 : Int32) (en_up σ 185 11 (0 : Int32))) else ((O_X12_in [.inl x1, .inl (0 : Int32), .inl (200 : Int32)] (en_up σ 185 11 (0 : Int32))).bind fun r1 => if r1.1 = 0 then (en_ri (-1 : Int32) r1.2) else ((O_X12_layOrders [.inr (185, 12, 0, 0), .inl x1] r1.2).bind fun r2 => T_X12_order_40 en_FU x1 (0 : Int32) (en_up r2 185 10 (0 : Int32))))) := rfl
set_option maxRecDepth 400000 in
set_option maxHeartbeats 4000000 in
theorem t_X12_order_40 (n : Nat) (x1 : Int32) (x2 : Int32) (σ : en_M) : T_X12_order_40 (n + 1) x1 x2 σ = (if x2 < (σ 185 1) then ((en_ix (((7 : Int32) * x1) + x2) 1484).bind fun j4 => (O_X12_tell [.inr (185, 12, 0, 0), .inl (σ 197 j4)] σ).bind fun r5 => T_X12_order_40 n x1 (x2 + (1 : Int32)) r5) else ((en_ix ((7 : Int32) * x1) 1484).bind fun j3 => en_ri (σ 197 j3) σ)) := rfl
noncomputable def P_X12_order : List en_V → en_M → Option (Int32 × en_M) := fun av σ => match av with
  | [.inr (185, 12, 0, 0), .inl x1] => en_oi (T_X12_order_0 x1 σ)
  | _ => none
theorem ox_X12_order : ∃ f, f = P_X12_order := ⟨_, rfl⟩
noncomputable def O_X12_order : List en_V → en_M → Option (Int32 × en_M) := Classical.choose ox_X12_order
theorem oe_X12_order : O_X12_order = P_X12_order := Classical.choose_spec ox_X12_order
theorem o_X12_order (x1 : Int32) (σ : en_M) : O_X12_order [.inr (185, 12, 0, 0), .inl x1] σ = en_oi (T_X12_order_0 x1 σ) := by rw [oe_X12_order]; rfl
theorem i_X12_order (G : en_G) (hst : G.2.2.2.2.2 = true) : en_I G 4 yX12_order cX12_order 3 (some .int) 0 0 (en_wi (O_X12_order)) := en_of_i (M := M_X12_order) hst (s_X12_order_0 G hst _ (l_X12_order G hst en_FU)) (plainFor_of_name (by decide +kernel)) rfl rfl rfl (Or.inl ⟨rfl, rfl⟩) (fun av σ x σ' h => by
  rw [oe_X12_order] at h; unfold P_X12_order at h
  split at h
  · exact ⟨(Nat.le_of_ble_eq_true rfl), en_oi_some h⟩
  · cases h)
-- EachMayMissOneModel.truth()I
def M_X12_truth : en_Me := (cX12_truth, RX12, 3, false, 4, false)
theorem cs_X12_truth : en_cs yX12_truth cX12_truth 3 (some .int) 0 := ⟨wm_576, wm_337, ⟨(by decide +kernel), (by decide +kernel), (by decide +kernel)⟩, (Nat.le_of_ble_eq_true rfl)⟩
noncomputable def B_X12_truth_74 (kc : Nat → en_B) : en_B := (op_const (-2 : Int32) op_iret)
set_option maxRecDepth 20000 in
theorem s_X12_truth_74 (G : en_G) (hst : G.2.2.2.2.2 = true) (kc : Nat → en_B) (hk : ∀ t, en_Snd G M_X12_truth t (kc t)) : en_Snd G M_X12_truth 74 (B_X12_truth_74 kc) := (sn_bipush (n := -2) (v := -2) (by decide +kernel) rfl (sn_iret (by decide +kernel) rfl))
noncomputable def B_X12_truth_68 (kc : Nat → en_B) : en_B := (op_iinc 1 (1 : Int32) (kc 24))
set_option maxRecDepth 20000 in
theorem s_X12_truth_68 (G : en_G) (hst : G.2.2.2.2.2 = true) (kc : Nat → en_B) (hk : ∀ t, en_Snd G M_X12_truth t (kc t)) : en_Snd G M_X12_truth 68 (B_X12_truth_68 kc) := (sn_iinc (i := 1) (n := 1) (v := 1) (by decide +kernel) rfl (sn_goto (off := -47) (tgt := 24) (by decide +kernel) rfl (hk 24)))
noncomputable def B_X12_truth_62 (kc : Nat → en_B) : en_B := (op_iinc 2 (1 : Int32) (kc 33))
set_option maxRecDepth 20000 in
theorem s_X12_truth_62 (G : en_G) (hst : G.2.2.2.2.2 = true) (kc : Nat → en_B) (hk : ∀ t, en_Snd G M_X12_truth t (kc t)) : en_Snd G M_X12_truth 62 (B_X12_truth_62 kc) := (sn_iinc (i := 2) (n := 1) (v := 1) (by decide +kernel) rfl (sn_goto (off := -32) (tgt := 33) (by decide +kernel) rfl (hk 33)))
noncomputable def B_X12_truth_50 (kc : Nat → en_B) : en_B := (op_aload 0 (op_const (0 : Int32) (op_puti 12 10 (op_aload 0 (op_iload 2 (op_rcv 12 1 (op_callv O_X12_tell 2 (op_iload 1 op_iret))))))))
set_option maxRecDepth 20000 in
theorem s_X12_truth_50 (G : en_G) (hst : G.2.2.2.2.2 = true) (kc : Nat → en_B) (hk : ∀ t, en_Snd G M_X12_truth t (kc t)) : en_Snd G M_X12_truth 50 (B_X12_truth_50 kc) := (sn_aload_n (i := 0) (n := 0) (by decide +kernel) rfl (sn_iconst (n := 0) (v := 0) (by decide +kernel) rfl (sn_puti (ci := 12) (j := 10) en_c12 (by decide +kernel) wm_379 (Nat.le_of_ble_eq_true rfl) rfl rfl rfl (sn_aload_n (i := 0) (n := 0) (by decide +kernel) rfl (sn_iload_n (i := 2) (n := 2) (by decide +kernel) rfl (sn_callVv (n := 1) (idx := 251) (ci := 12) (i_X12_tell G hst) (Nat.le_of_ble_eq_true rfl) cs_X12_tell ⟨wm_377, wm_378, wm_536⟩ ⟨⟨_, rfl, rfl⟩, (Nat.le_of_ble_eq_true rfl)⟩ (by decide +kernel) (sn_iload_n (i := 1) (n := 1) (by decide +kernel) rfl (sn_iret (by decide +kernel) rfl))))))))
noncomputable def B_X12_truth_33 (kc : Nat → en_B) : en_B := (op_iload 2 (op_iload 1 (op_iclt (op_aload 0 (op_iload 2 (op_iload 1 (op_rcv 12 2 (op_calli O_X12_areLike 3 (op_ifeq (B_X12_truth_62 kc) (B_X12_truth_50 kc))))))) (B_X12_truth_68 kc))))
set_option maxRecDepth 20000 in
theorem s_X12_truth_33 (G : en_G) (hst : G.2.2.2.2.2 = true) (kc : Nat → en_B) (hk : ∀ t, en_Snd G M_X12_truth t (kc t)) : en_Snd G M_X12_truth 33 (B_X12_truth_33 kc) := (sn_iload_n (i := 2) (n := 2) (by decide +kernel) rfl (sn_iload_n (i := 1) (n := 1) (by decide +kernel) rfl (sn_icge (off := 33) (tgt := 68) (by decide +kernel) rfl (s_X12_truth_68 G hst kc hk) (sn_aload_n (i := 0) (n := 0) (by decide +kernel) rfl (sn_iload_n (i := 2) (n := 2) (by decide +kernel) rfl (sn_iload_n (i := 1) (n := 1) (by decide +kernel) rfl (sn_callVi (n := 2) (idx := 275) (ci := 12) (i_X12_areLike G hst) (Nat.le_of_ble_eq_true rfl) cs_X12_areLike ⟨wm_570, wm_571, wm_579⟩ ⟨⟨_, rfl, rfl⟩, (Nat.le_of_ble_eq_true rfl)⟩ (by decide +kernel) (sn_ifne (off := 6) (tgt := 50) (by decide +kernel) rfl (s_X12_truth_50 G hst kc hk) (sn_goto (off := 15) (tgt := 62) (by decide +kernel) rfl (s_X12_truth_62 G hst kc hk))))))))))
noncomputable def B_X12_truth_24 (kc : Nat → en_B) : en_B := (op_iload 1 (op_const (200 : Int32) (op_icgt (B_X12_truth_74 kc) (op_const (0 : Int32) (op_istore 2 (kc 33))))))
set_option maxRecDepth 20000 in
theorem s_X12_truth_24 (G : en_G) (hst : G.2.2.2.2.2 = true) (kc : Nat → en_B) (hk : ∀ t, en_Snd G M_X12_truth t (kc t)) : en_Snd G M_X12_truth 24 (B_X12_truth_24 kc) := (sn_iload_n (i := 1) (n := 1) (by decide +kernel) rfl (sn_sipush (n := 200) (v := 200) (by decide +kernel) rfl (sn_icgt (off := 46) (tgt := 74) (by decide +kernel) rfl (s_X12_truth_74 G hst kc hk) (sn_iconst (n := 0) (v := 0) (by decide +kernel) rfl (sn_istore_n (i := 2) (n := 2) (by decide +kernel) rfl (Nat.le_of_ble_eq_true rfl) (hk 33))))))
noncomputable def B_X12_truth_15 (kc : Nat → en_B) : en_B := (op_aload 0 (op_const (200 : Int32) (op_rcv 12 1 (op_callv O_X12_layOrders 2 (op_const (1 : Int32) (op_istore 1 (kc 24)))))))
set_option maxRecDepth 20000 in
theorem s_X12_truth_15 (G : en_G) (hst : G.2.2.2.2.2 = true) (kc : Nat → en_B) (hk : ∀ t, en_Snd G M_X12_truth t (kc t)) : en_Snd G M_X12_truth 15 (B_X12_truth_15 kc) := (sn_aload_n (i := 0) (n := 0) (by decide +kernel) rfl (sn_sipush (n := 200) (v := 200) (by decide +kernel) rfl (sn_callVv (n := 1) (idx := 272) (ci := 12) (i_X12_layOrders G hst) (Nat.le_of_ble_eq_true rfl) cs_X12_layOrders ⟨wm_567, wm_568, wm_575⟩ ⟨⟨_, rfl, rfl⟩, (Nat.le_of_ble_eq_true rfl)⟩ (by decide +kernel) (sn_iconst (n := 1) (v := 1) (by decide +kernel) rfl (sn_istore_n (i := 1) (n := 1) (by decide +kernel) rfl (Nat.le_of_ble_eq_true rfl) (hk 24))))))
noncomputable def B_X12_truth_0 (kc : Nat → en_B) : en_B := (op_aload 0 (op_const (0 : Int32) (op_puti 12 11 (op_aload 0 (op_geti 12 1 (op_ifeq (op_const (-2 : Int32) op_iret) (B_X12_truth_15 kc)))))))
set_option maxRecDepth 20000 in
theorem s_X12_truth_0 (G : en_G) (hst : G.2.2.2.2.2 = true) (kc : Nat → en_B) (hk : ∀ t, en_Snd G M_X12_truth t (kc t)) : en_Snd G M_X12_truth 0 (B_X12_truth_0 kc) := (sn_aload_n (i := 0) (n := 0) (by decide +kernel) rfl (sn_iconst (n := 0) (v := 0) (by decide +kernel) rfl (sn_puti (ci := 12) (j := 11) en_c12 (by decide +kernel) wm_368 (Nat.le_of_ble_eq_true rfl) rfl rfl rfl (sn_aload_n (i := 0) (n := 0) (by decide +kernel) rfl (sn_geti (ci := 12) (j := 1) en_c12 (by decide +kernel) wm_383 (Nat.le_of_ble_eq_true rfl) rfl (sn_ifne (off := 6) (tgt := 15) (by decide +kernel) rfl (s_X12_truth_15 G hst kc hk) (sn_bipush (n := -2) (v := -2) (by decide +kernel) rfl (sn_iret (by decide +kernel) rfl))))))))
noncomputable def LK_X12_truth : Nat → Nat → en_B
  | 0, _ => en_no
  | n + 1, t => if t = 24 then B_X12_truth_24 (LK_X12_truth n) else if t = 33 then B_X12_truth_33 (LK_X12_truth n) else en_no
theorem l_X12_truth (G : en_G) (hst : G.2.2.2.2.2 = true) : ∀ n t, en_Snd G M_X12_truth t (LK_X12_truth n t)
  | 0, _ => sn_no
  | n + 1, t => by
    show en_Snd G M_X12_truth t (if t = 24 then B_X12_truth_24 (LK_X12_truth n) else if t = 33 then B_X12_truth_33 (LK_X12_truth n) else en_no)
    by_cases h_24 : t = 24
    · rw [if_pos h_24, h_24]; exact s_X12_truth_24 G hst _ (l_X12_truth G hst n)
    rw [if_neg h_24]
    by_cases h_33 : t = 33
    · rw [if_pos h_33, h_33]; exact s_X12_truth_33 G hst _ (l_X12_truth G hst n)
    rw [if_neg h_33]
    exact sn_no
noncomputable def T_X12_truth_0 (σ : en_M) : en_R := B_X12_truth_0 (LK_X12_truth en_FU) [.inr (185, 12, 0, 0), en_un, en_un] [] en_zz σ
noncomputable def T_X12_truth_24 (n : Nat) (x1 : Int32) (u2 : en_V) (σ : en_M) : en_R := LK_X12_truth n 24 [.inr (185, 12, 0, 0), .inl x1, u2] [] en_zz σ
noncomputable def T_X12_truth_33 (n : Nat) (x1 : Int32) (x2 : Int32) (σ : en_M) : en_R := LK_X12_truth n 33 [.inr (185, 12, 0, 0), .inl x1, .inl x2] [] en_zz σ
set_option maxRecDepth 400000 in
set_option maxHeartbeats 4000000 in
theorem t_X12_truth_0 (σ : en_M) : T_X12_truth_0 σ = (if (σ 185 1) = 0 then (en_ri (-2 : Int32) (en_up σ 185 11 (0 : Int32))) else ((O_X12_layOrders [.inr (185, 12, 0, 0), .inl (200 : Int32)] (en_up σ 185 11 (0 : Int32))).bind fun r1 => T_X12_truth_24 en_FU (1 : Int32) (en_un) r1)) := rfl
set_option maxRecDepth 400000 in
set_option maxHeartbeats 4000000 in
theorem t_X12_truth_24 (n : Nat) (x1 : Int32) (u2 : en_V) (σ : en_M) : T_X12_truth_24 (n + 1) x1 u2 σ = (if (200 : Int32) < x1 then (en_ri (-2 : Int32) σ) else (T_X12_truth_33 n x1 (0 : Int32) σ)) := rfl
set_option maxRecDepth 400000 in
set_option maxHeartbeats 4000000 in
theorem t_X12_truth_33 (n : Nat) (x1 : Int32) (x2 : Int32) (σ : en_M) : T_X12_truth_33 (n + 1) x1 x2 σ = (if x2 < x1 then ((O_X12_areLike [.inr (185, 12, 0, 0), .inl x2, .inl x1] σ).bind fun r2 => if r2.1 = 0 then (T_X12_truth_33 n x1 (x2 + (1 : Int32)) r2.2) else ((O_X12_tell [.inr (185, 12, 0, 0), .inl x2] (en_up r2.2 185 10 (0 : Int32))).bind fun r3 => en_ri x1 r3)) else (T_X12_truth_24 n (x1 + (1 : Int32)) (.inl x2) σ)) := rfl
noncomputable def P_X12_truth : List en_V → en_M → Option (Int32 × en_M) := fun av σ => match av with
  | [.inr (185, 12, 0, 0)] => en_oi (T_X12_truth_0 σ)
  | _ => none
theorem ox_X12_truth : ∃ f, f = P_X12_truth := ⟨_, rfl⟩
noncomputable def O_X12_truth : List en_V → en_M → Option (Int32 × en_M) := Classical.choose ox_X12_truth
theorem oe_X12_truth : O_X12_truth = P_X12_truth := Classical.choose_spec ox_X12_truth
theorem o_X12_truth (σ : en_M) : O_X12_truth [.inr (185, 12, 0, 0)] σ = en_oi (T_X12_truth_0 σ) := by rw [oe_X12_truth]; rfl
theorem i_X12_truth (G : en_G) (hst : G.2.2.2.2.2 = true) : en_I G 4 yX12_truth cX12_truth 3 (some .int) 0 0 (en_wi (O_X12_truth)) := en_of_i (M := M_X12_truth) hst (s_X12_truth_0 G hst _ (l_X12_truth G hst en_FU)) (plainFor_of_name (by decide +kernel)) rfl rfl rfl (Or.inl ⟨rfl, rfl⟩) (fun av σ x σ' h => by
  rw [oe_X12_truth] at h; unfold P_X12_truth at h
  split at h
  · exact ⟨(Nat.le_of_ble_eq_true rfl), en_oi_some h⟩
  · cases h)
-- EachMayMissOneModel.lead()I
def M_X12_lead : en_Me := (cX12_lead, RX12, 2, false, 4, false)
theorem cs_X12_lead : en_cs yX12_lead cX12_lead 2 (some .int) 0 := ⟨wm_580, wm_337, ⟨(by decide +kernel), (by decide +kernel), (by decide +kernel)⟩, (Nat.le_of_ble_eq_true rfl)⟩
noncomputable def B_X12_lead_55 (kc : Nat → en_B) : en_B := (op_const (-2 : Int32) op_iret)
set_option maxRecDepth 20000 in
theorem s_X12_lead_55 (G : en_G) (hst : G.2.2.2.2.2 = true) (kc : Nat → en_B) (hk : ∀ t, en_Snd G M_X12_lead t (kc t)) : en_Snd G M_X12_lead 55 (B_X12_lead_55 kc) := (sn_bipush (n := -2) (v := -2) (by decide +kernel) rfl (sn_iret (by decide +kernel) rfl))
noncomputable def B_X12_lead_45 (kc : Nat → en_B) : en_B := (op_iload 1 (op_aload 0 (op_geti 12 4 (op_bin (fun (x y : Int32) => x + y) (op_istore 1 (kc 27))))))
set_option maxRecDepth 20000 in
theorem s_X12_lead_45 (G : en_G) (hst : G.2.2.2.2.2 = true) (kc : Nat → en_B) (hk : ∀ t, en_Snd G M_X12_lead t (kc t)) : en_Snd G M_X12_lead 45 (B_X12_lead_45 kc) := (sn_iload_n (i := 1) (n := 1) (by decide +kernel) rfl (sn_aload_n (i := 0) (n := 0) (by decide +kernel) rfl (sn_geti (ci := 12) (j := 4) en_c12 (by decide +kernel) wm_342 (Nat.le_of_ble_eq_true rfl) rfl (sn_iadd (by decide +kernel) (sn_istore_n (i := 1) (n := 1) (by decide +kernel) rfl (Nat.le_of_ble_eq_true rfl) (sn_goto (off := -25) (tgt := 27) (by decide +kernel) rfl (hk 27)))))))
noncomputable def B_X12_lead_27 (kc : Nat → en_B) : en_B := (op_iload 1 (op_const (200 : Int32) (op_icgt (B_X12_lead_55 kc) (op_aload 0 (op_const (0 : Int32) (op_iload 1 (op_rcv 12 2 (op_calli O_X12_areLike 3 (op_ifeq (B_X12_lead_45 kc) (op_iload 1 op_iret))))))))))
set_option maxRecDepth 20000 in
theorem s_X12_lead_27 (G : en_G) (hst : G.2.2.2.2.2 = true) (kc : Nat → en_B) (hk : ∀ t, en_Snd G M_X12_lead t (kc t)) : en_Snd G M_X12_lead 27 (B_X12_lead_27 kc) := (sn_iload_n (i := 1) (n := 1) (by decide +kernel) rfl (sn_sipush (n := 200) (v := 200) (by decide +kernel) rfl (sn_icgt (off := 24) (tgt := 55) (by decide +kernel) rfl (s_X12_lead_55 G hst kc hk) (sn_aload_n (i := 0) (n := 0) (by decide +kernel) rfl (sn_iconst (n := 0) (v := 0) (by decide +kernel) rfl (sn_iload_n (i := 1) (n := 1) (by decide +kernel) rfl (sn_callVi (n := 2) (idx := 275) (ci := 12) (i_X12_areLike G hst) (Nat.le_of_ble_eq_true rfl) cs_X12_areLike ⟨wm_570, wm_571, wm_579⟩ ⟨⟨_, rfl, rfl⟩, (Nat.le_of_ble_eq_true rfl)⟩ (by decide +kernel) (sn_ifeq (off := 5) (tgt := 45) (by decide +kernel) rfl (s_X12_lead_45 G hst kc hk) (sn_iload_n (i := 1) (n := 1) (by decide +kernel) rfl (sn_iret (by decide +kernel) rfl))))))))))
noncomputable def B_X12_lead_15 (kc : Nat → en_B) : en_B := (op_aload 0 (op_const (200 : Int32) (op_rcv 12 1 (op_callv O_X12_layOrders 2 (op_aload 0 (op_geti 12 4 (op_istore 1 (kc 27))))))))
set_option maxRecDepth 20000 in
theorem s_X12_lead_15 (G : en_G) (hst : G.2.2.2.2.2 = true) (kc : Nat → en_B) (hk : ∀ t, en_Snd G M_X12_lead t (kc t)) : en_Snd G M_X12_lead 15 (B_X12_lead_15 kc) := (sn_aload_n (i := 0) (n := 0) (by decide +kernel) rfl (sn_sipush (n := 200) (v := 200) (by decide +kernel) rfl (sn_callVv (n := 1) (idx := 272) (ci := 12) (i_X12_layOrders G hst) (Nat.le_of_ble_eq_true rfl) cs_X12_layOrders ⟨wm_567, wm_568, wm_575⟩ ⟨⟨_, rfl, rfl⟩, (Nat.le_of_ble_eq_true rfl)⟩ (by decide +kernel) (sn_aload_n (i := 0) (n := 0) (by decide +kernel) rfl (sn_geti (ci := 12) (j := 4) en_c12 (by decide +kernel) wm_342 (Nat.le_of_ble_eq_true rfl) rfl (sn_istore_n (i := 1) (n := 1) (by decide +kernel) rfl (Nat.le_of_ble_eq_true rfl) (hk 27)))))))
noncomputable def B_X12_lead_0 (kc : Nat → en_B) : en_B := (op_aload 0 (op_const (0 : Int32) (op_puti 12 11 (op_aload 0 (op_geti 12 1 (op_ifeq (op_const (-2 : Int32) op_iret) (B_X12_lead_15 kc)))))))
set_option maxRecDepth 20000 in
theorem s_X12_lead_0 (G : en_G) (hst : G.2.2.2.2.2 = true) (kc : Nat → en_B) (hk : ∀ t, en_Snd G M_X12_lead t (kc t)) : en_Snd G M_X12_lead 0 (B_X12_lead_0 kc) := (sn_aload_n (i := 0) (n := 0) (by decide +kernel) rfl (sn_iconst (n := 0) (v := 0) (by decide +kernel) rfl (sn_puti (ci := 12) (j := 11) en_c12 (by decide +kernel) wm_368 (Nat.le_of_ble_eq_true rfl) rfl rfl rfl (sn_aload_n (i := 0) (n := 0) (by decide +kernel) rfl (sn_geti (ci := 12) (j := 1) en_c12 (by decide +kernel) wm_383 (Nat.le_of_ble_eq_true rfl) rfl (sn_ifne (off := 6) (tgt := 15) (by decide +kernel) rfl (s_X12_lead_15 G hst kc hk) (sn_bipush (n := -2) (v := -2) (by decide +kernel) rfl (sn_iret (by decide +kernel) rfl))))))))
noncomputable def LK_X12_lead : Nat → Nat → en_B
  | 0, _ => en_no
  | n + 1, t => if t = 27 then B_X12_lead_27 (LK_X12_lead n) else en_no
theorem l_X12_lead (G : en_G) (hst : G.2.2.2.2.2 = true) : ∀ n t, en_Snd G M_X12_lead t (LK_X12_lead n t)
  | 0, _ => sn_no
  | n + 1, t => by
    show en_Snd G M_X12_lead t (if t = 27 then B_X12_lead_27 (LK_X12_lead n) else en_no)
    by_cases h_27 : t = 27
    · rw [if_pos h_27, h_27]; exact s_X12_lead_27 G hst _ (l_X12_lead G hst n)
    rw [if_neg h_27]
    exact sn_no
noncomputable def T_X12_lead_0 (σ : en_M) : en_R := B_X12_lead_0 (LK_X12_lead en_FU) [.inr (185, 12, 0, 0), en_un] [] en_zz σ
noncomputable def T_X12_lead_27 (n : Nat) (x1 : Int32) (σ : en_M) : en_R := LK_X12_lead n 27 [.inr (185, 12, 0, 0), .inl x1] [] en_zz σ
set_option maxRecDepth 400000 in
set_option maxHeartbeats 4000000 in
theorem t_X12_lead_0 (σ : en_M) : T_X12_lead_0 σ = (if (σ 185 1) = 0 then (en_ri (-2 : Int32) (en_up σ 185 11 (0 : Int32))) else ((O_X12_layOrders [.inr (185, 12, 0, 0), .inl (200 : Int32)] (en_up σ 185 11 (0 : Int32))).bind fun r1 => T_X12_lead_27 en_FU (r1 185 4) r1)) := rfl
set_option maxRecDepth 400000 in
set_option maxHeartbeats 4000000 in
theorem t_X12_lead_27 (n : Nat) (x1 : Int32) (σ : en_M) : T_X12_lead_27 (n + 1) x1 σ = (if (200 : Int32) < x1 then (en_ri (-2 : Int32) σ) else ((O_X12_areLike [.inr (185, 12, 0, 0), .inl (0 : Int32), .inl x1] σ).bind fun r2 => if r2.1 = 0 then (T_X12_lead_27 n (x1 + (r2.2 185 4)) r2.2) else (en_ri x1 r2.2))) := rfl
noncomputable def P_X12_lead : List en_V → en_M → Option (Int32 × en_M) := fun av σ => match av with
  | [.inr (185, 12, 0, 0)] => en_oi (T_X12_lead_0 σ)
  | _ => none
theorem ox_X12_lead : ∃ f, f = P_X12_lead := ⟨_, rfl⟩
noncomputable def O_X12_lead : List en_V → en_M → Option (Int32 × en_M) := Classical.choose ox_X12_lead
theorem oe_X12_lead : O_X12_lead = P_X12_lead := Classical.choose_spec ox_X12_lead
theorem o_X12_lead (σ : en_M) : O_X12_lead [.inr (185, 12, 0, 0)] σ = en_oi (T_X12_lead_0 σ) := by rw [oe_X12_lead]; rfl
theorem i_X12_lead (G : en_G) (hst : G.2.2.2.2.2 = true) : en_I G 4 yX12_lead cX12_lead 2 (some .int) 0 0 (en_wi (O_X12_lead)) := en_of_i (M := M_X12_lead) hst (s_X12_lead_0 G hst _ (l_X12_lead G hst en_FU)) (plainFor_of_name (by decide +kernel)) rfl rfl rfl (Or.inl ⟨rfl, rfl⟩) (fun av σ x σ' h => by
  rw [oe_X12_lead] at h; unfold P_X12_lead at h
  split at h
  · exact ⟨(Nat.le_of_ble_eq_true rfl), en_oi_some h⟩
  · cases h)
-- EachMayMissOneModel.leads(II)I
def M_X12_leads : en_Me := (cX12_leads, RX12, 6, false, 4, false)
theorem cs_X12_leads : en_cs yX12_leads cX12_leads 6 (some .int) 2 := ⟨wm_583, wm_337, ⟨(by decide +kernel), (by decide +kernel), (by decide +kernel)⟩, (Nat.le_of_ble_eq_true rfl)⟩
noncomputable def B_X12_leads_109 (kc : Nat → en_B) : en_B := (op_aload 0 (op_const (0 : Int32) (op_puti 12 10 (op_aload 0 (op_iload 4 (op_rcv 12 1 (op_callv O_X12_tell 2 (op_iload 3 op_iret))))))))
set_option maxRecDepth 20000 in
theorem s_X12_leads_109 (G : en_G) (hst : G.2.2.2.2.2 = true) (kc : Nat → en_B) (hk : ∀ t, en_Snd G M_X12_leads t (kc t)) : en_Snd G M_X12_leads 109 (B_X12_leads_109 kc) := (sn_aload_n (i := 0) (n := 0) (by decide +kernel) rfl (sn_iconst (n := 0) (v := 0) (by decide +kernel) rfl (sn_puti (ci := 12) (j := 10) en_c12 (by decide +kernel) wm_379 (Nat.le_of_ble_eq_true rfl) rfl rfl rfl (sn_aload_n (i := 0) (n := 0) (by decide +kernel) rfl (sn_iload (i := 4) (by decide +kernel) (sn_callVv (n := 1) (idx := 251) (ci := 12) (i_X12_tell G hst) (Nat.le_of_ble_eq_true rfl) cs_X12_tell ⟨wm_377, wm_378, wm_536⟩ ⟨⟨_, rfl, rfl⟩, (Nat.le_of_ble_eq_true rfl)⟩ (by decide +kernel) (sn_iload_n (i := 3) (n := 3) (by decide +kernel) rfl (sn_iret (by decide +kernel) rfl))))))))
noncomputable def B_X12_leads_101 (kc : Nat → en_B) : en_B := (op_iload 3 (op_const (-1 : Int32) (op_iceq (op_const (-2 : Int32) op_iret) (B_X12_leads_109 kc))))
set_option maxRecDepth 20000 in
theorem s_X12_leads_101 (G : en_G) (hst : G.2.2.2.2.2 = true) (kc : Nat → en_B) (hk : ∀ t, en_Snd G M_X12_leads t (kc t)) : en_Snd G M_X12_leads 101 (B_X12_leads_101 kc) := (sn_iload_n (i := 3) (n := 3) (by decide +kernel) rfl (sn_iconst (n := -1) (v := -1) (by decide +kernel) rfl (sn_icne (off := 6) (tgt := 109) (by decide +kernel) rfl (s_X12_leads_109 G hst kc hk) (sn_bipush (n := -2) (v := -2) (by decide +kernel) rfl (sn_iret (by decide +kernel) rfl)))))
noncomputable def B_X12_leads_95 (kc : Nat → en_B) : en_B := (op_iinc 5 (1 : Int32) (kc 38))
set_option maxRecDepth 20000 in
theorem s_X12_leads_95 (G : en_G) (hst : G.2.2.2.2.2 = true) (kc : Nat → en_B) (hk : ∀ t, en_Snd G M_X12_leads t (kc t)) : en_Snd G M_X12_leads 95 (B_X12_leads_95 kc) := (sn_iinc (i := 5) (n := 1) (v := 1) (by decide +kernel) rfl (sn_goto (off := -60) (tgt := 38) (by decide +kernel) rfl (hk 38)))
noncomputable def B_X12_leads_92 (kc : Nat → en_B) : en_B := (op_bin (fun (x y : Int32) => x + y) (op_istore 4 (B_X12_leads_95 kc)))
set_option maxRecDepth 20000 in
theorem s_X12_leads_92 (G : en_G) (hst : G.2.2.2.2.2 = true) (kc : Nat → en_B) (hk : ∀ t, en_Snd G M_X12_leads t (kc t)) : en_Snd G M_X12_leads 92 (B_X12_leads_92 kc) := (sn_iadd (by decide +kernel) (sn_istore (i := 4) (by decide +kernel) (Nat.le_of_ble_eq_true rfl) (s_X12_leads_95 G hst kc hk)))
noncomputable def B_X12_leads_91 (kc : Nat → en_B) : en_B := (op_const (0 : Int32) (B_X12_leads_92 kc))
set_option maxRecDepth 20000 in
theorem s_X12_leads_91 (G : en_G) (hst : G.2.2.2.2.2 = true) (kc : Nat → en_B) (hk : ∀ t, en_Snd G M_X12_leads t (kc t)) : en_Snd G M_X12_leads 91 (B_X12_leads_91 kc) := (sn_iconst (n := 0) (v := 0) (by decide +kernel) rfl (s_X12_leads_92 G hst kc hk))
noncomputable def B_X12_leads_76 (kc : Nat → en_B) : en_B := (op_istore 3 (op_iload 4 (op_iload 5 (op_const (200 : Int32) (op_iclt (op_const (1 : Int32) (B_X12_leads_92 kc)) (B_X12_leads_91 kc))))))
set_option maxRecDepth 20000 in
theorem s_X12_leads_76 (G : en_G) (hst : G.2.2.2.2.2 = true) (kc : Nat → en_B) (hk : ∀ t, en_Snd G M_X12_leads t (kc t)) : en_Snd G M_X12_leads 76 (B_X12_leads_76 kc) := (sn_istore_n (i := 3) (n := 3) (by decide +kernel) rfl (Nat.le_of_ble_eq_true rfl) (sn_iload (i := 4) (by decide +kernel) (sn_iload (i := 5) (by decide +kernel) (sn_sipush (n := 200) (v := 200) (by decide +kernel) rfl (sn_icge (off := 7) (tgt := 91) (by decide +kernel) rfl (s_X12_leads_91 G hst kc hk) (sn_iconst (n := 1) (v := 1) (by decide +kernel) rfl (sn_goto (off := 4) (tgt := 92) (by decide +kernel) rfl (s_X12_leads_92 G hst kc hk))))))))
noncomputable def B_X12_leads_75 (kc : Nat → en_B) : en_B := (op_iload 3 (B_X12_leads_76 kc))
set_option maxRecDepth 20000 in
theorem s_X12_leads_75 (G : en_G) (hst : G.2.2.2.2.2 = true) (kc : Nat → en_B) (hk : ∀ t, en_Snd G M_X12_leads t (kc t)) : en_Snd G M_X12_leads 75 (B_X12_leads_75 kc) := (sn_iload_n (i := 3) (n := 3) (by decide +kernel) rfl (s_X12_leads_76 G hst kc hk))
noncomputable def B_X12_leads_65 (kc : Nat → en_B) : en_B := (op_iload 3 (op_const (-1 : Int32) (op_iceq (op_iload 5 (B_X12_leads_76 kc)) (B_X12_leads_75 kc))))
set_option maxRecDepth 20000 in
theorem s_X12_leads_65 (G : en_G) (hst : G.2.2.2.2.2 = true) (kc : Nat → en_B) (hk : ∀ t, en_Snd G M_X12_leads t (kc t)) : en_Snd G M_X12_leads 65 (B_X12_leads_65 kc) := (sn_iload_n (i := 3) (n := 3) (by decide +kernel) rfl (sn_iconst (n := -1) (v := -1) (by decide +kernel) rfl (sn_icne (off := 8) (tgt := 75) (by decide +kernel) rfl (s_X12_leads_75 G hst kc hk) (sn_iload (i := 5) (by decide +kernel) (sn_goto (off := 4) (tgt := 76) (by decide +kernel) rfl (s_X12_leads_76 G hst kc hk))))))
noncomputable def B_X12_leads_38 (kc : Nat → en_B) : en_B := (op_iload 5 (op_const (200 : Int32) (op_icgt (B_X12_leads_101 kc) (op_aload 0 (op_gets 12 12 (20, 1484, 0) (op_const (7 : Int32) (op_iload 5 (op_bin (fun (x y : Int32) => x * y) (op_iload 2 (op_bin (fun (x y : Int32) => x + y) (op_ald 20 (op_iload 1 (op_iceq (B_X12_leads_65 kc) (B_X12_leads_95 kc))))))))))))))
set_option maxRecDepth 20000 in
theorem s_X12_leads_38 (G : en_G) (hst : G.2.2.2.2.2 = true) (kc : Nat → en_B) (hk : ∀ t, en_Snd G M_X12_leads t (kc t)) : en_Snd G M_X12_leads 38 (B_X12_leads_38 kc) := (sn_iload (i := 5) (by decide +kernel) (sn_sipush (n := 200) (v := 200) (by decide +kernel) rfl (sn_icgt (off := 58) (tgt := 101) (by decide +kernel) rfl (s_X12_leads_101 G hst kc hk) (sn_aload_n (i := 0) (n := 0) (by decide +kernel) rfl (sn_gets (ci := 12) (j := 30) (off := 12) hst en_c12 of_12_12 (Nat.le_of_ble_eq_true rfl) (by decide +kernel) wm_353 (Nat.le_of_ble_eq_true rfl) rfl (sn_bipush (n := 7) (v := 7) (by decide +kernel) rfl (sn_iload (i := 5) (by decide +kernel) (sn_imul (by decide +kernel) (sn_iload_n (i := 2) (n := 2) (by decide +kernel) rfl (sn_iadd (by decide +kernel) (sn_iald (by decide +kernel) (sn_iload_n (i := 1) (n := 1) (by decide +kernel) rfl (sn_iceq (off := 6) (tgt := 65) (by decide +kernel) rfl (s_X12_leads_65 G hst kc hk) (sn_goto (off := 33) (tgt := 95) (by decide +kernel) rfl (s_X12_leads_95 G hst kc hk)))))))))))))))
noncomputable def B_X12_leads_23 (kc : Nat → en_B) : en_B := (op_aload 0 (op_const (200 : Int32) (op_rcv 12 1 (op_callv O_X12_layOrders 2 (op_const (-1 : Int32) (op_istore 3 (op_const (0 : Int32) (op_istore 4 (op_const (0 : Int32) (op_istore 5 (kc 38)))))))))))
set_option maxRecDepth 20000 in
theorem s_X12_leads_23 (G : en_G) (hst : G.2.2.2.2.2 = true) (kc : Nat → en_B) (hk : ∀ t, en_Snd G M_X12_leads t (kc t)) : en_Snd G M_X12_leads 23 (B_X12_leads_23 kc) := (sn_aload_n (i := 0) (n := 0) (by decide +kernel) rfl (sn_sipush (n := 200) (v := 200) (by decide +kernel) rfl (sn_callVv (n := 1) (idx := 272) (ci := 12) (i_X12_layOrders G hst) (Nat.le_of_ble_eq_true rfl) cs_X12_layOrders ⟨wm_567, wm_568, wm_575⟩ ⟨⟨_, rfl, rfl⟩, (Nat.le_of_ble_eq_true rfl)⟩ (by decide +kernel) (sn_iconst (n := -1) (v := -1) (by decide +kernel) rfl (sn_istore_n (i := 3) (n := 3) (by decide +kernel) rfl (Nat.le_of_ble_eq_true rfl) (sn_iconst (n := 0) (v := 0) (by decide +kernel) rfl (sn_istore (i := 4) (by decide +kernel) (Nat.le_of_ble_eq_true rfl) (sn_iconst (n := 0) (v := 0) (by decide +kernel) rfl (sn_istore (i := 5) (by decide +kernel) (Nat.le_of_ble_eq_true rfl) (hk 38))))))))))
noncomputable def B_X12_leads_21 (kc : Nat → en_B) : en_B := (op_const (-1 : Int32) op_iret)
set_option maxRecDepth 20000 in
theorem s_X12_leads_21 (G : en_G) (hst : G.2.2.2.2.2 = true) (kc : Nat → en_B) (hk : ∀ t, en_Snd G M_X12_leads t (kc t)) : en_Snd G M_X12_leads 21 (B_X12_leads_21 kc) := (sn_iconst (n := -1) (v := -1) (by decide +kernel) rfl (sn_iret (by decide +kernel) rfl))
noncomputable def B_X12_leads_0 (kc : Nat → en_B) : en_B := (op_aload 0 (op_const (0 : Int32) (op_puti 12 11 (op_aload 0 (op_iload 1 (op_rcv 12 1 (op_calli O_X12_isOne 2 (op_ifeq (B_X12_leads_21 kc) (op_aload 0 (op_iload 2 (op_rcv 12 1 (op_calli O_X12_isOne 2 (op_ifeq (B_X12_leads_21 kc) (B_X12_leads_23 kc))))))))))))))
set_option maxRecDepth 20000 in
theorem s_X12_leads_0 (G : en_G) (hst : G.2.2.2.2.2 = true) (kc : Nat → en_B) (hk : ∀ t, en_Snd G M_X12_leads t (kc t)) : en_Snd G M_X12_leads 0 (B_X12_leads_0 kc) := (sn_aload_n (i := 0) (n := 0) (by decide +kernel) rfl (sn_iconst (n := 0) (v := 0) (by decide +kernel) rfl (sn_puti (ci := 12) (j := 11) en_c12 (by decide +kernel) wm_368 (Nat.le_of_ble_eq_true rfl) rfl rfl rfl (sn_aload_n (i := 0) (n := 0) (by decide +kernel) rfl (sn_iload_n (i := 1) (n := 1) (by decide +kernel) rfl (sn_callVi (n := 1) (idx := 104) (ci := 12) (i_X12_isOne G hst) (Nat.le_of_ble_eq_true rfl) cs_X12_isOne ⟨wm_381, wm_382, wm_388⟩ ⟨⟨_, rfl, rfl⟩, (Nat.le_of_ble_eq_true rfl)⟩ (by decide +kernel) (sn_ifeq (off := 11) (tgt := 21) (by decide +kernel) rfl (s_X12_leads_21 G hst kc hk) (sn_aload_n (i := 0) (n := 0) (by decide +kernel) rfl (sn_iload_n (i := 2) (n := 2) (by decide +kernel) rfl (sn_callVi (n := 1) (idx := 104) (ci := 12) (i_X12_isOne G hst) (Nat.le_of_ble_eq_true rfl) cs_X12_isOne ⟨wm_381, wm_382, wm_388⟩ ⟨⟨_, rfl, rfl⟩, (Nat.le_of_ble_eq_true rfl)⟩ (by decide +kernel) (sn_ifne (off := 5) (tgt := 23) (by decide +kernel) rfl (s_X12_leads_23 G hst kc hk) (s_X12_leads_21 G hst kc hk))))))))))))
noncomputable def LK_X12_leads : Nat → Nat → en_B
  | 0, _ => en_no
  | n + 1, t => if t = 38 then B_X12_leads_38 (LK_X12_leads n) else en_no
theorem l_X12_leads (G : en_G) (hst : G.2.2.2.2.2 = true) : ∀ n t, en_Snd G M_X12_leads t (LK_X12_leads n t)
  | 0, _ => sn_no
  | n + 1, t => by
    show en_Snd G M_X12_leads t (if t = 38 then B_X12_leads_38 (LK_X12_leads n) else en_no)
    by_cases h_38 : t = 38
    · rw [if_pos h_38, h_38]; exact s_X12_leads_38 G hst _ (l_X12_leads G hst n)
    rw [if_neg h_38]
    exact sn_no
noncomputable def T_X12_leads_0 (x1 : Int32) (x2 : Int32) (σ : en_M) : en_R := B_X12_leads_0 (LK_X12_leads en_FU) [.inr (185, 12, 0, 0), .inl x1, .inl x2, en_un, en_un, en_un] [] en_zz σ
noncomputable def T_X12_leads_38 (n : Nat) (x1 : Int32) (x2 : Int32) (x3 : Int32) (x4 : Int32) (x5 : Int32) (σ : en_M) : en_R := LK_X12_leads n 38 [.inr (185, 12, 0, 0), .inl x1, .inl x2, .inl x3, .inl x4, .inl x5] [] en_zz σ
set_option maxRecDepth 400000 in
set_option maxHeartbeats 4000000 in
theorem t_X12_leads_0 (x1 : Int32) (x2 : Int32) (σ : en_M) : T_X12_leads_0 x1 x2 σ = ((O_X12_isOne [.inr (185, 12, 0, 0), .inl x1] (en_up σ 185 11 (0 : Int32))).bind fun r1 => if r1.1 = 0 then (en_ri (-1 : Int32) r1.2) else ((O_X12_isOne [.inr (185, 12, 0, 0), .inl x2] r1.2).bind fun r2 => if r2.1 = 0 then (en_ri (-1 : Int32) r2.2) else ((O_X12_layOrders [.inr (185, 12, 0, 0), .inl (200 : Int32)] r2.2).bind fun r3 => T_X12_leads_38 en_FU x1 x2 (-1 : Int32) (0 : Int32) (0 : Int32) r3))) := rfl
set_option maxRecDepth 400000 in
set_option maxHeartbeats 4000000 in
theorem t_X12_leads_38 (n : Nat) (x1 : Int32) (x2 : Int32) (x3 : Int32) (x4 : Int32) (x5 : Int32) (σ : en_M) : T_X12_leads_38 (n + 1) x1 x2 x3 x4 x5 σ = (if (200 : Int32) < x5 then (if x3 = (-1 : Int32) then (en_ri (-2 : Int32) σ) else ((O_X12_tell [.inr (185, 12, 0, 0), .inl x4] (en_up σ 185 10 (0 : Int32))).bind fun r4 => en_ri x3 r4)) else ((en_ix (((7 : Int32) * x5) + x2) 1484).bind fun j5 => if (σ 197 j5) = x1 then (if x3 = (-1 : Int32) then (if x5 < (200 : Int32) then (T_X12_leads_38 n x1 x2 x5 (x4 + (1 : Int32)) (x5 + (1 : Int32)) σ) else (T_X12_leads_38 n x1 x2 x5 (x4 + (0 : Int32)) (x5 + (1 : Int32)) σ)) else (if x5 < (200 : Int32) then (T_X12_leads_38 n x1 x2 x3 (x4 + (1 : Int32)) (x5 + (1 : Int32)) σ) else (T_X12_leads_38 n x1 x2 x3 (x4 + (0 : Int32)) (x5 + (1 : Int32)) σ))) else (T_X12_leads_38 n x1 x2 x3 x4 (x5 + (1 : Int32)) σ))) := rfl
noncomputable def P_X12_leads : List en_V → en_M → Option (Int32 × en_M) := fun av σ => match av with
  | [.inr (185, 12, 0, 0), .inl x1, .inl x2] => en_oi (T_X12_leads_0 x1 x2 σ)
  | _ => none
theorem ox_X12_leads : ∃ f, f = P_X12_leads := ⟨_, rfl⟩
noncomputable def O_X12_leads : List en_V → en_M → Option (Int32 × en_M) := Classical.choose ox_X12_leads
theorem oe_X12_leads : O_X12_leads = P_X12_leads := Classical.choose_spec ox_X12_leads
theorem o_X12_leads (x1 : Int32) (x2 : Int32) (σ : en_M) : O_X12_leads [.inr (185, 12, 0, 0), .inl x1, .inl x2] σ = en_oi (T_X12_leads_0 x1 x2 σ) := by rw [oe_X12_leads]; rfl
theorem i_X12_leads (G : en_G) (hst : G.2.2.2.2.2 = true) : en_I G 4 yX12_leads cX12_leads 6 (some .int) 0 0 (en_wi (O_X12_leads)) := en_of_i (M := M_X12_leads) hst (s_X12_leads_0 G hst _ (l_X12_leads G hst en_FU)) (plainFor_of_name (by decide +kernel)) rfl rfl rfl (Or.inl ⟨rfl, rfl⟩) (fun av σ x σ' h => by
  rw [oe_X12_leads] at h; unfold P_X12_leads at h
  split at h
  · exact ⟨(Nat.le_of_ble_eq_true rfl), en_oi_some h⟩
  · cases h)
