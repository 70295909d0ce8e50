-- EachMayMissOneModel.row(I)I
def M_X12_row : en_Me := (cX12_row, RX12, 2, false, 2, false)
theorem cs_X12_row : en_cs yX12_row cX12_row 2 (some .int) 1 := ⟨wm_718, wm_337, ⟨(by decide +kernel), (by decide +kernel), (by decide +kernel)⟩, (Nat.le_of_ble_eq_true rfl)⟩
noncomputable def B_X12_row_32 (kc : Nat → en_B) : en_B := op_iret
set_option maxRecDepth 20000 in
theorem s_X12_row_32 (G : en_G) (hst : G.2.2.2.2.2 = true) (kc : Nat → en_B) (hk : ∀ t, en_Snd G M_X12_row t (kc t)) : en_Snd G M_X12_row 32 (B_X12_row_32 kc) := (sn_iret (by decide +kernel) rfl)
noncomputable def B_X12_row_28 (kc : Nat → en_B) : en_B := (op_aload 0 (op_rcv 12 0 (op_calli O_X12_lost 1 (B_X12_row_32 kc))))
set_option maxRecDepth 20000 in
theorem s_X12_row_28 (G : en_G) (hst : G.2.2.2.2.2 = true) (kc : Nat → en_B) (hk : ∀ t, en_Snd G M_X12_row t (kc t)) : en_Snd G M_X12_row 28 (B_X12_row_28 kc) := (sn_aload_n (i := 0) (n := 0) (by decide +kernel) rfl (sn_callVi (n := 0) (idx := 202) (ci := 12) (i_X12_lost G hst) (Nat.le_of_ble_eq_true rfl) cs_X12_lost ⟨wm_374, wm_375, wm_490⟩ ⟨⟨_, rfl, rfl⟩, (Nat.le_of_ble_eq_true rfl)⟩ (by decide +kernel) (s_X12_row_32 G hst kc hk)))
noncomputable def B_X12_row_0 (kc : Nat → en_B) : en_B := (op_aload 0 (op_const (0 : Int32) (op_puti 12 11 (op_iload 1 (op_const (0 : Int32) (op_aload 0 (op_geti 12 10 (op_const (1 : Int32) (op_bin (fun (x y : Int32) => x - y) (op_calli O_X12_in 3 (op_ifeq (B_X12_row_28 kc) (op_aload 0 (op_gets 12 5 (20, 20, 0) (op_iload 1 (op_ald 20 (B_X12_row_32 kc))))))))))))))))
set_option maxRecDepth 20000 in
theorem s_X12_row_0 (G : en_G) (hst : G.2.2.2.2.2 = true) (kc : Nat → en_B) (hk : ∀ t, en_Snd G M_X12_row t (kc t)) : en_Snd G M_X12_row 0 (B_X12_row_0 kc) := (sn_aload_n (i := 0) (n := 0) (by decide +kernel) rfl (sn_iconst (n := 0) (v := 0) (by decide +kernel) rfl (sn_puti (ci := 12) (j := 11) en_c12 (by decide +kernel) wm_368 (Nat.le_of_ble_eq_true rfl) rfl rfl rfl (sn_iload_n (i := 1) (n := 1) (by decide +kernel) rfl (sn_iconst (n := 0) (v := 0) (by decide +kernel) rfl (sn_aload_n (i := 0) (n := 0) (by decide +kernel) rfl (sn_geti (ci := 12) (j := 10) en_c12 (by decide +kernel) wm_379 (Nat.le_of_ble_eq_true rfl) rfl (sn_iconst (n := 1) (v := 1) (by decide +kernel) rfl (sn_isub (by decide +kernel) (sn_callSi (n := 3) (idx := 100) (i_X12_in G hst) (Nat.le_of_ble_eq_true rfl) cs_X12_in ⟨wm_370, Or.inl wm_384⟩ (by decide +kernel) (sn_ifeq (off := 12) (tgt := 28) (by decide +kernel) rfl (s_X12_row_28 G hst kc hk) (sn_aload_n (i := 0) (n := 0) (by decide +kernel) rfl (sn_gets (ci := 12) (j := 9) (off := 5) hst en_c12 of_12_5 (Nat.le_of_ble_eq_true rfl) (by decide +kernel) wm_346 (Nat.le_of_ble_eq_true rfl) rfl (sn_iload_n (i := 1) (n := 1) (by decide +kernel) rfl (sn_iald (by decide +kernel) (sn_goto (off := 7) (tgt := 32) (by decide +kernel) rfl (s_X12_row_32 G hst kc hk)))))))))))))))))
noncomputable def LK_X12_row : Nat → Nat → en_B
  | 0, _ => en_no
  | n + 1, t => en_no
theorem l_X12_row (G : en_G) (hst : G.2.2.2.2.2 = true) : ∀ n t, en_Snd G M_X12_row t (LK_X12_row n t)
  | 0, _ => sn_no
  | n + 1, t => by
    show en_Snd G M_X12_row t (en_no)
    exact sn_no
noncomputable def T_X12_row_0 (x1 : Int32) (σ : en_M) : en_R := B_X12_row_0 (LK_X12_row en_FU) [.inr (185, 12, 0, 0), .inl x1] [] en_zz σ
set_option maxRecDepth 400000 in
set_option maxHeartbeats 4000000 in
theorem t_X12_row_0 (x1 : Int32) (σ : en_M) : T_X12_row_0 x1 σ = ((O_X12_in [.inl x1, .inl (0 : Int32), .inl ((σ 185 10) - (1 : Int32))] (en_up σ 185 11 (0 : Int32))).bind fun r1 => if r1.1 = 0 then ((O_X12_lost [.inr (185, 12, 0, 0)] r1.2).bind fun r2 => en_ri r2.1 r2.2) else ((en_ix x1 20).bind fun j3 => en_ri (r1.2 190 j3) r1.2)) := rfl
noncomputable def P_X12_row : List en_V → en_M → Option (Int32 × en_M) := fun av σ => match av with
  | [.inr (185, 12, 0, 0), .inl x1] => en_oi (T_X12_row_0 x1 σ)
  | _ => none
theorem ox_X12_row : ∃ f, f = P_X12_row := ⟨_, rfl⟩
noncomputable def O_X12_row : List en_V → en_M → Option (Int32 × en_M) := Classical.choose ox_X12_row
theorem oe_X12_row : O_X12_row = P_X12_row := Classical.choose_spec ox_X12_row
theorem o_X12_row (x1 : Int32) (σ : en_M) : O_X12_row [.inr (185, 12, 0, 0), .inl x1] σ = en_oi (T_X12_row_0 x1 σ) := by rw [oe_X12_row]; rfl
theorem i_X12_row (G : en_G) (hst : G.2.2.2.2.2 = true) : en_I G 2 yX12_row cX12_row 2 (some .int) 0 0 (en_wi (O_X12_row)) := en_of_i (M := M_X12_row) hst (s_X12_row_0 G hst _ (l_X12_row G hst en_FU)) (plainFor_of_name (by decide +kernel)) rfl rfl rfl (Or.inl ⟨rfl, rfl⟩) (fun av σ x σ' h => by
  rw [oe_X12_row] at h; unfold P_X12_row at h
  split at h
  · exact ⟨(Nat.le_of_ble_eq_true rfl), en_oi_some h⟩
  · cases h)
