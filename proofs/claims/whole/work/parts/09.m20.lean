-- EachMayMissOneModel.rule()I
def M_X12_rule : en_Me := (cX12_rule, RX12, 3, false, 255, false)
theorem cs_X12_rule : en_cs yX12_rule cX12_rule 3 (some .int) 0 := ⟨wm_468, wm_337, ⟨(by decide +kernel), (by decide +kernel), (by decide +kernel)⟩, (Nat.le_of_ble_eq_true rfl)⟩
noncomputable def B_X12_rule_96 (kc : Nat → en_B) : en_B := (op_aload 0 (op_iload 1 (op_puti 12 19 (op_const (0 : Int32) op_iret))))
set_option maxRecDepth 20000 in
theorem s_X12_rule_96 (G : en_G) (hst : G.2.2.2.2.2 = true) (kc : Nat → en_B) (hk : ∀ t, en_Snd G M_X12_rule t (kc t)) : en_Snd G M_X12_rule 96 (B_X12_rule_96 kc) := (sn_aload_n (i := 0) (n := 0) (by decide +kernel) rfl (sn_iload_n (i := 1) (n := 1) (by decide +kernel) rfl (sn_puti (ci := 12) (j := 19) en_c12 (by decide +kernel) wm_471 (Nat.le_of_ble_eq_true rfl) rfl rfl rfl (sn_iconst (n := 0) (v := 0) (by decide +kernel) rfl (sn_iret (by decide +kernel) rfl)))))
noncomputable def B_X12_rule_73 (kc : Nat → en_B) : en_B := (op_iload 2 (op_iload 1 (op_iclt (op_aload 0 (op_gets 12 7 (21, 40, 0) (op_iload 2 (op_aload 0 (op_gets 12 4 (21, 80, 0) (op_iload 2 (op_ald 21 (op_ast 21 (vp_nar .byte) (op_iinc 2 (1 : Int32) (kc 73)))))))))) (B_X12_rule_96 kc))))
set_option maxRecDepth 20000 in
theorem s_X12_rule_73 (G : en_G) (hst : G.2.2.2.2.2 = true) (kc : Nat → en_B) (hk : ∀ t, en_Snd G M_X12_rule t (kc t)) : en_Snd G M_X12_rule 73 (B_X12_rule_73 kc) := (sn_iload_n (i := 2) (n := 2) (by decide +kernel) rfl (sn_iload_n (i := 1) (n := 1) (by decide +kernel) rfl (sn_icge (off := 21) (tgt := 96) (by decide +kernel) rfl (s_X12_rule_96 G hst kc hk) (sn_aload_n (i := 0) (n := 0) (by decide +kernel) rfl (sn_gets (ci := 12) (j := 18) (off := 7) hst en_c12 of_12_7 (Nat.le_of_ble_eq_true rfl) (by decide +kernel) wm_348 (Nat.le_of_ble_eq_true rfl) rfl (sn_iload_n (i := 2) (n := 2) (by decide +kernel) rfl (sn_aload_n (i := 0) (n := 0) (by decide +kernel) rfl (sn_gets (ci := 12) (j := 7) (off := 4) hst en_c12 of_12_4 (Nat.le_of_ble_eq_true rfl) (by decide +kernel) wm_345 (Nat.le_of_ble_eq_true rfl) rfl (sn_iload_n (i := 2) (n := 2) (by decide +kernel) rfl (sn_bald (by decide +kernel) (sn_bast (by decide +kernel) (sn_iinc (i := 2) (n := 1) (v := 1) (by decide +kernel) rfl (sn_goto (off := -20) (tgt := 73) (by decide +kernel) rfl (hk 73))))))))))))))
noncomputable def B_X12_rule_71 (kc : Nat → en_B) : en_B := (op_const (0 : Int32) (op_istore 2 (kc 73)))
set_option maxRecDepth 20000 in
theorem s_X12_rule_71 (G : en_G) (hst : G.2.2.2.2.2 = true) (kc : Nat → en_B) (hk : ∀ t, en_Snd G M_X12_rule t (kc t)) : en_Snd G M_X12_rule 71 (B_X12_rule_71 kc) := (sn_iconst (n := 0) (v := 0) (by decide +kernel) rfl (sn_istore_n (i := 2) (n := 2) (by decide +kernel) rfl (Nat.le_of_ble_eq_true rfl) (hk 73)))
noncomputable def B_X12_rule_57 (kc : Nat → en_B) : en_B := (op_aload 0 (op_rcv 12 0 (op_calli O_X12_fine 1 (op_ifeq (op_const (-1 : Int32) (op_aload 0 (op_geti 12 16 (op_bin (fun (x y : Int32) => x - y) op_iret)))) (B_X12_rule_71 kc)))))
set_option maxRecDepth 20000 in
theorem s_X12_rule_57 (G : en_G) (hst : G.2.2.2.2.2 = true) (kc : Nat → en_B) (hk : ∀ t, en_Snd G M_X12_rule t (kc t)) : en_Snd G M_X12_rule 57 (B_X12_rule_57 kc) := (sn_aload_n (i := 0) (n := 0) (by decide +kernel) rfl (sn_callVi (n := 0) (idx := 130) (ci := 12) (i_X12_fine G hst) (Nat.le_of_ble_eq_true rfl) cs_X12_fine ⟨wm_415, wm_416, wm_420⟩ ⟨⟨_, rfl, rfl⟩, (Nat.le_of_ble_eq_true rfl)⟩ (by decide +kernel) (sn_ifne (off := 10) (tgt := 71) (by decide +kernel) rfl (s_X12_rule_71 G hst kc hk) (sn_iconst (n := -1) (v := -1) (by decide +kernel) rfl (sn_aload_n (i := 0) (n := 0) (by decide +kernel) rfl (sn_geti (ci := 12) (j := 16) en_c12 (by decide +kernel) wm_410 (Nat.le_of_ble_eq_true rfl) rfl (sn_isub (by decide +kernel) (sn_iret (by decide +kernel) rfl))))))))
noncomputable def B_X12_rule_0 (kc : Nat → en_B) : en_B := (op_aload 0 (op_const (0 : Int32) (op_puti 12 11 (op_aload 0 (op_geti 12 8 (op_istore 1 (op_aload 0 (op_aload 0 (op_gets 12 4 (21, 80, 0) (op_iload 1 (op_const (40 : Int32) (op_rcv 12 3 (op_callv O_X12_begin 4 (op_aload 0 (op_const (0 : Int32) (op_puti 12 8 (op_aload 0 (op_const (0 : Int32) (op_putz 12 20 (op_iload 1 (op_ifgt (op_aload 0 (op_const (0 : Int32) (op_rcv 12 1 (op_calli O_X12_held 2 (op_pop (op_aload 0 (op_geti 12 15 (op_iload 1 (op_iclt (op_aload 0 (op_aload 0 (op_geti 12 15 (op_rcv 12 1 (op_callv O_X12_fault 2 (B_X12_rule_57 kc)))))) (B_X12_rule_57 kc)))))))))) (B_X12_rule_71 kc))))))))))))))))))))))
set_option maxRecDepth 20000 in
theorem s_X12_rule_0 (G : en_G) (hst : G.2.2.2.2.2 = true) (kc : Nat → en_B) (hk : ∀ t, en_Snd G M_X12_rule t (kc t)) : en_Snd G M_X12_rule 0 (B_X12_rule_0 kc) := (sn_aload_n (i := 0) (n := 0) (by decide +kernel) rfl (sn_iconst (n := 0) (v := 0) (by decide +kernel) rfl (sn_puti (ci := 12) (j := 11) en_c12 (by decide +kernel) wm_368 (Nat.le_of_ble_eq_true rfl) rfl rfl rfl (sn_aload_n (i := 0) (n := 0) (by decide +kernel) rfl (sn_geti (ci := 12) (j := 8) en_c12 (by decide +kernel) wm_399 (Nat.le_of_ble_eq_true rfl) rfl (sn_istore_n (i := 1) (n := 1) (by decide +kernel) rfl (Nat.le_of_ble_eq_true rfl) (sn_aload_n (i := 0) (n := 0) (by decide +kernel) rfl (sn_aload_n (i := 0) (n := 0) (by decide +kernel) rfl (sn_gets (ci := 12) (j := 7) (off := 4) hst en_c12 of_12_4 (Nat.le_of_ble_eq_true rfl) (by decide +kernel) wm_345 (Nat.le_of_ble_eq_true rfl) rfl (sn_iload_n (i := 1) (n := 1) (by decide +kernel) rfl (sn_bipush (n := 40) (v := 40) (by decide +kernel) rfl (sn_callVv (n := 3) (idx := 152) (ci := 12) (i_X12_begin G hst) (Nat.le_of_ble_eq_true rfl) cs_X12_begin ⟨wm_404, wm_405, wm_444⟩ ⟨⟨_, rfl, rfl⟩, (Nat.le_of_ble_eq_true rfl)⟩ (by decide +kernel) (sn_aload_n (i := 0) (n := 0) (by decide +kernel) rfl (sn_iconst (n := 0) (v := 0) (by decide +kernel) rfl (sn_puti (ci := 12) (j := 8) en_c12 (by decide +kernel) wm_399 (Nat.le_of_ble_eq_true rfl) rfl rfl rfl (sn_aload_n (i := 0) (n := 0) (by decide +kernel) rfl (sn_iconst (n := 0) (v := 0) (by decide +kernel) rfl (sn_putz (ci := 12) (j := 20) en_c12 (by decide +kernel) wm_467 (Nat.le_of_ble_eq_true rfl) rfl rfl rfl (sn_iload_n (i := 1) (n := 1) (by decide +kernel) rfl (sn_ifle (off := 39) (tgt := 71) (by decide +kernel) rfl (s_X12_rule_71 G hst kc hk) (sn_aload_n (i := 0) (n := 0) (by decide +kernel) rfl (sn_iconst (n := 0) (v := 0) (by decide +kernel) rfl (sn_callVi (n := 1) (idx := 175) (ci := 12) (i_X12_held G hst) (Nat.le_of_ble_eq_true rfl) cs_X12_held ⟨wm_448, wm_449, wm_464⟩ ⟨⟨_, rfl, rfl⟩, (Nat.le_of_ble_eq_true rfl)⟩ (by decide +kernel) (sn_pop (by decide +kernel) (sn_aload_n (i := 0) (n := 0) (by decide +kernel) rfl (sn_geti (ci := 12) (j := 15) en_c12 (by decide +kernel) wm_409 (Nat.le_of_ble_eq_true rfl) rfl (sn_iload_n (i := 1) (n := 1) (by decide +kernel) rfl (sn_icge (off := 11) (tgt := 57) (by decide +kernel) rfl (s_X12_rule_57 G hst kc hk) (sn_aload_n (i := 0) (n := 0) (by decide +kernel) rfl (sn_aload_n (i := 0) (n := 0) (by decide +kernel) rfl (sn_geti (ci := 12) (j := 15) en_c12 (by decide +kernel) wm_409 (Nat.le_of_ble_eq_true rfl) rfl (sn_callVv (n := 1) (idx := 137) (ci := 12) (i_X12_fault G hst) (Nat.le_of_ble_eq_true rfl) cs_X12_fault ⟨wm_418, wm_419, wm_428⟩ ⟨⟨_, rfl, rfl⟩, (Nat.le_of_ble_eq_true rfl)⟩ (by decide +kernel) (s_X12_rule_57 G hst kc hk)))))))))))))))))))))))))))))))))
noncomputable def LK_X12_rule : Nat → Nat → en_B
  | 0, _ => en_no
  | n + 1, t => if t = 73 then B_X12_rule_73 (LK_X12_rule n) else en_no
theorem l_X12_rule (G : en_G) (hst : G.2.2.2.2.2 = true) : ∀ n t, en_Snd G M_X12_rule t (LK_X12_rule n t)
  | 0, _ => sn_no
  | n + 1, t => by
    show en_Snd G M_X12_rule t (if t = 73 then B_X12_rule_73 (LK_X12_rule n) else en_no)
    by_cases h_73 : t = 73
    · rw [if_pos h_73, h_73]; exact s_X12_rule_73 G hst _ (l_X12_rule G hst n)
    rw [if_neg h_73]
    exact sn_no
noncomputable def T_X12_rule_0 (σ : en_M) : en_R := B_X12_rule_0 (LK_X12_rule en_FU) [.inr (185, 12, 0, 0), en_un, en_un] [] en_zz σ
noncomputable def T_X12_rule_73 (n : Nat) (x1 : Int32) (x2 : Int32) (σ : en_M) : en_R := LK_X12_rule n 73 [.inr (185, 12, 0, 0), .inl x1, .inl x2] [] en_zz σ
set_option maxRecDepth 400000 in
set_option maxHeartbeats 4000000 in
theorem t_X12_rule_0 (σ : en_M) : T_X12_rule_0 σ = ((O_X12_begin [.inr (185, 12, 0, 0), .inr (189, 21, 80, 0), .inl (σ 185 8), .inl (40 : Int32)] (en_up σ 185 11 (0 : Int32))).bind fun r1 => if (0 : Int32) = 0 ∨ (0 : Int32) = 1 then (if 0 < (σ 185 8) then ((O_X12_held [.inr (185, 12, 0, 0), .inl (0 : Int32)] (en_up (en_up r1 185 8 (0 : Int32)) 185 20 (0 : Int32))).bind fun r2 => if (r2.2 185 15) < (σ 185 8) then ((O_X12_fault [.inr (185, 12, 0, 0), .inl (r2.2 185 15)] r2.2).bind fun r4 => (O_X12_fine [.inr (185, 12, 0, 0)] r4).bind fun r5 => if r5.1 = 0 then (en_ri ((-1 : Int32) - (r5.2 185 16)) r5.2) else (T_X12_rule_73 en_FU (σ 185 8) (0 : Int32) r5.2)) else ((O_X12_fine [.inr (185, 12, 0, 0)] r2.2).bind fun r3 => if r3.1 = 0 then (en_ri ((-1 : Int32) - (r3.2 185 16)) r3.2) else (T_X12_rule_73 en_FU (σ 185 8) (0 : Int32) r3.2))) else (T_X12_rule_73 en_FU (σ 185 8) (0 : Int32) (en_up (en_up r1 185 8 (0 : Int32)) 185 20 (0 : Int32)))) else none) := rfl
set_option maxRecDepth 400000 in
set_option maxHeartbeats 4000000 in
theorem t_X12_rule_73 (n : Nat) (x1 : Int32) (x2 : Int32) (σ : en_M) : T_X12_rule_73 (n + 1) x1 x2 σ = (if x2 < x1 then ((en_ix x2 80).bind fun j6 => (en_ix x2 40).bind fun j7 => T_X12_rule_73 n x1 (x2 + (1 : Int32)) (en_up σ 192 j7 (vp_nar .byte (σ 189 j6)))) else (en_ri (0 : Int32) (en_up σ 185 19 x1))) := rfl
noncomputable def P_X12_rule : List en_V → en_M → Option (Int32 × en_M) := fun av σ => match av with
  | [.inr (185, 12, 0, 0)] => en_oi (T_X12_rule_0 σ)
  | _ => none
theorem ox_X12_rule : ∃ f, f = P_X12_rule := ⟨_, rfl⟩
noncomputable def O_X12_rule : List en_V → en_M → Option (Int32 × en_M) := Classical.choose ox_X12_rule
theorem oe_X12_rule : O_X12_rule = P_X12_rule := Classical.choose_spec ox_X12_rule
theorem o_X12_rule (σ : en_M) : O_X12_rule [.inr (185, 12, 0, 0)] σ = en_oi (T_X12_rule_0 σ) := by rw [oe_X12_rule]; rfl
theorem i_X12_rule (G : en_G) (hst : G.2.2.2.2.2 = true) : en_I G 255 yX12_rule cX12_rule 3 (some .int) 0 0 (en_wi (O_X12_rule)) := en_of_i (M := M_X12_rule) hst (s_X12_rule_0 G hst _ (l_X12_rule G hst en_FU)) (plainFor_of_name (by decide +kernel)) rfl rfl rfl (Or.inl ⟨rfl, rfl⟩) (fun av σ x σ' h => by
  rw [oe_X12_rule] at h; unfold P_X12_rule at h
  split at h
  · exact ⟨(Nat.le_of_ble_eq_true rfl), en_oi_some h⟩
  · cases h)
-- EachMayMissOneModel.placeOf([II)I
def M_X12_placeOf : en_Me := (cX12_placeOf, RX12, 4, false, 1, false)
theorem cs_X12_placeOf : en_cs yX12_placeOf cX12_placeOf 4 (some .int) 2 := ⟨wm_477, wm_337, ⟨(by decide +kernel), (by decide +kernel), (by decide +kernel)⟩, (Nat.le_of_ble_eq_true rfl)⟩
noncomputable def B_X12_placeOf_15 (kc : Nat → en_B) : en_B := (op_iload 3 op_iret)
set_option maxRecDepth 20000 in
theorem s_X12_placeOf_15 (G : en_G) (hst : G.2.2.2.2.2 = true) (kc : Nat → en_B) (hk : ∀ t, en_Snd G M_X12_placeOf t (kc t)) : en_Snd G M_X12_placeOf 15 (B_X12_placeOf_15 kc) := (sn_iload_n (i := 3) (n := 3) (by decide +kernel) rfl (sn_iret (by decide +kernel) rfl))
noncomputable def B_X12_placeOf_2 (kc : Nat → en_B) : en_B := (op_aload 1 (op_iload 3 (op_ald 20 (op_iload 2 (op_iceq (B_X12_placeOf_15 kc) (op_iinc 3 (1 : Int32) (kc 2)))))))
set_option maxRecDepth 20000 in
theorem s_X12_placeOf_2 (G : en_G) (hst : G.2.2.2.2.2 = true) (kc : Nat → en_B) (hk : ∀ t, en_Snd G M_X12_placeOf t (kc t)) : en_Snd G M_X12_placeOf 2 (B_X12_placeOf_2 kc) := (sn_aload_n (i := 1) (n := 1) (by decide +kernel) rfl (sn_iload_n (i := 3) (n := 3) (by decide +kernel) rfl (sn_iald (by decide +kernel) (sn_iload_n (i := 2) (n := 2) (by decide +kernel) rfl (sn_iceq (off := 9) (tgt := 15) (by decide +kernel) rfl (s_X12_placeOf_15 G hst kc hk) (sn_iinc (i := 3) (n := 1) (v := 1) (by decide +kernel) rfl (sn_goto (off := -10) (tgt := 2) (by decide +kernel) rfl (hk 2))))))))
noncomputable def B_X12_placeOf_0 (kc : Nat → en_B) : en_B := (op_const (0 : Int32) (op_istore 3 (kc 2)))
set_option maxRecDepth 20000 in
theorem s_X12_placeOf_0 (G : en_G) (hst : G.2.2.2.2.2 = true) (kc : Nat → en_B) (hk : ∀ t, en_Snd G M_X12_placeOf t (kc t)) : en_Snd G M_X12_placeOf 0 (B_X12_placeOf_0 kc) := (sn_iconst (n := 0) (v := 0) (by decide +kernel) rfl (sn_istore_n (i := 3) (n := 3) (by decide +kernel) rfl (Nat.le_of_ble_eq_true rfl) (hk 2)))
noncomputable def LK_X12_placeOf : Nat → Nat → en_B
  | 0, _ => en_no
  | n + 1, t => if t = 2 then B_X12_placeOf_2 (LK_X12_placeOf n) else en_no
theorem l_X12_placeOf (G : en_G) (hst : G.2.2.2.2.2 = true) : ∀ n t, en_Snd G M_X12_placeOf t (LK_X12_placeOf n t)
  | 0, _ => sn_no
  | n + 1, t => by
    show en_Snd G M_X12_placeOf t (if t = 2 then B_X12_placeOf_2 (LK_X12_placeOf n) else en_no)
    by_cases h_2 : t = 2
    · rw [if_pos h_2, h_2]; exact s_X12_placeOf_2 G hst _ (l_X12_placeOf G hst n)
    rw [if_neg h_2]
    exact sn_no
noncomputable def T_X12_placeOf_0 (k1 : Nat) (x2 : Int32) (σ : en_M) : en_R := B_X12_placeOf_0 (LK_X12_placeOf en_FU) [.inr (185, 12, 0, 0), .inr (k1, 20, 53, 0), .inl x2, en_un] [] en_zz σ
noncomputable def T_X12_placeOf_2 (n : Nat) (k1 : Nat) (x2 : Int32) (x3 : Int32) (σ : en_M) : en_R := LK_X12_placeOf n 2 [.inr (185, 12, 0, 0), .inr (k1, 20, 53, 0), .inl x2, .inl x3] [] en_zz σ
set_option maxRecDepth 400000 in
set_option maxHeartbeats 4000000 in
theorem t_X12_placeOf_0 (k1 : Nat) (x2 : Int32) (σ : en_M) : T_X12_placeOf_0 k1 x2 σ = (T_X12_placeOf_2 en_FU k1 x2 (0 : Int32) σ) := rfl
set_option maxRecDepth 400000 in
set_option maxHeartbeats 4000000 in
theorem t_X12_placeOf_2 (n : Nat) (k1 : Nat) (x2 : Int32) (x3 : Int32) (σ : en_M) : T_X12_placeOf_2 (n + 1) k1 x2 x3 σ = ((en_ix x3 53).bind fun j1 => if (σ k1 j1) = x2 then (en_ri x3 σ) else (T_X12_placeOf_2 n k1 x2 (x3 + (1 : Int32)) σ)) := rfl
noncomputable def P_X12_placeOf : List en_V → en_M → Option (Int32 × en_M) := fun av σ => match av with
  | [.inr (185, 12, 0, 0), .inr (k1, 20, 53, 0), .inl x2] => en_oi (T_X12_placeOf_0 k1 x2 σ)
  | _ => none
theorem ox_X12_placeOf : ∃ f, f = P_X12_placeOf := ⟨_, rfl⟩
noncomputable def O_X12_placeOf : List en_V → en_M → Option (Int32 × en_M) := Classical.choose ox_X12_placeOf
theorem oe_X12_placeOf : O_X12_placeOf = P_X12_placeOf := Classical.choose_spec ox_X12_placeOf
theorem o_X12_placeOf (k1 : Nat) (x2 : Int32) (σ : en_M) : O_X12_placeOf [.inr (185, 12, 0, 0), .inr (k1, 20, 53, 0), .inl x2] σ = en_oi (T_X12_placeOf_0 k1 x2 σ) := by rw [oe_X12_placeOf]; rfl
theorem i_X12_placeOf (G : en_G) (hst : G.2.2.2.2.2 = true) : en_I G 1 yX12_placeOf cX12_placeOf 4 (some .int) 0 0 (en_wi (O_X12_placeOf)) := en_of_i (M := M_X12_placeOf) hst (s_X12_placeOf_0 G hst _ (l_X12_placeOf G hst en_FU)) (plainFor_of_name (by decide +kernel)) rfl rfl rfl (Or.inl ⟨rfl, rfl⟩) (fun av σ x σ' h => by
  rw [oe_X12_placeOf] at h; unfold P_X12_placeOf at h
  split at h
  · exact ⟨(Nat.le_of_ble_eq_true rfl), en_oi_some h⟩
  · cases h)
-- EachMayMissOneModel.tires([III)I
def M_X12_tires : en_Me := (cX12_tires, RX12, 5, false, 255, false)
theorem cs_X12_tires : en_cs yX12_tires cX12_tires 5 (some .int) 3 := ⟨wm_472, wm_337, ⟨(by decide +kernel), (by decide +kernel), (by decide +kernel)⟩, (Nat.le_of_ble_eq_true rfl)⟩
noncomputable def B_X12_tires_123 (kc : Nat → en_B) : en_B := (op_const (0 : Int32) (op_const (99 : Int32) (op_iload 4 (op_calli O_J9_min_7cf53 2 (op_calli O_J9_max_7cf53 2 op_iret)))))
set_option maxRecDepth 20000 in
theorem s_X12_tires_123 (G : en_G) (hst : G.2.2.2.2.2 = true) (kc : Nat → en_B) (hk : ∀ t, en_Snd G M_X12_tires t (kc t)) : en_Snd G M_X12_tires 123 (B_X12_tires_123 kc) := (sn_iconst (n := 0) (v := 0) (by decide +kernel) rfl (sn_bipush (n := 99) (v := 99) (by decide +kernel) rfl (sn_iload (i := 4) (by decide +kernel) (sn_callSi (n := 2) (idx := 195) (i_J9_min_7cf53 G hst) (Nat.le_of_ble_eq_true rfl) cs_J9_min_7cf53 ⟨wm_263, Or.inl wm_476⟩ (by decide +kernel) (sn_callSi (n := 2) (idx := 159) (i_J9_max_7cf53 G hst) (Nat.le_of_ble_eq_true rfl) cs_J9_max_7cf53 ⟨wm_267, Or.inl wm_446⟩ (by decide +kernel) (sn_iret (by decide +kernel) rfl))))))
noncomputable def B_X12_tires_0 (kc : Nat → en_B) : en_B := (op_aload 0 (op_gets 12 2 (20, 7, 0) (op_iload 2 (op_ald 20 (op_const (2 : Int32) (op_div (fun (x y : Int32) => x / y) (op_const (1 : Int32) (op_bin (fun (x y : Int32) => x + y) (op_istore 4 (op_aload 0 (op_geti 12 19 (op_ifgt (op_aload 0 (op_gets 12 8 (20, 7, 0) (op_const (0 : Int32) (op_aload 0 (op_gets 12 2 (20, 7, 0) (op_iload 2 (op_ald 20 (op_ast 20 (fun (x : Int32) => x) (op_aload 0 (op_gets 12 8 (20, 7, 0) (op_const (1 : Int32) (op_aload 1 (op_const (7 : Int32) (op_iload 2 (op_bin (fun (x y : Int32) => x + y) (op_ald 20 (op_ast 20 (fun (x : Int32) => x) (op_aload 0 (op_gets 12 8 (20, 7, 0) (op_const (2 : Int32) (op_aload 0 (op_aload 1 (op_iload 2 (op_rcv 12 2 (op_calli O_X12_placeOf 3 (op_ast 20 (fun (x : Int32) => x) (op_aload 0 (op_gets 12 8 (20, 7, 0) (op_const (3 : Int32) (op_aload 1 (op_const (28 : Int32) (op_ald 20 (op_ast 20 (fun (x : Int32) => x) (op_aload 0 (op_gets 12 8 (20, 7, 0) (op_const (4 : Int32) (op_iload 2 (op_ast 20 (fun (x : Int32) => x) (op_aload 0 (op_gets 12 8 (20, 7, 0) (op_const (5 : Int32) (op_aload 1 (op_const (14 : Int32) (op_iload 2 (op_bin (fun (x y : Int32) => x + y) (op_ald 20 (op_ast 20 (fun (x : Int32) => x) (op_aload 0 (op_gets 12 8 (20, 7, 0) (op_const (6 : Int32) (op_iload 3 (op_ast 20 (fun (x : Int32) => x) (op_aload 0 (op_aload 0 (op_gets 12 7 (21, 40, 0) (op_aload 0 (op_geti 12 19 (op_const (40 : Int32) (op_rcv 12 3 (op_callv O_X12_begin 4 (op_aload 0 (op_const (1 : Int32) (op_putz 12 20 (op_aload 0 (op_const (0 : Int32) (op_rcv 12 1 (op_calli O_X12_held 2 (op_istore 4 (op_aload 0 (op_const (0 : Int32) (op_putz 12 20 (B_X12_tires_123 kc)))))))))))))))))))))))))))))))))))))))))))))))))))))))))))))))))))))))) (B_X12_tires_123 kc)))))))))))))
set_option maxRecDepth 20000 in
theorem s_X12_tires_0 (G : en_G) (hst : G.2.2.2.2.2 = true) (kc : Nat → en_B) (hk : ∀ t, en_Snd G M_X12_tires t (kc t)) : en_Snd G M_X12_tires 0 (B_X12_tires_0 kc) := (sn_aload_n (i := 0) (n := 0) (by decide +kernel) rfl (sn_gets (ci := 12) (j := 2) (off := 2) hst en_c12 of_12_2 (Nat.le_of_ble_eq_true rfl) (by decide +kernel) wm_340 (Nat.le_of_ble_eq_true rfl) rfl (sn_iload_n (i := 2) (n := 2) (by decide +kernel) rfl (sn_iald (by decide +kernel) (sn_iconst (n := 2) (v := 2) (by decide +kernel) rfl (sn_idiv (by decide +kernel) (sn_iconst (n := 1) (v := 1) (by decide +kernel) rfl (sn_iadd (by decide +kernel) (sn_istore (i := 4) (by decide +kernel) (Nat.le_of_ble_eq_true rfl) (sn_aload_n (i := 0) (n := 0) (by decide +kernel) rfl (sn_geti (ci := 12) (j := 19) en_c12 (by decide +kernel) wm_471 (Nat.le_of_ble_eq_true rfl) rfl (sn_ifle (off := 107) (tgt := 123) (by decide +kernel) rfl (s_X12_tires_123 G hst kc hk) (sn_aload_n (i := 0) (n := 0) (by decide +kernel) rfl (sn_gets (ci := 12) (j := 21) (off := 8) hst en_c12 of_12_8 (Nat.le_of_ble_eq_true rfl) (by decide +kernel) wm_349 (Nat.le_of_ble_eq_true rfl) rfl (sn_iconst (n := 0) (v := 0) (by decide +kernel) rfl (sn_aload_n (i := 0) (n := 0) (by decide +kernel) rfl (sn_gets (ci := 12) (j := 2) (off := 2) hst en_c12 of_12_2 (Nat.le_of_ble_eq_true rfl) (by decide +kernel) wm_340 (Nat.le_of_ble_eq_true rfl) rfl (sn_iload_n (i := 2) (n := 2) (by decide +kernel) rfl (sn_iald (by decide +kernel) (sn_iast (by decide +kernel) (sn_aload_n (i := 0) (n := 0) (by decide +kernel) rfl (sn_gets (ci := 12) (j := 21) (off := 8) hst en_c12 of_12_8 (Nat.le_of_ble_eq_true rfl) (by decide +kernel) wm_349 (Nat.le_of_ble_eq_true rfl) rfl (sn_iconst (n := 1) (v := 1) (by decide +kernel) rfl (sn_aload_n (i := 1) (n := 1) (by decide +kernel) rfl (sn_bipush (n := 7) (v := 7) (by decide +kernel) rfl (sn_iload_n (i := 2) (n := 2) (by decide +kernel) rfl (sn_iadd (by decide +kernel) (sn_iald (by decide +kernel) (sn_iast (by decide +kernel) (sn_aload_n (i := 0) (n := 0) (by decide +kernel) rfl (sn_gets (ci := 12) (j := 21) (off := 8) hst en_c12 of_12_8 (Nat.le_of_ble_eq_true rfl) (by decide +kernel) wm_349 (Nat.le_of_ble_eq_true rfl) rfl (sn_iconst (n := 2) (v := 2) (by decide +kernel) rfl (sn_aload_n (i := 0) (n := 0) (by decide +kernel) rfl (sn_aload_n (i := 1) (n := 1) (by decide +kernel) rfl (sn_iload_n (i := 2) (n := 2) (by decide +kernel) rfl (sn_callVi (n := 2) (idx := 191) (ci := 12) (i_X12_placeOf G hst) (Nat.le_of_ble_eq_true rfl) cs_X12_placeOf ⟨wm_478, wm_479, wm_475⟩ ⟨⟨_, rfl, rfl⟩, (Nat.le_of_ble_eq_true rfl)⟩ (by decide +kernel) (sn_iast (by decide +kernel) (sn_aload_n (i := 0) (n := 0) (by decide +kernel) rfl (sn_gets (ci := 12) (j := 21) (off := 8) hst en_c12 of_12_8 (Nat.le_of_ble_eq_true rfl) (by decide +kernel) wm_349 (Nat.le_of_ble_eq_true rfl) rfl (sn_iconst (n := 3) (v := 3) (by decide +kernel) rfl (sn_aload_n (i := 1) (n := 1) (by decide +kernel) rfl (sn_bipush (n := 28) (v := 28) (by decide +kernel) rfl (sn_iald (by decide +kernel) (sn_iast (by decide +kernel) (sn_aload_n (i := 0) (n := 0) (by decide +kernel) rfl (sn_gets (ci := 12) (j := 21) (off := 8) hst en_c12 of_12_8 (Nat.le_of_ble_eq_true rfl) (by decide +kernel) wm_349 (Nat.le_of_ble_eq_true rfl) rfl (sn_iconst (n := 4) (v := 4) (by decide +kernel) rfl (sn_iload_n (i := 2) (n := 2) (by decide +kernel) rfl (sn_iast (by decide +kernel) (sn_aload_n (i := 0) (n := 0) (by decide +kernel) rfl (sn_gets (ci := 12) (j := 21) (off := 8) hst en_c12 of_12_8 (Nat.le_of_ble_eq_true rfl) (by decide +kernel) wm_349 (Nat.le_of_ble_eq_true rfl) rfl (sn_iconst (n := 5) (v := 5) (by decide +kernel) rfl (sn_aload_n (i := 1) (n := 1) (by decide +kernel) rfl (sn_bipush (n := 14) (v := 14) (by decide +kernel) rfl (sn_iload_n (i := 2) (n := 2) (by decide +kernel) rfl (sn_iadd (by decide +kernel) (sn_iald (by decide +kernel) (sn_iast (by decide +kernel) (sn_aload_n (i := 0) (n := 0) (by decide +kernel) rfl (sn_gets (ci := 12) (j := 21) (off := 8) hst en_c12 of_12_8 (Nat.le_of_ble_eq_true rfl) (by decide +kernel) wm_349 (Nat.le_of_ble_eq_true rfl) rfl (sn_bipush (n := 6) (v := 6) (by decide +kernel) rfl (sn_iload_n (i := 3) (n := 3) (by decide +kernel) rfl (sn_iast (by decide +kernel) (sn_aload_n (i := 0) (n := 0) (by decide +kernel) rfl (sn_aload_n (i := 0) (n := 0) (by decide +kernel) rfl (sn_gets (ci := 12) (j := 18) (off := 7) hst en_c12 of_12_7 (Nat.le_of_ble_eq_true rfl) (by decide +kernel) wm_348 (Nat.le_of_ble_eq_true rfl) rfl (sn_aload_n (i := 0) (n := 0) (by decide +kernel) rfl (sn_geti (ci := 12) (j := 19) en_c12 (by decide +kernel) wm_471 (Nat.le_of_ble_eq_true rfl) rfl (sn_bipush (n := 40) (v := 40) (by decide +kernel) rfl (sn_callVv (n := 3) (idx := 152) (ci := 12) (i_X12_begin G hst) (Nat.le_of_ble_eq_true rfl) cs_X12_begin ⟨wm_404, wm_405, wm_444⟩ ⟨⟨_, rfl, rfl⟩, (Nat.le_of_ble_eq_true rfl)⟩ (by decide +kernel) (sn_aload_n (i := 0) (n := 0) (by decide +kernel) rfl (sn_iconst (n := 1) (v := 1) (by decide +kernel) rfl (sn_putz (ci := 12) (j := 20) en_c12 (by decide +kernel) wm_467 (Nat.le_of_ble_eq_true rfl) rfl rfl rfl (sn_aload_n (i := 0) (n := 0) (by decide +kernel) rfl (sn_iconst (n := 0) (v := 0) (by decide +kernel) rfl (sn_callVi (n := 1) (idx := 175) (ci := 12) (i_X12_held G hst) (Nat.le_of_ble_eq_true rfl) cs_X12_held ⟨wm_448, wm_449, wm_464⟩ ⟨⟨_, rfl, rfl⟩, (Nat.le_of_ble_eq_true rfl)⟩ (by decide +kernel) (sn_istore (i := 4) (by decide +kernel) (Nat.le_of_ble_eq_true rfl) (sn_aload_n (i := 0) (n := 0) (by decide +kernel) rfl (sn_iconst (n := 0) (v := 0) (by decide +kernel) rfl (sn_putz (ci := 12) (j := 20) en_c12 (by decide +kernel) wm_467 (Nat.le_of_ble_eq_true rfl) rfl rfl rfl (s_X12_tires_123 G hst kc hk)))))))))))))))))))))))))))))))))))))))))))))))))))))))))))))))))))))))))))))))))
noncomputable def LK_X12_tires : Nat → Nat → en_B
  | 0, _ => en_no
  | n + 1, t => en_no
theorem l_X12_tires (G : en_G) (hst : G.2.2.2.2.2 = true) : ∀ n t, en_Snd G M_X12_tires t (LK_X12_tires n t)
  | 0, _ => sn_no
  | n + 1, t => by
    show en_Snd G M_X12_tires t (en_no)
    exact sn_no
noncomputable def T_X12_tires_0 (k1 : Nat) (x2 : Int32) (x3 : Int32) (σ : en_M) : en_R := B_X12_tires_0 (LK_X12_tires en_FU) [.inr (185, 12, 0, 0), .inr (k1, 20, 53, 0), .inl x2, .inl x3, en_un] [] en_zz σ
set_option maxRecDepth 400000 in
set_option maxHeartbeats 4000000 in
theorem t_X12_tires_0 (k1 : Nat) (x2 : Int32) (x3 : Int32) (σ : en_M) : T_X12_tires_0 k1 x2 x3 σ = ((en_ix x2 7).bind fun j1 => if (2 : Int32) = 0 then none else (if 0 < (σ 185 19) then ((en_ix x2 7).bind fun j4 => (en_ix (0 : Int32) 7).bind fun j5 => (en_ix ((7 : Int32) + x2) 53).bind fun j6 => (en_ix (1 : Int32) 7).bind fun j7 => (O_X12_placeOf [.inr (185, 12, 0, 0), .inr (k1, 20, 53, 0), .inl x2] (en_up (en_up σ 193 j5 (σ 187 j4)) 193 j7 ((en_up σ 193 j5 (σ 187 j4)) k1 j6))).bind fun r8 => (en_ix (2 : Int32) 7).bind fun j9 => (en_ix (28 : Int32) 53).bind fun j10 => (en_ix (3 : Int32) 7).bind fun j11 => (en_ix (4 : Int32) 7).bind fun j12 => (en_ix ((14 : Int32) + x2) 53).bind fun j13 => (en_ix (5 : Int32) 7).bind fun j14 => (en_ix (6 : Int32) 7).bind fun j15 => (O_X12_begin [.inr (185, 12, 0, 0), .inr (192, 21, 40, 0), .inl (r8.2 185 19), .inl (40 : Int32)] (en_up (en_up (en_up (en_up (en_up r8.2 193 j9 r8.1) 193 j11 ((en_up r8.2 193 j9 r8.1) k1 j10)) 193 j12 x2) 193 j14 ((en_up (en_up (en_up r8.2 193 j9 r8.1) 193 j11 ((en_up r8.2 193 j9 r8.1) k1 j10)) 193 j12 x2) k1 j13)) 193 j15 x3)).bind fun r16 => if (1 : Int32) = 0 ∨ (1 : Int32) = 1 then ((O_X12_held [.inr (185, 12, 0, 0), .inl (0 : Int32)] (en_up r16 185 20 (1 : Int32))).bind fun r17 => if (0 : Int32) = 0 ∨ (0 : Int32) = 1 then ((O_J9_min_7cf53 [.inl (99 : Int32), .inl r17.1] (en_up r17.2 185 20 (0 : Int32))).bind fun r18 => (O_J9_max_7cf53 [.inl (0 : Int32), .inl r18.1] r18.2).bind fun r19 => en_ri r19.1 r19.2) else none) else none) else ((O_J9_min_7cf53 [.inl (99 : Int32), .inl (((σ 187 j1) / (2 : Int32)) + (1 : Int32))] σ).bind fun r2 => (O_J9_max_7cf53 [.inl (0 : Int32), .inl r2.1] r2.2).bind fun r3 => en_ri r3.1 r3.2))) := rfl
noncomputable def P_X12_tires : List en_V → en_M → Option (Int32 × en_M) := fun av σ => match av with
  | [.inr (185, 12, 0, 0), .inr (k1, 20, 53, 0), .inl x2, .inl x3] => en_oi (T_X12_tires_0 k1 x2 x3 σ)
  | _ => none
theorem ox_X12_tires : ∃ f, f = P_X12_tires := ⟨_, rfl⟩
noncomputable def O_X12_tires : List en_V → en_M → Option (Int32 × en_M) := Classical.choose ox_X12_tires
theorem oe_X12_tires : O_X12_tires = P_X12_tires := Classical.choose_spec ox_X12_tires
theorem o_X12_tires (k1 : Nat) (x2 : Int32) (x3 : Int32) (σ : en_M) : O_X12_tires [.inr (185, 12, 0, 0), .inr (k1, 20, 53, 0), .inl x2, .inl x3] σ = en_oi (T_X12_tires_0 k1 x2 x3 σ) := by rw [oe_X12_tires]; rfl
theorem i_X12_tires (G : en_G) (hst : G.2.2.2.2.2 = true) : en_I G 255 yX12_tires cX12_tires 5 (some .int) 0 0 (en_wi (O_X12_tires)) := en_of_i (M := M_X12_tires) hst (s_X12_tires_0 G hst _ (l_X12_tires G hst en_FU)) (plainFor_of_name (by decide +kernel)) rfl rfl rfl (Or.inl ⟨rfl, rfl⟩) (fun av σ x σ' h => by
  rw [oe_X12_tires] at h; unfold P_X12_tires at h
  split at h
  · exact ⟨(Nat.le_of_ble_eq_true rfl), en_oi_some h⟩
  · cases h)
-- EachMayMissOneModel.placesOf([II)I
def M_X12_placesOf : en_Me := (cX12_placesOf, RX12, 5, false, 2, false)
theorem cs_X12_placesOf : en_cs yX12_placesOf cX12_placesOf 5 (some .int) 2 := ⟨wm_480, wm_337, ⟨(by decide +kernel), (by decide +kernel), (by decide +kernel)⟩, (Nat.le_of_ble_eq_true rfl)⟩
noncomputable def B_X12_placesOf_42 (kc : Nat → en_B) : en_B := (op_iload 3 op_iret)
set_option maxRecDepth 20000 in
theorem s_X12_placesOf_42 (G : en_G) (hst : G.2.2.2.2.2 = true) (kc : Nat → en_B) (hk : ∀ t, en_Snd G M_X12_placesOf t (kc t)) : en_Snd G M_X12_placesOf 42 (B_X12_placesOf_42 kc) := (sn_iload_n (i := 3) (n := 3) (by decide +kernel) rfl (sn_iret (by decide +kernel) rfl))
noncomputable def B_X12_placesOf_34 (kc : Nat → en_B) : en_B := (op_bin (fun (x y : Int32) => x ||| y) (op_istore 3 (op_iinc 4 (1 : Int32) (kc 5))))
set_option maxRecDepth 20000 in
theorem s_X12_placesOf_34 (G : en_G) (hst : G.2.2.2.2.2 = true) (kc : Nat → en_B) (hk : ∀ t, en_Snd G M_X12_placesOf t (kc t)) : en_Snd G M_X12_placesOf 34 (B_X12_placesOf_34 kc) := (sn_ior (by decide +kernel) (sn_istore_n (i := 3) (n := 3) (by decide +kernel) rfl (Nat.le_of_ble_eq_true rfl) (sn_iinc (i := 4) (n := 1) (v := 1) (by decide +kernel) rfl (sn_goto (off := -34) (tgt := 5) (by decide +kernel) rfl (hk 5)))))
noncomputable def B_X12_placesOf_33 (kc : Nat → en_B) : en_B := (op_const (0 : Int32) (B_X12_placesOf_34 kc))
set_option maxRecDepth 20000 in
theorem s_X12_placesOf_33 (G : en_G) (hst : G.2.2.2.2.2 = true) (kc : Nat → en_B) (hk : ∀ t, en_Snd G M_X12_placesOf t (kc t)) : en_Snd G M_X12_placesOf 33 (B_X12_placesOf_33 kc) := (sn_iconst (n := 0) (v := 0) (by decide +kernel) rfl (s_X12_placesOf_34 G hst kc hk))
noncomputable def B_X12_placesOf_5 (kc : Nat → en_B) : en_B := (op_iload 4 (op_aload 0 (op_geti 12 1 (op_iclt (op_iload 3 (op_iload 2 (op_aload 1 (op_iload 4 (op_ald 20 (op_calli O_X12_has 2 (op_ifeq (B_X12_placesOf_33 kc) (op_const (1 : Int32) (op_iload 4 (op_bin en_shl (B_X12_placesOf_34 kc))))))))))) (B_X12_placesOf_42 kc)))))
set_option maxRecDepth 20000 in
theorem s_X12_placesOf_5 (G : en_G) (hst : G.2.2.2.2.2 = true) (kc : Nat → en_B) (hk : ∀ t, en_Snd G M_X12_placesOf t (kc t)) : en_Snd G M_X12_placesOf 5 (B_X12_placesOf_5 kc) := (sn_iload (i := 4) (by decide +kernel) (sn_aload_n (i := 0) (n := 0) (by decide +kernel) rfl (sn_geti (ci := 12) (j := 1) en_c12 (by decide +kernel) wm_383 (Nat.le_of_ble_eq_true rfl) rfl (sn_icge (off := 31) (tgt := 42) (by decide +kernel) rfl (s_X12_placesOf_42 G hst kc hk) (sn_iload_n (i := 3) (n := 3) (by decide +kernel) rfl (sn_iload_n (i := 2) (n := 2) (by decide +kernel) rfl (sn_aload_n (i := 1) (n := 1) (by decide +kernel) rfl (sn_iload (i := 4) (by decide +kernel) (sn_iald (by decide +kernel) (sn_callSi (n := 2) (idx := 198) (i_X12_has G hst) (Nat.le_of_ble_eq_true rfl) cs_X12_has ⟨wm_372, Or.inl wm_483⟩ (by decide +kernel) (sn_ifeq (off := 10) (tgt := 33) (by decide +kernel) rfl (s_X12_placesOf_33 G hst kc hk) (sn_iconst (n := 1) (v := 1) (by decide +kernel) rfl (sn_iload (i := 4) (by decide +kernel) (sn_ishl (by decide +kernel) (sn_goto (off := 4) (tgt := 34) (by decide +kernel) rfl (s_X12_placesOf_34 G hst kc hk))))))))))))))))
noncomputable def B_X12_placesOf_0 (kc : Nat → en_B) : en_B := (op_const (0 : Int32) (op_istore 3 (op_const (0 : Int32) (op_istore 4 (kc 5)))))
set_option maxRecDepth 20000 in
theorem s_X12_placesOf_0 (G : en_G) (hst : G.2.2.2.2.2 = true) (kc : Nat → en_B) (hk : ∀ t, en_Snd G M_X12_placesOf t (kc t)) : en_Snd G M_X12_placesOf 0 (B_X12_placesOf_0 kc) := (sn_iconst (n := 0) (v := 0) (by decide +kernel) rfl (sn_istore_n (i := 3) (n := 3) (by decide +kernel) rfl (Nat.le_of_ble_eq_true rfl) (sn_iconst (n := 0) (v := 0) (by decide +kernel) rfl (sn_istore (i := 4) (by decide +kernel) (Nat.le_of_ble_eq_true rfl) (hk 5)))))
noncomputable def LK_X12_placesOf : Nat → Nat → en_B
  | 0, _ => en_no
  | n + 1, t => if t = 5 then B_X12_placesOf_5 (LK_X12_placesOf n) else en_no
theorem l_X12_placesOf (G : en_G) (hst : G.2.2.2.2.2 = true) : ∀ n t, en_Snd G M_X12_placesOf t (LK_X12_placesOf n t)
  | 0, _ => sn_no
  | n + 1, t => by
    show en_Snd G M_X12_placesOf t (if t = 5 then B_X12_placesOf_5 (LK_X12_placesOf n) else en_no)
    by_cases h_5 : t = 5
    · rw [if_pos h_5, h_5]; exact s_X12_placesOf_5 G hst _ (l_X12_placesOf G hst n)
    rw [if_neg h_5]
    exact sn_no
noncomputable def T_X12_placesOf_0 (k1 : Nat) (x2 : Int32) (σ : en_M) : en_R := B_X12_placesOf_0 (LK_X12_placesOf en_FU) [.inr (185, 12, 0, 0), .inr (k1, 20, 53, 0), .inl x2, en_un, en_un] [] en_zz σ
noncomputable def T_X12_placesOf_5 (n : Nat) (k1 : Nat) (x2 : Int32) (x3 : Int32) (x4 : Int32) (σ : en_M) : en_R := LK_X12_placesOf n 5 [.inr (185, 12, 0, 0), .inr (k1, 20, 53, 0), .inl x2, .inl x3, .inl x4] [] en_zz σ
set_option maxRecDepth 400000 in
set_option maxHeartbeats 4000000 in
theorem t_X12_placesOf_0 (k1 : Nat) (x2 : Int32) (σ : en_M) : T_X12_placesOf_0 k1 x2 σ = (T_X12_placesOf_5 en_FU k1 x2 (0 : Int32) (0 : Int32) σ) := rfl
set_option maxRecDepth 400000 in
set_option maxHeartbeats 4000000 in
theorem t_X12_placesOf_5 (n : Nat) (k1 : Nat) (x2 : Int32) (x3 : Int32) (x4 : Int32) (σ : en_M) : T_X12_placesOf_5 (n + 1) k1 x2 x3 x4 σ = (if x4 < (σ 185 1) then ((en_ix x4 53).bind fun j1 => (O_X12_has [.inl x2, .inl (σ k1 j1)] σ).bind fun r2 => if r2.1 = 0 then (T_X12_placesOf_5 n k1 x2 (x3 ||| (0 : Int32)) (x4 + (1 : Int32)) r2.2) else (T_X12_placesOf_5 n k1 x2 (x3 ||| (en_shl (1 : Int32) x4)) (x4 + (1 : Int32)) r2.2)) else (en_ri x3 σ)) := rfl
noncomputable def P_X12_placesOf : List en_V → en_M → Option (Int32 × en_M) := fun av σ => match av with
  | [.inr (185, 12, 0, 0), .inr (k1, 20, 53, 0), .inl x2] => en_oi (T_X12_placesOf_0 k1 x2 σ)
  | _ => none
theorem ox_X12_placesOf : ∃ f, f = P_X12_placesOf := ⟨_, rfl⟩
noncomputable def O_X12_placesOf : List en_V → en_M → Option (Int32 × en_M) := Classical.choose ox_X12_placesOf
theorem oe_X12_placesOf : O_X12_placesOf = P_X12_placesOf := Classical.choose_spec ox_X12_placesOf
theorem o_X12_placesOf (k1 : Nat) (x2 : Int32) (σ : en_M) : O_X12_placesOf [.inr (185, 12, 0, 0), .inr (k1, 20, 53, 0), .inl x2] σ = en_oi (T_X12_placesOf_0 k1 x2 σ) := by rw [oe_X12_placesOf]; rfl
theorem i_X12_placesOf (G : en_G) (hst : G.2.2.2.2.2 = true) : en_I G 2 yX12_placesOf cX12_placesOf 5 (some .int) 0 0 (en_wi (O_X12_placesOf)) := en_of_i (M := M_X12_placesOf) hst (s_X12_placesOf_0 G hst _ (l_X12_placesOf G hst en_FU)) (plainFor_of_name (by decide +kernel)) rfl rfl rfl (Or.inl ⟨rfl, rfl⟩) (fun av σ x σ' h => by
  rw [oe_X12_placesOf] at h; unfold P_X12_placesOf at h
  split at h
  · exact ⟨(Nat.le_of_ble_eq_true rfl), en_oi_some h⟩
  · cases h)
-- EachMayMissOneModel.tenor()I
def M_X12_tenor : en_Me := (cX12_tenor, RX12, 3, false, 1, false)
theorem cs_X12_tenor : en_cs yX12_tenor cX12_tenor 3 (some .int) 0 := ⟨wm_484, wm_337, ⟨(by decide +kernel), (by decide +kernel), (by decide +kernel)⟩, (Nat.le_of_ble_eq_true rfl)⟩
noncomputable def B_X12_tenor_40 (kc : Nat → en_B) : en_B := (op_iload 1 op_iret)
set_option maxRecDepth 20000 in
theorem s_X12_tenor_40 (G : en_G) (hst : G.2.2.2.2.2 = true) (kc : Nat → en_B) (hk : ∀ t, en_Snd G M_X12_tenor t (kc t)) : en_Snd G M_X12_tenor 40 (B_X12_tenor_40 kc) := (sn_iload_n (i := 1) (n := 1) (by decide +kernel) rfl (sn_iret (by decide +kernel) rfl))
noncomputable def B_X12_tenor_34 (kc : Nat → en_B) : en_B := (op_iinc 2 (1 : Int32) (kc 4))
set_option maxRecDepth 20000 in
theorem s_X12_tenor_34 (G : en_G) (hst : G.2.2.2.2.2 = true) (kc : Nat → en_B) (hk : ∀ t, en_Snd G M_X12_tenor t (kc t)) : en_Snd G M_X12_tenor 34 (B_X12_tenor_34 kc) := (sn_iinc (i := 2) (n := 1) (v := 1) (by decide +kernel) rfl (sn_goto (off := -33) (tgt := 4) (by decide +kernel) rfl (hk 4)))
noncomputable def B_X12_tenor_32 (kc : Nat → en_B) : en_B := (op_iload 2 (op_istore 1 (B_X12_tenor_34 kc)))
set_option maxRecDepth 20000 in
theorem s_X12_tenor_32 (G : en_G) (hst : G.2.2.2.2.2 = true) (kc : Nat → en_B) (hk : ∀ t, en_Snd G M_X12_tenor t (kc t)) : en_Snd G M_X12_tenor 32 (B_X12_tenor_32 kc) := (sn_iload_n (i := 2) (n := 2) (by decide +kernel) rfl (sn_istore_n (i := 1) (n := 1) (by decide +kernel) rfl (Nat.le_of_ble_eq_true rfl) (s_X12_tenor_34 G hst kc hk)))
noncomputable def B_X12_tenor_4 (kc : Nat → en_B) : en_B := (op_iload 2 (op_aload 0 (op_geti 12 1 (op_iclt (op_iload 1 (op_const (-1 : Int32) (op_iceq (B_X12_tenor_32 kc) (op_aload 0 (op_gets 12 2 (20, 7, 0) (op_iload 2 (op_ald 20 (op_aload 0 (op_gets 12 2 (20, 7, 0) (op_iload 1 (op_ald 20 (op_iclt (B_X12_tenor_34 kc) (B_X12_tenor_32 kc))))))))))))) (B_X12_tenor_40 kc)))))
set_option maxRecDepth 20000 in
theorem s_X12_tenor_4 (G : en_G) (hst : G.2.2.2.2.2 = true) (kc : Nat → en_B) (hk : ∀ t, en_Snd G M_X12_tenor t (kc t)) : en_Snd G M_X12_tenor 4 (B_X12_tenor_4 kc) := (sn_iload_n (i := 2) (n := 2) (by decide +kernel) rfl (sn_aload_n (i := 0) (n := 0) (by decide +kernel) rfl (sn_geti (ci := 12) (j := 1) en_c12 (by decide +kernel) wm_383 (Nat.le_of_ble_eq_true rfl) rfl (sn_icge (off := 31) (tgt := 40) (by decide +kernel) rfl (s_X12_tenor_40 G hst kc hk) (sn_iload_n (i := 1) (n := 1) (by decide +kernel) rfl (sn_iconst (n := -1) (v := -1) (by decide +kernel) rfl (sn_iceq (off := 18) (tgt := 32) (by decide +kernel) rfl (s_X12_tenor_32 G hst kc hk) (sn_aload_n (i := 0) (n := 0) (by decide +kernel) rfl (sn_gets (ci := 12) (j := 2) (off := 2) hst en_c12 of_12_2 (Nat.le_of_ble_eq_true rfl) (by decide +kernel) wm_340 (Nat.le_of_ble_eq_true rfl) rfl (sn_iload_n (i := 2) (n := 2) (by decide +kernel) rfl (sn_iald (by decide +kernel) (sn_aload_n (i := 0) (n := 0) (by decide +kernel) rfl (sn_gets (ci := 12) (j := 2) (off := 2) hst en_c12 of_12_2 (Nat.le_of_ble_eq_true rfl) (by decide +kernel) wm_340 (Nat.le_of_ble_eq_true rfl) rfl (sn_iload_n (i := 1) (n := 1) (by decide +kernel) rfl (sn_iald (by decide +kernel) (sn_iclt (off := 5) (tgt := 34) (by decide +kernel) rfl (s_X12_tenor_34 G hst kc hk) (s_X12_tenor_32 G hst kc hk)))))))))))))))))
noncomputable def B_X12_tenor_0 (kc : Nat → en_B) : en_B := (op_const (-1 : Int32) (op_istore 1 (op_const (0 : Int32) (op_istore 2 (kc 4)))))
set_option maxRecDepth 20000 in
theorem s_X12_tenor_0 (G : en_G) (hst : G.2.2.2.2.2 = true) (kc : Nat → en_B) (hk : ∀ t, en_Snd G M_X12_tenor t (kc t)) : en_Snd G M_X12_tenor 0 (B_X12_tenor_0 kc) := (sn_iconst (n := -1) (v := -1) (by decide +kernel) rfl (sn_istore_n (i := 1) (n := 1) (by decide +kernel) rfl (Nat.le_of_ble_eq_true rfl) (sn_iconst (n := 0) (v := 0) (by decide +kernel) rfl (sn_istore_n (i := 2) (n := 2) (by decide +kernel) rfl (Nat.le_of_ble_eq_true rfl) (hk 4)))))
noncomputable def LK_X12_tenor : Nat → Nat → en_B
  | 0, _ => en_no
  | n + 1, t => if t = 4 then B_X12_tenor_4 (LK_X12_tenor n) else en_no
theorem l_X12_tenor (G : en_G) (hst : G.2.2.2.2.2 = true) : ∀ n t, en_Snd G M_X12_tenor t (LK_X12_tenor n t)
  | 0, _ => sn_no
  | n + 1, t => by
    show en_Snd G M_X12_tenor t (if t = 4 then B_X12_tenor_4 (LK_X12_tenor n) else en_no)
    by_cases h_4 : t = 4
    · rw [if_pos h_4, h_4]; exact s_X12_tenor_4 G hst _ (l_X12_tenor G hst n)
    rw [if_neg h_4]
    exact sn_no
noncomputable def T_X12_tenor_0 (σ : en_M) : en_R := B_X12_tenor_0 (LK_X12_tenor en_FU) [.inr (185, 12, 0, 0), en_un, en_un] [] en_zz σ
noncomputable def T_X12_tenor_4 (n : Nat) (x1 : Int32) (x2 : Int32) (σ : en_M) : en_R := LK_X12_tenor n 4 [.inr (185, 12, 0, 0), .inl x1, .inl x2] [] en_zz σ
set_option maxRecDepth 400000 in
set_option maxHeartbeats 4000000 in
theorem t_X12_tenor_0 (σ : en_M) : T_X12_tenor_0 σ = (T_X12_tenor_4 en_FU (-1 : Int32) (0 : Int32) σ) := rfl
set_option maxRecDepth 400000 in
set_option maxHeartbeats 4000000 in
theorem t_X12_tenor_4 (n : Nat) (x1 : Int32) (x2 : Int32) (σ : en_M) : T_X12_tenor_4 (n + 1) x1 x2 σ = (if x2 < (σ 185 1) then (if x1 = (-1 : Int32) then (T_X12_tenor_4 n x2 (x2 + (1 : Int32)) σ) else ((en_ix x2 7).bind fun j1 => (en_ix x1 7).bind fun j2 => if (σ 187 j1) < (σ 187 j2) then (T_X12_tenor_4 n x1 (x2 + (1 : Int32)) σ) else (T_X12_tenor_4 n x2 (x2 + (1 : Int32)) σ))) else (en_ri x1 σ)) := rfl
noncomputable def P_X12_tenor : List en_V → en_M → Option (Int32 × en_M) := fun av σ => match av with
  | [.inr (185, 12, 0, 0)] => en_oi (T_X12_tenor_0 σ)
  | _ => none
theorem ox_X12_tenor : ∃ f, f = P_X12_tenor := ⟨_, rfl⟩
noncomputable def O_X12_tenor : List en_V → en_M → Option (Int32 × en_M) := Classical.choose ox_X12_tenor
theorem oe_X12_tenor : O_X12_tenor = P_X12_tenor := Classical.choose_spec ox_X12_tenor
theorem o_X12_tenor (σ : en_M) : O_X12_tenor [.inr (185, 12, 0, 0)] σ = en_oi (T_X12_tenor_0 σ) := by rw [oe_X12_tenor]; rfl
theorem i_X12_tenor (G : en_G) (hst : G.2.2.2.2.2 = true) : en_I G 1 yX12_tenor cX12_tenor 3 (some .int) 0 0 (en_wi (O_X12_tenor)) := en_of_i (M := M_X12_tenor) hst (s_X12_tenor_0 G hst _ (l_X12_tenor G hst en_FU)) (plainFor_of_name (by decide +kernel)) rfl rfl rfl (Or.inl ⟨rfl, rfl⟩) (fun av σ x σ' h => by
  rw [oe_X12_tenor] at h; unfold P_X12_tenor at h
  split at h
  · exact ⟨(Nat.le_of_ble_eq_true rfl), en_oi_some h⟩
  · cases h)
-- EachMayMissOneModel.ringer(II)I
def M_X12_ringer : en_Me := (cX12_ringer, RX12, 3, false, 256, false)
theorem cs_X12_ringer : en_cs yX12_ringer cX12_ringer 3 (some .int) 2 := ⟨wm_487, wm_337, ⟨(by decide +kernel), (by decide +kernel), (by decide +kernel)⟩, (Nat.le_of_ble_eq_true rfl)⟩
noncomputable def B_X12_ringer_127 (kc : Nat → en_B) : en_B := (op_aload 0 (op_aload 0 (op_gets 12 1 (20, 53, 0) (op_iload 1 (op_const (0 : Int32) (op_rcv 12 3 (op_calli O_X12_tires 4 op_iret)))))))
set_option maxRecDepth 20000 in
theorem s_X12_ringer_127 (G : en_G) (hst : G.2.2.2.2.2 = true) (kc : Nat → en_B) (hk : ∀ t, en_Snd G M_X12_ringer t (kc t)) : en_Snd G M_X12_ringer 127 (B_X12_ringer_127 kc) := (sn_aload_n (i := 0) (n := 0) (by decide +kernel) rfl (sn_aload_n (i := 0) (n := 0) (by decide +kernel) rfl (sn_gets (ci := 12) (j := 0) (off := 1) hst en_c12 of_12_1 (Nat.le_of_ble_eq_true rfl) (by decide +kernel) wm_339 (Nat.le_of_ble_eq_true rfl) rfl (sn_iload_n (i := 1) (n := 1) (by decide +kernel) rfl (sn_iconst (n := 0) (v := 0) (by decide +kernel) rfl (sn_callVi (n := 3) (idx := 205) (ci := 12) (i_X12_tires G hst) (Nat.le_of_ble_eq_true rfl) cs_X12_tires ⟨wm_473, wm_474, wm_491⟩ ⟨⟨_, rfl, rfl⟩, (Nat.le_of_ble_eq_true rfl)⟩ (by decide +kernel) (sn_iret (by decide +kernel) rfl)))))))
noncomputable def B_X12_ringer_115 (kc : Nat → en_B) : en_B := (op_aload 0 (op_gets 12 1 (20, 53, 0) (op_const (30 : Int32) (op_ald 20 (op_iload 1 (op_bin en_shr (op_const (1 : Int32) (op_bin (fun (x y : Int32) => x &&& y) op_iret))))))))
set_option maxRecDepth 20000 in
theorem s_X12_ringer_115 (G : en_G) (hst : G.2.2.2.2.2 = true) (kc : Nat → en_B) (hk : ∀ t, en_Snd G M_X12_ringer t (kc t)) : en_Snd G M_X12_ringer 115 (B_X12_ringer_115 kc) := (sn_aload_n (i := 0) (n := 0) (by decide +kernel) rfl (sn_gets (ci := 12) (j := 0) (off := 1) hst en_c12 of_12_1 (Nat.le_of_ble_eq_true rfl) (by decide +kernel) wm_339 (Nat.le_of_ble_eq_true rfl) rfl (sn_bipush (n := 30) (v := 30) (by decide +kernel) rfl (sn_iald (by decide +kernel) (sn_iload_n (i := 1) (n := 1) (by decide +kernel) rfl (sn_ishr (by decide +kernel) (sn_iconst (n := 1) (v := 1) (by decide +kernel) rfl (sn_iand (by decide +kernel) (sn_iret (by decide +kernel) rfl)))))))))
noncomputable def B_X12_ringer_105 (kc : Nat → en_B) : en_B := (op_aload 0 (op_aload 0 (op_gets 12 1 (20, 53, 0) (op_iload 1 (op_rcv 12 2 (op_calli O_X12_placeOf 3 op_iret))))))
set_option maxRecDepth 20000 in
theorem s_X12_ringer_105 (G : en_G) (hst : G.2.2.2.2.2 = true) (kc : Nat → en_B) (hk : ∀ t, en_Snd G M_X12_ringer t (kc t)) : en_Snd G M_X12_ringer 105 (B_X12_ringer_105 kc) := (sn_aload_n (i := 0) (n := 0) (by decide +kernel) rfl (sn_aload_n (i := 0) (n := 0) (by decide +kernel) rfl (sn_gets (ci := 12) (j := 0) (off := 1) hst en_c12 of_12_1 (Nat.le_of_ble_eq_true rfl) (by decide +kernel) wm_339 (Nat.le_of_ble_eq_true rfl) rfl (sn_iload_n (i := 1) (n := 1) (by decide +kernel) rfl (sn_callVi (n := 2) (idx := 191) (ci := 12) (i_X12_placeOf G hst) (Nat.le_of_ble_eq_true rfl) cs_X12_placeOf ⟨wm_478, wm_479, wm_475⟩ ⟨⟨_, rfl, rfl⟩, (Nat.le_of_ble_eq_true rfl)⟩ (by decide +kernel) (sn_iret (by decide +kernel) rfl))))))
noncomputable def B_X12_ringer_95 (kc : Nat → en_B) : en_B := (op_aload 0 (op_gets 12 1 (20, 53, 0) (op_const (21 : Int32) (op_iload 1 (op_bin (fun (x y : Int32) => x + y) (op_ald 20 op_iret))))))
set_option maxRecDepth 20000 in
theorem s_X12_ringer_95 (G : en_G) (hst : G.2.2.2.2.2 = true) (kc : Nat → en_B) (hk : ∀ t, en_Snd G M_X12_ringer t (kc t)) : en_Snd G M_X12_ringer 95 (B_X12_ringer_95 kc) := (sn_aload_n (i := 0) (n := 0) (by decide +kernel) rfl (sn_gets (ci := 12) (j := 0) (off := 1) hst en_c12 of_12_1 (Nat.le_of_ble_eq_true rfl) (by decide +kernel) wm_339 (Nat.le_of_ble_eq_true rfl) rfl (sn_bipush (n := 21) (v := 21) (by decide +kernel) rfl (sn_iload_n (i := 1) (n := 1) (by decide +kernel) rfl (sn_iadd (by decide +kernel) (sn_iald (by decide +kernel) (sn_iret (by decide +kernel) rfl)))))))
noncomputable def B_X12_ringer_85 (kc : Nat → en_B) : en_B := (op_aload 0 (op_gets 12 1 (20, 53, 0) (op_const (14 : Int32) (op_iload 1 (op_bin (fun (x y : Int32) => x + y) (op_ald 20 op_iret))))))
set_option maxRecDepth 20000 in
theorem s_X12_ringer_85 (G : en_G) (hst : G.2.2.2.2.2 = true) (kc : Nat → en_B) (hk : ∀ t, en_Snd G M_X12_ringer t (kc t)) : en_Snd G M_X12_ringer 85 (B_X12_ringer_85 kc) := (sn_aload_n (i := 0) (n := 0) (by decide +kernel) rfl (sn_gets (ci := 12) (j := 0) (off := 1) hst en_c12 of_12_1 (Nat.le_of_ble_eq_true rfl) (by decide +kernel) wm_339 (Nat.le_of_ble_eq_true rfl) rfl (sn_bipush (n := 14) (v := 14) (by decide +kernel) rfl (sn_iload_n (i := 1) (n := 1) (by decide +kernel) rfl (sn_iadd (by decide +kernel) (sn_iald (by decide +kernel) (sn_iret (by decide +kernel) rfl)))))))
noncomputable def B_X12_ringer_75 (kc : Nat → en_B) : en_B := (op_aload 0 (op_gets 12 1 (20, 53, 0) (op_const (7 : Int32) (op_iload 1 (op_bin (fun (x y : Int32) => x + y) (op_ald 20 op_iret))))))
set_option maxRecDepth 20000 in
theorem s_X12_ringer_75 (G : en_G) (hst : G.2.2.2.2.2 = true) (kc : Nat → en_B) (hk : ∀ t, en_Snd G M_X12_ringer t (kc t)) : en_Snd G M_X12_ringer 75 (B_X12_ringer_75 kc) := (sn_aload_n (i := 0) (n := 0) (by decide +kernel) rfl (sn_gets (ci := 12) (j := 0) (off := 1) hst en_c12 of_12_1 (Nat.le_of_ble_eq_true rfl) (by decide +kernel) wm_339 (Nat.le_of_ble_eq_true rfl) rfl (sn_bipush (n := 7) (v := 7) (by decide +kernel) rfl (sn_iload_n (i := 1) (n := 1) (by decide +kernel) rfl (sn_iadd (by decide +kernel) (sn_iald (by decide +kernel) (sn_iret (by decide +kernel) rfl)))))))
noncomputable def B_X12_ringer_68 (kc : Nat → en_B) : en_B := (op_aload 0 (op_gets 12 2 (20, 7, 0) (op_iload 1 (op_ald 20 op_iret))))
set_option maxRecDepth 20000 in
theorem s_X12_ringer_68 (G : en_G) (hst : G.2.2.2.2.2 = true) (kc : Nat → en_B) (hk : ∀ t, en_Snd G M_X12_ringer t (kc t)) : en_Snd G M_X12_ringer 68 (B_X12_ringer_68 kc) := (sn_aload_n (i := 0) (n := 0) (by decide +kernel) rfl (sn_gets (ci := 12) (j := 2) (off := 2) hst en_c12 of_12_2 (Nat.le_of_ble_eq_true rfl) (by decide +kernel) wm_340 (Nat.le_of_ble_eq_true rfl) rfl (sn_iload_n (i := 1) (n := 1) (by decide +kernel) rfl (sn_iald (by decide +kernel) (sn_iret (by decide +kernel) rfl)))))
/-- the switch at 29 -/
noncomputable def B_X12_ringer_28 (kc : Nat → en_B) : en_B := (op_iload 2 (op_sw [((0 : Int32), (B_X12_ringer_68 kc)), ((1 : Int32), (B_X12_ringer_75 kc)), ((2 : Int32), (B_X12_ringer_85 kc)), ((3 : Int32), (B_X12_ringer_95 kc)), ((4 : Int32), (B_X12_ringer_105 kc)), ((5 : Int32), (B_X12_ringer_115 kc))] (B_X12_ringer_127 kc)))
set_option maxRecDepth 20000 in
theorem s_X12_ringer_28 (G : en_G) (hst : G.2.2.2.2.2 = true) (kc : Nat → en_B) (hk : ∀ t, en_Snd G M_X12_ringer t (kc t)) : en_Snd G M_X12_ringer 28 (B_X12_ringer_28 kc) := (sn_iload_n (i := 2) (n := 2) (by decide +kernel) rfl (sn_tsw (offs := #[39, 46, 56, 66, 76, 86]) (len := 39) (dflt := 98) (hi := 5) (dt := 127) (by decide +kernel) rfl (show 6 < 2 ^ 31 by decide) rfl (s_X12_ringer_127 G hst kc hk) (fun i hi => match i, hi with | 0, _ => ⟨rfl, 39, 68, rfl, rfl, (s_X12_ringer_68 G hst kc hk)⟩ | 1, _ => ⟨rfl, 46, 75, rfl, rfl, (s_X12_ringer_75 G hst kc hk)⟩ | 2, _ => ⟨rfl, 56, 85, rfl, rfl, (s_X12_ringer_85 G hst kc hk)⟩ | 3, _ => ⟨rfl, 66, 95, rfl, rfl, (s_X12_ringer_95 G hst kc hk)⟩ | 4, _ => ⟨rfl, 76, 105, rfl, rfl, (s_X12_ringer_105 G hst kc hk)⟩ | 5, _ => ⟨rfl, 86, 115, rfl, rfl, (s_X12_ringer_115 G hst kc hk)⟩ | n + 6, h9 => absurd h9 (by simp))))
noncomputable def B_X12_ringer_23 (kc : Nat → en_B) : en_B := (op_aload 0 (op_rcv 12 0 (op_calli O_X12_lost 1 op_iret)))
set_option maxRecDepth 20000 in
theorem s_X12_ringer_23 (G : en_G) (hst : G.2.2.2.2.2 = true) (kc : Nat → en_B) (hk : ∀ t, en_Snd G M_X12_ringer t (kc t)) : en_Snd G M_X12_ringer 23 (B_X12_ringer_23 kc) := (sn_aload_n (i := 0) (n := 0) (by decide +kernel) rfl (sn_callVi (n := 0) (idx := 202) (ci := 12) (i_X12_lost G hst) (Nat.le_of_ble_eq_true rfl) cs_X12_lost ⟨wm_374, wm_375, wm_490⟩ ⟨⟨_, rfl, rfl⟩, (Nat.le_of_ble_eq_true rfl)⟩ (by decide +kernel) (sn_iret (by decide +kernel) rfl)))
noncomputable def B_X12_ringer_0 (kc : Nat → en_B) : en_B := (op_aload 0 (op_const (0 : Int32) (op_puti 12 11 (op_aload 0 (op_iload 1 (op_rcv 12 1 (op_calli O_X12_isOne 2 (op_ifeq (B_X12_ringer_23 kc) (op_iload 2 (op_const (0 : Int32) (op_const (6 : Int32) (op_calli O_X12_in 3 (op_ifeq (B_X12_ringer_23 kc) (B_X12_ringer_28 kc))))))))))))))
set_option maxRecDepth 20000 in
theorem s_X12_ringer_0 (G : en_G) (hst : G.2.2.2.2.2 = true) (kc : Nat → en_B) (hk : ∀ t, en_Snd G M_X12_ringer t (kc t)) : en_Snd G M_X12_ringer 0 (B_X12_ringer_0 kc) := (sn_aload_n (i := 0) (n := 0) (by decide +kernel) rfl (sn_iconst (n := 0) (v := 0) (by decide +kernel) rfl (sn_puti (ci := 12) (j := 11) en_c12 (by decide +kernel) wm_368 (Nat.le_of_ble_eq_true rfl) rfl rfl rfl (sn_aload_n (i := 0) (n := 0) (by decide +kernel) rfl (sn_iload_n (i := 1) (n := 1) (by decide +kernel) rfl (sn_callVi (n := 1) (idx := 104) (ci := 12) (i_X12_isOne G hst) (Nat.le_of_ble_eq_true rfl) cs_X12_isOne ⟨wm_381, wm_382, wm_388⟩ ⟨⟨_, rfl, rfl⟩, (Nat.le_of_ble_eq_true rfl)⟩ (by decide +kernel) (sn_ifeq (off := 13) (tgt := 23) (by decide +kernel) rfl (s_X12_ringer_23 G hst kc hk) (sn_iload_n (i := 2) (n := 2) (by decide +kernel) rfl (sn_iconst (n := 0) (v := 0) (by decide +kernel) rfl (sn_bipush (n := 6) (v := 6) (by decide +kernel) rfl (sn_callSi (n := 3) (idx := 100) (i_X12_in G hst) (Nat.le_of_ble_eq_true rfl) cs_X12_in ⟨wm_370, Or.inl wm_384⟩ (by decide +kernel) (sn_ifne (off := 8) (tgt := 28) (by decide +kernel) rfl (s_X12_ringer_28 G hst kc hk) (s_X12_ringer_23 G hst kc hk)))))))))))))
noncomputable def LK_X12_ringer : Nat → Nat → en_B
  | 0, _ => en_no
  | n + 1, t => en_no
theorem l_X12_ringer (G : en_G) (hst : G.2.2.2.2.2 = true) : ∀ n t, en_Snd G M_X12_ringer t (LK_X12_ringer n t)
  | 0, _ => sn_no
  | n + 1, t => by
    show en_Snd G M_X12_ringer t (en_no)
    exact sn_no
noncomputable def T_X12_ringer_0 (x1 : Int32) (x2 : Int32) (σ : en_M) : en_R := B_X12_ringer_0 (LK_X12_ringer en_FU) [.inr (185, 12, 0, 0), .inl x1, .inl x2] [] en_zz σ
set_option maxRecDepth 400000 in
set_option maxHeartbeats 4000000 in
theorem t_X12_ringer_0 (x1 : Int32) (x2 : Int32) (σ : en_M) : T_X12_ringer_0 x1 x2 σ = ((O_X12_isOne [.inr (185, 12, 0, 0), .inl x1] (en_up σ 185 11 (0 : Int32))).bind fun r1 => if r1.1 = 0 then ((O_X12_lost [.inr (185, 12, 0, 0)] r1.2).bind fun r2 => en_ri r2.1 r2.2) else ((O_X12_in [.inl x2, .inl (0 : Int32), .inl (6 : Int32)] r1.2).bind fun r3 => if r3.1 = 0 then ((O_X12_lost [.inr (185, 12, 0, 0)] r3.2).bind fun r11 => en_ri r11.1 r11.2) else ((if x2 = (0 : Int32) then ((en_ix x1 7).bind fun j4 => en_ri (r3.2 187 j4) r3.2) else (if x2 = (1 : Int32) then ((en_ix ((7 : Int32) + x1) 53).bind fun j5 => en_ri (r3.2 186 j5) r3.2) else (if x2 = (2 : Int32) then ((en_ix ((14 : Int32) + x1) 53).bind fun j6 => en_ri (r3.2 186 j6) r3.2) else (if x2 = (3 : Int32) then ((en_ix ((21 : Int32) + x1) 53).bind fun j7 => en_ri (r3.2 186 j7) r3.2) else (if x2 = (4 : Int32) then ((O_X12_placeOf [.inr (185, 12, 0, 0), .inr (186, 20, 53, 0), .inl x1] r3.2).bind fun r8 => en_ri r8.1 r8.2) else (if x2 = (5 : Int32) then ((en_ix (30 : Int32) 53).bind fun j9 => en_ri ((en_shr (r3.2 186 j9) x1) &&& (1 : Int32)) r3.2) else ((O_X12_tires [.inr (185, 12, 0, 0), .inr (186, 20, 53, 0), .inl x1, .inl (0 : Int32)] r3.2).bind fun r10 => en_ri r10.1 r10.2)))))))))) := rfl
noncomputable def P_X12_ringer : List en_V → en_M → Option (Int32 × en_M) := fun av σ => match av with
  | [.inr (185, 12, 0, 0), .inl x1, .inl x2] => en_oi (T_X12_ringer_0 x1 x2 σ)
  | _ => none
theorem ox_X12_ringer : ∃ f, f = P_X12_ringer := ⟨_, rfl⟩
noncomputable def O_X12_ringer : List en_V → en_M → Option (Int32 × en_M) := Classical.choose ox_X12_ringer
theorem oe_X12_ringer : O_X12_ringer = P_X12_ringer := Classical.choose_spec ox_X12_ringer
theorem o_X12_ringer (x1 : Int32) (x2 : Int32) (σ : en_M) : O_X12_ringer [.inr (185, 12, 0, 0), .inl x1, .inl x2] σ = en_oi (T_X12_ringer_0 x1 x2 σ) := by rw [oe_X12_ringer]; rfl
theorem i_X12_ringer (G : en_G) (hst : G.2.2.2.2.2 = true) : en_I G 256 yX12_ringer cX12_ringer 3 (some .int) 0 0 (en_wi (O_X12_ringer)) := en_of_i (M := M_X12_ringer) hst (s_X12_ringer_0 G hst _ (l_X12_ringer G hst en_FU)) (plainFor_of_name (by decide +kernel)) rfl rfl rfl (Or.inl ⟨rfl, rfl⟩) (fun av σ x σ' h => by
  rw [oe_X12_ringer] at h; unfold P_X12_ringer at h
  split at h
  · exact ⟨(Nat.le_of_ble_eq_true rfl), en_oi_some h⟩
  · cases h)
-- EachMayMissOneModel.bell(I)I
def M_X12_bell : en_Me := (cX12_bell, RX12, 2, false, 3, false)
theorem cs_X12_bell : en_cs yX12_bell cX12_bell 2 (some .int) 1 := ⟨wm_492, wm_337, ⟨(by decide +kernel), (by decide +kernel), (by decide +kernel)⟩, (Nat.le_of_ble_eq_true rfl)⟩
noncomputable def B_X12_bell_26 (kc : Nat → en_B) : en_B := op_iret
set_option maxRecDepth 20000 in
theorem s_X12_bell_26 (G : en_G) (hst : G.2.2.2.2.2 = true) (kc : Nat → en_B) (hk : ∀ t, en_Snd G M_X12_bell t (kc t)) : en_Snd G M_X12_bell 26 (B_X12_bell_26 kc) := (sn_iret (by decide +kernel) rfl)
noncomputable def B_X12_bell_22 (kc : Nat → en_B) : en_B := (op_aload 0 (op_rcv 12 0 (op_calli O_X12_lost 1 (B_X12_bell_26 kc))))
set_option maxRecDepth 20000 in
theorem s_X12_bell_22 (G : en_G) (hst : G.2.2.2.2.2 = true) (kc : Nat → en_B) (hk : ∀ t, en_Snd G M_X12_bell t (kc t)) : en_Snd G M_X12_bell 22 (B_X12_bell_22 kc) := (sn_aload_n (i := 0) (n := 0) (by decide +kernel) rfl (sn_callVi (n := 0) (idx := 202) (ci := 12) (i_X12_lost G hst) (Nat.le_of_ble_eq_true rfl) cs_X12_lost ⟨wm_374, wm_375, wm_490⟩ ⟨⟨_, rfl, rfl⟩, (Nat.le_of_ble_eq_true rfl)⟩ (by decide +kernel) (s_X12_bell_26 G hst kc hk)))
noncomputable def B_X12_bell_0 (kc : Nat → en_B) : en_B := (op_aload 0 (op_const (0 : Int32) (op_puti 12 11 (op_aload 0 (op_iload 1 (op_rcv 12 1 (op_calli O_X12_isOne 2 (op_ifeq (B_X12_bell_22 kc) (op_aload 0 (op_gets 12 1 (20, 53, 0) (op_iload 1 (op_ald 20 (B_X12_bell_26 kc)))))))))))))
set_option maxRecDepth 20000 in
theorem s_X12_bell_0 (G : en_G) (hst : G.2.2.2.2.2 = true) (kc : Nat → en_B) (hk : ∀ t, en_Snd G M_X12_bell t (kc t)) : en_Snd G M_X12_bell 0 (B_X12_bell_0 kc) := (sn_aload_n (i := 0) (n := 0) (by decide +kernel) rfl (sn_iconst (n := 0) (v := 0) (by decide +kernel) rfl (sn_puti (ci := 12) (j := 11) en_c12 (by decide +kernel) wm_368 (Nat.le_of_ble_eq_true rfl) rfl rfl rfl (sn_aload_n (i := 0) (n := 0) (by decide +kernel) rfl (sn_iload_n (i := 1) (n := 1) (by decide +kernel) rfl (sn_callVi (n := 1) (idx := 104) (ci := 12) (i_X12_isOne G hst) (Nat.le_of_ble_eq_true rfl) cs_X12_isOne ⟨wm_381, wm_382, wm_388⟩ ⟨⟨_, rfl, rfl⟩, (Nat.le_of_ble_eq_true rfl)⟩ (by decide +kernel) (sn_ifeq (off := 12) (tgt := 22) (by decide +kernel) rfl (s_X12_bell_22 G hst kc hk) (sn_aload_n (i := 0) (n := 0) (by decide +kernel) rfl (sn_gets (ci := 12) (j := 0) (off := 1) hst en_c12 of_12_1 (Nat.le_of_ble_eq_true rfl) (by decide +kernel) wm_339 (Nat.le_of_ble_eq_true rfl) rfl (sn_iload_n (i := 1) (n := 1) (by decide +kernel) rfl (sn_iald (by decide +kernel) (sn_goto (off := 7) (tgt := 26) (by decide +kernel) rfl (s_X12_bell_26 G hst kc hk)))))))))))))
noncomputable def LK_X12_bell : Nat → Nat → en_B
  | 0, _ => en_no
  | n + 1, t => en_no
theorem l_X12_bell (G : en_G) (hst : G.2.2.2.2.2 = true) : ∀ n t, en_Snd G M_X12_bell t (LK_X12_bell n t)
  | 0, _ => sn_no
  | n + 1, t => by
    show en_Snd G M_X12_bell t (en_no)
    exact sn_no
noncomputable def T_X12_bell_0 (x1 : Int32) (σ : en_M) : en_R := B_X12_bell_0 (LK_X12_bell en_FU) [.inr (185, 12, 0, 0), .inl x1] [] en_zz σ
set_option maxRecDepth 400000 in
set_option maxHeartbeats 4000000 in
theorem t_X12_bell_0 (x1 : Int32) (σ : en_M) : T_X12_bell_0 x1 σ = ((O_X12_isOne [.inr (185, 12, 0, 0), .inl x1] (en_up σ 185 11 (0 : Int32))).bind fun r1 => if r1.1 = 0 then ((O_X12_lost [.inr (185, 12, 0, 0)] r1.2).bind fun r2 => en_ri r2.1 r2.2) else ((en_ix x1 53).bind fun j3 => en_ri (r1.2 186 j3) r1.2)) := rfl
noncomputable def P_X12_bell : List en_V → en_M → Option (Int32 × en_M) := fun av σ => match av with
  | [.inr (185, 12, 0, 0), .inl x1] => en_oi (T_X12_bell_0 x1 σ)
  | _ => none
theorem ox_X12_bell : ∃ f, f = P_X12_bell := ⟨_, rfl⟩
noncomputable def O_X12_bell : List en_V → en_M → Option (Int32 × en_M) := Classical.choose ox_X12_bell
theorem oe_X12_bell : O_X12_bell = P_X12_bell := Classical.choose_spec ox_X12_bell
theorem o_X12_bell (x1 : Int32) (σ : en_M) : O_X12_bell [.inr (185, 12, 0, 0), .inl x1] σ = en_oi (T_X12_bell_0 x1 σ) := by rw [oe_X12_bell]; rfl
theorem i_X12_bell (G : en_G) (hst : G.2.2.2.2.2 = true) : en_I G 3 yX12_bell cX12_bell 2 (some .int) 0 0 (en_wi (O_X12_bell)) := en_of_i (M := M_X12_bell) hst (s_X12_bell_0 G hst _ (l_X12_bell G hst en_FU)) (plainFor_of_name (by decide +kernel)) rfl rfl rfl (Or.inl ⟨rfl, rfl⟩) (fun av σ x σ' h => by
  rw [oe_X12_bell] at h; unfold P_X12_bell at h
  split at h
  · exact ⟨(Nat.le_of_ble_eq_true rfl), en_oi_some h⟩
  · cases h)
-- EachMayMissOneModel.set(II)I
def M_X12_set : en_Me := (cX12_set, RX12, 4, false, 2, false)
theorem cs_X12_set : en_cs yX12_set cX12_set 4 (some .int) 2 := ⟨wm_495, wm_337, ⟨(by decide +kernel), (by decide +kernel), (by decide +kernel)⟩, (Nat.le_of_ble_eq_true rfl)⟩
noncomputable def B_X12_set_67 (kc : Nat → en_B) : en_B := (op_iload 3 op_iret)
set_option maxRecDepth 20000 in
theorem s_X12_set_67 (G : en_G) (hst : G.2.2.2.2.2 = true) (kc : Nat → en_B) (hk : ∀ t, en_Snd G M_X12_set t (kc t)) : en_Snd G M_X12_set 67 (B_X12_set_67 kc) := (sn_iload_n (i := 3) (n := 3) (by decide +kernel) rfl (sn_iret (by decide +kernel) rfl))
noncomputable def B_X12_set_62 (kc : Nat → en_B) : en_B := (op_aload 0 (op_iload 2 (op_puti 12 6 (B_X12_set_67 kc))))
set_option maxRecDepth 20000 in
theorem s_X12_set_62 (G : en_G) (hst : G.2.2.2.2.2 = true) (kc : Nat → en_B) (hk : ∀ t, en_Snd G M_X12_set t (kc t)) : en_Snd G M_X12_set 62 (B_X12_set_62 kc) := (sn_aload_n (i := 0) (n := 0) (by decide +kernel) rfl (sn_iload_n (i := 2) (n := 2) (by decide +kernel) rfl (sn_puti (ci := 12) (j := 6) en_c12 (by decide +kernel) wm_344 (Nat.le_of_ble_eq_true rfl) rfl rfl rfl (s_X12_set_67 G hst kc hk))))
noncomputable def B_X12_set_49 (kc : Nat → en_B) : en_B := (op_istore 3 (op_iload 1 (op_ifeq (op_aload 0 (op_iload 2 (op_puti 12 5 (B_X12_set_67 kc)))) (B_X12_set_62 kc))))
set_option maxRecDepth 20000 in
theorem s_X12_set_49 (G : en_G) (hst : G.2.2.2.2.2 = true) (kc : Nat → en_B) (hk : ∀ t, en_Snd G M_X12_set t (kc t)) : en_Snd G M_X12_set 49 (B_X12_set_49 kc) := (sn_istore_n (i := 3) (n := 3) (by decide +kernel) rfl (Nat.le_of_ble_eq_true rfl) (sn_iload_n (i := 1) (n := 1) (by decide +kernel) rfl (sn_ifne (off := 11) (tgt := 62) (by decide +kernel) rfl (s_X12_set_62 G hst kc hk) (sn_aload_n (i := 0) (n := 0) (by decide +kernel) rfl (sn_iload_n (i := 2) (n := 2) (by decide +kernel) rfl (sn_puti (ci := 12) (j := 5) en_c12 (by decide +kernel) wm_343 (Nat.le_of_ble_eq_true rfl) rfl rfl rfl (sn_goto (off := 8) (tgt := 67) (by decide +kernel) rfl (s_X12_set_67 G hst kc hk))))))))
noncomputable def B_X12_set_45 (kc : Nat → en_B) : en_B := (op_aload 0 (op_geti 12 6 (B_X12_set_49 kc)))
set_option maxRecDepth 20000 in
theorem s_X12_set_45 (G : en_G) (hst : G.2.2.2.2.2 = true) (kc : Nat → en_B) (hk : ∀ t, en_Snd G M_X12_set t (kc t)) : en_Snd G M_X12_set 45 (B_X12_set_45 kc) := (sn_aload_n (i := 0) (n := 0) (by decide +kernel) rfl (sn_geti (ci := 12) (j := 6) en_c12 (by decide +kernel) wm_344 (Nat.le_of_ble_eq_true rfl) rfl (s_X12_set_49 G hst kc hk)))
noncomputable def B_X12_set_34 (kc : Nat → en_B) : en_B := (op_iload 1 (op_ifeq (op_aload 0 (op_geti 12 5 (B_X12_set_49 kc))) (B_X12_set_45 kc)))
set_option maxRecDepth 20000 in
theorem s_X12_set_34 (G : en_G) (hst : G.2.2.2.2.2 = true) (kc : Nat → en_B) (hk : ∀ t, en_Snd G M_X12_set t (kc t)) : en_Snd G M_X12_set 34 (B_X12_set_34 kc) := (sn_iload_n (i := 1) (n := 1) (by decide +kernel) rfl (sn_ifne (off := 10) (tgt := 45) (by decide +kernel) rfl (s_X12_set_45 G hst kc hk) (sn_aload_n (i := 0) (n := 0) (by decide +kernel) rfl (sn_geti (ci := 12) (j := 5) en_c12 (by decide +kernel) wm_343 (Nat.le_of_ble_eq_true rfl) rfl (sn_goto (off := 7) (tgt := 49) (by decide +kernel) rfl (s_X12_set_49 G hst kc hk))))))
noncomputable def B_X12_set_32 (kc : Nat → en_B) : en_B := (op_const (-1 : Int32) op_iret)
set_option maxRecDepth 20000 in
theorem s_X12_set_32 (G : en_G) (hst : G.2.2.2.2.2 = true) (kc : Nat → en_B) (hk : ∀ t, en_Snd G M_X12_set t (kc t)) : en_Snd G M_X12_set 32 (B_X12_set_32 kc) := (sn_iconst (n := -1) (v := -1) (by decide +kernel) rfl (sn_iret (by decide +kernel) rfl))
noncomputable def B_X12_set_26 (kc : Nat → en_B) : en_B := (op_calli O_X12_in 3 (op_ifeq (B_X12_set_32 kc) (B_X12_set_34 kc)))
set_option maxRecDepth 20000 in
theorem s_X12_set_26 (G : en_G) (hst : G.2.2.2.2.2 = true) (kc : Nat → en_B) (hk : ∀ t, en_Snd G M_X12_set t (kc t)) : en_Snd G M_X12_set 26 (B_X12_set_26 kc) := (sn_callSi (n := 3) (idx := 100) (i_X12_in G hst) (Nat.le_of_ble_eq_true rfl) cs_X12_in ⟨wm_370, Or.inl wm_384⟩ (by decide +kernel) (sn_ifne (off := 5) (tgt := 34) (by decide +kernel) rfl (s_X12_set_34 G hst kc hk) (s_X12_set_32 G hst kc hk)))
noncomputable def B_X12_set_24 (kc : Nat → en_B) : en_B := (op_const (99 : Int32) (B_X12_set_26 kc))
set_option maxRecDepth 20000 in
theorem s_X12_set_24 (G : en_G) (hst : G.2.2.2.2.2 = true) (kc : Nat → en_B) (hk : ∀ t, en_Snd G M_X12_set t (kc t)) : en_Snd G M_X12_set 24 (B_X12_set_24 kc) := (sn_bipush (n := 99) (v := 99) (by decide +kernel) rfl (s_X12_set_26 G hst kc hk))
noncomputable def B_X12_set_0 (kc : Nat → en_B) : en_B := (op_aload 0 (op_const (0 : Int32) (op_puti 12 11 (op_iload 1 (op_const (0 : Int32) (op_const (1 : Int32) (op_calli O_X12_in 3 (op_ifeq (B_X12_set_32 kc) (op_iload 2 (op_const (1 : Int32) (op_iload 1 (op_ifeq (op_const (3 : Int32) (B_X12_set_26 kc)) (B_X12_set_24 kc)))))))))))))
set_option maxRecDepth 20000 in
theorem s_X12_set_0 (G : en_G) (hst : G.2.2.2.2.2 = true) (kc : Nat → en_B) (hk : ∀ t, en_Snd G M_X12_set t (kc t)) : en_Snd G M_X12_set 0 (B_X12_set_0 kc) := (sn_aload_n (i := 0) (n := 0) (by decide +kernel) rfl (sn_iconst (n := 0) (v := 0) (by decide +kernel) rfl (sn_puti (ci := 12) (j := 11) en_c12 (by decide +kernel) wm_368 (Nat.le_of_ble_eq_true rfl) rfl rfl rfl (sn_iload_n (i := 1) (n := 1) (by decide +kernel) rfl (sn_iconst (n := 0) (v := 0) (by decide +kernel) rfl (sn_iconst (n := 1) (v := 1) (by decide +kernel) rfl (sn_callSi (n := 3) (idx := 100) (i_X12_in G hst) (Nat.le_of_ble_eq_true rfl) cs_X12_in ⟨wm_370, Or.inl wm_384⟩ (by decide +kernel) (sn_ifeq (off := 21) (tgt := 32) (by decide +kernel) rfl (s_X12_set_32 G hst kc hk) (sn_iload_n (i := 2) (n := 2) (by decide +kernel) rfl (sn_iconst (n := 1) (v := 1) (by decide +kernel) rfl (sn_iload_n (i := 1) (n := 1) (by decide +kernel) rfl (sn_ifne (off := 7) (tgt := 24) (by decide +kernel) rfl (s_X12_set_24 G hst kc hk) (sn_iconst (n := 3) (v := 3) (by decide +kernel) rfl (sn_goto (off := 5) (tgt := 26) (by decide +kernel) rfl (s_X12_set_26 G hst kc hk)))))))))))))))
noncomputable def LK_X12_set : Nat → Nat → en_B
  | 0, _ => en_no
  | n + 1, t => en_no
theorem l_X12_set (G : en_G) (hst : G.2.2.2.2.2 = true) : ∀ n t, en_Snd G M_X12_set t (LK_X12_set n t)
  | 0, _ => sn_no
  | n + 1, t => by
    show en_Snd G M_X12_set t (en_no)
    exact sn_no
noncomputable def T_X12_set_0 (x1 : Int32) (x2 : Int32) (σ : en_M) : en_R := B_X12_set_0 (LK_X12_set en_FU) [.inr (185, 12, 0, 0), .inl x1, .inl x2, en_un] [] en_zz σ
set_option maxRecDepth 400000 in
set_option maxHeartbeats 4000000 in
theorem t_X12_set_0 (x1 : Int32) (x2 : Int32) (σ : en_M) : T_X12_set_0 x1 x2 σ = ((O_X12_in [.inl x1, .inl (0 : Int32), .inl (1 : Int32)] (en_up σ 185 11 (0 : Int32))).bind fun r1 => if r1.1 = 0 then (en_ri (-1 : Int32) r1.2) else (if x1 = 0 then ((O_X12_in [.inl x2, .inl (1 : Int32), .inl (3 : Int32)] r1.2).bind fun r3 => if r3.1 = 0 then (en_ri (-1 : Int32) r3.2) else (if x1 = 0 then (if x1 = 0 then (en_ri (r3.2 185 5) (en_up r3.2 185 5 x2)) else (en_ri (r3.2 185 5) (en_up r3.2 185 6 x2))) else (if x1 = 0 then (en_ri (r3.2 185 6) (en_up r3.2 185 5 x2)) else (en_ri (r3.2 185 6) (en_up r3.2 185 6 x2))))) else ((O_X12_in [.inl x2, .inl (1 : Int32), .inl (99 : Int32)] r1.2).bind fun r2 => if r2.1 = 0 then (en_ri (-1 : Int32) r2.2) else (if x1 = 0 then (if x1 = 0 then (en_ri (r2.2 185 5) (en_up r2.2 185 5 x2)) else (en_ri (r2.2 185 5) (en_up r2.2 185 6 x2))) else (if x1 = 0 then (en_ri (r2.2 185 6) (en_up r2.2 185 5 x2)) else (en_ri (r2.2 185 6) (en_up r2.2 185 6 x2))))))) := rfl
noncomputable def P_X12_set : List en_V → en_M → Option (Int32 × en_M) := fun av σ => match av with
  | [.inr (185, 12, 0, 0), .inl x1, .inl x2] => en_oi (T_X12_set_0 x1 x2 σ)
  | _ => none
theorem ox_X12_set : ∃ f, f = P_X12_set := ⟨_, rfl⟩
noncomputable def O_X12_set : List en_V → en_M → Option (Int32 × en_M) := Classical.choose ox_X12_set
theorem oe_X12_set : O_X12_set = P_X12_set := Classical.choose_spec ox_X12_set
theorem o_X12_set (x1 : Int32) (x2 : Int32) (σ : en_M) : O_X12_set [.inr (185, 12, 0, 0), .inl x1, .inl x2] σ = en_oi (T_X12_set_0 x1 x2 σ) := by rw [oe_X12_set]; rfl
theorem i_X12_set (G : en_G) (hst : G.2.2.2.2.2 = true) : en_I G 2 yX12_set cX12_set 4 (some .int) 0 0 (en_wi (O_X12_set)) := en_of_i (M := M_X12_set) hst (s_X12_set_0 G hst _ (l_X12_set G hst en_FU)) (plainFor_of_name (by decide +kernel)) rfl rfl rfl (Or.inl ⟨rfl, rfl⟩) (fun av σ x σ' h => by
  rw [oe_X12_set] at h; unfold P_X12_set at h
  split at h
  · exact ⟨(Nat.le_of_ble_eq_true rfl), en_oi_some h⟩
  · cases h)
