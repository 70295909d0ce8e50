-- EachMayMissOneModel.matches(II)I
def M_X12_matches : en_Me := (cX12_matches, RX12, 4, false, 508, false)
theorem cs_X12_matches : en_cs yX12_matches cX12_matches 4 (some .int) 2 := ⟨wm_619, wm_337, ⟨(by decide +kernel), (by decide +kernel), (by decide +kernel)⟩, (Nat.le_of_ble_eq_true rfl)⟩
noncomputable def B_X12_matches_96 (kc : Nat → en_B) : en_B := (op_aload 0 (op_geti 12 36 op_iret))
set_option maxRecDepth 20000 in
theorem s_X12_matches_96 (G : en_G) (hst : G.2.2.2.2.2 = true) (kc : Nat → en_B) (hk : ∀ t, en_Snd G M_X12_matches t (kc t)) : en_Snd G M_X12_matches 96 (B_X12_matches_96 kc) := (sn_aload_n (i := 0) (n := 0) (by decide +kernel) rfl (sn_geti (ci := 12) (j := 36) en_c12 (by decide +kernel) wm_617 (Nat.le_of_ble_eq_true rfl) rfl (sn_iret (by decide +kernel) rfl)))
noncomputable def B_X12_matches_72 (kc : Nat → en_B) : en_B := (op_iload 3 (op_aload 0 (op_geti 12 1 (op_iclt (op_aload 0 (op_aload 0 (op_gets 12 16 (20, 7, 0) (op_iload 3 (op_ald 20 (op_rcv 12 1 (op_callv O_X12_tell 2 (op_iinc 3 (1 : Int32) (kc 72))))))))) (B_X12_matches_96 kc)))))
set_option maxRecDepth 20000 in
theorem s_X12_matches_72 (G : en_G) (hst : G.2.2.2.2.2 = true) (kc : Nat → en_B) (hk : ∀ t, en_Snd G M_X12_matches t (kc t)) : en_Snd G M_X12_matches 72 (B_X12_matches_72 kc) := (sn_iload_n (i := 3) (n := 3) (by decide +kernel) rfl (sn_aload_n (i := 0) (n := 0) (by decide +kernel) rfl (sn_geti (ci := 12) (j := 1) en_c12 (by decide +kernel) wm_383 (Nat.le_of_ble_eq_true rfl) rfl (sn_icge (off := 19) (tgt := 96) (by decide +kernel) rfl (s_X12_matches_96 G hst kc hk) (sn_aload_n (i := 0) (n := 0) (by decide +kernel) rfl (sn_aload_n (i := 0) (n := 0) (by decide +kernel) rfl (sn_gets (ci := 12) (j := 35) (off := 16) hst en_c12 of_12_16 (Nat.le_of_ble_eq_true rfl) (by decide +kernel) wm_357 (Nat.le_of_ble_eq_true rfl) rfl (sn_iload_n (i := 3) (n := 3) (by decide +kernel) rfl (sn_iald (by decide +kernel) (sn_callVv (n := 1) (idx := 251) (ci := 12) (i_X12_tell G hst) (Nat.le_of_ble_eq_true rfl) cs_X12_tell ⟨wm_377, wm_378, wm_536⟩ ⟨⟨_, rfl, rfl⟩, (Nat.le_of_ble_eq_true rfl)⟩ (by decide +kernel) (sn_iinc (i := 3) (n := 1) (v := 1) (by decide +kernel) rfl (sn_goto (off := -21) (tgt := 72) (by decide +kernel) rfl (hk 72)))))))))))))
noncomputable def B_X12_matches_46 (kc : Nat → en_B) : en_B := (op_aload 0 (op_const (-1 : Int32) (op_puti 12 36 (op_aload 0 (op_const (0 : Int32) (op_iload 1 (op_iload 1 (op_calli O_J6_bitCount_0f7a4 1 (op_const (2 : Int32) (op_div (fun (x y : Int32) => x - x / y * y) (op_const (0 : Int32) (op_iload 2 (op_rcv 12 5 (op_callv O_X12_goMatches 6 (op_aload 0 (op_const (0 : Int32) (op_puti 12 10 (op_const (0 : Int32) (op_istore 3 (kc 72))))))))))))))))))))
set_option maxRecDepth 20000 in
theorem s_X12_matches_46 (G : en_G) (hst : G.2.2.2.2.2 = true) (kc : Nat → en_B) (hk : ∀ t, en_Snd G M_X12_matches t (kc t)) : en_Snd G M_X12_matches 46 (B_X12_matches_46 kc) := (sn_aload_n (i := 0) (n := 0) (by decide +kernel) rfl (sn_iconst (n := -1) (v := -1) (by decide +kernel) rfl (sn_puti (ci := 12) (j := 36) en_c12 (by decide +kernel) wm_617 (Nat.le_of_ble_eq_true rfl) rfl rfl rfl (sn_aload_n (i := 0) (n := 0) (by decide +kernel) rfl (sn_iconst (n := 0) (v := 0) (by decide +kernel) rfl (sn_iload_n (i := 1) (n := 1) (by decide +kernel) rfl (sn_iload_n (i := 1) (n := 1) (by decide +kernel) rfl (sn_callSi (n := 1) (idx := 213) (i_J6_bitCount_0f7a4 G hst) (Nat.le_of_ble_eq_true rfl) cs_J6_bitCount_0f7a4 ⟨wm_511, Or.inl wm_513⟩ (by decide +kernel) (sn_iconst (n := 2) (v := 2) (by decide +kernel) rfl (sn_irem (by decide +kernel) (sn_iconst (n := 0) (v := 0) (by decide +kernel) rfl (sn_iload_n (i := 2) (n := 2) (by decide +kernel) rfl (sn_callVv (n := 5) (idx := 294) (ci := 12) (i_X12_goMatches G hst) (Nat.le_of_ble_eq_true rfl) cs_X12_goMatches ⟨wm_615, wm_616, wm_618⟩ ⟨⟨_, rfl, rfl⟩, (Nat.le_of_ble_eq_true rfl)⟩ (by decide +kernel) (sn_aload_n (i := 0) (n := 0) (by decide +kernel) rfl (sn_iconst (n := 0) (v := 0) (by decide +kernel) rfl (sn_puti (ci := 12) (j := 10) en_c12 (by decide +kernel) wm_379 (Nat.le_of_ble_eq_true rfl) rfl rfl rfl (sn_iconst (n := 0) (v := 0) (by decide +kernel) rfl (sn_istore_n (i := 3) (n := 3) (by decide +kernel) rfl (Nat.le_of_ble_eq_true rfl) (hk 72)))))))))))))))))))
noncomputable def B_X12_matches_27 (kc : Nat → en_B) : en_B := (op_iload 3 (op_const (7 : Int32) (op_iclt (op_aload 0 (op_gets 12 15 (20, 7, 0) (op_iload 3 (op_const (-1 : Int32) (op_ast 20 (fun (x : Int32) => x) (op_iinc 3 (1 : Int32) (kc 27))))))) (B_X12_matches_46 kc))))
set_option maxRecDepth 20000 in
theorem s_X12_matches_27 (G : en_G) (hst : G.2.2.2.2.2 = true) (kc : Nat → en_B) (hk : ∀ t, en_Snd G M_X12_matches t (kc t)) : en_Snd G M_X12_matches 27 (B_X12_matches_27 kc) := (sn_iload_n (i := 3) (n := 3) (by decide +kernel) rfl (sn_bipush (n := 7) (v := 7) (by decide +kernel) rfl (sn_icge (off := 16) (tgt := 46) (by decide +kernel) rfl (s_X12_matches_46 G hst kc hk) (sn_aload_n (i := 0) (n := 0) (by decide +kernel) rfl (sn_gets (ci := 12) (j := 34) (off := 15) hst en_c12 of_12_15 (Nat.le_of_ble_eq_true rfl) (by decide +kernel) wm_356 (Nat.le_of_ble_eq_true rfl) rfl (sn_iload_n (i := 3) (n := 3) (by decide +kernel) rfl (sn_iconst (n := -1) (v := -1) (by decide +kernel) rfl (sn_iast (by decide +kernel) (sn_iinc (i := 3) (n := 1) (v := 1) (by decide +kernel) rfl (sn_goto (off := -16) (tgt := 27) (by decide +kernel) rfl (hk 27)))))))))))
noncomputable def B_X12_matches_25 (kc : Nat → en_B) : en_B := (op_const (0 : Int32) (op_istore 3 (kc 27)))
set_option maxRecDepth 20000 in
theorem s_X12_matches_25 (G : en_G) (hst : G.2.2.2.2.2 = true) (kc : Nat → en_B) (hk : ∀ t, en_Snd G M_X12_matches t (kc t)) : en_Snd G M_X12_matches 25 (B_X12_matches_25 kc) := (sn_iconst (n := 0) (v := 0) (by decide +kernel) rfl (sn_istore_n (i := 3) (n := 3) (by decide +kernel) rfl (Nat.le_of_ble_eq_true rfl) (hk 27)))
noncomputable def B_X12_matches_23 (kc : Nat → en_B) : en_B := (op_const (-1 : Int32) op_iret)
set_option maxRecDepth 20000 in
theorem s_X12_matches_23 (G : en_G) (hst : G.2.2.2.2.2 = true) (kc : Nat → en_B) (hk : ∀ t, en_Snd G M_X12_matches t (kc t)) : en_Snd G M_X12_matches 23 (B_X12_matches_23 kc) := (sn_iconst (n := -1) (v := -1) (by decide +kernel) rfl (sn_iret (by decide +kernel) rfl))
noncomputable def B_X12_matches_0 (kc : Nat → en_B) : en_B := (op_aload 0 (op_const (0 : Int32) (op_puti 12 11 (op_aload 0 (op_iload 1 (op_rcv 12 1 (op_calli O_X12_areThose 2 (op_ifeq (B_X12_matches_23 kc) (op_iload 2 (op_const (1 : Int32) (op_const (60 : Int32) (op_calli O_X12_in 3 (op_ifeq (B_X12_matches_23 kc) (B_X12_matches_25 kc))))))))))))))
set_option maxRecDepth 20000 in
theorem s_X12_matches_0 (G : en_G) (hst : G.2.2.2.2.2 = true) (kc : Nat → en_B) (hk : ∀ t, en_Snd G M_X12_matches t (kc t)) : en_Snd G M_X12_matches 0 (B_X12_matches_0 kc) := (sn_aload_n (i := 0) (n := 0) (by decide +kernel) rfl (sn_iconst (n := 0) (v := 0) (by decide +kernel) rfl (sn_puti (ci := 12) (j := 11) en_c12 (by decide +kernel) wm_368 (Nat.le_of_ble_eq_true rfl) rfl rfl rfl (sn_aload_n (i := 0) (n := 0) (by decide +kernel) rfl (sn_iload_n (i := 1) (n := 1) (by decide +kernel) rfl (sn_callVi (n := 1) (idx := 241) (ci := 12) (i_X12_areThose G hst) (Nat.le_of_ble_eq_true rfl) cs_X12_areThose ⟨wm_393, wm_394, wm_533⟩ ⟨⟨_, rfl, rfl⟩, (Nat.le_of_ble_eq_true rfl)⟩ (by decide +kernel) (sn_ifeq (off := 13) (tgt := 23) (by decide +kernel) rfl (s_X12_matches_23 G hst kc hk) (sn_iload_n (i := 2) (n := 2) (by decide +kernel) rfl (sn_iconst (n := 1) (v := 1) (by decide +kernel) rfl (sn_bipush (n := 60) (v := 60) (by decide +kernel) rfl (sn_callSi (n := 3) (idx := 100) (i_X12_in G hst) (Nat.le_of_ble_eq_true rfl) cs_X12_in ⟨wm_370, Or.inl wm_384⟩ (by decide +kernel) (sn_ifne (off := 5) (tgt := 25) (by decide +kernel) rfl (s_X12_matches_25 G hst kc hk) (s_X12_matches_23 G hst kc hk)))))))))))))
noncomputable def LK_X12_matches : Nat → Nat → en_B
  | 0, _ => en_no
  | n + 1, t => if t = 27 then B_X12_matches_27 (LK_X12_matches n) else if t = 72 then B_X12_matches_72 (LK_X12_matches n) else en_no
theorem l_X12_matches (G : en_G) (hst : G.2.2.2.2.2 = true) : ∀ n t, en_Snd G M_X12_matches t (LK_X12_matches n t)
  | 0, _ => sn_no
  | n + 1, t => by
    show en_Snd G M_X12_matches t (if t = 27 then B_X12_matches_27 (LK_X12_matches n) else if t = 72 then B_X12_matches_72 (LK_X12_matches n) else en_no)
    by_cases h_27 : t = 27
    · rw [if_pos h_27, h_27]; exact s_X12_matches_27 G hst _ (l_X12_matches G hst n)
    rw [if_neg h_27]
    by_cases h_72 : t = 72
    · rw [if_pos h_72, h_72]; exact s_X12_matches_72 G hst _ (l_X12_matches G hst n)
    rw [if_neg h_72]
    exact sn_no
noncomputable def T_X12_matches_0 (x1 : Int32) (x2 : Int32) (σ : en_M) : en_R := B_X12_matches_0 (LK_X12_matches en_FU) [.inr (185, 12, 0, 0), .inl x1, .inl x2, en_un] [] en_zz σ
noncomputable def T_X12_matches_27 (n : Nat) (x1 : Int32) (x2 : Int32) (x3 : Int32) (σ : en_M) : en_R := LK_X12_matches n 27 [.inr (185, 12, 0, 0), .inl x1, .inl x2, .inl x3] [] en_zz σ
noncomputable def T_X12_matches_72 (n : Nat) (x1 : Int32) (x2 : Int32) (x3 : Int32) (σ : en_M) : en_R := LK_X12_matches n 72 [.inr (185, 12, 0, 0), .inl x1, .inl x2, .inl x3] [] en_zz σ
set_option maxRecDepth 400000 in
set_option maxHeartbeats 4000000 in
theorem t_X12_matches_0 (x1 : Int32) (x2 : Int32) (σ : en_M) : T_X12_matches_0 x1 x2 σ = ((O_X12_areThose [.inr (185, 12, 0, 0), .inl x1] (en_up σ 185 11 (0 : Int32))).bind fun r1 => if r1.1 = 0 then (en_ri (-1 : Int32) r1.2) else ((O_X12_in [.inl x2, .inl (1 : Int32), .inl (60 : Int32)] r1.2).bind fun r2 => if r2.1 = 0 then (en_ri (-1 : Int32) r2.2) else (T_X12_matches_27 en_FU x1 x2 (0 : Int32) r2.2))) := rfl
set_option maxRecDepth 400000 in
set_option maxHeartbeats 4000000 in
theorem t_X12_matches_27 (n : Nat) (x1 : Int32) (x2 : Int32) (x3 : Int32) (σ : en_M) : T_X12_matches_27 (n + 1) x1 x2 x3 σ = (if x3 < (7 : Int32) then ((en_ix x3 7).bind fun j5 => T_X12_matches_27 n x1 x2 (x3 + (1 : Int32)) (en_up σ 200 j5 (-1 : Int32))) else ((O_J6_bitCount_0f7a4 [.inl x1] (en_up σ 185 36 (-1 : Int32))).bind fun r3 => if (2 : Int32) = 0 then none else ((O_X12_goMatches [.inr (185, 12, 0, 0), .inl (0 : Int32), .inl x1, .inl (r3.1 - r3.1 / (2 : Int32) * (2 : Int32)), .inl (0 : Int32), .inl x2] r3.2).bind fun r4 => T_X12_matches_72 n x1 x2 (0 : Int32) (en_up r4 185 10 (0 : Int32))))) := rfl
set_option maxRecDepth 400000 in
set_option maxHeartbeats 4000000 in
theorem t_X12_matches_72 (n : Nat) (x1 : Int32) (x2 : Int32) (x3 : Int32) (σ : en_M) : T_X12_matches_72 (n + 1) x1 x2 x3 σ = (if x3 < (σ 185 1) then ((en_ix x3 7).bind fun j6 => (O_X12_tell [.inr (185, 12, 0, 0), .inl (σ 201 j6)] σ).bind fun r7 => T_X12_matches_72 n x1 x2 (x3 + (1 : Int32)) r7) else (en_ri (σ 185 36) σ)) := rfl
noncomputable def P_X12_matches : List en_V → en_M → Option (Int32 × en_M) := fun av σ => match av with
  | [.inr (185, 12, 0, 0), .inl x1, .inl x2] => en_oi (T_X12_matches_0 x1 x2 σ)
  | _ => none
theorem ox_X12_matches : ∃ f, f = P_X12_matches := ⟨_, rfl⟩
noncomputable def O_X12_matches : List en_V → en_M → Option (Int32 × en_M) := Classical.choose ox_X12_matches
theorem oe_X12_matches : O_X12_matches = P_X12_matches := Classical.choose_spec ox_X12_matches
theorem o_X12_matches (x1 : Int32) (x2 : Int32) (σ : en_M) : O_X12_matches [.inr (185, 12, 0, 0), .inl x1, .inl x2] σ = en_oi (T_X12_matches_0 x1 x2 σ) := by rw [oe_X12_matches]; rfl
theorem i_X12_matches (G : en_G) (hst : G.2.2.2.2.2 = true) : en_I G 508 yX12_matches cX12_matches 4 (some .int) 0 0 (en_wi (O_X12_matches)) := en_of_i (M := M_X12_matches) hst (s_X12_matches_0 G hst _ (l_X12_matches G hst en_FU)) (plainFor_of_name (by decide +kernel)) rfl rfl rfl (Or.inl ⟨rfl, rfl⟩) (fun av σ x σ' h => by
  rw [oe_X12_matches] at h; unfold P_X12_matches at h
  split at h
  · exact ⟨(Nat.le_of_ble_eq_true rfl), en_oi_some h⟩
  · cases h)
-- EachMayMissOneModel.placesIn(II)I
def M_X12_placesIn : en_Me := (cX12_placesIn, RX12, 5, false, 2, false)
theorem cs_X12_placesIn : en_cs yX12_placesIn cX12_placesIn 5 (some .int) 2 := ⟨wm_622, wm_337, ⟨(by decide +kernel), (by decide +kernel), (by decide +kernel)⟩, (Nat.le_of_ble_eq_true rfl)⟩
noncomputable def B_X12_placesIn_50 (kc : Nat → en_B) : en_B := (op_iload 3 op_iret)
set_option maxRecDepth 20000 in
theorem s_X12_placesIn_50 (G : en_G) (hst : G.2.2.2.2.2 = true) (kc : Nat → en_B) (hk : ∀ t, en_Snd G M_X12_placesIn t (kc t)) : en_Snd G M_X12_placesIn 50 (B_X12_placesIn_50 kc) := (sn_iload_n (i := 3) (n := 3) (by decide +kernel) rfl (sn_iret (by decide +kernel) rfl))
noncomputable def B_X12_placesIn_42 (kc : Nat → en_B) : en_B := (op_bin (fun (x y : Int32) => x ||| y) (op_istore 3 (op_iinc 4 (1 : Int32) (kc 5))))
set_option maxRecDepth 20000 in
theorem s_X12_placesIn_42 (G : en_G) (hst : G.2.2.2.2.2 = true) (kc : Nat → en_B) (hk : ∀ t, en_Snd G M_X12_placesIn t (kc t)) : en_Snd G M_X12_placesIn 42 (B_X12_placesIn_42 kc) := (sn_ior (by decide +kernel) (sn_istore_n (i := 3) (n := 3) (by decide +kernel) rfl (Nat.le_of_ble_eq_true rfl) (sn_iinc (i := 4) (n := 1) (v := 1) (by decide +kernel) rfl (sn_goto (off := -42) (tgt := 5) (by decide +kernel) rfl (hk 5)))))
noncomputable def B_X12_placesIn_41 (kc : Nat → en_B) : en_B := (op_const (0 : Int32) (B_X12_placesIn_42 kc))
set_option maxRecDepth 20000 in
theorem s_X12_placesIn_41 (G : en_G) (hst : G.2.2.2.2.2 = true) (kc : Nat → en_B) (hk : ∀ t, en_Snd G M_X12_placesIn t (kc t)) : en_Snd G M_X12_placesIn 41 (B_X12_placesIn_41 kc) := (sn_iconst (n := 0) (v := 0) (by decide +kernel) rfl (s_X12_placesIn_42 G hst kc hk))
noncomputable def B_X12_placesIn_5 (kc : Nat → en_B) : en_B := (op_iload 4 (op_aload 0 (op_geti 12 1 (op_iclt (op_iload 3 (op_iload 2 (op_aload 0 (op_gets 12 12 (20, 1484, 0) (op_const (7 : Int32) (op_iload 1 (op_bin (fun (x y : Int32) => x * y) (op_iload 4 (op_bin (fun (x y : Int32) => x + y) (op_ald 20 (op_calli O_X12_has 2 (op_ifeq (B_X12_placesIn_41 kc) (op_const (1 : Int32) (op_iload 4 (op_bin en_shl (B_X12_placesIn_42 kc)))))))))))))))) (B_X12_placesIn_50 kc)))))
set_option maxRecDepth 20000 in
theorem s_X12_placesIn_5 (G : en_G) (hst : G.2.2.2.2.2 = true) (kc : Nat → en_B) (hk : ∀ t, en_Snd G M_X12_placesIn t (kc t)) : en_Snd G M_X12_placesIn 5 (B_X12_placesIn_5 kc) := (sn_iload (i := 4) (by decide +kernel) (sn_aload_n (i := 0) (n := 0) (by decide +kernel) rfl (sn_geti (ci := 12) (j := 1) en_c12 (by decide +kernel) wm_383 (Nat.le_of_ble_eq_true rfl) rfl (sn_icge (off := 39) (tgt := 50) (by decide +kernel) rfl (s_X12_placesIn_50 G hst kc hk) (sn_iload_n (i := 3) (n := 3) (by decide +kernel) rfl (sn_iload_n (i := 2) (n := 2) (by decide +kernel) rfl (sn_aload_n (i := 0) (n := 0) (by decide +kernel) rfl (sn_gets (ci := 12) (j := 30) (off := 12) hst en_c12 of_12_12 (Nat.le_of_ble_eq_true rfl) (by decide +kernel) wm_353 (Nat.le_of_ble_eq_true rfl) rfl (sn_bipush (n := 7) (v := 7) (by decide +kernel) rfl (sn_iload_n (i := 1) (n := 1) (by decide +kernel) rfl (sn_imul (by decide +kernel) (sn_iload (i := 4) (by decide +kernel) (sn_iadd (by decide +kernel) (sn_iald (by decide +kernel) (sn_callSi (n := 2) (idx := 198) (i_X12_has G hst) (Nat.le_of_ble_eq_true rfl) cs_X12_has ⟨wm_372, Or.inl wm_483⟩ (by decide +kernel) (sn_ifeq (off := 10) (tgt := 41) (by decide +kernel) rfl (s_X12_placesIn_41 G hst kc hk) (sn_iconst (n := 1) (v := 1) (by decide +kernel) rfl (sn_iload (i := 4) (by decide +kernel) (sn_ishl (by decide +kernel) (sn_goto (off := 4) (tgt := 42) (by decide +kernel) rfl (s_X12_placesIn_42 G hst kc hk)))))))))))))))))))))
noncomputable def B_X12_placesIn_0 (kc : Nat → en_B) : en_B := (op_const (0 : Int32) (op_istore 3 (op_const (0 : Int32) (op_istore 4 (kc 5)))))
set_option maxRecDepth 20000 in
theorem s_X12_placesIn_0 (G : en_G) (hst : G.2.2.2.2.2 = true) (kc : Nat → en_B) (hk : ∀ t, en_Snd G M_X12_placesIn t (kc t)) : en_Snd G M_X12_placesIn 0 (B_X12_placesIn_0 kc) := (sn_iconst (n := 0) (v := 0) (by decide +kernel) rfl (sn_istore_n (i := 3) (n := 3) (by decide +kernel) rfl (Nat.le_of_ble_eq_true rfl) (sn_iconst (n := 0) (v := 0) (by decide +kernel) rfl (sn_istore (i := 4) (by decide +kernel) (Nat.le_of_ble_eq_true rfl) (hk 5)))))
noncomputable def LK_X12_placesIn : Nat → Nat → en_B
  | 0, _ => en_no
  | n + 1, t => if t = 5 then B_X12_placesIn_5 (LK_X12_placesIn n) else en_no
theorem l_X12_placesIn (G : en_G) (hst : G.2.2.2.2.2 = true) : ∀ n t, en_Snd G M_X12_placesIn t (LK_X12_placesIn n t)
  | 0, _ => sn_no
  | n + 1, t => by
    show en_Snd G M_X12_placesIn t (if t = 5 then B_X12_placesIn_5 (LK_X12_placesIn n) else en_no)
    by_cases h_5 : t = 5
    · rw [if_pos h_5, h_5]; exact s_X12_placesIn_5 G hst _ (l_X12_placesIn G hst n)
    rw [if_neg h_5]
    exact sn_no
noncomputable def T_X12_placesIn_0 (x1 : Int32) (x2 : Int32) (σ : en_M) : en_R := B_X12_placesIn_0 (LK_X12_placesIn en_FU) [.inr (185, 12, 0, 0), .inl x1, .inl x2, en_un, en_un] [] en_zz σ
noncomputable def T_X12_placesIn_5 (n : Nat) (x1 : Int32) (x2 : Int32) (x3 : Int32) (x4 : Int32) (σ : en_M) : en_R := LK_X12_placesIn n 5 [.inr (185, 12, 0, 0), .inl x1, .inl x2, .inl x3, .inl x4] [] en_zz σ
set_option maxRecDepth 400000 in
set_option maxHeartbeats 4000000 in
theorem t_X12_placesIn_0 (x1 : Int32) (x2 : Int32) (σ : en_M) : T_X12_placesIn_0 x1 x2 σ = (T_X12_placesIn_5 en_FU x1 x2 (0 : Int32) (0 : Int32) σ) := rfl
set_option maxRecDepth 400000 in
set_option maxHeartbeats 4000000 in
theorem t_X12_placesIn_5 (n : Nat) (x1 : Int32) (x2 : Int32) (x3 : Int32) (x4 : Int32) (σ : en_M) : T_X12_placesIn_5 (n + 1) x1 x2 x3 x4 σ = (if x4 < (σ 185 1) then ((en_ix (((7 : Int32) * x1) + x4) 1484).bind fun j1 => (O_X12_has [.inl x2, .inl (σ 197 j1)] σ).bind fun r2 => if r2.1 = 0 then (T_X12_placesIn_5 n x1 x2 (x3 ||| (0 : Int32)) (x4 + (1 : Int32)) r2.2) else (T_X12_placesIn_5 n x1 x2 (x3 ||| (en_shl (1 : Int32) x4)) (x4 + (1 : Int32)) r2.2)) else (en_ri x3 σ)) := rfl
noncomputable def P_X12_placesIn : List en_V → en_M → Option (Int32 × en_M) := fun av σ => match av with
  | [.inr (185, 12, 0, 0), .inl x1, .inl x2] => en_oi (T_X12_placesIn_0 x1 x2 σ)
  | _ => none
theorem ox_X12_placesIn : ∃ f, f = P_X12_placesIn := ⟨_, rfl⟩
noncomputable def O_X12_placesIn : List en_V → en_M → Option (Int32 × en_M) := Classical.choose ox_X12_placesIn
theorem oe_X12_placesIn : O_X12_placesIn = P_X12_placesIn := Classical.choose_spec ox_X12_placesIn
theorem o_X12_placesIn (x1 : Int32) (x2 : Int32) (σ : en_M) : O_X12_placesIn [.inr (185, 12, 0, 0), .inl x1, .inl x2] σ = en_oi (T_X12_placesIn_0 x1 x2 σ) := by rw [oe_X12_placesIn]; rfl
theorem i_X12_placesIn (G : en_G) (hst : G.2.2.2.2.2 = true) : en_I G 2 yX12_placesIn cX12_placesIn 5 (some .int) 0 0 (en_wi (O_X12_placesIn)) := en_of_i (M := M_X12_placesIn) hst (s_X12_placesIn_0 G hst _ (l_X12_placesIn G hst en_FU)) (plainFor_of_name (by decide +kernel)) rfl rfl rfl (Or.inl ⟨rfl, rfl⟩) (fun av σ x σ' h => by
  rw [oe_X12_placesIn] at h; unfold P_X12_placesIn at h
  split at h
  · exact ⟨(Nat.le_of_ble_eq_true rfl), en_oi_some h⟩
  · cases h)
-- EachMayMissOneModel.isLawful(III)Z
def M_X12_isLawful : en_Me := (cX12_isLawful, RX12, 6, false, 3, true)
theorem cs_X12_isLawful : en_cs yX12_isLawful cX12_isLawful 6 (some .boolean) 3 := ⟨wm_625, wm_337, ⟨(by decide +kernel), (by decide +kernel), (by decide +kernel)⟩, (Nat.le_of_ble_eq_true rfl)⟩
noncomputable def B_X12_isLawful_73 (kc : Nat → en_B) : en_B := op_zret
set_option maxRecDepth 20000 in
theorem s_X12_isLawful_73 (G : en_G) (hst : G.2.2.2.2.2 = true) (kc : Nat → en_B) (hk : ∀ t, en_Snd G M_X12_isLawful t (kc t)) : en_Snd G M_X12_isLawful 73 (B_X12_isLawful_73 kc) := (sn_zret (by decide +kernel))
noncomputable def B_X12_isLawful_72 (kc : Nat → en_B) : en_B := (op_const (0 : Int32) (B_X12_isLawful_73 kc))
set_option maxRecDepth 20000 in
theorem s_X12_isLawful_72 (G : en_G) (hst : G.2.2.2.2.2 = true) (kc : Nat → en_B) (hk : ∀ t, en_Snd G M_X12_isLawful t (kc t)) : en_Snd G M_X12_isLawful 72 (B_X12_isLawful_72 kc) := (sn_iconst (n := 0) (v := 0) (by decide +kernel) rfl (s_X12_isLawful_73 G hst kc hk))
noncomputable def B_X12_isLawful_39 (kc : Nat → en_B) : en_B := (op_istore 5 (op_aload 0 (op_iload 2 (op_aload 0 (op_iload 1 (op_iload 2 (op_rcv 12 2 (op_calli O_X12_placesIn 3 (op_iload 4 (op_iload 5 (op_aload 0 (op_gets 12 1 (20, 53, 0) (op_const (28 : Int32) (op_ald 20 (op_iload 1 (op_bin (fun (x y : Int32) => x + y) (op_rcv 12 5 (op_calli O_X12_brokenBy 6 (op_ifeq (op_const (1 : Int32) (B_X12_isLawful_73 kc)) (B_X12_isLawful_72 kc))))))))))))))))))))
set_option maxRecDepth 20000 in
theorem s_X12_isLawful_39 (G : en_G) (hst : G.2.2.2.2.2 = true) (kc : Nat → en_B) (hk : ∀ t, en_Snd G M_X12_isLawful t (kc t)) : en_Snd G M_X12_isLawful 39 (B_X12_isLawful_39 kc) := (sn_istore (i := 5) (by decide +kernel) (Nat.le_of_ble_eq_true rfl) (sn_aload_n (i := 0) (n := 0) (by decide +kernel) rfl (sn_iload_n (i := 2) (n := 2) (by decide +kernel) rfl (sn_aload_n (i := 0) (n := 0) (by decide +kernel) rfl (sn_iload_n (i := 1) (n := 1) (by decide +kernel) rfl (sn_iload_n (i := 2) (n := 2) (by decide +kernel) rfl (sn_callVi (n := 2) (idx := 298) (ci := 12) (i_X12_placesIn G hst) (Nat.le_of_ble_eq_true rfl) cs_X12_placesIn ⟨wm_623, wm_624, wm_628⟩ ⟨⟨_, rfl, rfl⟩, (Nat.le_of_ble_eq_true rfl)⟩ (by decide +kernel) (sn_iload (i := 4) (by decide +kernel) (sn_iload (i := 5) (by decide +kernel) (sn_aload_n (i := 0) (n := 0) (by decide +kernel) rfl (sn_gets (ci := 12) (j := 0) (off := 1) hst en_c12 of_12_1 (Nat.le_of_ble_eq_true rfl) (by decide +kernel) wm_339 (Nat.le_of_ble_eq_true rfl) rfl (sn_bipush (n := 28) (v := 28) (by decide +kernel) rfl (sn_iald (by decide +kernel) (sn_iload_n (i := 1) (n := 1) (by decide +kernel) rfl (sn_iadd (by decide +kernel) (sn_callVi (n := 5) (idx := 224) (ci := 12) (i_X12_brokenBy G hst) (Nat.le_of_ble_eq_true rfl) cs_X12_brokenBy ⟨wm_508, wm_509, wm_519⟩ ⟨⟨_, rfl, rfl⟩, (Nat.le_of_ble_eq_true rfl)⟩ (by decide +kernel) (sn_ifne (off := 7) (tgt := 72) (by decide +kernel) rfl (s_X12_isLawful_72 G hst kc hk) (sn_iconst (n := 1) (v := 1) (by decide +kernel) rfl (sn_goto (off := 4) (tgt := 73) (by decide +kernel) rfl (s_X12_isLawful_73 G hst kc hk))))))))))))))))))))
noncomputable def B_X12_isLawful_31 (kc : Nat → en_B) : en_B := (op_aload 0 (op_iload 1 (op_const (1 : Int32) (op_bin (fun (x y : Int32) => x - y) (op_iload 3 (op_rcv 12 2 (op_calli O_X12_placesIn 3 (B_X12_isLawful_39 kc))))))))
set_option maxRecDepth 20000 in
theorem s_X12_isLawful_31 (G : en_G) (hst : G.2.2.2.2.2 = true) (kc : Nat → en_B) (hk : ∀ t, en_Snd G M_X12_isLawful t (kc t)) : en_Snd G M_X12_isLawful 31 (B_X12_isLawful_31 kc) := (sn_aload_n (i := 0) (n := 0) (by decide +kernel) rfl (sn_iload_n (i := 1) (n := 1) (by decide +kernel) rfl (sn_iconst (n := 1) (v := 1) (by decide +kernel) rfl (sn_isub (by decide +kernel) (sn_iload_n (i := 3) (n := 3) (by decide +kernel) rfl (sn_callVi (n := 2) (idx := 298) (ci := 12) (i_X12_placesIn G hst) (Nat.le_of_ble_eq_true rfl) cs_X12_placesIn ⟨wm_623, wm_624, wm_628⟩ ⟨⟨_, rfl, rfl⟩, (Nat.le_of_ble_eq_true rfl)⟩ (by decide +kernel) (s_X12_isLawful_39 G hst kc hk)))))))
noncomputable def B_X12_isLawful_15 (kc : Nat → en_B) : en_B := (op_istore 4 (op_iload 1 (op_ifeq (op_aload 0 (op_gets 12 1 (20, 53, 0) (op_const (31 : Int32) (op_ald 20 (B_X12_isLawful_39 kc))))) (B_X12_isLawful_31 kc))))
set_option maxRecDepth 20000 in
theorem s_X12_isLawful_15 (G : en_G) (hst : G.2.2.2.2.2 = true) (kc : Nat → en_B) (hk : ∀ t, en_Snd G M_X12_isLawful t (kc t)) : en_Snd G M_X12_isLawful 15 (B_X12_isLawful_15 kc) := (sn_istore (i := 4) (by decide +kernel) (Nat.le_of_ble_eq_true rfl) (sn_iload_n (i := 1) (n := 1) (by decide +kernel) rfl (sn_ifne (off := 13) (tgt := 31) (by decide +kernel) rfl (s_X12_isLawful_31 G hst kc hk) (sn_aload_n (i := 0) (n := 0) (by decide +kernel) rfl (sn_gets (ci := 12) (j := 0) (off := 1) hst en_c12 of_12_1 (Nat.le_of_ble_eq_true rfl) (by decide +kernel) wm_339 (Nat.le_of_ble_eq_true rfl) rfl (sn_bipush (n := 31) (v := 31) (by decide +kernel) rfl (sn_iald (by decide +kernel) (sn_goto (off := 11) (tgt := 39) (by decide +kernel) rfl (s_X12_isLawful_39 G hst kc hk)))))))))
noncomputable def B_X12_isLawful_14 (kc : Nat → en_B) : en_B := (op_iload 3 (B_X12_isLawful_15 kc))
set_option maxRecDepth 20000 in
theorem s_X12_isLawful_14 (G : en_G) (hst : G.2.2.2.2.2 = true) (kc : Nat → en_B) (hk : ∀ t, en_Snd G M_X12_isLawful t (kc t)) : en_Snd G M_X12_isLawful 14 (B_X12_isLawful_14 kc) := (sn_iload_n (i := 3) (n := 3) (by decide +kernel) rfl (s_X12_isLawful_15 G hst kc hk))
noncomputable def B_X12_isLawful_0 (kc : Nat → en_B) : en_B := (op_iload 1 (op_ifeq (op_aload 0 (op_gets 12 1 (20, 53, 0) (op_const (30 : Int32) (op_ald 20 (B_X12_isLawful_15 kc))))) (B_X12_isLawful_14 kc)))
set_option maxRecDepth 20000 in
theorem s_X12_isLawful_0 (G : en_G) (hst : G.2.2.2.2.2 = true) (kc : Nat → en_B) (hk : ∀ t, en_Snd G M_X12_isLawful t (kc t)) : en_Snd G M_X12_isLawful 0 (B_X12_isLawful_0 kc) := (sn_iload_n (i := 1) (n := 1) (by decide +kernel) rfl (sn_ifne (off := 13) (tgt := 14) (by decide +kernel) rfl (s_X12_isLawful_14 G hst kc hk) (sn_aload_n (i := 0) (n := 0) (by decide +kernel) rfl (sn_gets (ci := 12) (j := 0) (off := 1) hst en_c12 of_12_1 (Nat.le_of_ble_eq_true rfl) (by decide +kernel) wm_339 (Nat.le_of_ble_eq_true rfl) rfl (sn_bipush (n := 30) (v := 30) (by decide +kernel) rfl (sn_iald (by decide +kernel) (sn_goto (off := 4) (tgt := 15) (by decide +kernel) rfl (s_X12_isLawful_15 G hst kc hk))))))))
noncomputable def LK_X12_isLawful : Nat → Nat → en_B
  | 0, _ => en_no
  | n + 1, t => en_no
theorem l_X12_isLawful (G : en_G) (hst : G.2.2.2.2.2 = true) : ∀ n t, en_Snd G M_X12_isLawful t (LK_X12_isLawful n t)
  | 0, _ => sn_no
  | n + 1, t => by
    show en_Snd G M_X12_isLawful t (en_no)
    exact sn_no
noncomputable def T_X12_isLawful_0 (x1 : Int32) (x2 : Int32) (x3 : Int32) (σ : en_M) : en_R := B_X12_isLawful_0 (LK_X12_isLawful en_FU) [.inr (185, 12, 0, 0), .inl x1, .inl x2, .inl x3, en_un, en_un] [] en_zz σ
set_option maxRecDepth 400000 in
set_option maxHeartbeats 4000000 in
theorem t_X12_isLawful_0 (x1 : Int32) (x2 : Int32) (x3 : Int32) (σ : en_M) : T_X12_isLawful_0 x1 x2 x3 σ = (if x1 = 0 then ((en_ix (30 : Int32) 53).bind fun j9 => if x1 = 0 then ((en_ix (31 : Int32) 53).bind fun j14 => (O_X12_placesIn [.inr (185, 12, 0, 0), .inl x1, .inl x2] σ).bind fun r15 => (en_ix (28 : Int32) 53).bind fun j16 => (O_X12_brokenBy [.inr (185, 12, 0, 0), .inl x2, .inl r15.1, .inl (σ 186 j9), .inl (σ 186 j14), .inl ((r15.2 186 j16) + x1)] r15.2).bind fun r17 => if r17.1 = 0 then (if (1 : Int32) = 0 ∨ (1 : Int32) = 1 then en_ri (1 : Int32) r17.2 else none) else (if (0 : Int32) = 0 ∨ (0 : Int32) = 1 then en_ri (0 : Int32) r17.2 else none)) else ((O_X12_placesIn [.inr (185, 12, 0, 0), .inl (x1 - (1 : Int32)), .inl x3] σ).bind fun r10 => (O_X12_placesIn [.inr (185, 12, 0, 0), .inl x1, .inl x2] r10.2).bind fun r11 => (en_ix (28 : Int32) 53).bind fun j12 => (O_X12_brokenBy [.inr (185, 12, 0, 0), .inl x2, .inl r11.1, .inl (σ 186 j9), .inl r10.1, .inl ((r11.2 186 j12) + x1)] r11.2).bind fun r13 => if r13.1 = 0 then (if (1 : Int32) = 0 ∨ (1 : Int32) = 1 then en_ri (1 : Int32) r13.2 else none) else (if (0 : Int32) = 0 ∨ (0 : Int32) = 1 then en_ri (0 : Int32) r13.2 else none))) else (if x1 = 0 then ((en_ix (31 : Int32) 53).bind fun j5 => (O_X12_placesIn [.inr (185, 12, 0, 0), .inl x1, .inl x2] σ).bind fun r6 => (en_ix (28 : Int32) 53).bind fun j7 => (O_X12_brokenBy [.inr (185, 12, 0, 0), .inl x2, .inl r6.1, .inl x3, .inl (σ 186 j5), .inl ((r6.2 186 j7) + x1)] r6.2).bind fun r8 => if r8.1 = 0 then (if (1 : Int32) = 0 ∨ (1 : Int32) = 1 then en_ri (1 : Int32) r8.2 else none) else (if (0 : Int32) = 0 ∨ (0 : Int32) = 1 then en_ri (0 : Int32) r8.2 else none)) else ((O_X12_placesIn [.inr (185, 12, 0, 0), .inl (x1 - (1 : Int32)), .inl x3] σ).bind fun r1 => (O_X12_placesIn [.inr (185, 12, 0, 0), .inl x1, .inl x2] r1.2).bind fun r2 => (en_ix (28 : Int32) 53).bind fun j3 => (O_X12_brokenBy [.inr (185, 12, 0, 0), .inl x2, .inl r2.1, .inl x3, .inl r1.1, .inl ((r2.2 186 j3) + x1)] r2.2).bind fun r4 => if r4.1 = 0 then (if (1 : Int32) = 0 ∨ (1 : Int32) = 1 then en_ri (1 : Int32) r4.2 else none) else (if (0 : Int32) = 0 ∨ (0 : Int32) = 1 then en_ri (0 : Int32) r4.2 else none)))) := rfl
noncomputable def P_X12_isLawful : List en_V → en_M → Option (Int32 × en_M) := fun av σ => match av with
  | [.inr (185, 12, 0, 0), .inl x1, .inl x2, .inl x3] => en_oi (T_X12_isLawful_0 x1 x2 x3 σ)
  | _ => none
theorem ox_X12_isLawful : ∃ f, f = P_X12_isLawful := ⟨_, rfl⟩
noncomputable def O_X12_isLawful : List en_V → en_M → Option (Int32 × en_M) := Classical.choose ox_X12_isLawful
theorem oe_X12_isLawful : O_X12_isLawful = P_X12_isLawful := Classical.choose_spec ox_X12_isLawful
theorem o_X12_isLawful (x1 : Int32) (x2 : Int32) (x3 : Int32) (σ : en_M) : O_X12_isLawful [.inr (185, 12, 0, 0), .inl x1, .inl x2, .inl x3] σ = en_oi (T_X12_isLawful_0 x1 x2 x3 σ) := by rw [oe_X12_isLawful]; rfl
theorem i_X12_isLawful (G : en_G) (hst : G.2.2.2.2.2 = true) : en_I G 3 yX12_isLawful cX12_isLawful 6 (some .boolean) 0 0 (en_wi (O_X12_isLawful)) := en_of_i (M := M_X12_isLawful) hst (s_X12_isLawful_0 G hst _ (l_X12_isLawful G hst en_FU)) (plainFor_of_name (by decide +kernel)) rfl rfl rfl (Or.inr ⟨Or.inl rfl, rfl⟩) (fun av σ x σ' h => by
  rw [oe_X12_isLawful] at h; unfold P_X12_isLawful at h
  split at h
  · exact ⟨(Nat.le_of_ble_eq_true rfl), en_oi_some h⟩
  · cases h)
-- EachMayMissOneModel.sleeps(I)I
def M_X12_sleeps : en_Me := (cX12_sleeps, RX12, 6, false, 4, false)
theorem cs_X12_sleeps : en_cs yX12_sleeps cX12_sleeps 6 (some .int) 1 := ⟨wm_629, wm_337, ⟨(by decide +kernel), (by decide +kernel), (by decide +kernel)⟩, (Nat.le_of_ble_eq_true rfl)⟩
noncomputable def B_X12_sleeps_250 (kc : Nat → en_B) : en_B := (op_aload 0 (op_gets 12 17 (20, 1664, 0) (op_const (0 : Int32) (op_ald 20 op_iret))))
set_option maxRecDepth 20000 in
theorem s_X12_sleeps_250 (G : en_G) (hst : G.2.2.2.2.2 = true) (kc : Nat → en_B) (hk : ∀ t, en_Snd G M_X12_sleeps t (kc t)) : en_Snd G M_X12_sleeps 250 (B_X12_sleeps_250 kc) := (sn_aload_n (i := 0) (n := 0) (by decide +kernel) rfl (sn_gets (ci := 12) (j := 37) (off := 17) hst en_c12 of_12_17 (Nat.le_of_ble_eq_true rfl) (by decide +kernel) wm_358 (Nat.le_of_ble_eq_true rfl) rfl (sn_iconst (n := 0) (v := 0) (by decide +kernel) rfl (sn_iald (by decide +kernel) (sn_iret (by decide +kernel) rfl)))))
noncomputable def B_X12_sleeps_235 (kc : Nat → en_B) : en_B := (op_aload 0 (op_iload 4 (op_rcv 12 1 (op_callv O_X12_tell 2 (op_iload 4 (op_istore 2 (op_iinc 3 (1 : Int32) (kc 176))))))))
set_option maxRecDepth 20000 in
theorem s_X12_sleeps_235 (G : en_G) (hst : G.2.2.2.2.2 = true) (kc : Nat → en_B) (hk : ∀ t, en_Snd G M_X12_sleeps t (kc t)) : en_Snd G M_X12_sleeps 235 (B_X12_sleeps_235 kc) := (sn_aload_n (i := 0) (n := 0) (by decide +kernel) rfl (sn_iload (i := 4) (by decide +kernel) (sn_callVv (n := 1) (idx := 251) (ci := 12) (i_X12_tell G hst) (Nat.le_of_ble_eq_true rfl) cs_X12_tell ⟨wm_377, wm_378, wm_536⟩ ⟨⟨_, rfl, rfl⟩, (Nat.le_of_ble_eq_true rfl)⟩ (by decide +kernel) (sn_iload (i := 4) (by decide +kernel) (sn_istore_n (i := 2) (n := 2) (by decide +kernel) rfl (Nat.le_of_ble_eq_true rfl) (sn_iinc (i := 3) (n := 1) (v := 1) (by decide +kernel) rfl (sn_goto (off := -71) (tgt := 176) (by decide +kernel) rfl (hk 176))))))))
noncomputable def B_X12_sleeps_229 (kc : Nat → en_B) : en_B := (op_iinc 4 (1 : Int32) (kc 184))
set_option maxRecDepth 20000 in
theorem s_X12_sleeps_229 (G : en_G) (hst : G.2.2.2.2.2 = true) (kc : Nat → en_B) (hk : ∀ t, en_Snd G M_X12_sleeps t (kc t)) : en_Snd G M_X12_sleeps 229 (B_X12_sleeps_229 kc) := (sn_iinc (i := 4) (n := 1) (v := 1) (by decide +kernel) rfl (sn_goto (off := -48) (tgt := 184) (by decide +kernel) rfl (hk 184)))
noncomputable def B_X12_sleeps_184 (kc : Nat → en_B) : en_B := (op_aload 0 (op_iload 3 (op_iload 4 (op_iload 2 (op_rcv 12 3 (op_calli O_X12_isLawful 4 (op_ifeq (B_X12_sleeps_229 kc) (op_iload 4 (op_calli O_J6_bitCount_0f7a4 1 (op_aload 0 (op_gets 12 17 (20, 1664, 0) (op_iload 3 (op_const (1 : Int32) (op_bin (fun (x y : Int32) => x + y) (op_const (7 : Int32) (op_bin en_shl (op_iload 4 (op_bin (fun (x y : Int32) => x + y) (op_ald 20 (op_bin (fun (x y : Int32) => x + y) (op_aload 0 (op_gets 12 17 (20, 1664, 0) (op_iload 3 (op_const (7 : Int32) (op_bin en_shl (op_iload 2 (op_bin (fun (x y : Int32) => x + y) (op_ald 20 (op_iceq (B_X12_sleeps_235 kc) (B_X12_sleeps_229 kc))))))))))))))))))))))))))))))
set_option maxRecDepth 20000 in
theorem s_X12_sleeps_184 (G : en_G) (hst : G.2.2.2.2.2 = true) (kc : Nat → en_B) (hk : ∀ t, en_Snd G M_X12_sleeps t (kc t)) : en_Snd G M_X12_sleeps 184 (B_X12_sleeps_184 kc) := (sn_aload_n (i := 0) (n := 0) (by decide +kernel) rfl (sn_iload_n (i := 3) (n := 3) (by decide +kernel) rfl (sn_iload (i := 4) (by decide +kernel) (sn_iload_n (i := 2) (n := 2) (by decide +kernel) rfl (sn_callVi (n := 3) (idx := 301) (ci := 12) (i_X12_isLawful G hst) (Nat.le_of_ble_eq_true rfl) cs_X12_isLawful ⟨wm_626, wm_627, wm_632⟩ ⟨⟨_, rfl, rfl⟩, (Nat.le_of_ble_eq_true rfl)⟩ (by decide +kernel) (sn_ifeq (off := 37) (tgt := 229) (by decide +kernel) rfl (s_X12_sleeps_229 G hst kc hk) (sn_iload (i := 4) (by decide +kernel) (sn_callSi (n := 1) (idx := 213) (i_J6_bitCount_0f7a4 G hst) (Nat.le_of_ble_eq_true rfl) cs_J6_bitCount_0f7a4 ⟨wm_511, Or.inl wm_513⟩ (by decide +kernel) (sn_aload_n (i := 0) (n := 0) (by decide +kernel) rfl (sn_gets (ci := 12) (j := 37) (off := 17) hst en_c12 of_12_17 (Nat.le_of_ble_eq_true rfl) (by decide +kernel) wm_358 (Nat.le_of_ble_eq_true rfl) rfl (sn_iload_n (i := 3) (n := 3) (by decide +kernel) rfl (sn_iconst (n := 1) (v := 1) (by decide +kernel) rfl (sn_iadd (by decide +kernel) (sn_bipush (n := 7) (v := 7) (by decide +kernel) rfl (sn_ishl (by decide +kernel) (sn_iload (i := 4) (by decide +kernel) (sn_iadd (by decide +kernel) (sn_iald (by decide +kernel) (sn_iadd (by decide +kernel) (sn_aload_n (i := 0) (n := 0) (by decide +kernel) rfl (sn_gets (ci := 12) (j := 37) (off := 17) hst en_c12 of_12_17 (Nat.le_of_ble_eq_true rfl) (by decide +kernel) wm_358 (Nat.le_of_ble_eq_true rfl) rfl (sn_iload_n (i := 3) (n := 3) (by decide +kernel) rfl (sn_bipush (n := 7) (v := 7) (by decide +kernel) rfl (sn_ishl (by decide +kernel) (sn_iload_n (i := 2) (n := 2) (by decide +kernel) rfl (sn_iadd (by decide +kernel) (sn_iald (by decide +kernel) (sn_iceq (off := 9) (tgt := 235) (by decide +kernel) rfl (s_X12_sleeps_235 G hst kc hk) (s_X12_sleeps_229 G hst kc hk)))))))))))))))))))))))))))))
noncomputable def B_X12_sleeps_176 (kc : Nat → en_B) : en_B := (op_iload 3 (op_iload 1 (op_iclt (op_const (0 : Int32) (op_istore 4 (kc 184))) (B_X12_sleeps_250 kc))))
set_option maxRecDepth 20000 in
theorem s_X12_sleeps_176 (G : en_G) (hst : G.2.2.2.2.2 = true) (kc : Nat → en_B) (hk : ∀ t, en_Snd G M_X12_sleeps t (kc t)) : en_Snd G M_X12_sleeps 176 (B_X12_sleeps_176 kc) := (sn_iload_n (i := 3) (n := 3) (by decide +kernel) rfl (sn_iload_n (i := 1) (n := 1) (by decide +kernel) rfl (sn_icge (off := 72) (tgt := 250) (by decide +kernel) rfl (s_X12_sleeps_250 G hst kc hk) (sn_iconst (n := 0) (v := 0) (by decide +kernel) rfl (sn_istore (i := 4) (by decide +kernel) (Nat.le_of_ble_eq_true rfl) (hk 184))))))
noncomputable def B_X12_sleeps_167 (kc : Nat → en_B) : en_B := (op_aload 0 (op_const (0 : Int32) (op_puti 12 10 (op_const (0 : Int32) (op_istore 2 (op_const (0 : Int32) (op_istore 3 (kc 176))))))))
set_option maxRecDepth 20000 in
theorem s_X12_sleeps_167 (G : en_G) (hst : G.2.2.2.2.2 = true) (kc : Nat → en_B) (hk : ∀ t, en_Snd G M_X12_sleeps t (kc t)) : en_Snd G M_X12_sleeps 167 (B_X12_sleeps_167 kc) := (sn_aload_n (i := 0) (n := 0) (by decide +kernel) rfl (sn_iconst (n := 0) (v := 0) (by decide +kernel) rfl (sn_puti (ci := 12) (j := 10) en_c12 (by decide +kernel) wm_379 (Nat.le_of_ble_eq_true rfl) rfl rfl rfl (sn_iconst (n := 0) (v := 0) (by decide +kernel) rfl (sn_istore_n (i := 2) (n := 2) (by decide +kernel) rfl (Nat.le_of_ble_eq_true rfl) (sn_iconst (n := 0) (v := 0) (by decide +kernel) rfl (sn_istore_n (i := 3) (n := 3) (by decide +kernel) rfl (Nat.le_of_ble_eq_true rfl) (hk 176))))))))
noncomputable def B_X12_sleeps_161 (kc : Nat → en_B) : en_B := (op_iinc 2 (-1 : Int32) (kc 61))
set_option maxRecDepth 20000 in
theorem s_X12_sleeps_161 (G : en_G) (hst : G.2.2.2.2.2 = true) (kc : Nat → en_B) (hk : ∀ t, en_Snd G M_X12_sleeps t (kc t)) : en_Snd G M_X12_sleeps 161 (B_X12_sleeps_161 kc) := (sn_iinc (i := 2) (n := -1) (v := -1) (by decide +kernel) rfl (sn_goto (off := -103) (tgt := 61) (by decide +kernel) rfl (hk 61)))
noncomputable def B_X12_sleeps_142 (kc : Nat → en_B) : en_B := (op_aload 0 (op_gets 12 17 (20, 1664, 0) (op_iload 2 (op_const (7 : Int32) (op_bin en_shl (op_iload 3 (op_bin (fun (x y : Int32) => x + y) (op_iload 4 (op_ast 20 (fun (x : Int32) => x) (op_iinc 3 (1 : Int32) (kc 67)))))))))))
set_option maxRecDepth 20000 in
theorem s_X12_sleeps_142 (G : en_G) (hst : G.2.2.2.2.2 = true) (kc : Nat → en_B) (hk : ∀ t, en_Snd G M_X12_sleeps t (kc t)) : en_Snd G M_X12_sleeps 142 (B_X12_sleeps_142 kc) := (sn_aload_n (i := 0) (n := 0) (by decide +kernel) rfl (sn_gets (ci := 12) (j := 37) (off := 17) hst en_c12 of_12_17 (Nat.le_of_ble_eq_true rfl) (by decide +kernel) wm_358 (Nat.le_of_ble_eq_true rfl) rfl (sn_iload_n (i := 2) (n := 2) (by decide +kernel) rfl (sn_bipush (n := 7) (v := 7) (by decide +kernel) rfl (sn_ishl (by decide +kernel) (sn_iload_n (i := 3) (n := 3) (by decide +kernel) rfl (sn_iadd (by decide +kernel) (sn_iload (i := 4) (by decide +kernel) (sn_iast (by decide +kernel) (sn_iinc (i := 3) (n := 1) (v := 1) (by decide +kernel) rfl (sn_goto (off := -91) (tgt := 67) (by decide +kernel) rfl (hk 67))))))))))))
noncomputable def B_X12_sleeps_136 (kc : Nat → en_B) : en_B := (op_iinc 5 (1 : Int32) (kc 81))
set_option maxRecDepth 20000 in
theorem s_X12_sleeps_136 (G : en_G) (hst : G.2.2.2.2.2 = true) (kc : Nat → en_B) (hk : ∀ t, en_Snd G M_X12_sleeps t (kc t)) : en_Snd G M_X12_sleeps 136 (B_X12_sleeps_136 kc) := (sn_iinc (i := 5) (n := 1) (v := 1) (by decide +kernel) rfl (sn_goto (off := -58) (tgt := 81) (by decide +kernel) rfl (hk 81)))
noncomputable def B_X12_sleeps_98 (kc : Nat → en_B) : en_B := (op_aload 0 (op_iload 2 (op_iload 5 (op_iload 3 (op_rcv 12 3 (op_calli O_X12_isLawful 4 (op_ifeq (B_X12_sleeps_136 kc) (op_iload 4 (op_iload 5 (op_calli O_J6_bitCount_0f7a4 1 (op_aload 0 (op_gets 12 17 (20, 1664, 0) (op_iload 2 (op_const (1 : Int32) (op_bin (fun (x y : Int32) => x + y) (op_const (7 : Int32) (op_bin en_shl (op_iload 5 (op_bin (fun (x y : Int32) => x + y) (op_ald 20 (op_bin (fun (x y : Int32) => x + y) (op_calli O_J9_max_7cf53 2 (op_istore 4 (B_X12_sleeps_136 kc))))))))))))))))))))))))
set_option maxRecDepth 20000 in
theorem s_X12_sleeps_98 (G : en_G) (hst : G.2.2.2.2.2 = true) (kc : Nat → en_B) (hk : ∀ t, en_Snd G M_X12_sleeps t (kc t)) : en_Snd G M_X12_sleeps 98 (B_X12_sleeps_98 kc) := (sn_aload_n (i := 0) (n := 0) (by decide +kernel) rfl (sn_iload_n (i := 2) (n := 2) (by decide +kernel) rfl (sn_iload (i := 5) (by decide +kernel) (sn_iload_n (i := 3) (n := 3) (by decide +kernel) rfl (sn_callVi (n := 3) (idx := 301) (ci := 12) (i_X12_isLawful G hst) (Nat.le_of_ble_eq_true rfl) cs_X12_isLawful ⟨wm_626, wm_627, wm_632⟩ ⟨⟨_, rfl, rfl⟩, (Nat.le_of_ble_eq_true rfl)⟩ (by decide +kernel) (sn_ifeq (off := 30) (tgt := 136) (by decide +kernel) rfl (s_X12_sleeps_136 G hst kc hk) (sn_iload (i := 4) (by decide +kernel) (sn_iload (i := 5) (by decide +kernel) (sn_callSi (n := 1) (idx := 213) (i_J6_bitCount_0f7a4 G hst) (Nat.le_of_ble_eq_true rfl) cs_J6_bitCount_0f7a4 ⟨wm_511, Or.inl wm_513⟩ (by decide +kernel) (sn_aload_n (i := 0) (n := 0) (by decide +kernel) rfl (sn_gets (ci := 12) (j := 37) (off := 17) hst en_c12 of_12_17 (Nat.le_of_ble_eq_true rfl) (by decide +kernel) wm_358 (Nat.le_of_ble_eq_true rfl) rfl (sn_iload_n (i := 2) (n := 2) (by decide +kernel) rfl (sn_iconst (n := 1) (v := 1) (by decide +kernel) rfl (sn_iadd (by decide +kernel) (sn_bipush (n := 7) (v := 7) (by decide +kernel) rfl (sn_ishl (by decide +kernel) (sn_iload (i := 5) (by decide +kernel) (sn_iadd (by decide +kernel) (sn_iald (by decide +kernel) (sn_iadd (by decide +kernel) (sn_callSi (n := 2) (idx := 159) (i_J9_max_7cf53 G hst) (Nat.le_of_ble_eq_true rfl) cs_J9_max_7cf53 ⟨wm_267, Or.inl wm_446⟩ (by decide +kernel) (sn_istore (i := 4) (by decide +kernel) (Nat.le_of_ble_eq_true rfl) (s_X12_sleeps_136 G hst kc hk)))))))))))))))))))))))
noncomputable def B_X12_sleeps_81 (kc : Nat → en_B) : en_B := (op_iload 5 (op_aload 0 (op_rcv 12 0 (op_calli O_X12_everybody 1 (op_icgt (B_X12_sleeps_142 kc) (op_iload 2 (op_ifgt (B_X12_sleeps_98 kc) (op_iload 3 (op_ifeq (B_X12_sleeps_98 kc) (B_X12_sleeps_142 kc))))))))))
set_option maxRecDepth 20000 in
theorem s_X12_sleeps_81 (G : en_G) (hst : G.2.2.2.2.2 = true) (kc : Nat → en_B) (hk : ∀ t, en_Snd G M_X12_sleeps t (kc t)) : en_Snd G M_X12_sleeps 81 (B_X12_sleeps_81 kc) := (sn_iload (i := 5) (by decide +kernel) (sn_aload_n (i := 0) (n := 0) (by decide +kernel) rfl (sn_callVi (n := 0) (idx := 108) (ci := 12) (i_X12_everybody G hst) (Nat.le_of_ble_eq_true rfl) cs_X12_everybody ⟨wm_390, wm_391, wm_395⟩ ⟨⟨_, rfl, rfl⟩, (Nat.le_of_ble_eq_true rfl)⟩ (by decide +kernel) (sn_icgt (off := 55) (tgt := 142) (by decide +kernel) rfl (s_X12_sleeps_142 G hst kc hk) (sn_iload_n (i := 2) (n := 2) (by decide +kernel) rfl (sn_ifgt (off := 7) (tgt := 98) (by decide +kernel) rfl (s_X12_sleeps_98 G hst kc hk) (sn_iload_n (i := 3) (n := 3) (by decide +kernel) rfl (sn_ifne (off := 47) (tgt := 142) (by decide +kernel) rfl (s_X12_sleeps_142 G hst kc hk) (s_X12_sleeps_98 G hst kc hk)))))))))
noncomputable def B_X12_sleeps_67 (kc : Nat → en_B) : en_B := (op_iload 3 (op_aload 0 (op_rcv 12 0 (op_calli O_X12_everybody 1 (op_icgt (B_X12_sleeps_161 kc) (op_const (-1 : Int32) (op_istore 4 (op_const (0 : Int32) (op_istore 5 (kc 81))))))))))
set_option maxRecDepth 20000 in
theorem s_X12_sleeps_67 (G : en_G) (hst : G.2.2.2.2.2 = true) (kc : Nat → en_B) (hk : ∀ t, en_Snd G M_X12_sleeps t (kc t)) : en_Snd G M_X12_sleeps 67 (B_X12_sleeps_67 kc) := (sn_iload_n (i := 3) (n := 3) (by decide +kernel) rfl (sn_aload_n (i := 0) (n := 0) (by decide +kernel) rfl (sn_callVi (n := 0) (idx := 108) (ci := 12) (i_X12_everybody G hst) (Nat.le_of_ble_eq_true rfl) cs_X12_everybody ⟨wm_390, wm_391, wm_395⟩ ⟨⟨_, rfl, rfl⟩, (Nat.le_of_ble_eq_true rfl)⟩ (by decide +kernel) (sn_icgt (off := 89) (tgt := 161) (by decide +kernel) rfl (s_X12_sleeps_161 G hst kc hk) (sn_iconst (n := -1) (v := -1) (by decide +kernel) rfl (sn_istore (i := 4) (by decide +kernel) (Nat.le_of_ble_eq_true rfl) (sn_iconst (n := 0) (v := 0) (by decide +kernel) rfl (sn_istore (i := 5) (by decide +kernel) (Nat.le_of_ble_eq_true rfl) (hk 81)))))))))
noncomputable def B_X12_sleeps_61 (kc : Nat → en_B) : en_B := (op_iload 2 (op_iflt (B_X12_sleeps_167 kc) (op_const (0 : Int32) (op_istore 3 (kc 67)))))
set_option maxRecDepth 20000 in
theorem s_X12_sleeps_61 (G : en_G) (hst : G.2.2.2.2.2 = true) (kc : Nat → en_B) (hk : ∀ t, en_Snd G M_X12_sleeps t (kc t)) : en_Snd G M_X12_sleeps 61 (B_X12_sleeps_61 kc) := (sn_iload_n (i := 2) (n := 2) (by decide +kernel) rfl (sn_iflt (off := 105) (tgt := 167) (by decide +kernel) rfl (s_X12_sleeps_167 G hst kc hk) (sn_iconst (n := 0) (v := 0) (by decide +kernel) rfl (sn_istore_n (i := 3) (n := 3) (by decide +kernel) rfl (Nat.le_of_ble_eq_true rfl) (hk 67)))))
noncomputable def B_X12_sleeps_57 (kc : Nat → en_B) : en_B := (op_iload 1 (op_const (1 : Int32) (op_bin (fun (x y : Int32) => x - y) (op_istore 2 (kc 61)))))
set_option maxRecDepth 20000 in
theorem s_X12_sleeps_57 (G : en_G) (hst : G.2.2.2.2.2 = true) (kc : Nat → en_B) (hk : ∀ t, en_Snd G M_X12_sleeps t (kc t)) : en_Snd G M_X12_sleeps 57 (B_X12_sleeps_57 kc) := (sn_iload_n (i := 1) (n := 1) (by decide +kernel) rfl (sn_iconst (n := 1) (v := 1) (by decide +kernel) rfl (sn_isub (by decide +kernel) (sn_istore_n (i := 2) (n := 2) (by decide +kernel) rfl (Nat.le_of_ble_eq_true rfl) (hk 61)))))
noncomputable def B_X12_sleeps_31 (kc : Nat → en_B) : en_B := (op_iload 2 (op_aload 0 (op_rcv 12 0 (op_calli O_X12_everybody 1 (op_icgt (B_X12_sleeps_57 kc) (op_aload 0 (op_gets 12 17 (20, 1664, 0) (op_iload 1 (op_const (7 : Int32) (op_bin en_shl (op_iload 2 (op_bin (fun (x y : Int32) => x + y) (op_const (0 : Int32) (op_ast 20 (fun (x : Int32) => x) (op_iinc 2 (1 : Int32) (kc 31))))))))))))))))
set_option maxRecDepth 20000 in
theorem s_X12_sleeps_31 (G : en_G) (hst : G.2.2.2.2.2 = true) (kc : Nat → en_B) (hk : ∀ t, en_Snd G M_X12_sleeps t (kc t)) : en_Snd G M_X12_sleeps 31 (B_X12_sleeps_31 kc) := (sn_iload_n (i := 2) (n := 2) (by decide +kernel) rfl (sn_aload_n (i := 0) (n := 0) (by decide +kernel) rfl (sn_callVi (n := 0) (idx := 108) (ci := 12) (i_X12_everybody G hst) (Nat.le_of_ble_eq_true rfl) cs_X12_everybody ⟨wm_390, wm_391, wm_395⟩ ⟨⟨_, rfl, rfl⟩, (Nat.le_of_ble_eq_true rfl)⟩ (by decide +kernel) (sn_icgt (off := 21) (tgt := 57) (by decide +kernel) rfl (s_X12_sleeps_57 G hst kc hk) (sn_aload_n (i := 0) (n := 0) (by decide +kernel) rfl (sn_gets (ci := 12) (j := 37) (off := 17) hst en_c12 of_12_17 (Nat.le_of_ble_eq_true rfl) (by decide +kernel) wm_358 (Nat.le_of_ble_eq_true rfl) rfl (sn_iload_n (i := 1) (n := 1) (by decide +kernel) rfl (sn_bipush (n := 7) (v := 7) (by decide +kernel) rfl (sn_ishl (by decide +kernel) (sn_iload_n (i := 2) (n := 2) (by decide +kernel) rfl (sn_iadd (by decide +kernel) (sn_iconst (n := 0) (v := 0) (by decide +kernel) rfl (sn_iast (by decide +kernel) (sn_iinc (i := 2) (n := 1) (v := 1) (by decide +kernel) rfl (sn_goto (off := -23) (tgt := 31) (by decide +kernel) rfl (hk 31))))))))))))))))
noncomputable def B_X12_sleeps_24 (kc : Nat → en_B) : en_B := (op_aload 0 (op_iload 1 (op_rcv 12 1 (op_callv O_X12_layOrders 2 (op_const (0 : Int32) (op_istore 2 (kc 31)))))))
set_option maxRecDepth 20000 in
theorem s_X12_sleeps_24 (G : en_G) (hst : G.2.2.2.2.2 = true) (kc : Nat → en_B) (hk : ∀ t, en_Snd G M_X12_sleeps t (kc t)) : en_Snd G M_X12_sleeps 24 (B_X12_sleeps_24 kc) := (sn_aload_n (i := 0) (n := 0) (by decide +kernel) rfl (sn_iload_n (i := 1) (n := 1) (by decide +kernel) rfl (sn_callVv (n := 1) (idx := 272) (ci := 12) (i_X12_layOrders G hst) (Nat.le_of_ble_eq_true rfl) cs_X12_layOrders ⟨wm_567, wm_568, wm_575⟩ ⟨⟨_, rfl, rfl⟩, (Nat.le_of_ble_eq_true rfl)⟩ (by decide +kernel) (sn_iconst (n := 0) (v := 0) (by decide +kernel) rfl (sn_istore_n (i := 2) (n := 2) (by decide +kernel) rfl (Nat.le_of_ble_eq_true rfl) (hk 31))))))
noncomputable def B_X12_sleeps_22 (kc : Nat → en_B) : en_B := (op_const (-1 : Int32) op_iret)
set_option maxRecDepth 20000 in
theorem s_X12_sleeps_22 (G : en_G) (hst : G.2.2.2.2.2 = true) (kc : Nat → en_B) (hk : ∀ t, en_Snd G M_X12_sleeps t (kc t)) : en_Snd G M_X12_sleeps 22 (B_X12_sleeps_22 kc) := (sn_iconst (n := -1) (v := -1) (by decide +kernel) rfl (sn_iret (by decide +kernel) rfl))
noncomputable def B_X12_sleeps_0 (kc : Nat → en_B) : en_B := (op_aload 0 (op_const (0 : Int32) (op_puti 12 11 (op_iload 1 (op_const (1 : Int32) (op_const (12 : Int32) (op_calli O_X12_in 3 (op_ifeq (B_X12_sleeps_22 kc) (op_aload 0 (op_geti 12 1 (op_ifeq (B_X12_sleeps_22 kc) (B_X12_sleeps_24 kc))))))))))))
set_option maxRecDepth 20000 in
theorem s_X12_sleeps_0 (G : en_G) (hst : G.2.2.2.2.2 = true) (kc : Nat → en_B) (hk : ∀ t, en_Snd G M_X12_sleeps t (kc t)) : en_Snd G M_X12_sleeps 0 (B_X12_sleeps_0 kc) := (sn_aload_n (i := 0) (n := 0) (by decide +kernel) rfl (sn_iconst (n := 0) (v := 0) (by decide +kernel) rfl (sn_puti (ci := 12) (j := 11) en_c12 (by decide +kernel) wm_368 (Nat.le_of_ble_eq_true rfl) rfl rfl rfl (sn_iload_n (i := 1) (n := 1) (by decide +kernel) rfl (sn_iconst (n := 1) (v := 1) (by decide +kernel) rfl (sn_bipush (n := 12) (v := 12) (by decide +kernel) rfl (sn_callSi (n := 3) (idx := 100) (i_X12_in G hst) (Nat.le_of_ble_eq_true rfl) cs_X12_in ⟨wm_370, Or.inl wm_384⟩ (by decide +kernel) (sn_ifeq (off := 10) (tgt := 22) (by decide +kernel) rfl (s_X12_sleeps_22 G hst kc hk) (sn_aload_n (i := 0) (n := 0) (by decide +kernel) rfl (sn_geti (ci := 12) (j := 1) en_c12 (by decide +kernel) wm_383 (Nat.le_of_ble_eq_true rfl) rfl (sn_ifne (off := 5) (tgt := 24) (by decide +kernel) rfl (s_X12_sleeps_24 G hst kc hk) (s_X12_sleeps_22 G hst kc hk))))))))))))
noncomputable def LK_X12_sleeps : Nat → Nat → en_B
  | 0, _ => en_no
  | n + 1, t => if t = 31 then B_X12_sleeps_31 (LK_X12_sleeps n) else if t = 61 then B_X12_sleeps_61 (LK_X12_sleeps n) else if t = 67 then B_X12_sleeps_67 (LK_X12_sleeps n) else if t = 81 then B_X12_sleeps_81 (LK_X12_sleeps n) else if t = 176 then B_X12_sleeps_176 (LK_X12_sleeps n) else if t = 184 then B_X12_sleeps_184 (LK_X12_sleeps n) else en_no
theorem l_X12_sleeps (G : en_G) (hst : G.2.2.2.2.2 = true) : ∀ n t, en_Snd G M_X12_sleeps t (LK_X12_sleeps n t)
  | 0, _ => sn_no
  | n + 1, t => by
    show en_Snd G M_X12_sleeps t (if t = 31 then B_X12_sleeps_31 (LK_X12_sleeps n) else if t = 61 then B_X12_sleeps_61 (LK_X12_sleeps n) else if t = 67 then B_X12_sleeps_67 (LK_X12_sleeps n) else if t = 81 then B_X12_sleeps_81 (LK_X12_sleeps n) else if t = 176 then B_X12_sleeps_176 (LK_X12_sleeps n) else if t = 184 then B_X12_sleeps_184 (LK_X12_sleeps n) else en_no)
    by_cases h_31 : t = 31
    · rw [if_pos h_31, h_31]; exact s_X12_sleeps_31 G hst _ (l_X12_sleeps G hst n)
    rw [if_neg h_31]
    by_cases h_61 : t = 61
    · rw [if_pos h_61, h_61]; exact s_X12_sleeps_61 G hst _ (l_X12_sleeps G hst n)
    rw [if_neg h_61]
    by_cases h_67 : t = 67
    · rw [if_pos h_67, h_67]; exact s_X12_sleeps_67 G hst _ (l_X12_sleeps G hst n)
    rw [if_neg h_67]
    by_cases h_81 : t = 81
    · rw [if_pos h_81, h_81]; exact s_X12_sleeps_81 G hst _ (l_X12_sleeps G hst n)
    rw [if_neg h_81]
    by_cases h_176 : t = 176
    · rw [if_pos h_176, h_176]; exact s_X12_sleeps_176 G hst _ (l_X12_sleeps G hst n)
    rw [if_neg h_176]
    by_cases h_184 : t = 184
    · rw [if_pos h_184, h_184]; exact s_X12_sleeps_184 G hst _ (l_X12_sleeps G hst n)
    rw [if_neg h_184]
    exact sn_no
noncomputable def T_X12_sleeps_0 (x1 : Int32) (σ : en_M) : en_R := B_X12_sleeps_0 (LK_X12_sleeps en_FU) [.inr (185, 12, 0, 0), .inl x1, en_un, en_un, en_un, en_un] [] en_zz σ
noncomputable def T_X12_sleeps_31 (n : Nat) (x1 : Int32) (x2 : Int32) (σ : en_M) : en_R := LK_X12_sleeps n 31 [.inr (185, 12, 0, 0), .inl x1, .inl x2, en_un, en_un, en_un] [] en_zz σ
noncomputable def T_X12_sleeps_61 (n : Nat) (x1 : Int32) (x2 : Int32) (u3 : en_V) (u4 : en_V) (u5 : en_V) (σ : en_M) : en_R := LK_X12_sleeps n 61 [.inr (185, 12, 0, 0), .inl x1, .inl x2, u3, u4, u5] [] en_zz σ
noncomputable def T_X12_sleeps_67 (n : Nat) (x1 : Int32) (x2 : Int32) (x3 : Int32) (u4 : en_V) (u5 : en_V) (σ : en_M) : en_R := LK_X12_sleeps n 67 [.inr (185, 12, 0, 0), .inl x1, .inl x2, .inl x3, u4, u5] [] en_zz σ
noncomputable def T_X12_sleeps_81 (n : Nat) (x1 : Int32) (x2 : Int32) (x3 : Int32) (x4 : Int32) (x5 : Int32) (σ : en_M) : en_R := LK_X12_sleeps n 81 [.inr (185, 12, 0, 0), .inl x1, .inl x2, .inl x3, .inl x4, .inl x5] [] en_zz σ
noncomputable def T_X12_sleeps_176 (n : Nat) (x1 : Int32) (x2 : Int32) (x3 : Int32) (u4 : en_V) (u5 : en_V) (σ : en_M) : en_R := LK_X12_sleeps n 176 [.inr (185, 12, 0, 0), .inl x1, .inl x2, .inl x3, u4, u5] [] en_zz σ
noncomputable def T_X12_sleeps_184 (n : Nat) (x1 : Int32) (x2 : Int32) (x3 : Int32) (x4 : Int32) (u5 : en_V) (σ : en_M) : en_R := LK_X12_sleeps n 184 [.inr (185, 12, 0, 0), .inl x1, .inl x2, .inl x3, .inl x4, u5] [] en_zz σ
set_option maxRecDepth 400000 in
set_option maxHeartbeats 4000000 in
theorem t_X12_sleeps_0 (x1 : Int32) (σ : en_M) : T_X12_sleeps_0 x1 σ = ((O_X12_in [.inl x1, .inl (1 : Int32), .inl (12 : Int32)] (en_up σ 185 11 (0 : Int32))).bind fun r1 => if r1.1 = 0 then (en_ri (-1 : Int32) r1.2) else (if (r1.2 185 1) = 0 then (en_ri (-1 : Int32) r1.2) else ((O_X12_layOrders [.inr (185, 12, 0, 0), .inl x1] r1.2).bind fun r2 => T_X12_sleeps_31 en_FU x1 (0 : Int32) r2))) := rfl
set_option maxRecDepth 400000 in
set_option maxHeartbeats 4000000 in
theorem t_X12_sleeps_31 (n : Nat) (x1 : Int32) (x2 : Int32) (σ : en_M) : T_X12_sleeps_31 (n + 1) x1 x2 σ = ((O_X12_everybody [.inr (185, 12, 0, 0)] σ).bind fun r3 => if r3.1 < x2 then (T_X12_sleeps_61 n x1 (x1 - (1 : Int32)) (en_un) (en_un) (en_un) r3.2) else ((en_ix ((en_shl x1 (7 : Int32)) + x2) 1664).bind fun j4 => T_X12_sleeps_31 n x1 (x2 + (1 : Int32)) (en_up r3.2 202 j4 (0 : Int32)))) := rfl
set_option maxRecDepth 400000 in
set_option maxHeartbeats 4000000 in
theorem t_X12_sleeps_61 (n : Nat) (x1 : Int32) (x2 : Int32) (u3 : en_V) (u4 : en_V) (u5 : en_V) (σ : en_M) : T_X12_sleeps_61 (n + 1) x1 x2 u3 u4 u5 σ = (if x2 < 0 then (T_X12_sleeps_176 n x1 (0 : Int32) (0 : Int32) (u4) (u5) (en_up σ 185 10 (0 : Int32))) else (T_X12_sleeps_67 n x1 x2 (0 : Int32) (u4) (u5) σ)) := rfl
set_option maxRecDepth 400000 in
set_option maxHeartbeats 4000000 in
theorem t_X12_sleeps_67 (n : Nat) (x1 : Int32) (x2 : Int32) (x3 : Int32) (u4 : en_V) (u5 : en_V) (σ : en_M) : T_X12_sleeps_67 (n + 1) x1 x2 x3 u4 u5 σ = ((O_X12_everybody [.inr (185, 12, 0, 0)] σ).bind fun r5 => if r5.1 < x3 then (T_X12_sleeps_61 n x1 (x2 + (-1 : Int32)) (.inl x3) (u4) (u5) r5.2) else (T_X12_sleeps_81 n x1 x2 x3 (-1 : Int32) (0 : Int32) r5.2)) := rfl
set_option maxRecDepth 400000 in
set_option maxHeartbeats 4000000 in
theorem t_X12_sleeps_81 (n : Nat) (x1 : Int32) (x2 : Int32) (x3 : Int32) (x4 : Int32) (x5 : Int32) (σ : en_M) : T_X12_sleeps_81 (n + 1) x1 x2 x3 x4 x5 σ = ((O_X12_everybody [.inr (185, 12, 0, 0)] σ).bind fun r6 => if r6.1 < x5 then ((en_ix ((en_shl x2 (7 : Int32)) + x3) 1664).bind fun j7 => T_X12_sleeps_67 n x1 x2 (x3 + (1 : Int32)) (.inl x4) (.inl x5) (en_up r6.2 202 j7 x4)) else (if 0 < x2 then ((O_X12_isLawful [.inr (185, 12, 0, 0), .inl x2, .inl x5, .inl x3] r6.2).bind fun r8 => if r8.1 = 0 then (T_X12_sleeps_81 n x1 x2 x3 x4 (x5 + (1 : Int32)) r8.2) else ((O_J6_bitCount_0f7a4 [.inl x5] r8.2).bind fun r9 => (en_ix ((en_shl (x2 + (1 : Int32)) (7 : Int32)) + x5) 1664).bind fun j10 => (O_J9_max_7cf53 [.inl x4, .inl (r9.1 + (r9.2 202 j10))] r9.2).bind fun r11 => T_X12_sleeps_81 n x1 x2 x3 r11.1 (x5 + (1 : Int32)) r11.2)) else (if x3 = 0 then ((O_X12_isLawful [.inr (185, 12, 0, 0), .inl x2, .inl x5, .inl x3] r6.2).bind fun r13 => if r13.1 = 0 then (T_X12_sleeps_81 n x1 x2 x3 x4 (x5 + (1 : Int32)) r13.2) else ((O_J6_bitCount_0f7a4 [.inl x5] r13.2).bind fun r14 => (en_ix ((en_shl (x2 + (1 : Int32)) (7 : Int32)) + x5) 1664).bind fun j15 => (O_J9_max_7cf53 [.inl x4, .inl (r14.1 + (r14.2 202 j15))] r14.2).bind fun r16 => T_X12_sleeps_81 n x1 x2 x3 r16.1 (x5 + (1 : Int32)) r16.2)) else ((en_ix ((en_shl x2 (7 : Int32)) + x3) 1664).bind fun j12 => T_X12_sleeps_67 n x1 x2 (x3 + (1 : Int32)) (.inl x4) (.inl x5) (en_up r6.2 202 j12 x4))))) := rfl
set_option maxRecDepth 400000 in
set_option maxHeartbeats 4000000 in
theorem t_X12_sleeps_176 (n : Nat) (x1 : Int32) (x2 : Int32) (x3 : Int32) (u4 : en_V) (u5 : en_V) (σ : en_M) : T_X12_sleeps_176 (n + 1) x1 x2 x3 u4 u5 σ = (if x3 < x1 then (T_X12_sleeps_184 n x1 x2 x3 (0 : Int32) (u5) σ) else ((en_ix (0 : Int32) 1664).bind fun j17 => en_ri (σ 202 j17) σ)) := rfl
set_option maxRecDepth 400000 in
set_option maxHeartbeats 4000000 in
theorem t_X12_sleeps_184 (n : Nat) (x1 : Int32) (x2 : Int32) (x3 : Int32) (x4 : Int32) (u5 : en_V) (σ : en_M) : T_X12_sleeps_184 (n + 1) x1 x2 x3 x4 u5 σ = ((O_X12_isLawful [.inr (185, 12, 0, 0), .inl x3, .inl x4, .inl x2] σ).bind fun r18 => if r18.1 = 0 then (T_X12_sleeps_184 n x1 x2 x3 (x4 + (1 : Int32)) (u5) r18.2) else ((O_J6_bitCount_0f7a4 [.inl x4] r18.2).bind fun r19 => (en_ix ((en_shl (x3 + (1 : Int32)) (7 : Int32)) + x4) 1664).bind fun j20 => (en_ix ((en_shl x3 (7 : Int32)) + x2) 1664).bind fun j21 => if (r19.1 + (r19.2 202 j20)) = (r19.2 202 j21) then ((O_X12_tell [.inr (185, 12, 0, 0), .inl x4] r19.2).bind fun r22 => T_X12_sleeps_176 n x1 x4 (x3 + (1 : Int32)) (.inl x4) (u5) r22) else (T_X12_sleeps_184 n x1 x2 x3 (x4 + (1 : Int32)) (u5) r19.2))) := rfl
noncomputable def P_X12_sleeps : List en_V → en_M → Option (Int32 × en_M) := fun av σ => match av with
  | [.inr (185, 12, 0, 0), .inl x1] => en_oi (T_X12_sleeps_0 x1 σ)
  | _ => none
theorem ox_X12_sleeps : ∃ f, f = P_X12_sleeps := ⟨_, rfl⟩
noncomputable def O_X12_sleeps : List en_V → en_M → Option (Int32 × en_M) := Classical.choose ox_X12_sleeps
theorem oe_X12_sleeps : O_X12_sleeps = P_X12_sleeps := Classical.choose_spec ox_X12_sleeps
theorem o_X12_sleeps (x1 : Int32) (σ : en_M) : O_X12_sleeps [.inr (185, 12, 0, 0), .inl x1] σ = en_oi (T_X12_sleeps_0 x1 σ) := by rw [oe_X12_sleeps]; rfl
theorem i_X12_sleeps (G : en_G) (hst : G.2.2.2.2.2 = true) : en_I G 4 yX12_sleeps cX12_sleeps 6 (some .int) 0 0 (en_wi (O_X12_sleeps)) := en_of_i (M := M_X12_sleeps) hst (s_X12_sleeps_0 G hst _ (l_X12_sleeps G hst en_FU)) (plainFor_of_name (by decide +kernel)) rfl rfl rfl (Or.inl ⟨rfl, rfl⟩) (fun av σ x σ' h => by
  rw [oe_X12_sleeps] at h; unfold P_X12_sleeps at h
  split at h
  · exact ⟨(Nat.le_of_ble_eq_true rfl), en_oi_some h⟩
  · cases h)
-- EachMayMissOneModel.withSet(III)I
def M_X12_withSet : en_Me := (cX12_withSet, RX12, 7, false, 2, false)
theorem cs_X12_withSet : en_cs yX12_withSet cX12_withSet 7 (some .int) 3 := ⟨wm_633, wm_337, ⟨(by decide +kernel), (by decide +kernel), (by decide +kernel)⟩, (Nat.le_of_ble_eq_true rfl)⟩
noncomputable def B_X12_withSet_56 (kc : Nat → en_B) : en_B := (op_iload 4 op_iret)
set_option maxRecDepth 20000 in
theorem s_X12_withSet_56 (G : en_G) (hst : G.2.2.2.2.2 = true) (kc : Nat → en_B) (hk : ∀ t, en_Snd G M_X12_withSet t (kc t)) : en_Snd G M_X12_withSet 56 (B_X12_withSet_56 kc) := (sn_iload (i := 4) (by decide +kernel) (sn_iret (by decide +kernel) rfl))
noncomputable def B_X12_withSet_44 (kc : Nat → en_B) : en_B := (op_iload 5 (op_const (3 : Int32) (op_bin (fun (x y : Int32) => x * y) (op_istore 5 (op_iinc 6 (1 : Int32) (kc 9))))))
set_option maxRecDepth 20000 in
theorem s_X12_withSet_44 (G : en_G) (hst : G.2.2.2.2.2 = true) (kc : Nat → en_B) (hk : ∀ t, en_Snd G M_X12_withSet t (kc t)) : en_Snd G M_X12_withSet 44 (B_X12_withSet_44 kc) := (sn_iload (i := 5) (by decide +kernel) (sn_iconst (n := 3) (v := 3) (by decide +kernel) rfl (sn_imul (by decide +kernel) (sn_istore (i := 5) (by decide +kernel) (Nat.le_of_ble_eq_true rfl) (sn_iinc (i := 6) (n := 1) (v := 1) (by decide +kernel) rfl (sn_goto (off := -44) (tgt := 9) (by decide +kernel) rfl (hk 9)))))))
noncomputable def B_X12_withSet_9 (kc : Nat → en_B) : en_B := (op_iload 6 (op_aload 0 (op_geti 12 1 (op_iclt (op_iload 2 (op_iload 6 (op_calli O_X12_has 2 (op_ifeq (B_X12_withSet_44 kc) (op_iload 1 (op_iload 5 (op_div (fun (x y : Int32) => x / y) (op_const (3 : Int32) (op_div (fun (x y : Int32) => x - x / y * y) (op_iload 3 (op_iclt (op_iload 4 (op_iload 5 (op_bin (fun (x y : Int32) => x + y) (op_istore 4 (B_X12_withSet_44 kc))))) (B_X12_withSet_44 kc)))))))))))) (B_X12_withSet_56 kc)))))
set_option maxRecDepth 20000 in
theorem s_X12_withSet_9 (G : en_G) (hst : G.2.2.2.2.2 = true) (kc : Nat → en_B) (hk : ∀ t, en_Snd G M_X12_withSet t (kc t)) : en_Snd G M_X12_withSet 9 (B_X12_withSet_9 kc) := (sn_iload (i := 6) (by decide +kernel) (sn_aload_n (i := 0) (n := 0) (by decide +kernel) rfl (sn_geti (ci := 12) (j := 1) en_c12 (by decide +kernel) wm_383 (Nat.le_of_ble_eq_true rfl) rfl (sn_icge (off := 41) (tgt := 56) (by decide +kernel) rfl (s_X12_withSet_56 G hst kc hk) (sn_iload_n (i := 2) (n := 2) (by decide +kernel) rfl (sn_iload (i := 6) (by decide +kernel) (sn_callSi (n := 2) (idx := 198) (i_X12_has G hst) (Nat.le_of_ble_eq_true rfl) cs_X12_has ⟨wm_372, Or.inl wm_483⟩ (by decide +kernel) (sn_ifeq (off := 20) (tgt := 44) (by decide +kernel) rfl (s_X12_withSet_44 G hst kc hk) (sn_iload_n (i := 1) (n := 1) (by decide +kernel) rfl (sn_iload (i := 5) (by decide +kernel) (sn_idiv (by decide +kernel) (sn_iconst (n := 3) (v := 3) (by decide +kernel) rfl (sn_irem (by decide +kernel) (sn_iload_n (i := 3) (n := 3) (by decide +kernel) rfl (sn_icge (off := 10) (tgt := 44) (by decide +kernel) rfl (s_X12_withSet_44 G hst kc hk) (sn_iload (i := 4) (by decide +kernel) (sn_iload (i := 5) (by decide +kernel) (sn_iadd (by decide +kernel) (sn_istore (i := 4) (by decide +kernel) (Nat.le_of_ble_eq_true rfl) (s_X12_withSet_44 G hst kc hk))))))))))))))))))))
noncomputable def B_X12_withSet_0 (kc : Nat → en_B) : en_B := (op_iload 1 (op_istore 4 (op_const (1 : Int32) (op_istore 5 (op_const (0 : Int32) (op_istore 6 (kc 9)))))))
set_option maxRecDepth 20000 in
theorem s_X12_withSet_0 (G : en_G) (hst : G.2.2.2.2.2 = true) (kc : Nat → en_B) (hk : ∀ t, en_Snd G M_X12_withSet t (kc t)) : en_Snd G M_X12_withSet 0 (B_X12_withSet_0 kc) := (sn_iload_n (i := 1) (n := 1) (by decide +kernel) rfl (sn_istore (i := 4) (by decide +kernel) (Nat.le_of_ble_eq_true rfl) (sn_iconst (n := 1) (v := 1) (by decide +kernel) rfl (sn_istore (i := 5) (by decide +kernel) (Nat.le_of_ble_eq_true rfl) (sn_iconst (n := 0) (v := 0) (by decide +kernel) rfl (sn_istore (i := 6) (by decide +kernel) (Nat.le_of_ble_eq_true rfl) (hk 9)))))))
noncomputable def LK_X12_withSet : Nat → Nat → en_B
  | 0, _ => en_no
  | n + 1, t => if t = 9 then B_X12_withSet_9 (LK_X12_withSet n) else en_no
theorem l_X12_withSet (G : en_G) (hst : G.2.2.2.2.2 = true) : ∀ n t, en_Snd G M_X12_withSet t (LK_X12_withSet n t)
  | 0, _ => sn_no
  | n + 1, t => by
    show en_Snd G M_X12_withSet t (if t = 9 then B_X12_withSet_9 (LK_X12_withSet n) else en_no)
    by_cases h_9 : t = 9
    · rw [if_pos h_9, h_9]; exact s_X12_withSet_9 G hst _ (l_X12_withSet G hst n)
    rw [if_neg h_9]
    exact sn_no
noncomputable def T_X12_withSet_0 (x1 : Int32) (x2 : Int32) (x3 : Int32) (σ : en_M) : en_R := B_X12_withSet_0 (LK_X12_withSet en_FU) [.inr (185, 12, 0, 0), .inl x1, .inl x2, .inl x3, en_un, en_un, en_un] [] en_zz σ
noncomputable def T_X12_withSet_9 (n : Nat) (x1 : Int32) (x2 : Int32) (x3 : Int32) (x4 : Int32) (x5 : Int32) (x6 : Int32) (σ : en_M) : en_R := LK_X12_withSet n 9 [.inr (185, 12, 0, 0), .inl x1, .inl x2, .inl x3, .inl x4, .inl x5, .inl x6] [] en_zz σ
set_option maxRecDepth 400000 in
set_option maxHeartbeats 4000000 in
theorem t_X12_withSet_0 (x1 : Int32) (x2 : Int32) (x3 : Int32) (σ : en_M) : T_X12_withSet_0 x1 x2 x3 σ = (T_X12_withSet_9 en_FU x1 x2 x3 x1 (1 : Int32) (0 : Int32) σ) := rfl
set_option maxRecDepth 400000 in
set_option maxHeartbeats 4000000 in
theorem t_X12_withSet_9 (n : Nat) (x1 : Int32) (x2 : Int32) (x3 : Int32) (x4 : Int32) (x5 : Int32) (x6 : Int32) (σ : en_M) : T_X12_withSet_9 (n + 1) x1 x2 x3 x4 x5 x6 σ = (if x6 < (σ 185 1) then ((O_X12_has [.inl x2, .inl x6] σ).bind fun r1 => if r1.1 = 0 then (T_X12_withSet_9 n x1 x2 x3 x4 (x5 * (3 : Int32)) (x6 + (1 : Int32)) r1.2) else (if x5 = 0 then none else (if (3 : Int32) = 0 then none else (if ((x1 / x5) - (x1 / x5) / (3 : Int32) * (3 : Int32)) < x3 then (T_X12_withSet_9 n x1 x2 x3 (x4 + x5) (x5 * (3 : Int32)) (x6 + (1 : Int32)) r1.2) else (T_X12_withSet_9 n x1 x2 x3 x4 (x5 * (3 : Int32)) (x6 + (1 : Int32)) r1.2))))) else (en_ri x4 σ)) := rfl
noncomputable def P_X12_withSet : List en_V → en_M → Option (Int32 × en_M) := fun av σ => match av with
  | [.inr (185, 12, 0, 0), .inl x1, .inl x2, .inl x3] => en_oi (T_X12_withSet_0 x1 x2 x3 σ)
  | _ => none
theorem ox_X12_withSet : ∃ f, f = P_X12_withSet := ⟨_, rfl⟩
noncomputable def O_X12_withSet : List en_V → en_M → Option (Int32 × en_M) := Classical.choose ox_X12_withSet
theorem oe_X12_withSet : O_X12_withSet = P_X12_withSet := Classical.choose_spec ox_X12_withSet
theorem o_X12_withSet (x1 : Int32) (x2 : Int32) (x3 : Int32) (σ : en_M) : O_X12_withSet [.inr (185, 12, 0, 0), .inl x1, .inl x2, .inl x3] σ = en_oi (T_X12_withSet_0 x1 x2 x3 σ) := by rw [oe_X12_withSet]; rfl
theorem i_X12_withSet (G : en_G) (hst : G.2.2.2.2.2 = true) : en_I G 2 yX12_withSet cX12_withSet 7 (some .int) 0 0 (en_wi (O_X12_withSet)) := en_of_i (M := M_X12_withSet) hst (s_X12_withSet_0 G hst _ (l_X12_withSet G hst en_FU)) (plainFor_of_name (by decide +kernel)) rfl rfl rfl (Or.inl ⟨rfl, rfl⟩) (fun av σ x σ' h => by
  rw [oe_X12_withSet] at h; unfold P_X12_withSet at h
  split at h
  · exact ⟨(Nat.le_of_ble_eq_true rfl), en_oi_some h⟩
  · cases h)
