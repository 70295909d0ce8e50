-- EachMayMissOneModel.drink([II)I
def M_X12_drink : en_Me := (cX12_drink, RX12, 2, false, 2, false)
theorem cs_X12_drink : en_cs yX12_drink cX12_drink 2 (some .int) 2 := ⟨wm_546, wm_337, ⟨(by decide +kernel), (by decide +kernel), (by decide +kernel)⟩, (Nat.le_of_ble_eq_true rfl)⟩
noncomputable def B_X12_drink_0 (kc : Nat → en_B) : en_B := (op_aload 0 (op_const (7 : Int32) (op_iload 1 (op_bin (fun (x y : Int32) => x + y) (op_const (0 : Int32) (op_aload 0 (op_const (7 : Int32) (op_iload 1 (op_bin (fun (x y : Int32) => x + y) (op_ald 20 (op_const (10 : Int32) (op_bin (fun (x y : Int32) => x - y) (op_calli O_J9_max_7cf53 2 (op_ast 20 (fun (x : Int32) => x) (op_aload 0 (op_const (7 : Int32) (op_iload 1 (op_bin (fun (x y : Int32) => x + y) (op_ald 20 op_iret)))))))))))))))))))
set_option maxRecDepth 20000 in
theorem s_X12_drink_0 (G : en_G) (hst : G.2.2.2.2.2 = true) (kc : Nat → en_B) (hk : ∀ t, en_Snd G M_X12_drink t (kc t)) : en_Snd G M_X12_drink 0 (B_X12_drink_0 kc) := (sn_aload_n (i := 0) (n := 0) (by decide +kernel) rfl (sn_bipush (n := 7) (v := 7) (by decide +kernel) rfl (sn_iload_n (i := 1) (n := 1) (by decide +kernel) rfl (sn_iadd (by decide +kernel) (sn_iconst (n := 0) (v := 0) (by decide +kernel) rfl (sn_aload_n (i := 0) (n := 0) (by decide +kernel) rfl (sn_bipush (n := 7) (v := 7) (by decide +kernel) rfl (sn_iload_n (i := 1) (n := 1) (by decide +kernel) rfl (sn_iadd (by decide +kernel) (sn_iald (by decide +kernel) (sn_bipush (n := 10) (v := 10) (by decide +kernel) rfl (sn_isub (by decide +kernel) (sn_callSi (n := 2) (idx := 159) (i_J9_max_7cf53 G hst) (Nat.le_of_ble_eq_true rfl) cs_J9_max_7cf53 ⟨wm_267, Or.inl wm_446⟩ (by decide +kernel) (sn_iast (by decide +kernel) (sn_aload_n (i := 0) (n := 0) (by decide +kernel) rfl (sn_bipush (n := 7) (v := 7) (by decide +kernel) rfl (sn_iload_n (i := 1) (n := 1) (by decide +kernel) rfl (sn_iadd (by decide +kernel) (sn_iald (by decide +kernel) (sn_iret (by decide +kernel) rfl))))))))))))))))))))
noncomputable def LK_X12_drink : Nat → Nat → en_B
  | 0, _ => en_no
  | n + 1, t => en_no
theorem l_X12_drink (G : en_G) (hst : G.2.2.2.2.2 = true) : ∀ n t, en_Snd G M_X12_drink t (LK_X12_drink n t)
  | 0, _ => sn_no
  | n + 1, t => by
    show en_Snd G M_X12_drink t (en_no)
    exact sn_no
noncomputable def T_X12_drink_0 (k0 : Nat) (x1 : Int32) (σ : en_M) : en_R := B_X12_drink_0 (LK_X12_drink en_FU) [.inr (k0, 20, 53, 0), .inl x1] [] en_zz σ
set_option maxRecDepth 20000 in
set_option maxHeartbeats 2000000 in
theorem t_X12_drink_0 (k0 : Nat) (x1 : Int32) (σ : en_M) : T_X12_drink_0 k0 x1 σ = ((en_ix ((7 : Int32) + x1) 53).bind fun j1 => (O_J9_max_7cf53 [.inl (0 : Int32), .inl ((σ k0 j1) - (10 : Int32))] σ).bind fun r2 => (en_ix ((7 : Int32) + x1) 53).bind fun j3 => (en_ix ((7 : Int32) + x1) 53).bind fun j4 => en_ri ((en_up r2.2 k0 j3 r2.1) k0 j4) (en_up r2.2 k0 j3 r2.1)) := rfl
noncomputable def P_X12_drink : List en_V → en_M → Option (Int32 × en_M) := fun av σ => match av with
  | [.inr (k0, 20, 53, 0), .inl x1] => en_oi (T_X12_drink_0 k0 x1 σ)
  | _ => none
theorem ox_X12_drink : ∃ f, f = P_X12_drink := ⟨_, rfl⟩
noncomputable def O_X12_drink : List en_V → en_M → Option (Int32 × en_M) := Classical.choose ox_X12_drink
theorem oe_X12_drink : O_X12_drink = P_X12_drink := Classical.choose_spec ox_X12_drink
theorem o_X12_drink (k0 : Nat) (x1 : Int32) (σ : en_M) : O_X12_drink [.inr (k0, 20, 53, 0), .inl x1] σ = en_oi (T_X12_drink_0 k0 x1 σ) := by rw [oe_X12_drink]; rfl
theorem i_X12_drink (G : en_G) (hst : G.2.2.2.2.2 = true) : en_I G 2 yX12_drink cX12_drink 2 (some .int) 0 0 (en_wi (O_X12_drink)) := en_of_i (M := M_X12_drink) hst (s_X12_drink_0 G hst _ (l_X12_drink G hst en_FU)) (plainFor_of_name (by decide +kernel)) rfl rfl rfl (Or.inl ⟨rfl, rfl⟩) (fun av σ x σ' h => by
  rw [oe_X12_drink] at h; unfold P_X12_drink at h
  split at h
  · exact ⟨(Nat.le_of_ble_eq_true rfl), en_oi_some h⟩
  · cases h)
-- EachMayMissOneModel.beer(I)I
def M_X12_beer : en_Me := (cX12_beer, RX12, 2, false, 3, false)
theorem cs_X12_beer : en_cs yX12_beer cX12_beer 2 (some .int) 1 := ⟨wm_548, wm_337, ⟨(by decide +kernel), (by decide +kernel), (by decide +kernel)⟩, (Nat.le_of_ble_eq_true rfl)⟩
noncomputable def B_X12_beer_15 (kc : Nat → en_B) : en_B := (op_aload 0 (op_aload 0 (op_gets 12 1 (20, 53, 0) (op_rcv 12 1 (op_callv O_X12_remember 2 (op_aload 0 (op_gets 12 1 (20, 53, 0) (op_iload 1 (op_calli O_X12_drink 2 op_iret)))))))))
set_option maxRecDepth 20000 in
theorem s_X12_beer_15 (G : en_G) (hst : G.2.2.2.2.2 = true) (kc : Nat → en_B) (hk : ∀ t, en_Snd G M_X12_beer t (kc t)) : en_Snd G M_X12_beer 15 (B_X12_beer_15 kc) := (sn_aload_n (i := 0) (n := 0) (by decide +kernel) rfl (sn_aload_n (i := 0) (n := 0) (by decide +kernel) rfl (sn_gets (ci := 12) (j := 0) (off := 1) hst en_c12 of_12_1 (Nat.le_of_ble_eq_true rfl) (by decide +kernel) wm_339 (Nat.le_of_ble_eq_true rfl) rfl (sn_callVv (n := 1) (idx := 244) (ci := 12) (i_X12_remember G hst) (Nat.le_of_ble_eq_true rfl) cs_X12_remember ⟨wm_504, wm_505, wm_534⟩ ⟨⟨_, rfl, rfl⟩, (Nat.le_of_ble_eq_true rfl)⟩ (by decide +kernel) (sn_aload_n (i := 0) (n := 0) (by decide +kernel) rfl (sn_gets (ci := 12) (j := 0) (off := 1) hst en_c12 of_12_1 (Nat.le_of_ble_eq_true rfl) (by decide +kernel) wm_339 (Nat.le_of_ble_eq_true rfl) rfl (sn_iload_n (i := 1) (n := 1) (by decide +kernel) rfl (sn_callSi (n := 2) (idx := 263) (i_X12_drink G hst) (Nat.le_of_ble_eq_true rfl) cs_X12_drink ⟨wm_547, Or.inl wm_551⟩ (by decide +kernel) (sn_iret (by decide +kernel) rfl)))))))))
noncomputable def B_X12_beer_0 (kc : Nat → en_B) : en_B := (op_aload 0 (op_const (0 : Int32) (op_puti 12 11 (op_aload 0 (op_iload 1 (op_rcv 12 1 (op_calli O_X12_isOne 2 (op_ifeq (op_const (-1 : Int32) op_iret) (B_X12_beer_15 kc)))))))))
set_option maxRecDepth 20000 in
theorem s_X12_beer_0 (G : en_G) (hst : G.2.2.2.2.2 = true) (kc : Nat → en_B) (hk : ∀ t, en_Snd G M_X12_beer t (kc t)) : en_Snd G M_X12_beer 0 (B_X12_beer_0 kc) := (sn_aload_n (i := 0) (n := 0) (by decide +kernel) rfl (sn_iconst (n := 0) (v := 0) (by decide +kernel) rfl (sn_puti (ci := 12) (j := 11) en_c12 (by decide +kernel) wm_368 (Nat.le_of_ble_eq_true rfl) rfl rfl rfl (sn_aload_n (i := 0) (n := 0) (by decide +kernel) rfl (sn_iload_n (i := 1) (n := 1) (by decide +kernel) rfl (sn_callVi (n := 1) (idx := 104) (ci := 12) (i_X12_isOne G hst) (Nat.le_of_ble_eq_true rfl) cs_X12_isOne ⟨wm_381, wm_382, wm_388⟩ ⟨⟨_, rfl, rfl⟩, (Nat.le_of_ble_eq_true rfl)⟩ (by decide +kernel) (sn_ifne (off := 5) (tgt := 15) (by decide +kernel) rfl (s_X12_beer_15 G hst kc hk) (sn_iconst (n := -1) (v := -1) (by decide +kernel) rfl (sn_iret (by decide +kernel) rfl)))))))))
noncomputable def LK_X12_beer : Nat → Nat → en_B
  | 0, _ => en_no
  | n + 1, t => en_no
theorem l_X12_beer (G : en_G) (hst : G.2.2.2.2.2 = true) : ∀ n t, en_Snd G M_X12_beer t (LK_X12_beer n t)
  | 0, _ => sn_no
  | n + 1, t => by
    show en_Snd G M_X12_beer t (en_no)
    exact sn_no
noncomputable def T_X12_beer_0 (x1 : Int32) (σ : en_M) : en_R := B_X12_beer_0 (LK_X12_beer en_FU) [.inr (185, 12, 0, 0), .inl x1] [] en_zz σ
set_option maxRecDepth 20000 in
set_option maxHeartbeats 2000000 in
theorem t_X12_beer_0 (x1 : Int32) (σ : en_M) : T_X12_beer_0 x1 σ = ((O_X12_isOne [.inr (185, 12, 0, 0), .inl x1] (en_up σ 185 11 (0 : Int32))).bind fun r1 => if r1.1 = 0 then (en_ri (-1 : Int32) r1.2) else ((O_X12_remember [.inr (185, 12, 0, 0), .inr (186, 20, 53, 0)] r1.2).bind fun r2 => (O_X12_drink [.inr (186, 20, 53, 0), .inl x1] r2).bind fun r3 => en_ri r3.1 r3.2)) := rfl
noncomputable def P_X12_beer : List en_V → en_M → Option (Int32 × en_M) := fun av σ => match av with
  | [.inr (185, 12, 0, 0), .inl x1] => en_oi (T_X12_beer_0 x1 σ)
  | _ => none
theorem ox_X12_beer : ∃ f, f = P_X12_beer := ⟨_, rfl⟩
noncomputable def O_X12_beer : List en_V → en_M → Option (Int32 × en_M) := Classical.choose ox_X12_beer
theorem oe_X12_beer : O_X12_beer = P_X12_beer := Classical.choose_spec ox_X12_beer
theorem o_X12_beer (x1 : Int32) (σ : en_M) : O_X12_beer [.inr (185, 12, 0, 0), .inl x1] σ = en_oi (T_X12_beer_0 x1 σ) := by rw [oe_X12_beer]; rfl
theorem i_X12_beer (G : en_G) (hst : G.2.2.2.2.2 = true) : en_I G 3 yX12_beer cX12_beer 2 (some .int) 0 0 (en_wi (O_X12_beer)) := en_of_i (M := M_X12_beer) hst (s_X12_beer_0 G hst _ (l_X12_beer G hst en_FU)) (plainFor_of_name (by decide +kernel)) rfl rfl rfl (Or.inl ⟨rfl, rfl⟩) (fun av σ x σ' h => by
  rw [oe_X12_beer] at h; unfold P_X12_beer at h
  split at h
  · exact ⟨(Nat.le_of_ble_eq_true rfl), en_oi_some h⟩
  · cases h)
-- EachMayMissOneModel.readAct(I)V
def M_X12_readAct : en_Me := (cX12_readAct, RX12, 4, false, 5, false)
theorem cs_X12_readAct : en_cs yX12_readAct cX12_readAct 4 none 1 := ⟨wm_557, wm_337, ⟨(by decide +kernel), (by decide +kernel), (by decide +kernel)⟩, (Nat.le_of_ble_eq_true rfl)⟩
noncomputable def B_X12_readAct_179 (kc : Nat → en_B) : en_B := op_vret
set_option maxRecDepth 20000 in
theorem s_X12_readAct_179 (G : en_G) (hst : G.2.2.2.2.2 = true) (kc : Nat → en_B) (hk : ∀ t, en_Snd G M_X12_readAct t (kc t)) : en_Snd G M_X12_readAct 179 (B_X12_readAct_179 kc) := (sn_vret (by decide +kernel))
noncomputable def B_X12_readAct_162 (kc : Nat → en_B) : en_B := (op_aload 0 (op_gets 12 11 (20, 160, 0) (op_iload 1 (op_const (1 : Int32) (op_bin (fun (x y : Int32) => x + y) (op_dup2 (op_ald 20 (op_const (1 : Int32) (op_iload 3 (op_bin en_shl (op_bin (fun (x y : Int32) => x ||| y) (op_ast 20 (fun (x : Int32) => x) (kc 89)))))))))))))
set_option maxRecDepth 20000 in
theorem s_X12_readAct_162 (G : en_G) (hst : G.2.2.2.2.2 = true) (kc : Nat → en_B) (hk : ∀ t, en_Snd G M_X12_readAct t (kc t)) : en_Snd G M_X12_readAct 162 (B_X12_readAct_162 kc) := (sn_aload_n (i := 0) (n := 0) (by decide +kernel) rfl (sn_gets (ci := 12) (j := 29) (off := 11) hst en_c12 of_12_11 (Nat.le_of_ble_eq_true rfl) (by decide +kernel) wm_352 (Nat.le_of_ble_eq_true rfl) rfl (sn_iload_n (i := 1) (n := 1) (by decide +kernel) rfl (sn_iconst (n := 1) (v := 1) (by decide +kernel) rfl (sn_iadd (by decide +kernel) (sn_dup2 (by decide +kernel) (sn_iald (by decide +kernel) (sn_iconst (n := 1) (v := 1) (by decide +kernel) rfl (sn_iload_n (i := 3) (n := 3) (by decide +kernel) rfl (sn_ishl (by decide +kernel) (sn_ior (by decide +kernel) (sn_iast (by decide +kernel) (sn_goto (off := -87) (tgt := 89) (by decide +kernel) rfl (hk 89))))))))))))))
noncomputable def B_X12_readAct_121 (kc : Nat → en_B) : en_B := (op_aload 0 (op_geti 12 15 (op_istore 2 (op_aload 0 (op_const (97 : Int32) (op_const (7 : Int32) (op_rcv 12 2 (op_calli O_X12_oneOf 3 (op_istore 3 (op_aload 0 (op_rcv 12 0 (op_calli O_X12_fine 1 (op_ifeq (B_X12_readAct_162 kc) (op_aload 0 (op_gets 12 11 (20, 160, 0) (op_iload 1 (op_const (1 : Int32) (op_bin (fun (x y : Int32) => x + y) (op_ald 20 (op_iload 3 (op_calli O_X12_has 2 (op_ifeq (B_X12_readAct_162 kc) (op_aload 0 (op_iload 2 (op_rcv 12 1 (op_callv O_X12_fault 2 (B_X12_readAct_162 kc)))))))))))))))))))))))))))
set_option maxRecDepth 20000 in
theorem s_X12_readAct_121 (G : en_G) (hst : G.2.2.2.2.2 = true) (kc : Nat → en_B) (hk : ∀ t, en_Snd G M_X12_readAct t (kc t)) : en_Snd G M_X12_readAct 121 (B_X12_readAct_121 kc) := (sn_aload_n (i := 0) (n := 0) (by decide +kernel) rfl (sn_geti (ci := 12) (j := 15) en_c12 (by decide +kernel) wm_409 (Nat.le_of_ble_eq_true rfl) rfl (sn_istore_n (i := 2) (n := 2) (by decide +kernel) rfl (Nat.le_of_ble_eq_true rfl) (sn_aload_n (i := 0) (n := 0) (by decide +kernel) rfl (sn_bipush (n := 97) (v := 97) (by decide +kernel) rfl (sn_bipush (n := 7) (v := 7) (by decide +kernel) rfl (sn_callVi (n := 2) (idx := 141) (ci := 12) (i_X12_oneOf G hst) (Nat.le_of_ble_eq_true rfl) cs_X12_oneOf ⟨wm_426, wm_427, wm_432⟩ ⟨⟨_, rfl, rfl⟩, (Nat.le_of_ble_eq_true rfl)⟩ (by decide +kernel) (sn_istore_n (i := 3) (n := 3) (by decide +kernel) rfl (Nat.le_of_ble_eq_true rfl) (sn_aload_n (i := 0) (n := 0) (by decide +kernel) rfl (sn_callVi (n := 0) (idx := 130) (ci := 12) (i_X12_fine G hst) (Nat.le_of_ble_eq_true rfl) cs_X12_fine ⟨wm_415, wm_416, wm_420⟩ ⟨⟨_, rfl, rfl⟩, (Nat.le_of_ble_eq_true rfl)⟩ (by decide +kernel) (sn_ifeq (off := 23) (tgt := 162) (by decide +kernel) rfl (s_X12_readAct_162 G hst kc hk) (sn_aload_n (i := 0) (n := 0) (by decide +kernel) rfl (sn_gets (ci := 12) (j := 29) (off := 11) hst en_c12 of_12_11 (Nat.le_of_ble_eq_true rfl) (by decide +kernel) wm_352 (Nat.le_of_ble_eq_true rfl) rfl (sn_iload_n (i := 1) (n := 1) (by decide +kernel) rfl (sn_iconst (n := 1) (v := 1) (by decide +kernel) rfl (sn_iadd (by decide +kernel) (sn_iald (by decide +kernel) (sn_iload_n (i := 3) (n := 3) (by decide +kernel) rfl (sn_callSi (n := 2) (idx := 198) (i_X12_has G hst) (Nat.le_of_ble_eq_true rfl) cs_X12_has ⟨wm_372, Or.inl wm_483⟩ (by decide +kernel) (sn_ifeq (off := 8) (tgt := 162) (by decide +kernel) rfl (s_X12_readAct_162 G hst kc hk) (sn_aload_n (i := 0) (n := 0) (by decide +kernel) rfl (sn_iload_n (i := 2) (n := 2) (by decide +kernel) rfl (sn_callVv (n := 1) (idx := 137) (ci := 12) (i_X12_fault G hst) (Nat.le_of_ble_eq_true rfl) cs_X12_fault ⟨wm_418, wm_419, wm_428⟩ ⟨⟨_, rfl, rfl⟩, (Nat.le_of_ble_eq_true rfl)⟩ (by decide +kernel) (s_X12_readAct_162 G hst kc hk))))))))))))))))))))))))
noncomputable def B_X12_readAct_89 (kc : Nat → en_B) : en_B := (op_aload 0 (op_rcv 12 0 (op_calli O_X12_fine 1 (op_ifeq (B_X12_readAct_179 kc) (op_aload 0 (op_gets 12 11 (20, 160, 0) (op_iload 1 (op_const (1 : Int32) (op_bin (fun (x y : Int32) => x + y) (op_ald 20 (op_ifeq (B_X12_readAct_121 kc) (op_aload 0 (op_rcv 12 0 (op_calli O_X12_here 1 (op_const (97 : Int32) (op_const (103 : Int32) (op_calli O_X12_in 3 (op_ifeq (B_X12_readAct_179 kc) (B_X12_readAct_121 kc)))))))))))))))))))
set_option maxRecDepth 20000 in
theorem s_X12_readAct_89 (G : en_G) (hst : G.2.2.2.2.2 = true) (kc : Nat → en_B) (hk : ∀ t, en_Snd G M_X12_readAct t (kc t)) : en_Snd G M_X12_readAct 89 (B_X12_readAct_89 kc) := (sn_aload_n (i := 0) (n := 0) (by decide +kernel) rfl (sn_callVi (n := 0) (idx := 130) (ci := 12) (i_X12_fine G hst) (Nat.le_of_ble_eq_true rfl) cs_X12_fine ⟨wm_415, wm_416, wm_420⟩ ⟨⟨_, rfl, rfl⟩, (Nat.le_of_ble_eq_true rfl)⟩ (by decide +kernel) (sn_ifeq (off := 86) (tgt := 179) (by decide +kernel) rfl (s_X12_readAct_179 G hst kc hk) (sn_aload_n (i := 0) (n := 0) (by decide +kernel) rfl (sn_gets (ci := 12) (j := 29) (off := 11) hst en_c12 of_12_11 (Nat.le_of_ble_eq_true rfl) (by decide +kernel) wm_352 (Nat.le_of_ble_eq_true rfl) rfl (sn_iload_n (i := 1) (n := 1) (by decide +kernel) rfl (sn_iconst (n := 1) (v := 1) (by decide +kernel) rfl (sn_iadd (by decide +kernel) (sn_iald (by decide +kernel) (sn_ifeq (off := 17) (tgt := 121) (by decide +kernel) rfl (s_X12_readAct_121 G hst kc hk) (sn_aload_n (i := 0) (n := 0) (by decide +kernel) rfl (sn_callVi (n := 0) (idx := 134) (ci := 12) (i_X12_here G hst) (Nat.le_of_ble_eq_true rfl) cs_X12_here ⟨wm_412, wm_413, wm_424⟩ ⟨⟨_, rfl, rfl⟩, (Nat.le_of_ble_eq_true rfl)⟩ (by decide +kernel) (sn_bipush (n := 97) (v := 97) (by decide +kernel) rfl (sn_bipush (n := 103) (v := 103) (by decide +kernel) rfl (sn_callSi (n := 3) (idx := 100) (i_X12_in G hst) (Nat.le_of_ble_eq_true rfl) cs_X12_in ⟨wm_370, Or.inl wm_384⟩ (by decide +kernel) (sn_ifeq (off := 61) (tgt := 179) (by decide +kernel) rfl (s_X12_readAct_179 G hst kc hk) (s_X12_readAct_121 G hst kc hk)))))))))))))))))
noncomputable def B_X12_readAct_56 (kc : Nat → en_B) : en_B := (op_aload 0 (op_const (33 : Int32) (op_rcv 12 1 (op_calli O_X12_passes 2 (op_ifeq (kc 89) (op_aload 0 (op_gets 12 11 (20, 160, 0) (op_iload 1 (op_const (2 : Int32) (op_ast 20 (fun (x : Int32) => x) (op_aload 0 (op_gets 12 11 (20, 160, 0) (op_iload 1 (op_const (1 : Int32) (op_bin (fun (x y : Int32) => x + y) (op_aload 0 (op_const (97 : Int32) (op_const (7 : Int32) (op_rcv 12 2 (op_calli O_X12_oneOf 3 (op_ast 20 (fun (x : Int32) => x) op_vret)))))))))))))))))))))
set_option maxRecDepth 20000 in
theorem s_X12_readAct_56 (G : en_G) (hst : G.2.2.2.2.2 = true) (kc : Nat → en_B) (hk : ∀ t, en_Snd G M_X12_readAct t (kc t)) : en_Snd G M_X12_readAct 56 (B_X12_readAct_56 kc) := (sn_aload_n (i := 0) (n := 0) (by decide +kernel) rfl (sn_bipush (n := 33) (v := 33) (by decide +kernel) rfl (sn_callVi (n := 1) (idx := 148) (ci := 12) (i_X12_passes G hst) (Nat.le_of_ble_eq_true rfl) cs_X12_passes ⟨wm_422, wm_423, wm_440⟩ ⟨⟨_, rfl, rfl⟩, (Nat.le_of_ble_eq_true rfl)⟩ (by decide +kernel) (sn_ifeq (off := 27) (tgt := 89) (by decide +kernel) rfl (hk 89) (sn_aload_n (i := 0) (n := 0) (by decide +kernel) rfl (sn_gets (ci := 12) (j := 29) (off := 11) hst en_c12 of_12_11 (Nat.le_of_ble_eq_true rfl) (by decide +kernel) wm_352 (Nat.le_of_ble_eq_true rfl) rfl (sn_iload_n (i := 1) (n := 1) (by decide +kernel) rfl (sn_iconst (n := 2) (v := 2) (by decide +kernel) rfl (sn_iast (by decide +kernel) (sn_aload_n (i := 0) (n := 0) (by decide +kernel) rfl (sn_gets (ci := 12) (j := 29) (off := 11) hst en_c12 of_12_11 (Nat.le_of_ble_eq_true rfl) (by decide +kernel) wm_352 (Nat.le_of_ble_eq_true rfl) rfl (sn_iload_n (i := 1) (n := 1) (by decide +kernel) rfl (sn_iconst (n := 1) (v := 1) (by decide +kernel) rfl (sn_iadd (by decide +kernel) (sn_aload_n (i := 0) (n := 0) (by decide +kernel) rfl (sn_bipush (n := 97) (v := 97) (by decide +kernel) rfl (sn_bipush (n := 7) (v := 7) (by decide +kernel) rfl (sn_callVi (n := 2) (idx := 141) (ci := 12) (i_X12_oneOf G hst) (Nat.le_of_ble_eq_true rfl) cs_X12_oneOf ⟨wm_426, wm_427, wm_432⟩ ⟨⟨_, rfl, rfl⟩, (Nat.le_of_ble_eq_true rfl)⟩ (by decide +kernel) (sn_iast (by decide +kernel) (sn_vret (by decide +kernel)))))))))))))))))))))
noncomputable def B_X12_readAct_26 (kc : Nat → en_B) : en_B := (op_aload 0 (op_const (114 : Int32) (op_rcv 12 1 (op_calli O_X12_passes 2 (op_ifeq (B_X12_readAct_56 kc) (op_aload 0 (op_gets 12 11 (20, 160, 0) (op_iload 1 (op_const (1 : Int32) (op_ast 20 (fun (x : Int32) => x) (op_aload 0 (op_gets 12 11 (20, 160, 0) (op_iload 1 (op_const (1 : Int32) (op_bin (fun (x y : Int32) => x + y) (op_aload 0 (op_const (2 : Int32) (op_rcv 12 1 (op_calli O_X12_number 2 (op_ast 20 (fun (x : Int32) => x) op_vret))))))))))))))))))))
set_option maxRecDepth 20000 in
theorem s_X12_readAct_26 (G : en_G) (hst : G.2.2.2.2.2 = true) (kc : Nat → en_B) (hk : ∀ t, en_Snd G M_X12_readAct t (kc t)) : en_Snd G M_X12_readAct 26 (B_X12_readAct_26 kc) := (sn_aload_n (i := 0) (n := 0) (by decide +kernel) rfl (sn_bipush (n := 114) (v := 114) (by decide +kernel) rfl (sn_callVi (n := 1) (idx := 148) (ci := 12) (i_X12_passes G hst) (Nat.le_of_ble_eq_true rfl) cs_X12_passes ⟨wm_422, wm_423, wm_440⟩ ⟨⟨_, rfl, rfl⟩, (Nat.le_of_ble_eq_true rfl)⟩ (by decide +kernel) (sn_ifeq (off := 24) (tgt := 56) (by decide +kernel) rfl (s_X12_readAct_56 G hst kc hk) (sn_aload_n (i := 0) (n := 0) (by decide +kernel) rfl (sn_gets (ci := 12) (j := 29) (off := 11) hst en_c12 of_12_11 (Nat.le_of_ble_eq_true rfl) (by decide +kernel) wm_352 (Nat.le_of_ble_eq_true rfl) rfl (sn_iload_n (i := 1) (n := 1) (by decide +kernel) rfl (sn_iconst (n := 1) (v := 1) (by decide +kernel) rfl (sn_iast (by decide +kernel) (sn_aload_n (i := 0) (n := 0) (by decide +kernel) rfl (sn_gets (ci := 12) (j := 29) (off := 11) hst en_c12 of_12_11 (Nat.le_of_ble_eq_true rfl) (by decide +kernel) wm_352 (Nat.le_of_ble_eq_true rfl) rfl (sn_iload_n (i := 1) (n := 1) (by decide +kernel) rfl (sn_iconst (n := 1) (v := 1) (by decide +kernel) rfl (sn_iadd (by decide +kernel) (sn_aload_n (i := 0) (n := 0) (by decide +kernel) rfl (sn_iconst (n := 2) (v := 2) (by decide +kernel) rfl (sn_callVi (n := 1) (idx := 178) (ci := 12) (i_X12_number G hst) (Nat.le_of_ble_eq_true rfl) cs_X12_number ⟨wm_430, wm_431, wm_465⟩ ⟨⟨_, rfl, rfl⟩, (Nat.le_of_ble_eq_true rfl)⟩ (by decide +kernel) (sn_iast (by decide +kernel) (sn_vret (by decide +kernel))))))))))))))))))))
noncomputable def B_X12_readAct_0 (kc : Nat → en_B) : en_B := (op_aload 0 (op_gets 12 11 (20, 160, 0) (op_iload 1 (op_const (0 : Int32) (op_ast 20 (fun (x : Int32) => x) (op_aload 0 (op_gets 12 11 (20, 160, 0) (op_iload 1 (op_const (1 : Int32) (op_bin (fun (x y : Int32) => x + y) (op_const (0 : Int32) (op_ast 20 (fun (x : Int32) => x) (op_aload 0 (op_const (45 : Int32) (op_rcv 12 1 (op_calli O_X12_passes 2 (op_ifeq (B_X12_readAct_26 kc) op_vret)))))))))))))))))
set_option maxRecDepth 20000 in
theorem s_X12_readAct_0 (G : en_G) (hst : G.2.2.2.2.2 = true) (kc : Nat → en_B) (hk : ∀ t, en_Snd G M_X12_readAct t (kc t)) : en_Snd G M_X12_readAct 0 (B_X12_readAct_0 kc) := (sn_aload_n (i := 0) (n := 0) (by decide +kernel) rfl (sn_gets (ci := 12) (j := 29) (off := 11) hst en_c12 of_12_11 (Nat.le_of_ble_eq_true rfl) (by decide +kernel) wm_352 (Nat.le_of_ble_eq_true rfl) rfl (sn_iload_n (i := 1) (n := 1) (by decide +kernel) rfl (sn_iconst (n := 0) (v := 0) (by decide +kernel) rfl (sn_iast (by decide +kernel) (sn_aload_n (i := 0) (n := 0) (by decide +kernel) rfl (sn_gets (ci := 12) (j := 29) (off := 11) hst en_c12 of_12_11 (Nat.le_of_ble_eq_true rfl) (by decide +kernel) wm_352 (Nat.le_of_ble_eq_true rfl) rfl (sn_iload_n (i := 1) (n := 1) (by decide +kernel) rfl (sn_iconst (n := 1) (v := 1) (by decide +kernel) rfl (sn_iadd (by decide +kernel) (sn_iconst (n := 0) (v := 0) (by decide +kernel) rfl (sn_iast (by decide +kernel) (sn_aload_n (i := 0) (n := 0) (by decide +kernel) rfl (sn_bipush (n := 45) (v := 45) (by decide +kernel) rfl (sn_callVi (n := 1) (idx := 148) (ci := 12) (i_X12_passes G hst) (Nat.le_of_ble_eq_true rfl) cs_X12_passes ⟨wm_422, wm_423, wm_440⟩ ⟨⟨_, rfl, rfl⟩, (Nat.le_of_ble_eq_true rfl)⟩ (by decide +kernel) (sn_ifeq (off := 4) (tgt := 26) (by decide +kernel) rfl (s_X12_readAct_26 G hst kc hk) (sn_vret (by decide +kernel))))))))))))))))))
noncomputable def LK_X12_readAct : Nat → Nat → en_B
  | 0, _ => en_no
  | n + 1, t => if t = 89 then B_X12_readAct_89 (LK_X12_readAct n) else en_no
theorem l_X12_readAct (G : en_G) (hst : G.2.2.2.2.2 = true) : ∀ n t, en_Snd G M_X12_readAct t (LK_X12_readAct n t)
  | 0, _ => sn_no
  | n + 1, t => by
    show en_Snd G M_X12_readAct t (if t = 89 then B_X12_readAct_89 (LK_X12_readAct n) else en_no)
    by_cases h_89 : t = 89
    · rw [if_pos h_89, h_89]; exact s_X12_readAct_89 G hst _ (l_X12_readAct G hst n)
    rw [if_neg h_89]
    exact sn_no
noncomputable def T_X12_readAct_0 (x1 : Int32) (σ : en_M) : en_R := B_X12_readAct_0 (LK_X12_readAct en_FU) [.inr (185, 12, 0, 0), .inl x1, en_un, en_un] [] en_zz σ
noncomputable def T_X12_readAct_89 (n : Nat) (x1 : Int32) (u2 : en_V) (u3 : en_V) (σ : en_M) : en_R := LK_X12_readAct n 89 [.inr (185, 12, 0, 0), .inl x1, u2, u3] [] en_zz σ
set_option maxRecDepth 20000 in
set_option maxHeartbeats 2000000 in
theorem t_X12_readAct_0 (x1 : Int32) (σ : en_M) : T_X12_readAct_0 x1 σ = ((en_ix x1 160).bind fun j1 => (en_ix (x1 + (1 : Int32)) 160).bind fun j2 => (O_X12_passes [.inr (185, 12, 0, 0), .inl (45 : Int32)] (en_up (en_up σ 196 j1 (0 : Int32)) 196 j2 (0 : Int32))).bind fun r3 => if r3.1 = 0 then ((O_X12_passes [.inr (185, 12, 0, 0), .inl (114 : Int32)] r3.2).bind fun r4 => if r4.1 = 0 then ((O_X12_passes [.inr (185, 12, 0, 0), .inl (33 : Int32)] r4.2).bind fun r5 => if r5.1 = 0 then (T_X12_readAct_89 en_FU x1 (en_un) (en_un) r5.2) else ((en_ix x1 160).bind fun j6 => (O_X12_oneOf [.inr (185, 12, 0, 0), .inl (97 : Int32), .inl (7 : Int32)] (en_up r5.2 196 j6 (2 : Int32))).bind fun r7 => (en_ix (x1 + (1 : Int32)) 160).bind fun j8 => en_rv (en_up r7.2 196 j8 r7.1))) else ((en_ix x1 160).bind fun j9 => (O_X12_number [.inr (185, 12, 0, 0), .inl (2 : Int32)] (en_up r4.2 196 j9 (1 : Int32))).bind fun r10 => (en_ix (x1 + (1 : Int32)) 160).bind fun j11 => en_rv (en_up r10.2 196 j11 r10.1))) else (en_rv r3.2)) := rfl
set_option maxRecDepth 20000 in
set_option maxHeartbeats 2000000 in
theorem t_X12_readAct_89 (n : Nat) (x1 : Int32) (u2 : en_V) (u3 : en_V) (σ : en_M) : T_X12_readAct_89 (n + 1) x1 u2 u3 σ = ((O_X12_fine [.inr (185, 12, 0, 0)] σ).bind fun r12 => if r12.1 = 0 then (en_rv r12.2) else ((en_ix (x1 + (1 : Int32)) 160).bind fun j13 => if (r12.2 196 j13) = 0 then ((O_X12_oneOf [.inr (185, 12, 0, 0), .inl (97 : Int32), .inl (7 : Int32)] r12.2).bind fun r14 => (O_X12_fine [.inr (185, 12, 0, 0)] r14.2).bind fun r15 => if r15.1 = 0 then ((en_ix (x1 + (1 : Int32)) 160).bind fun j16 => (en_ix (x1 + (1 : Int32)) 160).bind fun j17 => T_X12_readAct_89 n x1 (.inl (r12.2 185 15)) (.inl r14.1) (en_up r15.2 196 j17 ((r15.2 196 j16) ||| (en_shl (1 : Int32) r14.1)))) else ((en_ix (x1 + (1 : Int32)) 160).bind fun j18 => (O_X12_has [.inl (r15.2 196 j18), .inl r14.1] r15.2).bind fun r19 => if r19.1 = 0 then ((en_ix (x1 + (1 : Int32)) 160).bind fun j20 => (en_ix (x1 + (1 : Int32)) 160).bind fun j21 => T_X12_readAct_89 n x1 (.inl (r12.2 185 15)) (.inl r14.1) (en_up r19.2 196 j21 ((r19.2 196 j20) ||| (en_shl (1 : Int32) r14.1)))) else ((O_X12_fault [.inr (185, 12, 0, 0), .inl (r12.2 185 15)] r19.2).bind fun r22 => (en_ix (x1 + (1 : Int32)) 160).bind fun j23 => (en_ix (x1 + (1 : Int32)) 160).bind fun j24 => T_X12_readAct_89 n x1 (.inl (r12.2 185 15)) (.inl r14.1) (en_up r22 196 j24 ((r22 196 j23) ||| (en_shl (1 : Int32) r14.1)))))) else ((O_X12_here [.inr (185, 12, 0, 0)] r12.2).bind fun r25 => (O_X12_in [.inl r25.1, .inl (97 : Int32), .inl (103 : Int32)] r25.2).bind fun r26 => if r26.1 = 0 then (en_rv r26.2) else ((O_X12_oneOf [.inr (185, 12, 0, 0), .inl (97 : Int32), .inl (7 : Int32)] r26.2).bind fun r27 => (O_X12_fine [.inr (185, 12, 0, 0)] r27.2).bind fun r28 => if r28.1 = 0 then ((en_ix (x1 + (1 : Int32)) 160).bind fun j29 => (en_ix (x1 + (1 : Int32)) 160).bind fun j30 => T_X12_readAct_89 n x1 (.inl (r26.2 185 15)) (.inl r27.1) (en_up r28.2 196 j30 ((r28.2 196 j29) ||| (en_shl (1 : Int32) r27.1)))) else ((en_ix (x1 + (1 : Int32)) 160).bind fun j31 => (O_X12_has [.inl (r28.2 196 j31), .inl r27.1] r28.2).bind fun r32 => if r32.1 = 0 then ((en_ix (x1 + (1 : Int32)) 160).bind fun j33 => (en_ix (x1 + (1 : Int32)) 160).bind fun j34 => T_X12_readAct_89 n x1 (.inl (r26.2 185 15)) (.inl r27.1) (en_up r32.2 196 j34 ((r32.2 196 j33) ||| (en_shl (1 : Int32) r27.1)))) else ((O_X12_fault [.inr (185, 12, 0, 0), .inl (r26.2 185 15)] r32.2).bind fun r35 => (en_ix (x1 + (1 : Int32)) 160).bind fun j36 => (en_ix (x1 + (1 : Int32)) 160).bind fun j37 => T_X12_readAct_89 n x1 (.inl (r26.2 185 15)) (.inl r27.1) (en_up r35 196 j37 ((r35 196 j36) ||| (en_shl (1 : Int32) r27.1))))))))) := rfl
noncomputable def P_X12_readAct : List en_V → en_M → Option en_M := fun av σ => match av with
  | [.inr (185, 12, 0, 0), .inl x1] => en_ov (T_X12_readAct_0 x1 σ)
  | _ => none
theorem ox_X12_readAct : ∃ f, f = P_X12_readAct := ⟨_, rfl⟩
noncomputable def O_X12_readAct : List en_V → en_M → Option en_M := Classical.choose ox_X12_readAct
theorem oe_X12_readAct : O_X12_readAct = P_X12_readAct := Classical.choose_spec ox_X12_readAct
theorem o_X12_readAct (x1 : Int32) (σ : en_M) : O_X12_readAct [.inr (185, 12, 0, 0), .inl x1] σ = en_ov (T_X12_readAct_0 x1 σ) := by rw [oe_X12_readAct]; rfl
theorem i_X12_readAct (G : en_G) (hst : G.2.2.2.2.2 = true) : en_I G 5 yX12_readAct cX12_readAct 4 none 0 0 (en_wv (O_X12_readAct)) := en_of_v (M := M_X12_readAct) hst (s_X12_readAct_0 G hst _ (l_X12_readAct G hst en_FU)) (plainFor_of_name (by decide +kernel)) rfl rfl rfl (fun av σ σ' h => by
  rw [oe_X12_readAct] at h; unfold P_X12_readAct at h
  split at h
  · exact ⟨(Nat.le_of_ble_eq_true rfl), en_ov_some h⟩
  · cases h)
-- EachMayMissOneModel.undo()I
def M_X12_undo : en_Me := (cX12_undo, RX12, 2, false, 1, false)
theorem cs_X12_undo : en_cs yX12_undo cX12_undo 2 (some .int) 0 := ⟨wm_563, wm_337, ⟨(by decide +kernel), (by decide +kernel), (by decide +kernel)⟩, (Nat.le_of_ble_eq_true rfl)⟩
noncomputable def B_X12_undo_58 (kc : Nat → en_B) : en_B := (op_aload 0 (op_geti 12 23 op_iret))
set_option maxRecDepth 20000 in
theorem s_X12_undo_58 (G : en_G) (hst : G.2.2.2.2.2 = true) (kc : Nat → en_B) (hk : ∀ t, en_Snd G M_X12_undo t (kc t)) : en_Snd G M_X12_undo 58 (B_X12_undo_58 kc) := (sn_aload_n (i := 0) (n := 0) (by decide +kernel) rfl (sn_geti (ci := 12) (j := 23) en_c12 (by decide +kernel) wm_436 (Nat.le_of_ble_eq_true rfl) rfl (sn_iret (by decide +kernel) rfl)))
noncomputable def B_X12_undo_26 (kc : Nat → en_B) : en_B := (op_iload 1 (op_const (53 : Int32) (op_iclt (op_aload 0 (op_gets 12 1 (20, 53, 0) (op_iload 1 (op_aload 0 (op_gets 12 9 (20, 636, 0) (op_const (53 : Int32) (op_aload 0 (op_geti 12 23 (op_bin (fun (x y : Int32) => x * y) (op_iload 1 (op_bin (fun (x y : Int32) => x + y) (op_ald 20 (op_ast 20 (fun (x : Int32) => x) (op_iinc 1 (1 : Int32) (kc 26))))))))))))))) (B_X12_undo_58 kc))))
set_option maxRecDepth 20000 in
theorem s_X12_undo_26 (G : en_G) (hst : G.2.2.2.2.2 = true) (kc : Nat → en_B) (hk : ∀ t, en_Snd G M_X12_undo t (kc t)) : en_Snd G M_X12_undo 26 (B_X12_undo_26 kc) := (sn_iload_n (i := 1) (n := 1) (by decide +kernel) rfl (sn_bipush (n := 53) (v := 53) (by decide +kernel) rfl (sn_icge (off := 29) (tgt := 58) (by decide +kernel) rfl (s_X12_undo_58 G hst kc hk) (sn_aload_n (i := 0) (n := 0) (by decide +kernel) rfl (sn_gets (ci := 12) (j := 0) (off := 1) hst en_c12 of_12_1 (Nat.le_of_ble_eq_true rfl) (by decide +kernel) wm_339 (Nat.le_of_ble_eq_true rfl) rfl (sn_iload_n (i := 1) (n := 1) (by decide +kernel) rfl (sn_aload_n (i := 0) (n := 0) (by decide +kernel) rfl (sn_gets (ci := 12) (j := 22) (off := 9) hst en_c12 of_12_9 (Nat.le_of_ble_eq_true rfl) (by decide +kernel) wm_350 (Nat.le_of_ble_eq_true rfl) rfl (sn_bipush (n := 53) (v := 53) (by decide +kernel) rfl (sn_aload_n (i := 0) (n := 0) (by decide +kernel) rfl (sn_geti (ci := 12) (j := 23) en_c12 (by decide +kernel) wm_436 (Nat.le_of_ble_eq_true rfl) rfl (sn_imul (by decide +kernel) (sn_iload_n (i := 1) (n := 1) (by decide +kernel) rfl (sn_iadd (by decide +kernel) (sn_iald (by decide +kernel) (sn_iast (by decide +kernel) (sn_iinc (i := 1) (n := 1) (v := 1) (by decide +kernel) rfl (sn_goto (off := -29) (tgt := 26) (by decide +kernel) rfl (hk 26)))))))))))))))))))
noncomputable def B_X12_undo_14 (kc : Nat → en_B) : en_B := (op_aload 0 (op_dup (op_geti 12 23 (op_const (1 : Int32) (op_bin (fun (x y : Int32) => x - y) (op_puti 12 23 (op_const (0 : Int32) (op_istore 1 (kc 26)))))))))
set_option maxRecDepth 20000 in
theorem s_X12_undo_14 (G : en_G) (hst : G.2.2.2.2.2 = true) (kc : Nat → en_B) (hk : ∀ t, en_Snd G M_X12_undo t (kc t)) : en_Snd G M_X12_undo 14 (B_X12_undo_14 kc) := (sn_aload_n (i := 0) (n := 0) (by decide +kernel) rfl (sn_dup (by decide +kernel) (sn_geti (ci := 12) (j := 23) en_c12 (by decide +kernel) wm_436 (Nat.le_of_ble_eq_true rfl) rfl (sn_iconst (n := 1) (v := 1) (by decide +kernel) rfl (sn_isub (by decide +kernel) (sn_puti (ci := 12) (j := 23) en_c12 (by decide +kernel) wm_436 (Nat.le_of_ble_eq_true rfl) rfl rfl rfl (sn_iconst (n := 0) (v := 0) (by decide +kernel) rfl (sn_istore_n (i := 1) (n := 1) (by decide +kernel) rfl (Nat.le_of_ble_eq_true rfl) (hk 26)))))))))
noncomputable def B_X12_undo_0 (kc : Nat → en_B) : en_B := (op_aload 0 (op_const (0 : Int32) (op_puti 12 11 (op_aload 0 (op_geti 12 23 (op_ifeq (op_const (-1 : Int32) op_iret) (B_X12_undo_14 kc)))))))
set_option maxRecDepth 20000 in
theorem s_X12_undo_0 (G : en_G) (hst : G.2.2.2.2.2 = true) (kc : Nat → en_B) (hk : ∀ t, en_Snd G M_X12_undo t (kc t)) : en_Snd G M_X12_undo 0 (B_X12_undo_0 kc) := (sn_aload_n (i := 0) (n := 0) (by decide +kernel) rfl (sn_iconst (n := 0) (v := 0) (by decide +kernel) rfl (sn_puti (ci := 12) (j := 11) en_c12 (by decide +kernel) wm_368 (Nat.le_of_ble_eq_true rfl) rfl rfl rfl (sn_aload_n (i := 0) (n := 0) (by decide +kernel) rfl (sn_geti (ci := 12) (j := 23) en_c12 (by decide +kernel) wm_436 (Nat.le_of_ble_eq_true rfl) rfl (sn_ifne (off := 5) (tgt := 14) (by decide +kernel) rfl (s_X12_undo_14 G hst kc hk) (sn_iconst (n := -1) (v := -1) (by decide +kernel) rfl (sn_iret (by decide +kernel) rfl))))))))
noncomputable def LK_X12_undo : Nat → Nat → en_B
  | 0, _ => en_no
  | n + 1, t => if t = 26 then B_X12_undo_26 (LK_X12_undo n) else en_no
theorem l_X12_undo (G : en_G) (hst : G.2.2.2.2.2 = true) : ∀ n t, en_Snd G M_X12_undo t (LK_X12_undo n t)
  | 0, _ => sn_no
  | n + 1, t => by
    show en_Snd G M_X12_undo t (if t = 26 then B_X12_undo_26 (LK_X12_undo n) else en_no)
    by_cases h_26 : t = 26
    · rw [if_pos h_26, h_26]; exact s_X12_undo_26 G hst _ (l_X12_undo G hst n)
    rw [if_neg h_26]
    exact sn_no
noncomputable def T_X12_undo_0 (σ : en_M) : en_R := B_X12_undo_0 (LK_X12_undo en_FU) [.inr (185, 12, 0, 0), en_un] [] en_zz σ
noncomputable def T_X12_undo_26 (n : Nat) (x1 : Int32) (σ : en_M) : en_R := LK_X12_undo n 26 [.inr (185, 12, 0, 0), .inl x1] [] en_zz σ
set_option maxRecDepth 20000 in
set_option maxHeartbeats 2000000 in
theorem t_X12_undo_0 (σ : en_M) : T_X12_undo_0 σ = (if (σ 185 23) = 0 then (en_ri (-1 : Int32) (en_up σ 185 11 (0 : Int32))) else (T_X12_undo_26 en_FU (0 : Int32) (en_up (en_up σ 185 11 (0 : Int32)) 185 23 ((σ 185 23) - (1 : Int32))))) := rfl
set_option maxRecDepth 20000 in
set_option maxHeartbeats 2000000 in
theorem t_X12_undo_26 (n : Nat) (x1 : Int32) (σ : en_M) : T_X12_undo_26 (n + 1) x1 σ = (if x1 < (53 : Int32) then ((en_ix (((53 : Int32) * (σ 185 23)) + x1) 636).bind fun j1 => (en_ix x1 53).bind fun j2 => T_X12_undo_26 n (x1 + (1 : Int32)) (en_up σ 186 j2 (σ 194 j1))) else (en_ri (σ 185 23) σ)) := rfl
noncomputable def P_X12_undo : List en_V → en_M → Option (Int32 × en_M) := fun av σ => match av with
  | [.inr (185, 12, 0, 0)] => en_oi (T_X12_undo_0 σ)
  | _ => none
theorem ox_X12_undo : ∃ f, f = P_X12_undo := ⟨_, rfl⟩
noncomputable def O_X12_undo : List en_V → en_M → Option (Int32 × en_M) := Classical.choose ox_X12_undo
theorem oe_X12_undo : O_X12_undo = P_X12_undo := Classical.choose_spec ox_X12_undo
theorem o_X12_undo (σ : en_M) : O_X12_undo [.inr (185, 12, 0, 0)] σ = en_oi (T_X12_undo_0 σ) := by rw [oe_X12_undo]; rfl
theorem i_X12_undo (G : en_G) (hst : G.2.2.2.2.2 = true) : en_I G 1 yX12_undo cX12_undo 2 (some .int) 0 0 (en_wi (O_X12_undo)) := en_of_i (M := M_X12_undo) hst (s_X12_undo_0 G hst _ (l_X12_undo G hst en_FU)) (plainFor_of_name (by decide +kernel)) rfl rfl rfl (Or.inl ⟨rfl, rfl⟩) (fun av σ x σ' h => by
  rw [oe_X12_undo] at h; unfold P_X12_undo at h
  split at h
  · exact ⟨(Nat.le_of_ble_eq_true rfl), en_oi_some h⟩
  · cases h)
-- EachMayMissOneModel.layOrders(I)V
def M_X12_layOrders : en_Me := (cX12_layOrders, RX12, 4, false, 3, false)
theorem cs_X12_layOrders : en_cs yX12_layOrders cX12_layOrders 4 none 1 := ⟨wm_566, wm_337, ⟨(by decide +kernel), (by decide +kernel), (by decide +kernel)⟩, (Nat.le_of_ble_eq_true rfl)⟩
noncomputable def B_X12_layOrders_77 (kc : Nat → en_B) : en_B := op_vret
set_option maxRecDepth 20000 in
theorem s_X12_layOrders_77 (G : en_G) (hst : G.2.2.2.2.2 = true) (kc : Nat → en_B) (hk : ∀ t, en_Snd G M_X12_layOrders t (kc t)) : en_Snd G M_X12_layOrders 77 (B_X12_layOrders_77 kc) := (sn_vret (by decide +kernel))
noncomputable def B_X12_layOrders_52 (kc : Nat → en_B) : en_B := (op_aload 0 (op_aload 0 (op_gets 12 13 (20, 53, 0) (op_rcv 12 1 (op_callv O_X12_changeOrder 2 (op_aload 0 (op_gets 12 13 (20, 53, 0) (op_const (28 : Int32) (op_dup2 (op_ald 20 (op_const (1 : Int32) (op_bin (fun (x y : Int32) => x + y) (op_ast 20 (fun (x : Int32) => x) (op_iinc 2 (1 : Int32) (kc 14)))))))))))))))
set_option maxRecDepth 20000 in
theorem s_X12_layOrders_52 (G : en_G) (hst : G.2.2.2.2.2 = true) (kc : Nat → en_B) (hk : ∀ t, en_Snd G M_X12_layOrders t (kc t)) : en_Snd G M_X12_layOrders 52 (B_X12_layOrders_52 kc) := (sn_aload_n (i := 0) (n := 0) (by decide +kernel) rfl (sn_aload_n (i := 0) (n := 0) (by decide +kernel) rfl (sn_gets (ci := 12) (j := 31) (off := 13) hst en_c12 of_12_13 (Nat.le_of_ble_eq_true rfl) (by decide +kernel) wm_354 (Nat.le_of_ble_eq_true rfl) rfl (sn_callVv (n := 1) (idx := 237) (ci := 12) (i_X12_changeOrder G hst) (Nat.le_of_ble_eq_true rfl) cs_X12_changeOrder ⟨wm_521, wm_522, wm_529⟩ ⟨⟨_, rfl, rfl⟩, (Nat.le_of_ble_eq_true rfl)⟩ (by decide +kernel) (sn_aload_n (i := 0) (n := 0) (by decide +kernel) rfl (sn_gets (ci := 12) (j := 31) (off := 13) hst en_c12 of_12_13 (Nat.le_of_ble_eq_true rfl) (by decide +kernel) wm_354 (Nat.le_of_ble_eq_true rfl) rfl (sn_bipush (n := 28) (v := 28) (by decide +kernel) rfl (sn_dup2 (by decide +kernel) (sn_iald (by decide +kernel) (sn_iconst (n := 1) (v := 1) (by decide +kernel) rfl (sn_iadd (by decide +kernel) (sn_iast (by decide +kernel) (sn_iinc (i := 2) (n := 1) (v := 1) (by decide +kernel) rfl (sn_goto (off := -60) (tgt := 14) (by decide +kernel) rfl (hk 14)))))))))))))))
noncomputable def B_X12_layOrders_21 (kc : Nat → en_B) : en_B := (op_iload 3 (op_aload 0 (op_geti 12 1 (op_iclt (op_aload 0 (op_gets 12 12 (20, 1484, 0) (op_const (7 : Int32) (op_iload 2 (op_bin (fun (x y : Int32) => x * y) (op_iload 3 (op_bin (fun (x y : Int32) => x + y) (op_aload 0 (op_gets 12 13 (20, 53, 0) (op_iload 3 (op_ald 20 (op_ast 20 (fun (x : Int32) => x) (op_iinc 3 (1 : Int32) (kc 21)))))))))))))) (B_X12_layOrders_52 kc)))))
set_option maxRecDepth 20000 in
theorem s_X12_layOrders_21 (G : en_G) (hst : G.2.2.2.2.2 = true) (kc : Nat → en_B) (hk : ∀ t, en_Snd G M_X12_layOrders t (kc t)) : en_Snd G M_X12_layOrders 21 (B_X12_layOrders_21 kc) := (sn_iload_n (i := 3) (n := 3) (by decide +kernel) rfl (sn_aload_n (i := 0) (n := 0) (by decide +kernel) rfl (sn_geti (ci := 12) (j := 1) en_c12 (by decide +kernel) wm_383 (Nat.le_of_ble_eq_true rfl) rfl (sn_icge (off := 26) (tgt := 52) (by decide +kernel) rfl (s_X12_layOrders_52 G hst kc hk) (sn_aload_n (i := 0) (n := 0) (by decide +kernel) rfl (sn_gets (ci := 12) (j := 30) (off := 12) hst en_c12 of_12_12 (Nat.le_of_ble_eq_true rfl) (by decide +kernel) wm_353 (Nat.le_of_ble_eq_true rfl) rfl (sn_bipush (n := 7) (v := 7) (by decide +kernel) rfl (sn_iload_n (i := 2) (n := 2) (by decide +kernel) rfl (sn_imul (by decide +kernel) (sn_iload_n (i := 3) (n := 3) (by decide +kernel) rfl (sn_iadd (by decide +kernel) (sn_aload_n (i := 0) (n := 0) (by decide +kernel) rfl (sn_gets (ci := 12) (j := 31) (off := 13) hst en_c12 of_12_13 (Nat.le_of_ble_eq_true rfl) (by decide +kernel) wm_354 (Nat.le_of_ble_eq_true rfl) rfl (sn_iload_n (i := 3) (n := 3) (by decide +kernel) rfl (sn_iald (by decide +kernel) (sn_iast (by decide +kernel) (sn_iinc (i := 3) (n := 1) (v := 1) (by decide +kernel) rfl (sn_goto (off := -28) (tgt := 21) (by decide +kernel) rfl (hk 21)))))))))))))))))))
noncomputable def B_X12_layOrders_14 (kc : Nat → en_B) : en_B := (op_iload 2 (op_iload 1 (op_icgt (B_X12_layOrders_77 kc) (op_const (0 : Int32) (op_istore 3 (kc 21))))))
set_option maxRecDepth 20000 in
theorem s_X12_layOrders_14 (G : en_G) (hst : G.2.2.2.2.2 = true) (kc : Nat → en_B) (hk : ∀ t, en_Snd G M_X12_layOrders t (kc t)) : en_Snd G M_X12_layOrders 14 (B_X12_layOrders_14 kc) := (sn_iload_n (i := 2) (n := 2) (by decide +kernel) rfl (sn_iload_n (i := 1) (n := 1) (by decide +kernel) rfl (sn_icgt (off := 61) (tgt := 77) (by decide +kernel) rfl (s_X12_layOrders_77 G hst kc hk) (sn_iconst (n := 0) (v := 0) (by decide +kernel) rfl (sn_istore_n (i := 3) (n := 3) (by decide +kernel) rfl (Nat.le_of_ble_eq_true rfl) (hk 21))))))
noncomputable def B_X12_layOrders_0 (kc : Nat → en_B) : en_B := (op_aload 0 (op_gets 12 1 (20, 53, 0) (op_aload 0 (op_gets 12 13 (20, 53, 0) (op_const (0 : Int32) (op_callv O_X12_lay 3 (op_const (0 : Int32) (op_istore 2 (kc 14)))))))))
set_option maxRecDepth 20000 in
theorem s_X12_layOrders_0 (G : en_G) (hst : G.2.2.2.2.2 = true) (kc : Nat → en_B) (hk : ∀ t, en_Snd G M_X12_layOrders t (kc t)) : en_Snd G M_X12_layOrders 0 (B_X12_layOrders_0 kc) := (sn_aload_n (i := 0) (n := 0) (by decide +kernel) rfl (sn_gets (ci := 12) (j := 0) (off := 1) hst en_c12 of_12_1 (Nat.le_of_ble_eq_true rfl) (by decide +kernel) wm_339 (Nat.le_of_ble_eq_true rfl) rfl (sn_aload_n (i := 0) (n := 0) (by decide +kernel) rfl (sn_gets (ci := 12) (j := 31) (off := 13) hst en_c12 of_12_13 (Nat.le_of_ble_eq_true rfl) (by decide +kernel) wm_354 (Nat.le_of_ble_eq_true rfl) rfl (sn_iconst (n := 0) (v := 0) (by decide +kernel) rfl (sn_callSv (n := 3) (idx := 209) (i_X12_lay G hst) (Nat.le_of_ble_eq_true rfl) cs_X12_lay ⟨wm_502, Or.inl wm_506⟩ (by decide +kernel) (sn_iconst (n := 0) (v := 0) (by decide +kernel) rfl (sn_istore_n (i := 2) (n := 2) (by decide +kernel) rfl (Nat.le_of_ble_eq_true rfl) (hk 14)))))))))
noncomputable def LK_X12_layOrders : Nat → Nat → en_B
  | 0, _ => en_no
  | n + 1, t => if t = 14 then B_X12_layOrders_14 (LK_X12_layOrders n) else if t = 21 then B_X12_layOrders_21 (LK_X12_layOrders n) else en_no
theorem l_X12_layOrders (G : en_G) (hst : G.2.2.2.2.2 = true) : ∀ n t, en_Snd G M_X12_layOrders t (LK_X12_layOrders n t)
  | 0, _ => sn_no
  | n + 1, t => by
    show en_Snd G M_X12_layOrders t (if t = 14 then B_X12_layOrders_14 (LK_X12_layOrders n) else if t = 21 then B_X12_layOrders_21 (LK_X12_layOrders n) else en_no)
    by_cases h_14 : t = 14
    · rw [if_pos h_14, h_14]; exact s_X12_layOrders_14 G hst _ (l_X12_layOrders G hst n)
    rw [if_neg h_14]
    by_cases h_21 : t = 21
    · rw [if_pos h_21, h_21]; exact s_X12_layOrders_21 G hst _ (l_X12_layOrders G hst n)
    rw [if_neg h_21]
    exact sn_no
noncomputable def T_X12_layOrders_0 (x1 : Int32) (σ : en_M) : en_R := B_X12_layOrders_0 (LK_X12_layOrders en_FU) [.inr (185, 12, 0, 0), .inl x1, en_un, en_un] [] en_zz σ
noncomputable def T_X12_layOrders_14 (n : Nat) (x1 : Int32) (x2 : Int32) (u3 : en_V) (σ : en_M) : en_R := LK_X12_layOrders n 14 [.inr (185, 12, 0, 0), .inl x1, .inl x2, u3] [] en_zz σ
noncomputable def T_X12_layOrders_21 (n : Nat) (x1 : Int32) (x2 : Int32) (x3 : Int32) (σ : en_M) : en_R := LK_X12_layOrders n 21 [.inr (185, 12, 0, 0), .inl x1, .inl x2, .inl x3] [] en_zz σ
set_option maxRecDepth 20000 in
set_option maxHeartbeats 2000000 in
theorem t_X12_layOrders_0 (x1 : Int32) (σ : en_M) : T_X12_layOrders_0 x1 σ = ((O_X12_lay [.inr (186, 20, 53, 0), .inr (198, 20, 53, 0), .inl (0 : Int32)] σ).bind fun r1 => T_X12_layOrders_14 en_FU x1 (0 : Int32) (en_un) r1) := rfl
set_option maxRecDepth 20000 in
set_option maxHeartbeats 2000000 in
theorem t_X12_layOrders_14 (n : Nat) (x1 : Int32) (x2 : Int32) (u3 : en_V) (σ : en_M) : T_X12_layOrders_14 (n + 1) x1 x2 u3 σ = (if x1 < x2 then (en_rv σ) else (T_X12_layOrders_21 n x1 x2 (0 : Int32) σ)) := rfl
set_option maxRecDepth 20000 in
set_option maxHeartbeats 2000000 in
theorem t_X12_layOrders_21 (n : Nat) (x1 : Int32) (x2 : Int32) (x3 : Int32) (σ : en_M) : T_X12_layOrders_21 (n + 1) x1 x2 x3 σ = (if x3 < (σ 185 1) then ((en_ix x3 53).bind fun j5 => (en_ix (((7 : Int32) * x2) + x3) 1484).bind fun j6 => T_X12_layOrders_21 n x1 x2 (x3 + (1 : Int32)) (en_up σ 197 j6 (σ 198 j5))) else ((O_X12_changeOrder [.inr (185, 12, 0, 0), .inr (198, 20, 53, 0)] σ).bind fun r2 => (en_ix (28 : Int32) 53).bind fun j3 => (en_ix (28 : Int32) 53).bind fun j4 => T_X12_layOrders_14 n x1 (x2 + (1 : Int32)) (.inl x3) (en_up r2 198 j4 ((r2 198 j3) + (1 : Int32))))) := rfl
noncomputable def P_X12_layOrders : List en_V → en_M → Option en_M := fun av σ => match av with
  | [.inr (185, 12, 0, 0), .inl x1] => en_ov (T_X12_layOrders_0 x1 σ)
  | _ => none
theorem ox_X12_layOrders : ∃ f, f = P_X12_layOrders := ⟨_, rfl⟩
noncomputable def O_X12_layOrders : List en_V → en_M → Option en_M := Classical.choose ox_X12_layOrders
theorem oe_X12_layOrders : O_X12_layOrders = P_X12_layOrders := Classical.choose_spec ox_X12_layOrders
theorem o_X12_layOrders (x1 : Int32) (σ : en_M) : O_X12_layOrders [.inr (185, 12, 0, 0), .inl x1] σ = en_ov (T_X12_layOrders_0 x1 σ) := by rw [oe_X12_layOrders]; rfl
theorem i_X12_layOrders (G : en_G) (hst : G.2.2.2.2.2 = true) : en_I G 3 yX12_layOrders cX12_layOrders 4 none 0 0 (en_wv (O_X12_layOrders)) := en_of_v (M := M_X12_layOrders) hst (s_X12_layOrders_0 G hst _ (l_X12_layOrders G hst en_FU)) (plainFor_of_name (by decide +kernel)) rfl rfl rfl (fun av σ σ' h => by
  rw [oe_X12_layOrders] at h; unfold P_X12_layOrders at h
  split at h
  · exact ⟨(Nat.le_of_ble_eq_true rfl), en_ov_some h⟩
  · cases h)
-- EachMayMissOneModel.areLike(II)Z
def M_X12_areLike : en_Me := (cX12_areLike, RX12, 4, false, 1, true)
theorem cs_X12_areLike : en_cs yX12_areLike cX12_areLike 4 (some .boolean) 2 := ⟨wm_569, wm_337, ⟨(by decide +kernel), (by decide +kernel), (by decide +kernel)⟩, (Nat.le_of_ble_eq_true rfl)⟩
noncomputable def B_X12_areLike_43 (kc : Nat → en_B) : en_B := (op_const (1 : Int32) op_zret)
set_option maxRecDepth 20000 in
theorem s_X12_areLike_43 (G : en_G) (hst : G.2.2.2.2.2 = true) (kc : Nat → en_B) (hk : ∀ t, en_Snd G M_X12_areLike t (kc t)) : en_Snd G M_X12_areLike 43 (B_X12_areLike_43 kc) := (sn_iconst (n := 1) (v := 1) (by decide +kernel) rfl (sn_zret (by decide +kernel)))
noncomputable def B_X12_areLike_37 (kc : Nat → en_B) : en_B := (op_iinc 3 (1 : Int32) (kc 2))
set_option maxRecDepth 20000 in
theorem s_X12_areLike_37 (G : en_G) (hst : G.2.2.2.2.2 = true) (kc : Nat → en_B) (hk : ∀ t, en_Snd G M_X12_areLike t (kc t)) : en_Snd G M_X12_areLike 37 (B_X12_areLike_37 kc) := (sn_iinc (i := 3) (n := 1) (v := 1) (by decide +kernel) rfl (sn_goto (off := -38) (tgt := 2) (by decide +kernel) rfl (hk 2)))
noncomputable def B_X12_areLike_2 (kc : Nat → en_B) : en_B := (op_iload 3 (op_aload 0 (op_geti 12 1 (op_iclt (op_aload 0 (op_gets 12 12 (20, 1484, 0) (op_const (7 : Int32) (op_iload 1 (op_bin (fun (x y : Int32) => x * y) (op_iload 3 (op_bin (fun (x y : Int32) => x + y) (op_ald 20 (op_aload 0 (op_gets 12 12 (20, 1484, 0) (op_const (7 : Int32) (op_iload 2 (op_bin (fun (x y : Int32) => x * y) (op_iload 3 (op_bin (fun (x y : Int32) => x + y) (op_ald 20 (op_iceq (B_X12_areLike_37 kc) (op_const (0 : Int32) op_zret)))))))))))))))))) (B_X12_areLike_43 kc)))))
set_option maxRecDepth 20000 in
theorem s_X12_areLike_2 (G : en_G) (hst : G.2.2.2.2.2 = true) (kc : Nat → en_B) (hk : ∀ t, en_Snd G M_X12_areLike t (kc t)) : en_Snd G M_X12_areLike 2 (B_X12_areLike_2 kc) := (sn_iload_n (i := 3) (n := 3) (by decide +kernel) rfl (sn_aload_n (i := 0) (n := 0) (by decide +kernel) rfl (sn_geti (ci := 12) (j := 1) en_c12 (by decide +kernel) wm_383 (Nat.le_of_ble_eq_true rfl) rfl (sn_icge (off := 36) (tgt := 43) (by decide +kernel) rfl (s_X12_areLike_43 G hst kc hk) (sn_aload_n (i := 0) (n := 0) (by decide +kernel) rfl (sn_gets (ci := 12) (j := 30) (off := 12) hst en_c12 of_12_12 (Nat.le_of_ble_eq_true rfl) (by decide +kernel) wm_353 (Nat.le_of_ble_eq_true rfl) rfl (sn_bipush (n := 7) (v := 7) (by decide +kernel) rfl (sn_iload_n (i := 1) (n := 1) (by decide +kernel) rfl (sn_imul (by decide +kernel) (sn_iload_n (i := 3) (n := 3) (by decide +kernel) rfl (sn_iadd (by decide +kernel) (sn_iald (by decide +kernel) (sn_aload_n (i := 0) (n := 0) (by decide +kernel) rfl (sn_gets (ci := 12) (j := 30) (off := 12) hst en_c12 of_12_12 (Nat.le_of_ble_eq_true rfl) (by decide +kernel) wm_353 (Nat.le_of_ble_eq_true rfl) rfl (sn_bipush (n := 7) (v := 7) (by decide +kernel) rfl (sn_iload_n (i := 2) (n := 2) (by decide +kernel) rfl (sn_imul (by decide +kernel) (sn_iload_n (i := 3) (n := 3) (by decide +kernel) rfl (sn_iadd (by decide +kernel) (sn_iald (by decide +kernel) (sn_iceq (off := 5) (tgt := 37) (by decide +kernel) rfl (s_X12_areLike_37 G hst kc hk) (sn_iconst (n := 0) (v := 0) (by decide +kernel) rfl (sn_zret (by decide +kernel))))))))))))))))))))))))
noncomputable def B_X12_areLike_0 (kc : Nat → en_B) : en_B := (op_const (0 : Int32) (op_istore 3 (kc 2)))
set_option maxRecDepth 20000 in
theorem s_X12_areLike_0 (G : en_G) (hst : G.2.2.2.2.2 = true) (kc : Nat → en_B) (hk : ∀ t, en_Snd G M_X12_areLike t (kc t)) : en_Snd G M_X12_areLike 0 (B_X12_areLike_0 kc) := (sn_iconst (n := 0) (v := 0) (by decide +kernel) rfl (sn_istore_n (i := 3) (n := 3) (by decide +kernel) rfl (Nat.le_of_ble_eq_true rfl) (hk 2)))
noncomputable def LK_X12_areLike : Nat → Nat → en_B
  | 0, _ => en_no
  | n + 1, t => if t = 2 then B_X12_areLike_2 (LK_X12_areLike n) else en_no
theorem l_X12_areLike (G : en_G) (hst : G.2.2.2.2.2 = true) : ∀ n t, en_Snd G M_X12_areLike t (LK_X12_areLike n t)
  | 0, _ => sn_no
  | n + 1, t => by
    show en_Snd G M_X12_areLike t (if t = 2 then B_X12_areLike_2 (LK_X12_areLike n) else en_no)
    by_cases h_2 : t = 2
    · rw [if_pos h_2, h_2]; exact s_X12_areLike_2 G hst _ (l_X12_areLike G hst n)
    rw [if_neg h_2]
    exact sn_no
noncomputable def T_X12_areLike_0 (x1 : Int32) (x2 : Int32) (σ : en_M) : en_R := B_X12_areLike_0 (LK_X12_areLike en_FU) [.inr (185, 12, 0, 0), .inl x1, .inl x2, en_un] [] en_zz σ
noncomputable def T_X12_areLike_2 (n : Nat) (x1 : Int32) (x2 : Int32) (x3 : Int32) (σ : en_M) : en_R := LK_X12_areLike n 2 [.inr (185, 12, 0, 0), .inl x1, .inl x2, .inl x3] [] en_zz σ
set_option maxRecDepth 20000 in
set_option maxHeartbeats 2000000 in
theorem t_X12_areLike_0 (x1 : Int32) (x2 : Int32) (σ : en_M) : T_X12_areLike_0 x1 x2 σ = (T_X12_areLike_2 en_FU x1 x2 (0 : Int32) σ) := rfl
set_option maxRecDepth 20000 in
set_option maxHeartbeats 2000000 in
theorem t_X12_areLike_2 (n : Nat) (x1 : Int32) (x2 : Int32) (x3 : Int32) (σ : en_M) : T_X12_areLike_2 (n + 1) x1 x2 x3 σ = (if x3 < (σ 185 1) then ((en_ix (((7 : Int32) * x1) + x3) 1484).bind fun j1 => (en_ix (((7 : Int32) * x2) + x3) 1484).bind fun j2 => if (σ 197 j1) = (σ 197 j2) then (T_X12_areLike_2 n x1 x2 (x3 + (1 : Int32)) σ) else (if (0 : Int32) = 0 ∨ (0 : Int32) = 1 then en_ri (0 : Int32) σ else none)) else (if (1 : Int32) = 0 ∨ (1 : Int32) = 1 then en_ri (1 : Int32) σ else none)) := rfl
noncomputable def P_X12_areLike : List en_V → en_M → Option (Int32 × en_M) := fun av σ => match av with
  | [.inr (185, 12, 0, 0), .inl x1, .inl x2] => en_oi (T_X12_areLike_0 x1 x2 σ)
  | _ => none
theorem ox_X12_areLike : ∃ f, f = P_X12_areLike := ⟨_, rfl⟩
noncomputable def O_X12_areLike : List en_V → en_M → Option (Int32 × en_M) := Classical.choose ox_X12_areLike
theorem oe_X12_areLike : O_X12_areLike = P_X12_areLike := Classical.choose_spec ox_X12_areLike
theorem o_X12_areLike (x1 : Int32) (x2 : Int32) (σ : en_M) : O_X12_areLike [.inr (185, 12, 0, 0), .inl x1, .inl x2] σ = en_oi (T_X12_areLike_0 x1 x2 σ) := by rw [oe_X12_areLike]; rfl
theorem i_X12_areLike (G : en_G) (hst : G.2.2.2.2.2 = true) : en_I G 1 yX12_areLike cX12_areLike 4 (some .boolean) 0 0 (en_wi (O_X12_areLike)) := en_of_i (M := M_X12_areLike) hst (s_X12_areLike_0 G hst _ (l_X12_areLike G hst en_FU)) (plainFor_of_name (by decide +kernel)) rfl rfl rfl (Or.inr ⟨rfl, rfl⟩) (fun av σ x σ' h => by
  rw [oe_X12_areLike] at h; unfold P_X12_areLike at h
  split at h
  · exact ⟨(Nat.le_of_ble_eq_true rfl), en_oi_some h⟩
  · cases h)
-- EachMayMissOneModel.order(I)I
def M_X12_order : en_Me := (cX12_order, RX12, 3, false, 4, false)
theorem cs_X12_order : en_cs yX12_order cX12_order 3 (some .int) 1 := ⟨wm_572, wm_337, ⟨(by decide +kernel), (by decide +kernel), (by decide +kernel)⟩, (Nat.le_of_ble_eq_true rfl)⟩
noncomputable def B_X12_order_69 (kc : Nat → en_B) : en_B := (op_aload 0 (op_gets 12 12 (20, 1484, 0) (op_const (7 : Int32) (op_iload 1 (op_bin (fun (x y : Int32) => x * y) (op_ald 20 op_iret))))))
set_option maxRecDepth 20000 in
theorem s_X12_order_69 (G : en_G) (hst : G.2.2.2.2.2 = true) (kc : Nat → en_B) (hk : ∀ t, en_Snd G M_X12_order t (kc t)) : en_Snd G M_X12_order 69 (B_X12_order_69 kc) := (sn_aload_n (i := 0) (n := 0) (by decide +kernel) rfl (sn_gets (ci := 12) (j := 30) (off := 12) hst en_c12 of_12_12 (Nat.le_of_ble_eq_true rfl) (by decide +kernel) wm_353 (Nat.le_of_ble_eq_true rfl) rfl (sn_bipush (n := 7) (v := 7) (by decide +kernel) rfl (sn_iload_n (i := 1) (n := 1) (by decide +kernel) rfl (sn_imul (by decide +kernel) (sn_iald (by decide +kernel) (sn_iret (by decide +kernel) rfl)))))))
noncomputable def B_X12_order_40 (kc : Nat → en_B) : en_B := (op_iload 2 (op_aload 0 (op_geti 12 1 (op_iclt (op_aload 0 (op_aload 0 (op_gets 12 12 (20, 1484, 0) (op_const (7 : Int32) (op_iload 1 (op_bin (fun (x y : Int32) => x * y) (op_iload 2 (op_bin (fun (x y : Int32) => x + y) (op_ald 20 (op_rcv 12 1 (op_callv O_X12_tell 2 (op_iinc 2 (1 : Int32) (kc 40))))))))))))) (B_X12_order_69 kc)))))
set_option maxRecDepth 20000 in
theorem s_X12_order_40 (G : en_G) (hst : G.2.2.2.2.2 = true) (kc : Nat → en_B) (hk : ∀ t, en_Snd G M_X12_order t (kc t)) : en_Snd G M_X12_order 40 (B_X12_order_40 kc) := (sn_iload_n (i := 2) (n := 2) (by decide +kernel) rfl (sn_aload_n (i := 0) (n := 0) (by decide +kernel) rfl (sn_geti (ci := 12) (j := 1) en_c12 (by decide +kernel) wm_383 (Nat.le_of_ble_eq_true rfl) rfl (sn_icge (off := 24) (tgt := 69) (by decide +kernel) rfl (s_X12_order_69 G hst kc hk) (sn_aload_n (i := 0) (n := 0) (by decide +kernel) rfl (sn_aload_n (i := 0) (n := 0) (by decide +kernel) rfl (sn_gets (ci := 12) (j := 30) (off := 12) hst en_c12 of_12_12 (Nat.le_of_ble_eq_true rfl) (by decide +kernel) wm_353 (Nat.le_of_ble_eq_true rfl) rfl (sn_bipush (n := 7) (v := 7) (by decide +kernel) rfl (sn_iload_n (i := 1) (n := 1) (by decide +kernel) rfl (sn_imul (by decide +kernel) (sn_iload_n (i := 2) (n := 2) (by decide +kernel) rfl (sn_iadd (by decide +kernel) (sn_iald (by decide +kernel) (sn_callVv (n := 1) (idx := 251) (ci := 12) (i_X12_tell G hst) (Nat.le_of_ble_eq_true rfl) cs_X12_tell ⟨wm_377, wm_378, wm_536⟩ ⟨⟨_, rfl, rfl⟩, (Nat.le_of_ble_eq_true rfl)⟩ (by decide +kernel) (sn_iinc (i := 2) (n := 1) (v := 1) (by decide +kernel) rfl (sn_goto (off := -26) (tgt := 40) (by decide +kernel) rfl (hk 40)))))))))))))))))
noncomputable def B_X12_order_28 (kc : Nat → en_B) : en_B := (op_aload 0 (op_iload 1 (op_rcv 12 1 (op_callv O_X12_layOrders 2 (op_aload 0 (op_const (0 : Int32) (op_puti 12 10 (op_const (0 : Int32) (op_istore 2 (kc 40))))))))))
set_option maxRecDepth 20000 in
theorem s_X12_order_28 (G : en_G) (hst : G.2.2.2.2.2 = true) (kc : Nat → en_B) (hk : ∀ t, en_Snd G M_X12_order t (kc t)) : en_Snd G M_X12_order 28 (B_X12_order_28 kc) := (sn_aload_n (i := 0) (n := 0) (by decide +kernel) rfl (sn_iload_n (i := 1) (n := 1) (by decide +kernel) rfl (sn_callVv (n := 1) (idx := 272) (ci := 12) (i_X12_layOrders G hst) (Nat.le_of_ble_eq_true rfl) cs_X12_layOrders ⟨wm_567, wm_568, wm_575⟩ ⟨⟨_, rfl, rfl⟩, (Nat.le_of_ble_eq_true rfl)⟩ (by decide +kernel) (sn_aload_n (i := 0) (n := 0) (by decide +kernel) rfl (sn_iconst (n := 0) (v := 0) (by decide +kernel) rfl (sn_puti (ci := 12) (j := 10) en_c12 (by decide +kernel) wm_379 (Nat.le_of_ble_eq_true rfl) rfl rfl rfl (sn_iconst (n := 0) (v := 0) (by decide +kernel) rfl (sn_istore_n (i := 2) (n := 2) (by decide +kernel) rfl (Nat.le_of_ble_eq_true rfl) (hk 40)))))))))
noncomputable def B_X12_order_15 (kc : Nat → en_B) : en_B := (op_iload 1 (op_const (0 : Int32) (op_const (200 : Int32) (op_calli O_X12_in 3 (op_ifeq (op_const (-1 : Int32) op_iret) (B_X12_order_28 kc))))))
set_option maxRecDepth 20000 in
theorem s_X12_order_15 (G : en_G) (hst : G.2.2.2.2.2 = true) (kc : Nat → en_B) (hk : ∀ t, en_Snd G M_X12_order t (kc t)) : en_Snd G M_X12_order 15 (B_X12_order_15 kc) := (sn_iload_n (i := 1) (n := 1) (by decide +kernel) rfl (sn_iconst (n := 0) (v := 0) (by decide +kernel) rfl (sn_sipush (n := 200) (v := 200) (by decide +kernel) rfl (sn_callSi (n := 3) (idx := 100) (i_X12_in G hst) (Nat.le_of_ble_eq_true rfl) cs_X12_in ⟨wm_370, Or.inl wm_384⟩ (by decide +kernel) (sn_ifne (off := 5) (tgt := 28) (by decide +kernel) rfl (s_X12_order_28 G hst kc hk) (sn_iconst (n := -1) (v := -1) (by decide +kernel) rfl (sn_iret (by decide +kernel) rfl)))))))
noncomputable def B_X12_order_0 (kc : Nat → en_B) : en_B := (op_aload 0 (op_const (0 : Int32) (op_puti 12 11 (op_aload 0 (op_geti 12 1 (op_ifeq (op_const (-2 : Int32) op_iret) (B_X12_order_15 kc)))))))
set_option maxRecDepth 20000 in
theorem s_X12_order_0 (G : en_G) (hst : G.2.2.2.2.2 = true) (kc : Nat → en_B) (hk : ∀ t, en_Snd G M_X12_order t (kc t)) : en_Snd G M_X12_order 0 (B_X12_order_0 kc) := (sn_aload_n (i := 0) (n := 0) (by decide +kernel) rfl (sn_iconst (n := 0) (v := 0) (by decide +kernel) rfl (sn_puti (ci := 12) (j := 11) en_c12 (by decide +kernel) wm_368 (Nat.le_of_ble_eq_true rfl) rfl rfl rfl (sn_aload_n (i := 0) (n := 0) (by decide +kernel) rfl (sn_geti (ci := 12) (j := 1) en_c12 (by decide +kernel) wm_383 (Nat.le_of_ble_eq_true rfl) rfl (sn_ifne (off := 6) (tgt := 15) (by decide +kernel) rfl (s_X12_order_15 G hst kc hk) (sn_bipush (n := -2) (v := -2) (by decide +kernel) rfl (sn_iret (by decide +kernel) rfl))))))))
noncomputable def LK_X12_order : Nat → Nat → en_B
  | 0, _ => en_no
  | n + 1, t => if t = 40 then B_X12_order_40 (LK_X12_order n) else en_no
theorem l_X12_order (G : en_G) (hst : G.2.2.2.2.2 = true) : ∀ n t, en_Snd G M_X12_order t (LK_X12_order n t)
  | 0, _ => sn_no
  | n + 1, t => by
    show en_Snd G M_X12_order t (if t = 40 then B_X12_order_40 (LK_X12_order n) else en_no)
    by_cases h_40 : t = 40
    · rw [if_pos h_40, h_40]; exact s_X12_order_40 G hst _ (l_X12_order G hst n)
    rw [if_neg h_40]
    exact sn_no
noncomputable def T_X12_order_0 (x1 : Int32) (σ : en_M) : en_R := B_X12_order_0 (LK_X12_order en_FU) [.inr (185, 12, 0, 0), .inl x1, en_un] [] en_zz σ
noncomputable def T_X12_order_40 (n : Nat) (x1 : Int32) (x2 : Int32) (σ : en_M) : en_R := LK_X12_order n 40 [.inr (185, 12, 0, 0), .inl x1, .inl x2] [] en_zz σ
set_option maxRecDepth 20000 in
set_option maxHeartbeats 2000000 in
theorem t_X12_order_0 (x1 : Int32) (σ : en_M) : T_X12_order_0 x1 σ = (if (σ 185 1) = 0 then (en_ri (-2 : Int32) (en_up σ 185 11 (0 : Int32))) else ((O_X12_in [.inl x1, .inl (0 : Int32), .inl (200 : Int32)] (en_up σ 185 11 (0 : Int32))).bind fun r1 => if r1.1 = 0 then (en_ri (-1 : Int32) r1.2) else ((O_X12_layOrders [.inr (185, 12, 0, 0), .inl x1] r1.2).bind fun r2 => T_X12_order_40 en_FU x1 (0 : Int32) (en_up r2 185 10 (0 : Int32))))) := rfl
set_option maxRecDepth 20000 in
set_option maxHeartbeats 2000000 in
theorem t_X12_order_40 (n : Nat) (x1 : Int32) (x2 : Int32) (σ : en_M) : T_X12_order_40 (n + 1) x1 x2 σ = (if x2 < (σ 185 1) then ((en_ix (((7 : Int32) * x1) + x2) 1484).bind fun j4 => (O_X12_tell [.inr (185, 12, 0, 0), .inl (σ 197 j4)] σ).bind fun r5 => T_X12_order_40 n x1 (x2 + (1 : Int32)) r5) else ((en_ix ((7 : Int32) * x1) 1484).bind fun j3 => en_ri (σ 197 j3) σ)) := rfl
noncomputable def P_X12_order : List en_V → en_M → Option (Int32 × en_M) := fun av σ => match av with
  | [.inr (185, 12, 0, 0), .inl x1] => en_oi (T_X12_order_0 x1 σ)
  | _ => none
theorem ox_X12_order : ∃ f, f = P_X12_order := ⟨_, rfl⟩
noncomputable def O_X12_order : List en_V → en_M → Option (Int32 × en_M) := Classical.choose ox_X12_order
theorem oe_X12_order : O_X12_order = P_X12_order := Classical.choose_spec ox_X12_order
theorem o_X12_order (x1 : Int32) (σ : en_M) : O_X12_order [.inr (185, 12, 0, 0), .inl x1] σ = en_oi (T_X12_order_0 x1 σ) := by rw [oe_X12_order]; rfl
theorem i_X12_order (G : en_G) (hst : G.2.2.2.2.2 = true) : en_I G 4 yX12_order cX12_order 3 (some .int) 0 0 (en_wi (O_X12_order)) := en_of_i (M := M_X12_order) hst (s_X12_order_0 G hst _ (l_X12_order G hst en_FU)) (plainFor_of_name (by decide +kernel)) rfl rfl rfl (Or.inl ⟨rfl, rfl⟩) (fun av σ x σ' h => by
  rw [oe_X12_order] at h; unfold P_X12_order at h
  split at h
  · exact ⟨(Nat.le_of_ble_eq_true rfl), en_oi_some h⟩
  · cases h)
-- EachMayMissOneModel.truth()I
def M_X12_truth : en_Me := (cX12_truth, RX12, 3, false, 4, false)
theorem cs_X12_truth : en_cs yX12_truth cX12_truth 3 (some .int) 0 := ⟨wm_576, wm_337, ⟨(by decide +kernel), (by decide +kernel), (by decide +kernel)⟩, (Nat.le_of_ble_eq_true rfl)⟩
noncomputable def B_X12_truth_74 (kc : Nat → en_B) : en_B := (op_const (-2 : Int32) op_iret)
set_option maxRecDepth 20000 in
theorem s_X12_truth_74 (G : en_G) (hst : G.2.2.2.2.2 = true) (kc : Nat → en_B) (hk : ∀ t, en_Snd G M_X12_truth t (kc t)) : en_Snd G M_X12_truth 74 (B_X12_truth_74 kc) := (sn_bipush (n := -2) (v := -2) (by decide +kernel) rfl (sn_iret (by decide +kernel) rfl))
noncomputable def B_X12_truth_68 (kc : Nat → en_B) : en_B := (op_iinc 1 (1 : Int32) (kc 24))
set_option maxRecDepth 20000 in
theorem s_X12_truth_68 (G : en_G) (hst : G.2.2.2.2.2 = true) (kc : Nat → en_B) (hk : ∀ t, en_Snd G M_X12_truth t (kc t)) : en_Snd G M_X12_truth 68 (B_X12_truth_68 kc) := (sn_iinc (i := 1) (n := 1) (v := 1) (by decide +kernel) rfl (sn_goto (off := -47) (tgt := 24) (by decide +kernel) rfl (hk 24)))
noncomputable def B_X12_truth_62 (kc : Nat → en_B) : en_B := (op_iinc 2 (1 : Int32) (kc 33))
set_option maxRecDepth 20000 in
theorem s_X12_truth_62 (G : en_G) (hst : G.2.2.2.2.2 = true) (kc : Nat → en_B) (hk : ∀ t, en_Snd G M_X12_truth t (kc t)) : en_Snd G M_X12_truth 62 (B_X12_truth_62 kc) := (sn_iinc (i := 2) (n := 1) (v := 1) (by decide +kernel) rfl (sn_goto (off := -32) (tgt := 33) (by decide +kernel) rfl (hk 33)))
noncomputable def B_X12_truth_50 (kc : Nat → en_B) : en_B := (op_aload 0 (op_const (0 : Int32) (op_puti 12 10 (op_aload 0 (op_iload 2 (op_rcv 12 1 (op_callv O_X12_tell 2 (op_iload 1 op_iret))))))))
set_option maxRecDepth 20000 in
theorem s_X12_truth_50 (G : en_G) (hst : G.2.2.2.2.2 = true) (kc : Nat → en_B) (hk : ∀ t, en_Snd G M_X12_truth t (kc t)) : en_Snd G M_X12_truth 50 (B_X12_truth_50 kc) := (sn_aload_n (i := 0) (n := 0) (by decide +kernel) rfl (sn_iconst (n := 0) (v := 0) (by decide +kernel) rfl (sn_puti (ci := 12) (j := 10) en_c12 (by decide +kernel) wm_379 (Nat.le_of_ble_eq_true rfl) rfl rfl rfl (sn_aload_n (i := 0) (n := 0) (by decide +kernel) rfl (sn_iload_n (i := 2) (n := 2) (by decide +kernel) rfl (sn_callVv (n := 1) (idx := 251) (ci := 12) (i_X12_tell G hst) (Nat.le_of_ble_eq_true rfl) cs_X12_tell ⟨wm_377, wm_378, wm_536⟩ ⟨⟨_, rfl, rfl⟩, (Nat.le_of_ble_eq_true rfl)⟩ (by decide +kernel) (sn_iload_n (i := 1) (n := 1) (by decide +kernel) rfl (sn_iret (by decide +kernel) rfl))))))))
noncomputable def B_X12_truth_33 (kc : Nat → en_B) : en_B := (op_iload 2 (op_iload 1 (op_iclt (op_aload 0 (op_iload 2 (op_iload 1 (op_rcv 12 2 (op_calli O_X12_areLike 3 (op_ifeq (B_X12_truth_62 kc) (B_X12_truth_50 kc))))))) (B_X12_truth_68 kc))))
set_option maxRecDepth 20000 in
theorem s_X12_truth_33 (G : en_G) (hst : G.2.2.2.2.2 = true) (kc : Nat → en_B) (hk : ∀ t, en_Snd G M_X12_truth t (kc t)) : en_Snd G M_X12_truth 33 (B_X12_truth_33 kc) := (sn_iload_n (i := 2) (n := 2) (by decide +kernel) rfl (sn_iload_n (i := 1) (n := 1) (by decide +kernel) rfl (sn_icge (off := 33) (tgt := 68) (by decide +kernel) rfl (s_X12_truth_68 G hst kc hk) (sn_aload_n (i := 0) (n := 0) (by decide +kernel) rfl (sn_iload_n (i := 2) (n := 2) (by decide +kernel) rfl (sn_iload_n (i := 1) (n := 1) (by decide +kernel) rfl (sn_callVi (n := 2) (idx := 275) (ci := 12) (i_X12_areLike G hst) (Nat.le_of_ble_eq_true rfl) cs_X12_areLike ⟨wm_570, wm_571, wm_579⟩ ⟨⟨_, rfl, rfl⟩, (Nat.le_of_ble_eq_true rfl)⟩ (by decide +kernel) (sn_ifne (off := 6) (tgt := 50) (by decide +kernel) rfl (s_X12_truth_50 G hst kc hk) (sn_goto (off := 15) (tgt := 62) (by decide +kernel) rfl (s_X12_truth_62 G hst kc hk))))))))))
noncomputable def B_X12_truth_24 (kc : Nat → en_B) : en_B := (op_iload 1 (op_const (200 : Int32) (op_icgt (B_X12_truth_74 kc) (op_const (0 : Int32) (op_istore 2 (kc 33))))))
set_option maxRecDepth 20000 in
theorem s_X12_truth_24 (G : en_G) (hst : G.2.2.2.2.2 = true) (kc : Nat → en_B) (hk : ∀ t, en_Snd G M_X12_truth t (kc t)) : en_Snd G M_X12_truth 24 (B_X12_truth_24 kc) := (sn_iload_n (i := 1) (n := 1) (by decide +kernel) rfl (sn_sipush (n := 200) (v := 200) (by decide +kernel) rfl (sn_icgt (off := 46) (tgt := 74) (by decide +kernel) rfl (s_X12_truth_74 G hst kc hk) (sn_iconst (n := 0) (v := 0) (by decide +kernel) rfl (sn_istore_n (i := 2) (n := 2) (by decide +kernel) rfl (Nat.le_of_ble_eq_true rfl) (hk 33))))))
noncomputable def B_X12_truth_15 (kc : Nat → en_B) : en_B := (op_aload 0 (op_const (200 : Int32) (op_rcv 12 1 (op_callv O_X12_layOrders 2 (op_const (1 : Int32) (op_istore 1 (kc 24)))))))
set_option maxRecDepth 20000 in
theorem s_X12_truth_15 (G : en_G) (hst : G.2.2.2.2.2 = true) (kc : Nat → en_B) (hk : ∀ t, en_Snd G M_X12_truth t (kc t)) : en_Snd G M_X12_truth 15 (B_X12_truth_15 kc) := (sn_aload_n (i := 0) (n := 0) (by decide +kernel) rfl (sn_sipush (n := 200) (v := 200) (by decide +kernel) rfl (sn_callVv (n := 1) (idx := 272) (ci := 12) (i_X12_layOrders G hst) (Nat.le_of_ble_eq_true rfl) cs_X12_layOrders ⟨wm_567, wm_568, wm_575⟩ ⟨⟨_, rfl, rfl⟩, (Nat.le_of_ble_eq_true rfl)⟩ (by decide +kernel) (sn_iconst (n := 1) (v := 1) (by decide +kernel) rfl (sn_istore_n (i := 1) (n := 1) (by decide +kernel) rfl (Nat.le_of_ble_eq_true rfl) (hk 24))))))
noncomputable def B_X12_truth_0 (kc : Nat → en_B) : en_B := (op_aload 0 (op_const (0 : Int32) (op_puti 12 11 (op_aload 0 (op_geti 12 1 (op_ifeq (op_const (-2 : Int32) op_iret) (B_X12_truth_15 kc)))))))
set_option maxRecDepth 20000 in
theorem s_X12_truth_0 (G : en_G) (hst : G.2.2.2.2.2 = true) (kc : Nat → en_B) (hk : ∀ t, en_Snd G M_X12_truth t (kc t)) : en_Snd G M_X12_truth 0 (B_X12_truth_0 kc) := (sn_aload_n (i := 0) (n := 0) (by decide +kernel) rfl (sn_iconst (n := 0) (v := 0) (by decide +kernel) rfl (sn_puti (ci := 12) (j := 11) en_c12 (by decide +kernel) wm_368 (Nat.le_of_ble_eq_true rfl) rfl rfl rfl (sn_aload_n (i := 0) (n := 0) (by decide +kernel) rfl (sn_geti (ci := 12) (j := 1) en_c12 (by decide +kernel) wm_383 (Nat.le_of_ble_eq_true rfl) rfl (sn_ifne (off := 6) (tgt := 15) (by decide +kernel) rfl (s_X12_truth_15 G hst kc hk) (sn_bipush (n := -2) (v := -2) (by decide +kernel) rfl (sn_iret (by decide +kernel) rfl))))))))
noncomputable def LK_X12_truth : Nat → Nat → en_B
  | 0, _ => en_no
  | n + 1, t => if t = 24 then B_X12_truth_24 (LK_X12_truth n) else if t = 33 then B_X12_truth_33 (LK_X12_truth n) else en_no
theorem l_X12_truth (G : en_G) (hst : G.2.2.2.2.2 = true) : ∀ n t, en_Snd G M_X12_truth t (LK_X12_truth n t)
  | 0, _ => sn_no
  | n + 1, t => by
    show en_Snd G M_X12_truth t (if t = 24 then B_X12_truth_24 (LK_X12_truth n) else if t = 33 then B_X12_truth_33 (LK_X12_truth n) else en_no)
    by_cases h_24 : t = 24
    · rw [if_pos h_24, h_24]; exact s_X12_truth_24 G hst _ (l_X12_truth G hst n)
    rw [if_neg h_24]
    by_cases h_33 : t = 33
    · rw [if_pos h_33, h_33]; exact s_X12_truth_33 G hst _ (l_X12_truth G hst n)
    rw [if_neg h_33]
    exact sn_no
noncomputable def T_X12_truth_0 (σ : en_M) : en_R := B_X12_truth_0 (LK_X12_truth en_FU) [.inr (185, 12, 0, 0), en_un, en_un] [] en_zz σ
noncomputable def T_X12_truth_24 (n : Nat) (x1 : Int32) (u2 : en_V) (σ : en_M) : en_R := LK_X12_truth n 24 [.inr (185, 12, 0, 0), .inl x1, u2] [] en_zz σ
noncomputable def T_X12_truth_33 (n : Nat) (x1 : Int32) (x2 : Int32) (σ : en_M) : en_R := LK_X12_truth n 33 [.inr (185, 12, 0, 0), .inl x1, .inl x2] [] en_zz σ
set_option maxRecDepth 20000 in
set_option maxHeartbeats 2000000 in
theorem t_X12_truth_0 (σ : en_M) : T_X12_truth_0 σ = (if (σ 185 1) = 0 then (en_ri (-2 : Int32) (en_up σ 185 11 (0 : Int32))) else ((O_X12_layOrders [.inr (185, 12, 0, 0), .inl (200 : Int32)] (en_up σ 185 11 (0 : Int32))).bind fun r1 => T_X12_truth_24 en_FU (1 : Int32) (en_un) r1)) := rfl
set_option maxRecDepth 20000 in
set_option maxHeartbeats 2000000 in
theorem t_X12_truth_24 (n : Nat) (x1 : Int32) (u2 : en_V) (σ : en_M) : T_X12_truth_24 (n + 1) x1 u2 σ = (if (200 : Int32) < x1 then (en_ri (-2 : Int32) σ) else (T_X12_truth_33 n x1 (0 : Int32) σ)) := rfl
set_option maxRecDepth 20000 in
set_option maxHeartbeats 2000000 in
theorem t_X12_truth_33 (n : Nat) (x1 : Int32) (x2 : Int32) (σ : en_M) : T_X12_truth_33 (n + 1) x1 x2 σ = (if x2 < x1 then ((O_X12_areLike [.inr (185, 12, 0, 0), .inl x2, .inl x1] σ).bind fun r2 => if r2.1 = 0 then (T_X12_truth_33 n x1 (x2 + (1 : Int32)) r2.2) else ((O_X12_tell [.inr (185, 12, 0, 0), .inl x2] (en_up r2.2 185 10 (0 : Int32))).bind fun r3 => en_ri x1 r3)) else (T_X12_truth_24 n (x1 + (1 : Int32)) (.inl x2) σ)) := rfl
noncomputable def P_X12_truth : List en_V → en_M → Option (Int32 × en_M) := fun av σ => match av with
  | [.inr (185, 12, 0, 0)] => en_oi (T_X12_truth_0 σ)
  | _ => none
theorem ox_X12_truth : ∃ f, f = P_X12_truth := ⟨_, rfl⟩
noncomputable def O_X12_truth : List en_V → en_M → Option (Int32 × en_M) := Classical.choose ox_X12_truth
theorem oe_X12_truth : O_X12_truth = P_X12_truth := Classical.choose_spec ox_X12_truth
theorem o_X12_truth (σ : en_M) : O_X12_truth [.inr (185, 12, 0, 0)] σ = en_oi (T_X12_truth_0 σ) := by rw [oe_X12_truth]; rfl
theorem i_X12_truth (G : en_G) (hst : G.2.2.2.2.2 = true) : en_I G 4 yX12_truth cX12_truth 3 (some .int) 0 0 (en_wi (O_X12_truth)) := en_of_i (M := M_X12_truth) hst (s_X12_truth_0 G hst _ (l_X12_truth G hst en_FU)) (plainFor_of_name (by decide +kernel)) rfl rfl rfl (Or.inl ⟨rfl, rfl⟩) (fun av σ x σ' h => by
  rw [oe_X12_truth] at h; unfold P_X12_truth at h
  split at h
  · exact ⟨(Nat.le_of_ble_eq_true rfl), en_oi_some h⟩
  · cases h)
