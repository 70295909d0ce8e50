-- EachMayMissOneModel.begin([BII)V
def M_X12_begin : en_Me := (cX12_begin, RX12, 4, false, 1, false)
theorem cs_X12_begin : en_cs yX12_begin cX12_begin 4 none 3 := ⟨wm_403, wm_337, ⟨(by decide +kernel), (by decide +kernel), (by decide +kernel)⟩, (Nat.le_of_ble_eq_true rfl)⟩
noncomputable def B_X12_begin_0 (kc : Nat → en_B) : en_B := (op_aload 0 (op_aload 1 (op_putr 12 12 (op_aload 0 (op_iload 2 (op_puti 12 13 (op_aload 0 (op_iload 3 (op_puti 12 14 (op_aload 0 (op_const (0 : Int32) (op_puti 12 15 (op_aload 0 (op_const (-1 : Int32) (op_puti 12 16 op_vret)))))))))))))))
set_option maxRecDepth 20000 in
theorem s_X12_begin_0 (G : en_G) (hst : G.2.2.2.2.2 = true) (kc : Nat → en_B) (hk : ∀ t, en_Snd G M_X12_begin t (kc t)) : en_Snd G M_X12_begin 0 (B_X12_begin_0 kc) := (sn_aload_n (i := 0) (n := 0) (by decide +kernel) rfl (sn_aload_n (i := 1) (n := 1) (by decide +kernel) rfl (sn_putr (ci := 12) (j := 12) en_c12 (by decide +kernel) wm_406 (Nat.le_of_ble_eq_true rfl) rfl (by decide) (Or.inl (by decide)) (fun _ => rfl) (fun _ => rfl) (sn_aload_n (i := 0) (n := 0) (by decide +kernel) rfl (sn_iload_n (i := 2) (n := 2) (by decide +kernel) rfl (sn_puti (ci := 12) (j := 13) en_c12 (by decide +kernel) wm_407 (Nat.le_of_ble_eq_true rfl) rfl rfl rfl (sn_aload_n (i := 0) (n := 0) (by decide +kernel) rfl (sn_iload_n (i := 3) (n := 3) (by decide +kernel) rfl (sn_puti (ci := 12) (j := 14) en_c12 (by decide +kernel) wm_408 (Nat.le_of_ble_eq_true rfl) rfl rfl rfl (sn_aload_n (i := 0) (n := 0) (by decide +kernel) rfl (sn_iconst (n := 0) (v := 0) (by decide +kernel) rfl (sn_puti (ci := 12) (j := 15) en_c12 (by decide +kernel) wm_409 (Nat.le_of_ble_eq_true rfl) rfl rfl rfl (sn_aload_n (i := 0) (n := 0) (by decide +kernel) rfl (sn_iconst (n := -1) (v := -1) (by decide +kernel) rfl (sn_puti (ci := 12) (j := 16) en_c12 (by decide +kernel) wm_410 (Nat.le_of_ble_eq_true rfl) rfl rfl rfl (sn_vret (by decide +kernel)))))))))))))))))
noncomputable def LK_X12_begin : Nat → Nat → en_B
  | 0, _ => en_no
  | n + 1, t => en_no
theorem l_X12_begin (G : en_G) (hst : G.2.2.2.2.2 = true) : ∀ n t, en_Snd G M_X12_begin t (LK_X12_begin n t)
  | 0, _ => sn_no
  | n + 1, t => by
    show en_Snd G M_X12_begin t (en_no)
    exact sn_no
noncomputable def T_X12_begin_0 (k1 : Nat) (n1 : Nat) (x2 : Int32) (x3 : Int32) (σ : en_M) : en_R := B_X12_begin_0 (LK_X12_begin en_FU) [.inr (185, 12, 0, 0), .inr (k1, 21, n1, 0), .inl x2, .inl x3] [] en_zz σ
set_option maxRecDepth 400000 in
set_option maxHeartbeats 4000000 in
theorem t_X12_begin_0 (k1 : Nat) (n1 : Nat) (x2 : Int32) (x3 : Int32) (σ : en_M) : T_X12_begin_0 k1 n1 x2 x3 σ = (en_rv (en_up (en_up (en_up (en_up (en_up σ 185 12 (Int32.ofNat (k1 + 1))) 185 13 x2) 185 14 x3) 185 15 (0 : Int32)) 185 16 (-1 : Int32))) := rfl
noncomputable def P_X12_begin : List en_V → en_M → Option en_M := fun av σ => match av with
  | [.inr (185, 12, 0, 0), .inr (k1, 21, n1, 0), .inl x2, .inl x3] => en_ov (T_X12_begin_0 k1 n1 x2 x3 σ)
  | _ => none
theorem ox_X12_begin : ∃ f, f = P_X12_begin := ⟨_, rfl⟩
noncomputable def O_X12_begin : List en_V → en_M → Option en_M := Classical.choose ox_X12_begin
theorem oe_X12_begin : O_X12_begin = P_X12_begin := Classical.choose_spec ox_X12_begin
theorem o_X12_begin (k1 : Nat) (n1 : Nat) (x2 : Int32) (x3 : Int32) (σ : en_M) : O_X12_begin [.inr (185, 12, 0, 0), .inr (k1, 21, n1, 0), .inl x2, .inl x3] σ = en_ov (T_X12_begin_0 k1 n1 x2 x3 σ) := by rw [oe_X12_begin]; rfl
theorem i_X12_begin (G : en_G) (hst : G.2.2.2.2.2 = true) : en_I G 1 yX12_begin cX12_begin 4 none 0 0 (en_wv (O_X12_begin)) := en_of_v (M := M_X12_begin) hst (s_X12_begin_0 G hst _ (l_X12_begin G hst en_FU)) (plainFor_of_name (by decide +kernel)) rfl rfl rfl (fun av σ σ' h => by
  rw [oe_X12_begin] at h; unfold P_X12_begin at h
  split at h
  · exact ⟨(Nat.le_of_ble_eq_true rfl), en_ov_some h⟩
  · cases h)
-- EachMayMissOneModel.here()I
def M_X12_here : en_Me := (cX12_here, RX12, 1, false, 1, false)
theorem cs_X12_here : en_cs yX12_here cX12_here 1 (some .int) 0 := ⟨wm_411, wm_337, ⟨(by decide +kernel), (by decide +kernel), (by decide +kernel)⟩, (Nat.le_of_ble_eq_true rfl)⟩
noncomputable def B_X12_here_39 (kc : Nat → en_B) : en_B := op_iret
set_option maxRecDepth 20000 in
theorem s_X12_here_39 (G : en_G) (hst : G.2.2.2.2.2 = true) (kc : Nat → en_B) (hk : ∀ t, en_Snd G M_X12_here t (kc t)) : en_Snd G M_X12_here 39 (B_X12_here_39 kc) := (sn_iret (by decide +kernel) rfl)
noncomputable def B_X12_here_38 (kc : Nat → en_B) : en_B := (op_const (-1 : Int32) (B_X12_here_39 kc))
set_option maxRecDepth 20000 in
theorem s_X12_here_38 (G : en_G) (hst : G.2.2.2.2.2 = true) (kc : Nat → en_B) (hk : ∀ t, en_Snd G M_X12_here t (kc t)) : en_Snd G M_X12_here 38 (B_X12_here_38 kc) := (sn_iconst (n := -1) (v := -1) (by decide +kernel) rfl (s_X12_here_39 G hst kc hk))
noncomputable def B_X12_here_0 (kc : Nat → en_B) : en_B := (op_aload 0 (op_geti 12 15 (op_aload 0 (op_geti 12 13 (op_iclt (op_aload 0 (op_geti 12 15 (op_aload 0 (op_geti 12 14 (op_iclt (op_aload 0 (op_getd 12 12 (op_aload 0 (op_geti 12 15 (op_ald 21 (op_const (255 : Int32) (op_bin (fun (x y : Int32) => x &&& y) (B_X12_here_39 kc)))))))) (B_X12_here_38 kc)))))) (B_X12_here_38 kc))))))
set_option maxRecDepth 20000 in
theorem s_X12_here_0 (G : en_G) (hst : G.2.2.2.2.2 = true) (kc : Nat → en_B) (hk : ∀ t, en_Snd G M_X12_here t (kc t)) : en_Snd G M_X12_here 0 (B_X12_here_0 kc) := (sn_aload_n (i := 0) (n := 0) (by decide +kernel) rfl (sn_geti (ci := 12) (j := 15) en_c12 (by decide +kernel) wm_409 (Nat.le_of_ble_eq_true rfl) rfl (sn_aload_n (i := 0) (n := 0) (by decide +kernel) rfl (sn_geti (ci := 12) (j := 13) en_c12 (by decide +kernel) wm_407 (Nat.le_of_ble_eq_true rfl) rfl (sn_icge (off := 30) (tgt := 38) (by decide +kernel) rfl (s_X12_here_38 G hst kc hk) (sn_aload_n (i := 0) (n := 0) (by decide +kernel) rfl (sn_geti (ci := 12) (j := 15) en_c12 (by decide +kernel) wm_409 (Nat.le_of_ble_eq_true rfl) rfl (sn_aload_n (i := 0) (n := 0) (by decide +kernel) rfl (sn_geti (ci := 12) (j := 14) en_c12 (by decide +kernel) wm_408 (Nat.le_of_ble_eq_true rfl) rfl (sn_icge (off := 19) (tgt := 38) (by decide +kernel) rfl (s_X12_here_38 G hst kc hk) (sn_aload_n (i := 0) (n := 0) (by decide +kernel) rfl (sn_getd (ci := 12) (j := 12) en_c12 (by decide +kernel) wm_406 (Nat.le_of_ble_eq_true rfl) (by decide) (Or.inl (by decide)) (sn_aload_n (i := 0) (n := 0) (by decide +kernel) rfl (sn_geti (ci := 12) (j := 15) en_c12 (by decide +kernel) wm_409 (Nat.le_of_ble_eq_true rfl) rfl (sn_bald (by decide +kernel) (sn_sipush (n := 255) (v := 255) (by decide +kernel) rfl (sn_iand (by decide +kernel) (sn_goto (off := 4) (tgt := 39) (by decide +kernel) rfl (s_X12_here_39 G hst kc hk)))))))))))))))))))
noncomputable def LK_X12_here : Nat → Nat → en_B
  | 0, _ => en_no
  | n + 1, t => en_no
theorem l_X12_here (G : en_G) (hst : G.2.2.2.2.2 = true) : ∀ n t, en_Snd G M_X12_here t (LK_X12_here n t)
  | 0, _ => sn_no
  | n + 1, t => by
    show en_Snd G M_X12_here t (en_no)
    exact sn_no
noncomputable def T_X12_here_0 (σ : en_M) : en_R := B_X12_here_0 (LK_X12_here en_FU) [.inr (185, 12, 0, 0)] [] en_zz σ
set_option maxRecDepth 400000 in
set_option maxHeartbeats 4000000 in
theorem t_X12_here_0 (σ : en_M) : T_X12_here_0 σ = (if (σ 185 15) < (σ 185 13) then (if (σ 185 15) < (σ 185 14) then (if (σ 185 12) = 0 then none else cond (Nat.blt ((σ 185 12).toNatClampNeg - 1) 210) (cond (Nat.beq (en_ka ((σ 185 12).toNatClampNeg - 1)).1 21) ((en_ix (σ 185 15) (en_ka ((σ 185 12).toNatClampNeg - 1)).2.1).bind fun j1 => en_ri ((σ ((σ 185 12).toNatClampNeg - 1) j1) &&& (255 : Int32)) σ) none) none) else (en_ri (-1 : Int32) σ)) else (en_ri (-1 : Int32) σ)) := rfl
noncomputable def P_X12_here : List en_V → en_M → Option (Int32 × en_M) := fun av σ => match av with
  | [.inr (185, 12, 0, 0)] => en_oi (T_X12_here_0 σ)
  | _ => none
theorem ox_X12_here : ∃ f, f = P_X12_here := ⟨_, rfl⟩
noncomputable def O_X12_here : List en_V → en_M → Option (Int32 × en_M) := Classical.choose ox_X12_here
theorem oe_X12_here : O_X12_here = P_X12_here := Classical.choose_spec ox_X12_here
theorem o_X12_here (σ : en_M) : O_X12_here [.inr (185, 12, 0, 0)] σ = en_oi (T_X12_here_0 σ) := by rw [oe_X12_here]; rfl
theorem i_X12_here (G : en_G) (hst : G.2.2.2.2.2 = true) : en_I G 1 yX12_here cX12_here 1 (some .int) 0 0 (en_wi (O_X12_here)) := en_of_i (M := M_X12_here) hst (s_X12_here_0 G hst _ (l_X12_here G hst en_FU)) (plainFor_of_name (by decide +kernel)) rfl rfl rfl (Or.inl ⟨rfl, rfl⟩) (fun av σ x σ' h => by
  rw [oe_X12_here] at h; unfold P_X12_here at h
  split at h
  · exact ⟨(Nat.le_of_ble_eq_true rfl), en_oi_some h⟩
  · cases h)
-- EachMayMissOneModel.fine()Z
def M_X12_fine : en_Me := (cX12_fine, RX12, 1, false, 1, true)
theorem cs_X12_fine : en_cs yX12_fine cX12_fine 1 (some .boolean) 0 := ⟨wm_414, wm_337, ⟨(by decide +kernel), (by decide +kernel), (by decide +kernel)⟩, (Nat.le_of_ble_eq_true rfl)⟩
noncomputable def B_X12_fine_13 (kc : Nat → en_B) : en_B := op_zret
set_option maxRecDepth 20000 in
theorem s_X12_fine_13 (G : en_G) (hst : G.2.2.2.2.2 = true) (kc : Nat → en_B) (hk : ∀ t, en_Snd G M_X12_fine t (kc t)) : en_Snd G M_X12_fine 13 (B_X12_fine_13 kc) := (sn_zret (by decide +kernel))
noncomputable def B_X12_fine_12 (kc : Nat → en_B) : en_B := (op_const (0 : Int32) (B_X12_fine_13 kc))
set_option maxRecDepth 20000 in
theorem s_X12_fine_12 (G : en_G) (hst : G.2.2.2.2.2 = true) (kc : Nat → en_B) (hk : ∀ t, en_Snd G M_X12_fine t (kc t)) : en_Snd G M_X12_fine 12 (B_X12_fine_12 kc) := (sn_iconst (n := 0) (v := 0) (by decide +kernel) rfl (s_X12_fine_13 G hst kc hk))
noncomputable def B_X12_fine_0 (kc : Nat → en_B) : en_B := (op_aload 0 (op_geti 12 16 (op_const (-1 : Int32) (op_iceq (op_const (1 : Int32) (B_X12_fine_13 kc)) (B_X12_fine_12 kc)))))
set_option maxRecDepth 20000 in
theorem s_X12_fine_0 (G : en_G) (hst : G.2.2.2.2.2 = true) (kc : Nat → en_B) (hk : ∀ t, en_Snd G M_X12_fine t (kc t)) : en_Snd G M_X12_fine 0 (B_X12_fine_0 kc) := (sn_aload_n (i := 0) (n := 0) (by decide +kernel) rfl (sn_geti (ci := 12) (j := 16) en_c12 (by decide +kernel) wm_410 (Nat.le_of_ble_eq_true rfl) rfl (sn_iconst (n := -1) (v := -1) (by decide +kernel) rfl (sn_icne (off := 7) (tgt := 12) (by decide +kernel) rfl (s_X12_fine_12 G hst kc hk) (sn_iconst (n := 1) (v := 1) (by decide +kernel) rfl (sn_goto (off := 4) (tgt := 13) (by decide +kernel) rfl (s_X12_fine_13 G hst kc hk)))))))
noncomputable def LK_X12_fine : Nat → Nat → en_B
  | 0, _ => en_no
  | n + 1, t => en_no
theorem l_X12_fine (G : en_G) (hst : G.2.2.2.2.2 = true) : ∀ n t, en_Snd G M_X12_fine t (LK_X12_fine n t)
  | 0, _ => sn_no
  | n + 1, t => by
    show en_Snd G M_X12_fine t (en_no)
    exact sn_no
noncomputable def T_X12_fine_0 (σ : en_M) : en_R := B_X12_fine_0 (LK_X12_fine en_FU) [.inr (185, 12, 0, 0)] [] en_zz σ
set_option maxRecDepth 400000 in
set_option maxHeartbeats 4000000 in
theorem t_X12_fine_0 (σ : en_M) : T_X12_fine_0 σ = (if (σ 185 16) = (-1 : Int32) then (if (1 : Int32) = 0 ∨ (1 : Int32) = 1 then en_ri (1 : Int32) σ else none) else (if (0 : Int32) = 0 ∨ (0 : Int32) = 1 then en_ri (0 : Int32) σ else none)) := rfl
noncomputable def P_X12_fine : List en_V → en_M → Option (Int32 × en_M) := fun av σ => match av with
  | [.inr (185, 12, 0, 0)] => en_oi (T_X12_fine_0 σ)
  | _ => none
theorem ox_X12_fine : ∃ f, f = P_X12_fine := ⟨_, rfl⟩
noncomputable def O_X12_fine : List en_V → en_M → Option (Int32 × en_M) := Classical.choose ox_X12_fine
theorem oe_X12_fine : O_X12_fine = P_X12_fine := Classical.choose_spec ox_X12_fine
theorem o_X12_fine (σ : en_M) : O_X12_fine [.inr (185, 12, 0, 0)] σ = en_oi (T_X12_fine_0 σ) := by rw [oe_X12_fine]; rfl
theorem i_X12_fine (G : en_G) (hst : G.2.2.2.2.2 = true) : en_I G 1 yX12_fine cX12_fine 1 (some .boolean) 0 0 (en_wi (O_X12_fine)) := en_of_i (M := M_X12_fine) hst (s_X12_fine_0 G hst _ (l_X12_fine G hst en_FU)) (plainFor_of_name (by decide +kernel)) rfl rfl rfl (Or.inr ⟨Or.inl rfl, rfl⟩) (fun av σ x σ' h => by
  rw [oe_X12_fine] at h; unfold P_X12_fine at h
  split at h
  · exact ⟨(Nat.le_of_ble_eq_true rfl), en_oi_some h⟩
  · cases h)
-- EachMayMissOneModel.fault(I)V
def M_X12_fault : en_Me := (cX12_fault, RX12, 2, false, 2, false)
theorem cs_X12_fault : en_cs yX12_fault cX12_fault 2 none 1 := ⟨wm_417, wm_337, ⟨(by decide +kernel), (by decide +kernel), (by decide +kernel)⟩, (Nat.le_of_ble_eq_true rfl)⟩
noncomputable def B_X12_fault_12 (kc : Nat → en_B) : en_B := op_vret
set_option maxRecDepth 20000 in
theorem s_X12_fault_12 (G : en_G) (hst : G.2.2.2.2.2 = true) (kc : Nat → en_B) (hk : ∀ t, en_Snd G M_X12_fault t (kc t)) : en_Snd G M_X12_fault 12 (B_X12_fault_12 kc) := (sn_vret (by decide +kernel))
noncomputable def B_X12_fault_0 (kc : Nat → en_B) : en_B := (op_aload 0 (op_rcv 12 0 (op_calli O_X12_fine 1 (op_ifeq (B_X12_fault_12 kc) (op_aload 0 (op_iload 1 (op_puti 12 16 (B_X12_fault_12 kc))))))))
set_option maxRecDepth 20000 in
theorem s_X12_fault_0 (G : en_G) (hst : G.2.2.2.2.2 = true) (kc : Nat → en_B) (hk : ∀ t, en_Snd G M_X12_fault t (kc t)) : en_Snd G M_X12_fault 0 (B_X12_fault_0 kc) := (sn_aload_n (i := 0) (n := 0) (by decide +kernel) rfl (sn_callVi (n := 0) (idx := 130) (ci := 12) (i_X12_fine G hst) (Nat.le_of_ble_eq_true rfl) cs_X12_fine ⟨wm_415, wm_416, wm_420⟩ ⟨⟨_, rfl, rfl⟩, (Nat.le_of_ble_eq_true rfl)⟩ (by decide +kernel) (sn_ifeq (off := 8) (tgt := 12) (by decide +kernel) rfl (s_X12_fault_12 G hst kc hk) (sn_aload_n (i := 0) (n := 0) (by decide +kernel) rfl (sn_iload_n (i := 1) (n := 1) (by decide +kernel) rfl (sn_puti (ci := 12) (j := 16) en_c12 (by decide +kernel) wm_410 (Nat.le_of_ble_eq_true rfl) rfl rfl rfl (s_X12_fault_12 G hst kc hk)))))))
noncomputable def LK_X12_fault : Nat → Nat → en_B
  | 0, _ => en_no
  | n + 1, t => en_no
theorem l_X12_fault (G : en_G) (hst : G.2.2.2.2.2 = true) : ∀ n t, en_Snd G M_X12_fault t (LK_X12_fault n t)
  | 0, _ => sn_no
  | n + 1, t => by
    show en_Snd G M_X12_fault t (en_no)
    exact sn_no
noncomputable def T_X12_fault_0 (x1 : Int32) (σ : en_M) : en_R := B_X12_fault_0 (LK_X12_fault en_FU) [.inr (185, 12, 0, 0), .inl x1] [] en_zz σ
set_option maxRecDepth 400000 in
set_option maxHeartbeats 4000000 in
theorem t_X12_fault_0 (x1 : Int32) (σ : en_M) : T_X12_fault_0 x1 σ = ((O_X12_fine [.inr (185, 12, 0, 0)] σ).bind fun r1 => if r1.1 = 0 then (en_rv r1.2) else (en_rv (en_up r1.2 185 16 x1))) := rfl
noncomputable def P_X12_fault : List en_V → en_M → Option en_M := fun av σ => match av with
  | [.inr (185, 12, 0, 0), .inl x1] => en_ov (T_X12_fault_0 x1 σ)
  | _ => none
theorem ox_X12_fault : ∃ f, f = P_X12_fault := ⟨_, rfl⟩
noncomputable def O_X12_fault : List en_V → en_M → Option en_M := Classical.choose ox_X12_fault
theorem oe_X12_fault : O_X12_fault = P_X12_fault := Classical.choose_spec ox_X12_fault
theorem o_X12_fault (x1 : Int32) (σ : en_M) : O_X12_fault [.inr (185, 12, 0, 0), .inl x1] σ = en_ov (T_X12_fault_0 x1 σ) := by rw [oe_X12_fault]; rfl
theorem i_X12_fault (G : en_G) (hst : G.2.2.2.2.2 = true) : en_I G 2 yX12_fault cX12_fault 2 none 0 0 (en_wv (O_X12_fault)) := en_of_v (M := M_X12_fault) hst (s_X12_fault_0 G hst _ (l_X12_fault G hst en_FU)) (plainFor_of_name (by decide +kernel)) rfl rfl rfl (fun av σ σ' h => by
  rw [oe_X12_fault] at h; unfold P_X12_fault at h
  split at h
  · exact ⟨(Nat.le_of_ble_eq_true rfl), en_ov_some h⟩
  · cases h)
-- EachMayMissOneModel.passes(C)Z
def M_X12_passes : en_Me := (cX12_passes, RX12, 2, false, 2, true)
theorem cs_X12_passes : en_cs yX12_passes cX12_passes 2 (some .boolean) 1 := ⟨wm_421, wm_337, ⟨(by decide +kernel), (by decide +kernel), (by decide +kernel)⟩, (Nat.le_of_ble_eq_true rfl)⟩
noncomputable def B_X12_passes_17 (kc : Nat → en_B) : en_B := (op_aload 0 (op_dup (op_geti 12 15 (op_const (1 : Int32) (op_bin (fun (x y : Int32) => x + y) (op_puti 12 15 (op_const (1 : Int32) op_zret)))))))
set_option maxRecDepth 20000 in
theorem s_X12_passes_17 (G : en_G) (hst : G.2.2.2.2.2 = true) (kc : Nat → en_B) (hk : ∀ t, en_Snd G M_X12_passes t (kc t)) : en_Snd G M_X12_passes 17 (B_X12_passes_17 kc) := (sn_aload_n (i := 0) (n := 0) (by decide +kernel) rfl (sn_dup (by decide +kernel) (sn_geti (ci := 12) (j := 15) en_c12 (by decide +kernel) wm_409 (Nat.le_of_ble_eq_true rfl) rfl (sn_iconst (n := 1) (v := 1) (by decide +kernel) rfl (sn_iadd (by decide +kernel) (sn_puti (ci := 12) (j := 15) en_c12 (by decide +kernel) wm_409 (Nat.le_of_ble_eq_true rfl) rfl rfl rfl (sn_iconst (n := 1) (v := 1) (by decide +kernel) rfl (sn_zret (by decide +kernel)))))))))
noncomputable def B_X12_passes_15 (kc : Nat → en_B) : en_B := (op_const (0 : Int32) op_zret)
set_option maxRecDepth 20000 in
theorem s_X12_passes_15 (G : en_G) (hst : G.2.2.2.2.2 = true) (kc : Nat → en_B) (hk : ∀ t, en_Snd G M_X12_passes t (kc t)) : en_Snd G M_X12_passes 15 (B_X12_passes_15 kc) := (sn_iconst (n := 0) (v := 0) (by decide +kernel) rfl (sn_zret (by decide +kernel)))
noncomputable def B_X12_passes_0 (kc : Nat → en_B) : en_B := (op_aload 0 (op_rcv 12 0 (op_calli O_X12_fine 1 (op_ifeq (B_X12_passes_15 kc) (op_aload 0 (op_rcv 12 0 (op_calli O_X12_here 1 (op_iload 1 (op_iceq (B_X12_passes_17 kc) (B_X12_passes_15 kc))))))))))
set_option maxRecDepth 20000 in
theorem s_X12_passes_0 (G : en_G) (hst : G.2.2.2.2.2 = true) (kc : Nat → en_B) (hk : ∀ t, en_Snd G M_X12_passes t (kc t)) : en_Snd G M_X12_passes 0 (B_X12_passes_0 kc) := (sn_aload_n (i := 0) (n := 0) (by decide +kernel) rfl (sn_callVi (n := 0) (idx := 130) (ci := 12) (i_X12_fine G hst) (Nat.le_of_ble_eq_true rfl) cs_X12_fine ⟨wm_415, wm_416, wm_420⟩ ⟨⟨_, rfl, rfl⟩, (Nat.le_of_ble_eq_true rfl)⟩ (by decide +kernel) (sn_ifeq (off := 11) (tgt := 15) (by decide +kernel) rfl (s_X12_passes_15 G hst kc hk) (sn_aload_n (i := 0) (n := 0) (by decide +kernel) rfl (sn_callVi (n := 0) (idx := 134) (ci := 12) (i_X12_here G hst) (Nat.le_of_ble_eq_true rfl) cs_X12_here ⟨wm_412, wm_413, wm_424⟩ ⟨⟨_, rfl, rfl⟩, (Nat.le_of_ble_eq_true rfl)⟩ (by decide +kernel) (sn_iload_n (i := 1) (n := 1) (by decide +kernel) rfl (sn_iceq (off := 5) (tgt := 17) (by decide +kernel) rfl (s_X12_passes_17 G hst kc hk) (s_X12_passes_15 G hst kc hk))))))))
noncomputable def LK_X12_passes : Nat → Nat → en_B
  | 0, _ => en_no
  | n + 1, t => en_no
theorem l_X12_passes (G : en_G) (hst : G.2.2.2.2.2 = true) : ∀ n t, en_Snd G M_X12_passes t (LK_X12_passes n t)
  | 0, _ => sn_no
  | n + 1, t => by
    show en_Snd G M_X12_passes t (en_no)
    exact sn_no
noncomputable def T_X12_passes_0 (x1 : Int32) (σ : en_M) : en_R := B_X12_passes_0 (LK_X12_passes en_FU) [.inr (185, 12, 0, 0), .inl x1] [] en_zz σ
set_option maxRecDepth 400000 in
set_option maxHeartbeats 4000000 in
theorem t_X12_passes_0 (x1 : Int32) (σ : en_M) : T_X12_passes_0 x1 σ = ((O_X12_fine [.inr (185, 12, 0, 0)] σ).bind fun r1 => if r1.1 = 0 then (if (0 : Int32) = 0 ∨ (0 : Int32) = 1 then en_ri (0 : Int32) r1.2 else none) else ((O_X12_here [.inr (185, 12, 0, 0)] r1.2).bind fun r2 => if r2.1 = x1 then (if (1 : Int32) = 0 ∨ (1 : Int32) = 1 then en_ri (1 : Int32) (en_up r2.2 185 15 ((r2.2 185 15) + (1 : Int32))) else none) else (if (0 : Int32) = 0 ∨ (0 : Int32) = 1 then en_ri (0 : Int32) r2.2 else none))) := rfl
noncomputable def P_X12_passes : List en_V → en_M → Option (Int32 × en_M) := fun av σ => match av with
  | [.inr (185, 12, 0, 0), .inl x1] => en_oi (T_X12_passes_0 x1 σ)
  | _ => none
theorem ox_X12_passes : ∃ f, f = P_X12_passes := ⟨_, rfl⟩
noncomputable def O_X12_passes : List en_V → en_M → Option (Int32 × en_M) := Classical.choose ox_X12_passes
theorem oe_X12_passes : O_X12_passes = P_X12_passes := Classical.choose_spec ox_X12_passes
theorem o_X12_passes (x1 : Int32) (σ : en_M) : O_X12_passes [.inr (185, 12, 0, 0), .inl x1] σ = en_oi (T_X12_passes_0 x1 σ) := by rw [oe_X12_passes]; rfl
theorem i_X12_passes (G : en_G) (hst : G.2.2.2.2.2 = true) : en_I G 2 yX12_passes cX12_passes 2 (some .boolean) 0 0 (en_wi (O_X12_passes)) := en_of_i (M := M_X12_passes) hst (s_X12_passes_0 G hst _ (l_X12_passes G hst en_FU)) (plainFor_of_name (by decide +kernel)) rfl rfl rfl (Or.inr ⟨Or.inl rfl, rfl⟩) (fun av σ x σ' h => by
  rw [oe_X12_passes] at h; unfold P_X12_passes at h
  split at h
  · exact ⟨(Nat.le_of_ble_eq_true rfl), en_oi_some h⟩
  · cases h)
-- EachMayMissOneModel.oneOf(CI)I
def M_X12_oneOf : en_Me := (cX12_oneOf, RX12, 3, false, 3, false)
theorem cs_X12_oneOf : en_cs yX12_oneOf cX12_oneOf 3 (some .int) 2 := ⟨wm_425, wm_337, ⟨(by decide +kernel), (by decide +kernel), (by decide +kernel)⟩, (Nat.le_of_ble_eq_true rfl)⟩
noncomputable def B_X12_oneOf_35 (kc : Nat → en_B) : en_B := (op_aload 0 (op_dup (op_geti 12 15 (op_const (1 : Int32) (op_bin (fun (x y : Int32) => x + y) (op_puti 12 15 (op_aload 0 (op_getd 12 12 (op_aload 0 (op_geti 12 15 (op_const (1 : Int32) (op_bin (fun (x y : Int32) => x - y) (op_ald 21 (op_iload 1 (op_bin (fun (x y : Int32) => x - y) op_iret)))))))))))))))
set_option maxRecDepth 20000 in
theorem s_X12_oneOf_35 (G : en_G) (hst : G.2.2.2.2.2 = true) (kc : Nat → en_B) (hk : ∀ t, en_Snd G M_X12_oneOf t (kc t)) : en_Snd G M_X12_oneOf 35 (B_X12_oneOf_35 kc) := (sn_aload_n (i := 0) (n := 0) (by decide +kernel) rfl (sn_dup (by decide +kernel) (sn_geti (ci := 12) (j := 15) en_c12 (by decide +kernel) wm_409 (Nat.le_of_ble_eq_true rfl) rfl (sn_iconst (n := 1) (v := 1) (by decide +kernel) rfl (sn_iadd (by decide +kernel) (sn_puti (ci := 12) (j := 15) en_c12 (by decide +kernel) wm_409 (Nat.le_of_ble_eq_true rfl) rfl rfl rfl (sn_aload_n (i := 0) (n := 0) (by decide +kernel) rfl (sn_getd (ci := 12) (j := 12) en_c12 (by decide +kernel) wm_406 (Nat.le_of_ble_eq_true rfl) (by decide) (Or.inl (by decide)) (sn_aload_n (i := 0) (n := 0) (by decide +kernel) rfl (sn_geti (ci := 12) (j := 15) en_c12 (by decide +kernel) wm_409 (Nat.le_of_ble_eq_true rfl) rfl (sn_iconst (n := 1) (v := 1) (by decide +kernel) rfl (sn_isub (by decide +kernel) (sn_bald (by decide +kernel) (sn_iload_n (i := 1) (n := 1) (by decide +kernel) rfl (sn_isub (by decide +kernel) (sn_iret (by decide +kernel) rfl))))))))))))))))
noncomputable def B_X12_oneOf_9 (kc : Nat → en_B) : en_B := (op_aload 0 (op_rcv 12 0 (op_calli O_X12_here 1 (op_iload 1 (op_iload 1 (op_iload 2 (op_bin (fun (x y : Int32) => x + y) (op_const (1 : Int32) (op_bin (fun (x y : Int32) => x - y) (op_calli O_X12_in 3 (op_ifeq (op_aload 0 (op_aload 0 (op_geti 12 15 (op_rcv 12 1 (op_callv O_X12_fault 2 (op_const (0 : Int32) op_iret)))))) (B_X12_oneOf_35 kc))))))))))))
set_option maxRecDepth 20000 in
theorem s_X12_oneOf_9 (G : en_G) (hst : G.2.2.2.2.2 = true) (kc : Nat → en_B) (hk : ∀ t, en_Snd G M_X12_oneOf t (kc t)) : en_Snd G M_X12_oneOf 9 (B_X12_oneOf_9 kc) := (sn_aload_n (i := 0) (n := 0) (by decide +kernel) rfl (sn_callVi (n := 0) (idx := 134) (ci := 12) (i_X12_here G hst) (Nat.le_of_ble_eq_true rfl) cs_X12_here ⟨wm_412, wm_413, wm_424⟩ ⟨⟨_, rfl, rfl⟩, (Nat.le_of_ble_eq_true rfl)⟩ (by decide +kernel) (sn_iload_n (i := 1) (n := 1) (by decide +kernel) rfl (sn_iload_n (i := 1) (n := 1) (by decide +kernel) rfl (sn_iload_n (i := 2) (n := 2) (by decide +kernel) rfl (sn_iadd (by decide +kernel) (sn_iconst (n := 1) (v := 1) (by decide +kernel) rfl (sn_isub (by decide +kernel) (sn_callSi (n := 3) (idx := 100) (i_X12_in G hst) (Nat.le_of_ble_eq_true rfl) cs_X12_in ⟨wm_370, Or.inl wm_384⟩ (by decide +kernel) (sn_ifne (off := 13) (tgt := 35) (by decide +kernel) rfl (s_X12_oneOf_35 G hst kc hk) (sn_aload_n (i := 0) (n := 0) (by decide +kernel) rfl (sn_aload_n (i := 0) (n := 0) (by decide +kernel) rfl (sn_geti (ci := 12) (j := 15) en_c12 (by decide +kernel) wm_409 (Nat.le_of_ble_eq_true rfl) rfl (sn_callVv (n := 1) (idx := 137) (ci := 12) (i_X12_fault G hst) (Nat.le_of_ble_eq_true rfl) cs_X12_fault ⟨wm_418, wm_419, wm_428⟩ ⟨⟨_, rfl, rfl⟩, (Nat.le_of_ble_eq_true rfl)⟩ (by decide +kernel) (sn_iconst (n := 0) (v := 0) (by decide +kernel) rfl (sn_iret (by decide +kernel) rfl))))))))))))))))
noncomputable def B_X12_oneOf_0 (kc : Nat → en_B) : en_B := (op_aload 0 (op_rcv 12 0 (op_calli O_X12_fine 1 (op_ifeq (op_const (0 : Int32) op_iret) (B_X12_oneOf_9 kc)))))
set_option maxRecDepth 20000 in
theorem s_X12_oneOf_0 (G : en_G) (hst : G.2.2.2.2.2 = true) (kc : Nat → en_B) (hk : ∀ t, en_Snd G M_X12_oneOf t (kc t)) : en_Snd G M_X12_oneOf 0 (B_X12_oneOf_0 kc) := (sn_aload_n (i := 0) (n := 0) (by decide +kernel) rfl (sn_callVi (n := 0) (idx := 130) (ci := 12) (i_X12_fine G hst) (Nat.le_of_ble_eq_true rfl) cs_X12_fine ⟨wm_415, wm_416, wm_420⟩ ⟨⟨_, rfl, rfl⟩, (Nat.le_of_ble_eq_true rfl)⟩ (by decide +kernel) (sn_ifne (off := 5) (tgt := 9) (by decide +kernel) rfl (s_X12_oneOf_9 G hst kc hk) (sn_iconst (n := 0) (v := 0) (by decide +kernel) rfl (sn_iret (by decide +kernel) rfl)))))
noncomputable def LK_X12_oneOf : Nat → Nat → en_B
  | 0, _ => en_no
  | n + 1, t => en_no
theorem l_X12_oneOf (G : en_G) (hst : G.2.2.2.2.2 = true) : ∀ n t, en_Snd G M_X12_oneOf t (LK_X12_oneOf n t)
  | 0, _ => sn_no
  | n + 1, t => by
    show en_Snd G M_X12_oneOf t (en_no)
    exact sn_no
noncomputable def T_X12_oneOf_0 (x1 : Int32) (x2 : Int32) (σ : en_M) : en_R := B_X12_oneOf_0 (LK_X12_oneOf en_FU) [.inr (185, 12, 0, 0), .inl x1, .inl x2] [] en_zz σ
set_option maxRecDepth 400000 in
set_option maxHeartbeats 4000000 in
theorem t_X12_oneOf_0 (x1 : Int32) (x2 : Int32) (σ : en_M) : T_X12_oneOf_0 x1 x2 σ = ((O_X12_fine [.inr (185, 12, 0, 0)] σ).bind fun r1 => if r1.1 = 0 then (en_ri (0 : Int32) r1.2) else ((O_X12_here [.inr (185, 12, 0, 0)] r1.2).bind fun r2 => (O_X12_in [.inl r2.1, .inl x1, .inl ((x1 + x2) - (1 : Int32))] r2.2).bind fun r3 => if r3.1 = 0 then ((O_X12_fault [.inr (185, 12, 0, 0), .inl (r3.2 185 15)] r3.2).bind fun r5 => en_ri (0 : Int32) r5) else (if (r3.2 185 12) = 0 then none else cond (Nat.blt ((r3.2 185 12).toNatClampNeg - 1) 210) (cond (Nat.beq (en_ka ((r3.2 185 12).toNatClampNeg - 1)).1 21) ((en_ix (((r3.2 185 15) + (1 : Int32)) - (1 : Int32)) (en_ka ((r3.2 185 12).toNatClampNeg - 1)).2.1).bind fun j4 => en_ri (((en_up r3.2 185 15 ((r3.2 185 15) + (1 : Int32))) ((r3.2 185 12).toNatClampNeg - 1) j4) - x1) (en_up r3.2 185 15 ((r3.2 185 15) + (1 : Int32)))) none) none))) := rfl
noncomputable def P_X12_oneOf : List en_V → en_M → Option (Int32 × en_M) := fun av σ => match av with
  | [.inr (185, 12, 0, 0), .inl x1, .inl x2] => en_oi (T_X12_oneOf_0 x1 x2 σ)
  | _ => none
theorem ox_X12_oneOf : ∃ f, f = P_X12_oneOf := ⟨_, rfl⟩
noncomputable def O_X12_oneOf : List en_V → en_M → Option (Int32 × en_M) := Classical.choose ox_X12_oneOf
theorem oe_X12_oneOf : O_X12_oneOf = P_X12_oneOf := Classical.choose_spec ox_X12_oneOf
theorem o_X12_oneOf (x1 : Int32) (x2 : Int32) (σ : en_M) : O_X12_oneOf [.inr (185, 12, 0, 0), .inl x1, .inl x2] σ = en_oi (T_X12_oneOf_0 x1 x2 σ) := by rw [oe_X12_oneOf]; rfl
theorem i_X12_oneOf (G : en_G) (hst : G.2.2.2.2.2 = true) : en_I G 3 yX12_oneOf cX12_oneOf 3 (some .int) 0 0 (en_wi (O_X12_oneOf)) := en_of_i (M := M_X12_oneOf) hst (s_X12_oneOf_0 G hst _ (l_X12_oneOf G hst en_FU)) (plainFor_of_name (by decide +kernel)) rfl rfl rfl (Or.inl ⟨rfl, rfl⟩) (fun av σ x σ' h => by
  rw [oe_X12_oneOf] at h; unfold P_X12_oneOf at h
  split at h
  · exact ⟨(Nat.le_of_ble_eq_true rfl), en_oi_some h⟩
  · cases h)
-- EachMayMissOneModel.number(I)I
def M_X12_number : en_Me := (cX12_number, RX12, 4, false, 4, false)
theorem cs_X12_number : en_cs yX12_number cX12_number 4 (some .int) 1 := ⟨wm_429, wm_337, ⟨(by decide +kernel), (by decide +kernel), (by decide +kernel)⟩, (Nat.le_of_ble_eq_true rfl)⟩
noncomputable def B_X12_number_57 (kc : Nat → en_B) : en_B := (op_iload 2 op_iret)
set_option maxRecDepth 20000 in
theorem s_X12_number_57 (G : en_G) (hst : G.2.2.2.2.2 = true) (kc : Nat → en_B) (hk : ∀ t, en_Snd G M_X12_number t (kc t)) : en_Snd G M_X12_number 57 (B_X12_number_57 kc) := (sn_iload_n (i := 2) (n := 2) (by decide +kernel) rfl (sn_iret (by decide +kernel) rfl))
noncomputable def B_X12_number_11 (kc : Nat → en_B) : en_B := (op_iload 3 (op_iload 1 (op_iclt (op_aload 0 (op_rcv 12 0 (op_calli O_X12_fine 1 (op_ifeq (B_X12_number_57 kc) (op_aload 0 (op_rcv 12 0 (op_calli O_X12_here 1 (op_const (48 : Int32) (op_const (57 : Int32) (op_calli O_X12_in 3 (op_ifeq (B_X12_number_57 kc) (op_const (10 : Int32) (op_iload 2 (op_bin (fun (x y : Int32) => x * y) (op_aload 0 (op_const (48 : Int32) (op_const (10 : Int32) (op_rcv 12 2 (op_calli O_X12_oneOf 3 (op_bin (fun (x y : Int32) => x + y) (op_istore 2 (op_iinc 3 (1 : Int32) (kc 11))))))))))))))))))))))) (B_X12_number_57 kc))))
set_option maxRecDepth 20000 in
theorem s_X12_number_11 (G : en_G) (hst : G.2.2.2.2.2 = true) (kc : Nat → en_B) (hk : ∀ t, en_Snd G M_X12_number t (kc t)) : en_Snd G M_X12_number 11 (B_X12_number_11 kc) := (sn_iload_n (i := 3) (n := 3) (by decide +kernel) rfl (sn_iload_n (i := 1) (n := 1) (by decide +kernel) rfl (sn_icge (off := 44) (tgt := 57) (by decide +kernel) rfl (s_X12_number_57 G hst kc hk) (sn_aload_n (i := 0) (n := 0) (by decide +kernel) rfl (sn_callVi (n := 0) (idx := 130) (ci := 12) (i_X12_fine G hst) (Nat.le_of_ble_eq_true rfl) cs_X12_fine ⟨wm_415, wm_416, wm_420⟩ ⟨⟨_, rfl, rfl⟩, (Nat.le_of_ble_eq_true rfl)⟩ (by decide +kernel) (sn_ifeq (off := 37) (tgt := 57) (by decide +kernel) rfl (s_X12_number_57 G hst kc hk) (sn_aload_n (i := 0) (n := 0) (by decide +kernel) rfl (sn_callVi (n := 0) (idx := 134) (ci := 12) (i_X12_here G hst) (Nat.le_of_ble_eq_true rfl) cs_X12_here ⟨wm_412, wm_413, wm_424⟩ ⟨⟨_, rfl, rfl⟩, (Nat.le_of_ble_eq_true rfl)⟩ (by decide +kernel) (sn_bipush (n := 48) (v := 48) (by decide +kernel) rfl (sn_bipush (n := 57) (v := 57) (by decide +kernel) rfl (sn_callSi (n := 3) (idx := 100) (i_X12_in G hst) (Nat.le_of_ble_eq_true rfl) cs_X12_in ⟨wm_370, Or.inl wm_384⟩ (by decide +kernel) (sn_ifeq (off := 23) (tgt := 57) (by decide +kernel) rfl (s_X12_number_57 G hst kc hk) (sn_bipush (n := 10) (v := 10) (by decide +kernel) rfl (sn_iload_n (i := 2) (n := 2) (by decide +kernel) rfl (sn_imul (by decide +kernel) (sn_aload_n (i := 0) (n := 0) (by decide +kernel) rfl (sn_bipush (n := 48) (v := 48) (by decide +kernel) rfl (sn_bipush (n := 10) (v := 10) (by decide +kernel) rfl (sn_callVi (n := 2) (idx := 141) (ci := 12) (i_X12_oneOf G hst) (Nat.le_of_ble_eq_true rfl) cs_X12_oneOf ⟨wm_426, wm_427, wm_432⟩ ⟨⟨_, rfl, rfl⟩, (Nat.le_of_ble_eq_true rfl)⟩ (by decide +kernel) (sn_iadd (by decide +kernel) (sn_istore_n (i := 2) (n := 2) (by decide +kernel) rfl (Nat.le_of_ble_eq_true rfl) (sn_iinc (i := 3) (n := 1) (v := 1) (by decide +kernel) rfl (sn_goto (off := -43) (tgt := 11) (by decide +kernel) rfl (hk 11))))))))))))))))))))))))
noncomputable def B_X12_number_0 (kc : Nat → en_B) : en_B := (op_aload 0 (op_const (48 : Int32) (op_const (10 : Int32) (op_rcv 12 2 (op_calli O_X12_oneOf 3 (op_istore 2 (op_const (1 : Int32) (op_istore 3 (kc 11)))))))))
set_option maxRecDepth 20000 in
theorem s_X12_number_0 (G : en_G) (hst : G.2.2.2.2.2 = true) (kc : Nat → en_B) (hk : ∀ t, en_Snd G M_X12_number t (kc t)) : en_Snd G M_X12_number 0 (B_X12_number_0 kc) := (sn_aload_n (i := 0) (n := 0) (by decide +kernel) rfl (sn_bipush (n := 48) (v := 48) (by decide +kernel) rfl (sn_bipush (n := 10) (v := 10) (by decide +kernel) rfl (sn_callVi (n := 2) (idx := 141) (ci := 12) (i_X12_oneOf G hst) (Nat.le_of_ble_eq_true rfl) cs_X12_oneOf ⟨wm_426, wm_427, wm_432⟩ ⟨⟨_, rfl, rfl⟩, (Nat.le_of_ble_eq_true rfl)⟩ (by decide +kernel) (sn_istore_n (i := 2) (n := 2) (by decide +kernel) rfl (Nat.le_of_ble_eq_true rfl) (sn_iconst (n := 1) (v := 1) (by decide +kernel) rfl (sn_istore_n (i := 3) (n := 3) (by decide +kernel) rfl (Nat.le_of_ble_eq_true rfl) (hk 11))))))))
noncomputable def LK_X12_number : Nat → Nat → en_B
  | 0, _ => en_no
  | n + 1, t => if t = 11 then B_X12_number_11 (LK_X12_number n) else en_no
theorem l_X12_number (G : en_G) (hst : G.2.2.2.2.2 = true) : ∀ n t, en_Snd G M_X12_number t (LK_X12_number n t)
  | 0, _ => sn_no
  | n + 1, t => by
    show en_Snd G M_X12_number t (if t = 11 then B_X12_number_11 (LK_X12_number n) else en_no)
    by_cases h_11 : t = 11
    · rw [if_pos h_11, h_11]; exact s_X12_number_11 G hst _ (l_X12_number G hst n)
    rw [if_neg h_11]
    exact sn_no
noncomputable def T_X12_number_0 (x1 : Int32) (σ : en_M) : en_R := B_X12_number_0 (LK_X12_number en_FU) [.inr (185, 12, 0, 0), .inl x1, en_un, en_un] [] en_zz σ
noncomputable def T_X12_number_11 (n : Nat) (x1 : Int32) (x2 : Int32) (x3 : Int32) (σ : en_M) : en_R := LK_X12_number n 11 [.inr (185, 12, 0, 0), .inl x1, .inl x2, .inl x3] [] en_zz σ
set_option maxRecDepth 400000 in
set_option maxHeartbeats 4000000 in
theorem t_X12_number_0 (x1 : Int32) (σ : en_M) : T_X12_number_0 x1 σ = ((O_X12_oneOf [.inr (185, 12, 0, 0), .inl (48 : Int32), .inl (10 : Int32)] σ).bind fun r1 => T_X12_number_11 en_FU x1 r1.1 (1 : Int32) r1.2) := rfl
set_option maxRecDepth 400000 in
set_option maxHeartbeats 4000000 in
theorem t_X12_number_11 (n : Nat) (x1 : Int32) (x2 : Int32) (x3 : Int32) (σ : en_M) : T_X12_number_11 (n + 1) x1 x2 x3 σ = (if x3 < x1 then ((O_X12_fine [.inr (185, 12, 0, 0)] σ).bind fun r2 => if r2.1 = 0 then (en_ri x2 r2.2) else ((O_X12_here [.inr (185, 12, 0, 0)] r2.2).bind fun r3 => (O_X12_in [.inl r3.1, .inl (48 : Int32), .inl (57 : Int32)] r3.2).bind fun r4 => if r4.1 = 0 then (en_ri x2 r4.2) else ((O_X12_oneOf [.inr (185, 12, 0, 0), .inl (48 : Int32), .inl (10 : Int32)] r4.2).bind fun r5 => T_X12_number_11 n x1 (((10 : Int32) * x2) + r5.1) (x3 + (1 : Int32)) r5.2))) else (en_ri x2 σ)) := rfl
noncomputable def P_X12_number : List en_V → en_M → Option (Int32 × en_M) := fun av σ => match av with
  | [.inr (185, 12, 0, 0), .inl x1] => en_oi (T_X12_number_0 x1 σ)
  | _ => none
theorem ox_X12_number : ∃ f, f = P_X12_number := ⟨_, rfl⟩
noncomputable def O_X12_number : List en_V → en_M → Option (Int32 × en_M) := Classical.choose ox_X12_number
theorem oe_X12_number : O_X12_number = P_X12_number := Classical.choose_spec ox_X12_number
theorem o_X12_number (x1 : Int32) (σ : en_M) : O_X12_number [.inr (185, 12, 0, 0), .inl x1] σ = en_oi (T_X12_number_0 x1 σ) := by rw [oe_X12_number]; rfl
theorem i_X12_number (G : en_G) (hst : G.2.2.2.2.2 = true) : en_I G 4 yX12_number cX12_number 4 (some .int) 0 0 (en_wi (O_X12_number)) := en_of_i (M := M_X12_number) hst (s_X12_number_0 G hst _ (l_X12_number G hst en_FU)) (plainFor_of_name (by decide +kernel)) rfl rfl rfl (Or.inl ⟨rfl, rfl⟩) (fun av σ x σ' h => by
  rw [oe_X12_number] at h; unfold P_X12_number at h
  split at h
  · exact ⟨(Nat.le_of_ble_eq_true rfl), en_oi_some h⟩
  · cases h)
-- EachMayMissOneModel.tower()I
def M_X12_tower : en_Me := (cX12_tower, RX12, 3, false, 2, false)
theorem cs_X12_tower : en_cs yX12_tower cX12_tower 3 (some .int) 0 := ⟨wm_433, wm_337, ⟨(by decide +kernel), (by decide +kernel), (by decide +kernel)⟩, (Nat.le_of_ble_eq_true rfl)⟩
noncomputable def B_X12_tower_161 (kc : Nat → en_B) : en_B := (op_iload 1 op_iret)
set_option maxRecDepth 20000 in
theorem s_X12_tower_161 (G : en_G) (hst : G.2.2.2.2.2 = true) (kc : Nat → en_B) (hk : ∀ t, en_Snd G M_X12_tower t (kc t)) : en_Snd G M_X12_tower 161 (B_X12_tower_161 kc) := (sn_iload_n (i := 1) (n := 1) (by decide +kernel) rfl (sn_iret (by decide +kernel) rfl))
noncomputable def B_X12_tower_143 (kc : Nat → en_B) : en_B := (op_iload 2 (op_const (2 : Int32) (op_iclt (op_aload 0 (op_gets 12 23 (22, 2, 0) (op_iload 2 (op_const (0 : Int32) (op_ast 22 (vp_nar .boolean) (op_iinc 2 (1 : Int32) (kc 143))))))) (B_X12_tower_161 kc))))
set_option maxRecDepth 20000 in
theorem s_X12_tower_143 (G : en_G) (hst : G.2.2.2.2.2 = true) (kc : Nat → en_B) (hk : ∀ t, en_Snd G M_X12_tower t (kc t)) : en_Snd G M_X12_tower 143 (B_X12_tower_143 kc) := (sn_iload_n (i := 2) (n := 2) (by decide +kernel) rfl (sn_iconst (n := 2) (v := 2) (by decide +kernel) rfl (sn_icge (off := 16) (tgt := 161) (by decide +kernel) rfl (s_X12_tower_161 G hst kc hk) (sn_aload_n (i := 0) (n := 0) (by decide +kernel) rfl (sn_gets (ci := 12) (j := 43) (off := 23) hst en_c12 of_12_23 (Nat.le_of_ble_eq_true rfl) (by decide +kernel) wm_364 (Nat.le_of_ble_eq_true rfl) rfl (sn_iload_n (i := 2) (n := 2) (by decide +kernel) rfl (sn_iconst (n := 0) (v := 0) (by decide +kernel) rfl (sn_zast (by decide +kernel) (sn_iinc (i := 2) (n := 1) (v := 1) (by decide +kernel) rfl (sn_goto (off := -15) (tgt := 143) (by decide +kernel) rfl (hk 143)))))))))))
noncomputable def B_X12_tower_119 (kc : Nat → en_B) : en_B := (op_aload 0 (op_iload 1 (op_puti 12 1 (op_aload 0 (op_const (1 : Int32) (op_puti 12 4 (op_aload 0 (op_gets 12 3 (20, 20, 0) (op_const (0 : Int32) (op_const (0 : Int32) (op_ast 20 (fun (x : Int32) => x) (op_aload 0 (op_const (0 : Int32) (op_puti 12 23 (op_const (0 : Int32) (op_istore 2 (kc 143)))))))))))))))))
set_option maxRecDepth 20000 in
theorem s_X12_tower_119 (G : en_G) (hst : G.2.2.2.2.2 = true) (kc : Nat → en_B) (hk : ∀ t, en_Snd G M_X12_tower t (kc t)) : en_Snd G M_X12_tower 119 (B_X12_tower_119 kc) := (sn_aload_n (i := 0) (n := 0) (by decide +kernel) rfl (sn_iload_n (i := 1) (n := 1) (by decide +kernel) rfl (sn_puti (ci := 12) (j := 1) en_c12 (by decide +kernel) wm_383 (Nat.le_of_ble_eq_true rfl) rfl rfl rfl (sn_aload_n (i := 0) (n := 0) (by decide +kernel) rfl (sn_iconst (n := 1) (v := 1) (by decide +kernel) rfl (sn_puti (ci := 12) (j := 4) en_c12 (by decide +kernel) wm_342 (Nat.le_of_ble_eq_true rfl) rfl rfl rfl (sn_aload_n (i := 0) (n := 0) (by decide +kernel) rfl (sn_gets (ci := 12) (j := 3) (off := 3) hst en_c12 of_12_3 (Nat.le_of_ble_eq_true rfl) (by decide +kernel) wm_341 (Nat.le_of_ble_eq_true rfl) rfl (sn_iconst (n := 0) (v := 0) (by decide +kernel) rfl (sn_iconst (n := 0) (v := 0) (by decide +kernel) rfl (sn_iast (by decide +kernel) (sn_aload_n (i := 0) (n := 0) (by decide +kernel) rfl (sn_iconst (n := 0) (v := 0) (by decide +kernel) rfl (sn_puti (ci := 12) (j := 23) en_c12 (by decide +kernel) wm_436 (Nat.le_of_ble_eq_true rfl) rfl rfl rfl (sn_iconst (n := 0) (v := 0) (by decide +kernel) rfl (sn_istore_n (i := 2) (n := 2) (by decide +kernel) rfl (Nat.le_of_ble_eq_true rfl) (hk 143)))))))))))))))))
noncomputable def B_X12_tower_86 (kc : Nat → en_B) : en_B := (op_iload 2 (op_iload 1 (op_iclt (op_aload 0 (op_gets 12 2 (20, 7, 0) (op_iload 2 (op_aload 0 (op_gets 12 4 (21, 80, 0) (op_iload 2 (op_ald 21 (op_const (48 : Int32) (op_bin (fun (x y : Int32) => x - y) (op_ast 20 (fun (x : Int32) => x) (op_aload 0 (op_gets 12 1 (20, 53, 0) (op_iload 2 (op_iload 2 (op_ast 20 (fun (x : Int32) => x) (op_iinc 2 (1 : Int32) (kc 86))))))))))))))))) (B_X12_tower_119 kc))))
set_option maxRecDepth 20000 in
theorem s_X12_tower_86 (G : en_G) (hst : G.2.2.2.2.2 = true) (kc : Nat → en_B) (hk : ∀ t, en_Snd G M_X12_tower t (kc t)) : en_Snd G M_X12_tower 86 (B_X12_tower_86 kc) := (sn_iload_n (i := 2) (n := 2) (by decide +kernel) rfl (sn_iload_n (i := 1) (n := 1) (by decide +kernel) rfl (sn_icge (off := 31) (tgt := 119) (by decide +kernel) rfl (s_X12_tower_119 G hst kc hk) (sn_aload_n (i := 0) (n := 0) (by decide +kernel) rfl (sn_gets (ci := 12) (j := 2) (off := 2) hst en_c12 of_12_2 (Nat.le_of_ble_eq_true rfl) (by decide +kernel) wm_340 (Nat.le_of_ble_eq_true rfl) rfl (sn_iload_n (i := 2) (n := 2) (by decide +kernel) rfl (sn_aload_n (i := 0) (n := 0) (by decide +kernel) rfl (sn_gets (ci := 12) (j := 7) (off := 4) hst en_c12 of_12_4 (Nat.le_of_ble_eq_true rfl) (by decide +kernel) wm_345 (Nat.le_of_ble_eq_true rfl) rfl (sn_iload_n (i := 2) (n := 2) (by decide +kernel) rfl (sn_bald (by decide +kernel) (sn_bipush (n := 48) (v := 48) (by decide +kernel) rfl (sn_isub (by decide +kernel) (sn_iast (by decide +kernel) (sn_aload_n (i := 0) (n := 0) (by decide +kernel) rfl (sn_gets (ci := 12) (j := 0) (off := 1) hst en_c12 of_12_1 (Nat.le_of_ble_eq_true rfl) (by decide +kernel) wm_339 (Nat.le_of_ble_eq_true rfl) rfl (sn_iload_n (i := 2) (n := 2) (by decide +kernel) rfl (sn_iload_n (i := 2) (n := 2) (by decide +kernel) rfl (sn_iast (by decide +kernel) (sn_iinc (i := 2) (n := 1) (v := 1) (by decide +kernel) rfl (sn_goto (off := -30) (tgt := 86) (by decide +kernel) rfl (hk 86)))))))))))))))))))))
noncomputable def B_X12_tower_84 (kc : Nat → en_B) : en_B := (op_const (0 : Int32) (op_istore 2 (kc 86)))
set_option maxRecDepth 20000 in
theorem s_X12_tower_84 (G : en_G) (hst : G.2.2.2.2.2 = true) (kc : Nat → en_B) (hk : ∀ t, en_Snd G M_X12_tower t (kc t)) : en_Snd G M_X12_tower 84 (B_X12_tower_84 kc) := (sn_iconst (n := 0) (v := 0) (by decide +kernel) rfl (sn_istore_n (i := 2) (n := 2) (by decide +kernel) rfl (Nat.le_of_ble_eq_true rfl) (hk 86)))
noncomputable def B_X12_tower_65 (kc : Nat → en_B) : en_B := (op_iload 2 (op_const (53 : Int32) (op_iclt (op_aload 0 (op_gets 12 1 (20, 53, 0) (op_iload 2 (op_const (0 : Int32) (op_ast 20 (fun (x : Int32) => x) (op_iinc 2 (1 : Int32) (kc 65))))))) (B_X12_tower_84 kc))))
set_option maxRecDepth 20000 in
theorem s_X12_tower_65 (G : en_G) (hst : G.2.2.2.2.2 = true) (kc : Nat → en_B) (hk : ∀ t, en_Snd G M_X12_tower t (kc t)) : en_Snd G M_X12_tower 65 (B_X12_tower_65 kc) := (sn_iload_n (i := 2) (n := 2) (by decide +kernel) rfl (sn_bipush (n := 53) (v := 53) (by decide +kernel) rfl (sn_icge (off := 16) (tgt := 84) (by decide +kernel) rfl (s_X12_tower_84 G hst kc hk) (sn_aload_n (i := 0) (n := 0) (by decide +kernel) rfl (sn_gets (ci := 12) (j := 0) (off := 1) hst en_c12 of_12_1 (Nat.le_of_ble_eq_true rfl) (by decide +kernel) wm_339 (Nat.le_of_ble_eq_true rfl) rfl (sn_iload_n (i := 2) (n := 2) (by decide +kernel) rfl (sn_iconst (n := 0) (v := 0) (by decide +kernel) rfl (sn_iast (by decide +kernel) (sn_iinc (i := 2) (n := 1) (v := 1) (by decide +kernel) rfl (sn_goto (off := -16) (tgt := 65) (by decide +kernel) rfl (hk 65)))))))))))
noncomputable def B_X12_tower_63 (kc : Nat → en_B) : en_B := (op_const (0 : Int32) (op_istore 2 (kc 65)))
set_option maxRecDepth 20000 in
theorem s_X12_tower_63 (G : en_G) (hst : G.2.2.2.2.2 = true) (kc : Nat → en_B) (hk : ∀ t, en_Snd G M_X12_tower t (kc t)) : en_Snd G M_X12_tower 63 (B_X12_tower_63 kc) := (sn_iconst (n := 0) (v := 0) (by decide +kernel) rfl (sn_istore_n (i := 2) (n := 2) (by decide +kernel) rfl (Nat.le_of_ble_eq_true rfl) (hk 65)))
noncomputable def B_X12_tower_54 (kc : Nat → en_B) : en_B := (op_iload 1 (op_const (3 : Int32) (op_iclt (op_const (-1 : Int32) (op_iload 1 (op_bin (fun (x y : Int32) => x - y) op_iret))) (B_X12_tower_63 kc))))
set_option maxRecDepth 20000 in
theorem s_X12_tower_54 (G : en_G) (hst : G.2.2.2.2.2 = true) (kc : Nat → en_B) (hk : ∀ t, en_Snd G M_X12_tower t (kc t)) : en_Snd G M_X12_tower 54 (B_X12_tower_54 kc) := (sn_iload_n (i := 1) (n := 1) (by decide +kernel) rfl (sn_iconst (n := 3) (v := 3) (by decide +kernel) rfl (sn_icge (off := 7) (tgt := 63) (by decide +kernel) rfl (s_X12_tower_63 G hst kc hk) (sn_iconst (n := -1) (v := -1) (by decide +kernel) rfl (sn_iload_n (i := 1) (n := 1) (by decide +kernel) rfl (sn_isub (by decide +kernel) (sn_iret (by decide +kernel) rfl)))))))
noncomputable def B_X12_tower_48 (kc : Nat → en_B) : en_B := (op_iinc 2 (1 : Int32) (kc 17))
set_option maxRecDepth 20000 in
theorem s_X12_tower_48 (G : en_G) (hst : G.2.2.2.2.2 = true) (kc : Nat → en_B) (hk : ∀ t, en_Snd G M_X12_tower t (kc t)) : en_Snd G M_X12_tower 48 (B_X12_tower_48 kc) := (sn_iinc (i := 2) (n := 1) (v := 1) (by decide +kernel) rfl (sn_goto (off := -34) (tgt := 17) (by decide +kernel) rfl (hk 17)))
noncomputable def B_X12_tower_44 (kc : Nat → en_B) : en_B := (op_const (-1 : Int32) (op_iload 2 (op_bin (fun (x y : Int32) => x - y) op_iret)))
set_option maxRecDepth 20000 in
theorem s_X12_tower_44 (G : en_G) (hst : G.2.2.2.2.2 = true) (kc : Nat → en_B) (hk : ∀ t, en_Snd G M_X12_tower t (kc t)) : en_Snd G M_X12_tower 44 (B_X12_tower_44 kc) := (sn_iconst (n := -1) (v := -1) (by decide +kernel) rfl (sn_iload_n (i := 2) (n := 2) (by decide +kernel) rfl (sn_isub (by decide +kernel) (sn_iret (by decide +kernel) rfl))))
noncomputable def B_X12_tower_17 (kc : Nat → en_B) : en_B := (op_iload 2 (op_iload 1 (op_iclt (op_iload 2 (op_const (7 : Int32) (op_iceq (B_X12_tower_44 kc) (op_aload 0 (op_gets 12 4 (21, 80, 0) (op_iload 2 (op_ald 21 (op_const (49 : Int32) (op_const (57 : Int32) (op_calli O_X12_in 3 (op_ifeq (B_X12_tower_44 kc) (B_X12_tower_48 kc)))))))))))) (B_X12_tower_54 kc))))
set_option maxRecDepth 20000 in
theorem s_X12_tower_17 (G : en_G) (hst : G.2.2.2.2.2 = true) (kc : Nat → en_B) (hk : ∀ t, en_Snd G M_X12_tower t (kc t)) : en_Snd G M_X12_tower 17 (B_X12_tower_17 kc) := (sn_iload_n (i := 2) (n := 2) (by decide +kernel) rfl (sn_iload_n (i := 1) (n := 1) (by decide +kernel) rfl (sn_icge (off := 35) (tgt := 54) (by decide +kernel) rfl (s_X12_tower_54 G hst kc hk) (sn_iload_n (i := 2) (n := 2) (by decide +kernel) rfl (sn_bipush (n := 7) (v := 7) (by decide +kernel) rfl (sn_iceq (off := 19) (tgt := 44) (by decide +kernel) rfl (s_X12_tower_44 G hst kc hk) (sn_aload_n (i := 0) (n := 0) (by decide +kernel) rfl (sn_gets (ci := 12) (j := 7) (off := 4) hst en_c12 of_12_4 (Nat.le_of_ble_eq_true rfl) (by decide +kernel) wm_345 (Nat.le_of_ble_eq_true rfl) rfl (sn_iload_n (i := 2) (n := 2) (by decide +kernel) rfl (sn_bald (by decide +kernel) (sn_bipush (n := 49) (v := 49) (by decide +kernel) rfl (sn_bipush (n := 57) (v := 57) (by decide +kernel) rfl (sn_callSi (n := 3) (idx := 100) (i_X12_in G hst) (Nat.le_of_ble_eq_true rfl) cs_X12_in ⟨wm_370, Or.inl wm_384⟩ (by decide +kernel) (sn_ifne (off := 7) (tgt := 48) (by decide +kernel) rfl (s_X12_tower_48 G hst kc hk) (s_X12_tower_44 G hst kc hk)))))))))))))))
noncomputable def B_X12_tower_0 (kc : Nat → en_B) : en_B := (op_aload 0 (op_const (0 : Int32) (op_puti 12 11 (op_aload 0 (op_geti 12 8 (op_istore 1 (op_aload 0 (op_const (0 : Int32) (op_puti 12 8 (op_const (0 : Int32) (op_istore 2 (kc 17))))))))))))
set_option maxRecDepth 20000 in
theorem s_X12_tower_0 (G : en_G) (hst : G.2.2.2.2.2 = true) (kc : Nat → en_B) (hk : ∀ t, en_Snd G M_X12_tower t (kc t)) : en_Snd G M_X12_tower 0 (B_X12_tower_0 kc) := (sn_aload_n (i := 0) (n := 0) (by decide +kernel) rfl (sn_iconst (n := 0) (v := 0) (by decide +kernel) rfl (sn_puti (ci := 12) (j := 11) en_c12 (by decide +kernel) wm_368 (Nat.le_of_ble_eq_true rfl) rfl rfl rfl (sn_aload_n (i := 0) (n := 0) (by decide +kernel) rfl (sn_geti (ci := 12) (j := 8) en_c12 (by decide +kernel) wm_399 (Nat.le_of_ble_eq_true rfl) rfl (sn_istore_n (i := 1) (n := 1) (by decide +kernel) rfl (Nat.le_of_ble_eq_true rfl) (sn_aload_n (i := 0) (n := 0) (by decide +kernel) rfl (sn_iconst (n := 0) (v := 0) (by decide +kernel) rfl (sn_puti (ci := 12) (j := 8) en_c12 (by decide +kernel) wm_399 (Nat.le_of_ble_eq_true rfl) rfl rfl rfl (sn_iconst (n := 0) (v := 0) (by decide +kernel) rfl (sn_istore_n (i := 2) (n := 2) (by decide +kernel) rfl (Nat.le_of_ble_eq_true rfl) (hk 17))))))))))))
noncomputable def LK_X12_tower : Nat → Nat → en_B
  | 0, _ => en_no
  | n + 1, t => if t = 17 then B_X12_tower_17 (LK_X12_tower n) else if t = 65 then B_X12_tower_65 (LK_X12_tower n) else if t = 86 then B_X12_tower_86 (LK_X12_tower n) else if t = 143 then B_X12_tower_143 (LK_X12_tower n) else en_no
theorem l_X12_tower (G : en_G) (hst : G.2.2.2.2.2 = true) : ∀ n t, en_Snd G M_X12_tower t (LK_X12_tower n t)
  | 0, _ => sn_no
  | n + 1, t => by
    show en_Snd G M_X12_tower t (if t = 17 then B_X12_tower_17 (LK_X12_tower n) else if t = 65 then B_X12_tower_65 (LK_X12_tower n) else if t = 86 then B_X12_tower_86 (LK_X12_tower n) else if t = 143 then B_X12_tower_143 (LK_X12_tower n) else en_no)
    by_cases h_17 : t = 17
    · rw [if_pos h_17, h_17]; exact s_X12_tower_17 G hst _ (l_X12_tower G hst n)
    rw [if_neg h_17]
    by_cases h_65 : t = 65
    · rw [if_pos h_65, h_65]; exact s_X12_tower_65 G hst _ (l_X12_tower G hst n)
    rw [if_neg h_65]
    by_cases h_86 : t = 86
    · rw [if_pos h_86, h_86]; exact s_X12_tower_86 G hst _ (l_X12_tower G hst n)
    rw [if_neg h_86]
    by_cases h_143 : t = 143
    · rw [if_pos h_143, h_143]; exact s_X12_tower_143 G hst _ (l_X12_tower G hst n)
    rw [if_neg h_143]
    exact sn_no
noncomputable def T_X12_tower_0 (σ : en_M) : en_R := B_X12_tower_0 (LK_X12_tower en_FU) [.inr (185, 12, 0, 0), en_un, en_un] [] en_zz σ
noncomputable def T_X12_tower_17 (n : Nat) (x1 : Int32) (x2 : Int32) (σ : en_M) : en_R := LK_X12_tower n 17 [.inr (185, 12, 0, 0), .inl x1, .inl x2] [] en_zz σ
noncomputable def T_X12_tower_65 (n : Nat) (x1 : Int32) (x2 : Int32) (σ : en_M) : en_R := LK_X12_tower n 65 [.inr (185, 12, 0, 0), .inl x1, .inl x2] [] en_zz σ
noncomputable def T_X12_tower_86 (n : Nat) (x1 : Int32) (x2 : Int32) (σ : en_M) : en_R := LK_X12_tower n 86 [.inr (185, 12, 0, 0), .inl x1, .inl x2] [] en_zz σ
noncomputable def T_X12_tower_143 (n : Nat) (x1 : Int32) (x2 : Int32) (σ : en_M) : en_R := LK_X12_tower n 143 [.inr (185, 12, 0, 0), .inl x1, .inl x2] [] en_zz σ
set_option maxRecDepth 400000 in
set_option maxHeartbeats 4000000 in
theorem t_X12_tower_0 (σ : en_M) : T_X12_tower_0 σ = (T_X12_tower_17 en_FU (σ 185 8) (0 : Int32) (en_up (en_up σ 185 11 (0 : Int32)) 185 8 (0 : Int32))) := rfl
set_option maxRecDepth 400000 in
set_option maxHeartbeats 4000000 in
theorem t_X12_tower_17 (n : Nat) (x1 : Int32) (x2 : Int32) (σ : en_M) : T_X12_tower_17 (n + 1) x1 x2 σ = (if x2 < x1 then (if x2 = (7 : Int32) then (en_ri ((-1 : Int32) - x2) σ) else ((en_ix x2 80).bind fun j1 => (O_X12_in [.inl (σ 189 j1), .inl (49 : Int32), .inl (57 : Int32)] σ).bind fun r2 => if r2.1 = 0 then (en_ri ((-1 : Int32) - x2) r2.2) else (T_X12_tower_17 n x1 (x2 + (1 : Int32)) r2.2))) else (if x1 < (3 : Int32) then (en_ri ((-1 : Int32) - x1) σ) else (T_X12_tower_65 n x1 (0 : Int32) σ))) := rfl
set_option maxRecDepth 400000 in
set_option maxHeartbeats 4000000 in
theorem t_X12_tower_65 (n : Nat) (x1 : Int32) (x2 : Int32) (σ : en_M) : T_X12_tower_65 (n + 1) x1 x2 σ = (if x2 < (53 : Int32) then ((en_ix x2 53).bind fun j3 => T_X12_tower_65 n x1 (x2 + (1 : Int32)) (en_up σ 186 j3 (0 : Int32))) else (T_X12_tower_86 n x1 (0 : Int32) σ)) := rfl
set_option maxRecDepth 400000 in
set_option maxHeartbeats 4000000 in
theorem t_X12_tower_86 (n : Nat) (x1 : Int32) (x2 : Int32) (σ : en_M) : T_X12_tower_86 (n + 1) x1 x2 σ = (if x2 < x1 then ((en_ix x2 80).bind fun j5 => (en_ix x2 7).bind fun j6 => (en_ix x2 53).bind fun j7 => T_X12_tower_86 n x1 (x2 + (1 : Int32)) (en_up (en_up σ 187 j6 ((σ 189 j5) - (48 : Int32))) 186 j7 x2)) else ((en_ix (0 : Int32) 20).bind fun j4 => T_X12_tower_143 n x1 (0 : Int32) (en_up (en_up (en_up (en_up σ 185 1 x1) 185 4 (1 : Int32)) 188 j4 (0 : Int32)) 185 23 (0 : Int32)))) := rfl
set_option maxRecDepth 400000 in
set_option maxHeartbeats 4000000 in
theorem t_X12_tower_143 (n : Nat) (x1 : Int32) (x2 : Int32) (σ : en_M) : T_X12_tower_143 (n + 1) x1 x2 σ = (if x2 < (2 : Int32) then ((en_ix x2 2).bind fun j8 => T_X12_tower_143 n x1 (x2 + (1 : Int32)) (en_up σ 208 j8 (vp_nar .boolean (0 : Int32)))) else (en_ri x1 σ)) := rfl
noncomputable def P_X12_tower : List en_V → en_M → Option (Int32 × en_M) := fun av σ => match av with
  | [.inr (185, 12, 0, 0)] => en_oi (T_X12_tower_0 σ)
  | _ => none
theorem ox_X12_tower : ∃ f, f = P_X12_tower := ⟨_, rfl⟩
noncomputable def O_X12_tower : List en_V → en_M → Option (Int32 × en_M) := Classical.choose ox_X12_tower
theorem oe_X12_tower : O_X12_tower = P_X12_tower := Classical.choose_spec ox_X12_tower
theorem o_X12_tower (σ : en_M) : O_X12_tower [.inr (185, 12, 0, 0)] σ = en_oi (T_X12_tower_0 σ) := by rw [oe_X12_tower]; rfl
theorem i_X12_tower (G : en_G) (hst : G.2.2.2.2.2 = true) : en_I G 2 yX12_tower cX12_tower 3 (some .int) 0 0 (en_wi (O_X12_tower)) := en_of_i (M := M_X12_tower) hst (s_X12_tower_0 G hst _ (l_X12_tower G hst en_FU)) (plainFor_of_name (by decide +kernel)) rfl rfl rfl (Or.inl ⟨rfl, rfl⟩) (fun av σ x σ' h => by
  rw [oe_X12_tower] at h; unfold P_X12_tower at h
  split at h
  · exact ⟨(Nat.le_of_ble_eq_true rfl), en_oi_some h⟩
  · cases h)
-- EachMayMissOneModel.readChange()I
def M_X12_readChange : en_Me := (cX12_readChange, RX12, 3, false, 4, false)
theorem cs_X12_readChange : en_cs yX12_readChange cX12_readChange 3 (some .int) 0 := ⟨wm_437, wm_337, ⟨(by decide +kernel), (by decide +kernel), (by decide +kernel)⟩, (Nat.le_of_ble_eq_true rfl)⟩
noncomputable def B_X12_readChange_106 (kc : Nat → en_B) : en_B := (op_iload 1 op_iret)
set_option maxRecDepth 20000 in
theorem s_X12_readChange_106 (G : en_G) (hst : G.2.2.2.2.2 = true) (kc : Nat → en_B) (hk : ∀ t, en_Snd G M_X12_readChange t (kc t)) : en_Snd G M_X12_readChange 106 (B_X12_readChange_106 kc) := (sn_iload_n (i := 1) (n := 1) (by decide +kernel) rfl (sn_iret (by decide +kernel) rfl))
noncomputable def B_X12_readChange_86 (kc : Nat → en_B) : en_B := (op_aload 0 (op_const (49 : Int32) (op_aload 0 (op_geti 12 1 (op_rcv 12 2 (op_calli O_X12_oneOf 3 (op_istore 2 (op_iload 1 (op_const (1 : Int32) (op_iload 2 (op_bin en_shl (op_bin (fun (x y : Int32) => x ||| y) (op_istore 1 (kc 15))))))))))))))
set_option maxRecDepth 20000 in
theorem s_X12_readChange_86 (G : en_G) (hst : G.2.2.2.2.2 = true) (kc : Nat → en_B) (hk : ∀ t, en_Snd G M_X12_readChange t (kc t)) : en_Snd G M_X12_readChange 86 (B_X12_readChange_86 kc) := (sn_aload_n (i := 0) (n := 0) (by decide +kernel) rfl (sn_bipush (n := 49) (v := 49) (by decide +kernel) rfl (sn_aload_n (i := 0) (n := 0) (by decide +kernel) rfl (sn_geti (ci := 12) (j := 1) en_c12 (by decide +kernel) wm_383 (Nat.le_of_ble_eq_true rfl) rfl (sn_callVi (n := 2) (idx := 141) (ci := 12) (i_X12_oneOf G hst) (Nat.le_of_ble_eq_true rfl) cs_X12_oneOf ⟨wm_426, wm_427, wm_432⟩ ⟨⟨_, rfl, rfl⟩, (Nat.le_of_ble_eq_true rfl)⟩ (by decide +kernel) (sn_istore_n (i := 2) (n := 2) (by decide +kernel) rfl (Nat.le_of_ble_eq_true rfl) (sn_iload_n (i := 1) (n := 1) (by decide +kernel) rfl (sn_iconst (n := 1) (v := 1) (by decide +kernel) rfl (sn_iload_n (i := 2) (n := 2) (by decide +kernel) rfl (sn_ishl (by decide +kernel) (sn_ior (by decide +kernel) (sn_istore_n (i := 1) (n := 1) (by decide +kernel) rfl (Nat.le_of_ble_eq_true rfl) (sn_goto (off := -88) (tgt := 15) (by decide +kernel) rfl (hk 15))))))))))))))
noncomputable def B_X12_readChange_45 (kc : Nat → en_B) : en_B := (op_aload 0 (op_rcv 12 0 (op_calli O_X12_here 1 (op_const (49 : Int32) (op_const (48 : Int32) (op_aload 0 (op_geti 12 1 (op_bin (fun (x y : Int32) => x + y) (op_calli O_X12_in 3 (op_ifeq (B_X12_readChange_86 kc) (op_aload 0 (op_rcv 12 0 (op_calli O_X12_here 1 (op_const (49 : Int32) (op_bin (fun (x y : Int32) => x - y) (op_iload 2 (op_icgt (B_X12_readChange_86 kc) (op_aload 0 (op_aload 0 (op_geti 12 15 (op_rcv 12 1 (op_callv O_X12_fault 2 (kc 15)))))))))))))))))))))))
set_option maxRecDepth 20000 in
theorem s_X12_readChange_45 (G : en_G) (hst : G.2.2.2.2.2 = true) (kc : Nat → en_B) (hk : ∀ t, en_Snd G M_X12_readChange t (kc t)) : en_Snd G M_X12_readChange 45 (B_X12_readChange_45 kc) := (sn_aload_n (i := 0) (n := 0) (by decide +kernel) rfl (sn_callVi (n := 0) (idx := 134) (ci := 12) (i_X12_here G hst) (Nat.le_of_ble_eq_true rfl) cs_X12_here ⟨wm_412, wm_413, wm_424⟩ ⟨⟨_, rfl, rfl⟩, (Nat.le_of_ble_eq_true rfl)⟩ (by decide +kernel) (sn_bipush (n := 49) (v := 49) (by decide +kernel) rfl (sn_bipush (n := 48) (v := 48) (by decide +kernel) rfl (sn_aload_n (i := 0) (n := 0) (by decide +kernel) rfl (sn_geti (ci := 12) (j := 1) en_c12 (by decide +kernel) wm_383 (Nat.le_of_ble_eq_true rfl) rfl (sn_iadd (by decide +kernel) (sn_callSi (n := 3) (idx := 100) (i_X12_in G hst) (Nat.le_of_ble_eq_true rfl) cs_X12_in ⟨wm_370, Or.inl wm_384⟩ (by decide +kernel) (sn_ifeq (off := 25) (tgt := 86) (by decide +kernel) rfl (s_X12_readChange_86 G hst kc hk) (sn_aload_n (i := 0) (n := 0) (by decide +kernel) rfl (sn_callVi (n := 0) (idx := 134) (ci := 12) (i_X12_here G hst) (Nat.le_of_ble_eq_true rfl) cs_X12_here ⟨wm_412, wm_413, wm_424⟩ ⟨⟨_, rfl, rfl⟩, (Nat.le_of_ble_eq_true rfl)⟩ (by decide +kernel) (sn_bipush (n := 49) (v := 49) (by decide +kernel) rfl (sn_isub (by decide +kernel) (sn_iload_n (i := 2) (n := 2) (by decide +kernel) rfl (sn_icgt (off := 14) (tgt := 86) (by decide +kernel) rfl (s_X12_readChange_86 G hst kc hk) (sn_aload_n (i := 0) (n := 0) (by decide +kernel) rfl (sn_aload_n (i := 0) (n := 0) (by decide +kernel) rfl (sn_geti (ci := 12) (j := 15) en_c12 (by decide +kernel) wm_409 (Nat.le_of_ble_eq_true rfl) rfl (sn_callVv (n := 1) (idx := 137) (ci := 12) (i_X12_fault G hst) (Nat.le_of_ble_eq_true rfl) cs_X12_fault ⟨wm_418, wm_419, wm_428⟩ ⟨⟨_, rfl, rfl⟩, (Nat.le_of_ble_eq_true rfl)⟩ (by decide +kernel) (sn_goto (off := -68) (tgt := 15) (by decide +kernel) rfl (hk 15)))))))))))))))))))))
noncomputable def B_X12_readChange_15 (kc : Nat → en_B) : en_B := (op_aload 0 (op_rcv 12 0 (op_calli O_X12_fine 1 (op_ifeq (B_X12_readChange_106 kc) (op_iload 1 (op_ifeq (B_X12_readChange_45 kc) (op_aload 0 (op_rcv 12 0 (op_calli O_X12_here 1 (op_const (49 : Int32) (op_const (48 : Int32) (op_aload 0 (op_geti 12 1 (op_bin (fun (x y : Int32) => x + y) (op_calli O_X12_in 3 (op_ifeq (B_X12_readChange_106 kc) (B_X12_readChange_45 kc)))))))))))))))))
set_option maxRecDepth 20000 in
theorem s_X12_readChange_15 (G : en_G) (hst : G.2.2.2.2.2 = true) (kc : Nat → en_B) (hk : ∀ t, en_Snd G M_X12_readChange t (kc t)) : en_Snd G M_X12_readChange 15 (B_X12_readChange_15 kc) := (sn_aload_n (i := 0) (n := 0) (by decide +kernel) rfl (sn_callVi (n := 0) (idx := 130) (ci := 12) (i_X12_fine G hst) (Nat.le_of_ble_eq_true rfl) cs_X12_fine ⟨wm_415, wm_416, wm_420⟩ ⟨⟨_, rfl, rfl⟩, (Nat.le_of_ble_eq_true rfl)⟩ (by decide +kernel) (sn_ifeq (off := 87) (tgt := 106) (by decide +kernel) rfl (s_X12_readChange_106 G hst kc hk) (sn_iload_n (i := 1) (n := 1) (by decide +kernel) rfl (sn_ifeq (off := 22) (tgt := 45) (by decide +kernel) rfl (s_X12_readChange_45 G hst kc hk) (sn_aload_n (i := 0) (n := 0) (by decide +kernel) rfl (sn_callVi (n := 0) (idx := 134) (ci := 12) (i_X12_here G hst) (Nat.le_of_ble_eq_true rfl) cs_X12_here ⟨wm_412, wm_413, wm_424⟩ ⟨⟨_, rfl, rfl⟩, (Nat.le_of_ble_eq_true rfl)⟩ (by decide +kernel) (sn_bipush (n := 49) (v := 49) (by decide +kernel) rfl (sn_bipush (n := 48) (v := 48) (by decide +kernel) rfl (sn_aload_n (i := 0) (n := 0) (by decide +kernel) rfl (sn_geti (ci := 12) (j := 1) en_c12 (by decide +kernel) wm_383 (Nat.le_of_ble_eq_true rfl) rfl (sn_iadd (by decide +kernel) (sn_callSi (n := 3) (idx := 100) (i_X12_in G hst) (Nat.le_of_ble_eq_true rfl) cs_X12_in ⟨wm_370, Or.inl wm_384⟩ (by decide +kernel) (sn_ifeq (off := 64) (tgt := 106) (by decide +kernel) rfl (s_X12_readChange_106 G hst kc hk) (s_X12_readChange_45 G hst kc hk)))))))))))))))
noncomputable def B_X12_readChange_11 (kc : Nat → en_B) : en_B := (op_const (0 : Int32) (op_istore 1 (op_const (-1 : Int32) (op_istore 2 (kc 15)))))
set_option maxRecDepth 20000 in
theorem s_X12_readChange_11 (G : en_G) (hst : G.2.2.2.2.2 = true) (kc : Nat → en_B) (hk : ∀ t, en_Snd G M_X12_readChange t (kc t)) : en_Snd G M_X12_readChange 11 (B_X12_readChange_11 kc) := (sn_iconst (n := 0) (v := 0) (by decide +kernel) rfl (sn_istore_n (i := 1) (n := 1) (by decide +kernel) rfl (Nat.le_of_ble_eq_true rfl) (sn_iconst (n := -1) (v := -1) (by decide +kernel) rfl (sn_istore_n (i := 2) (n := 2) (by decide +kernel) rfl (Nat.le_of_ble_eq_true rfl) (hk 15)))))
noncomputable def B_X12_readChange_0 (kc : Nat → en_B) : en_B := (op_aload 0 (op_const (120 : Int32) (op_rcv 12 1 (op_calli O_X12_passes 2 (op_ifeq (B_X12_readChange_11 kc) (op_const (0 : Int32) op_iret))))))
set_option maxRecDepth 20000 in
theorem s_X12_readChange_0 (G : en_G) (hst : G.2.2.2.2.2 = true) (kc : Nat → en_B) (hk : ∀ t, en_Snd G M_X12_readChange t (kc t)) : en_Snd G M_X12_readChange 0 (B_X12_readChange_0 kc) := (sn_aload_n (i := 0) (n := 0) (by decide +kernel) rfl (sn_bipush (n := 120) (v := 120) (by decide +kernel) rfl (sn_callVi (n := 1) (idx := 148) (ci := 12) (i_X12_passes G hst) (Nat.le_of_ble_eq_true rfl) cs_X12_passes ⟨wm_422, wm_423, wm_440⟩ ⟨⟨_, rfl, rfl⟩, (Nat.le_of_ble_eq_true rfl)⟩ (by decide +kernel) (sn_ifeq (off := 5) (tgt := 11) (by decide +kernel) rfl (s_X12_readChange_11 G hst kc hk) (sn_iconst (n := 0) (v := 0) (by decide +kernel) rfl (sn_iret (by decide +kernel) rfl))))))
noncomputable def LK_X12_readChange : Nat → Nat → en_B
  | 0, _ => en_no
  | n + 1, t => if t = 15 then B_X12_readChange_15 (LK_X12_readChange n) else en_no
theorem l_X12_readChange (G : en_G) (hst : G.2.2.2.2.2 = true) : ∀ n t, en_Snd G M_X12_readChange t (LK_X12_readChange n t)
  | 0, _ => sn_no
  | n + 1, t => by
    show en_Snd G M_X12_readChange t (if t = 15 then B_X12_readChange_15 (LK_X12_readChange n) else en_no)
    by_cases h_15 : t = 15
    · rw [if_pos h_15, h_15]; exact s_X12_readChange_15 G hst _ (l_X12_readChange G hst n)
    rw [if_neg h_15]
    exact sn_no
noncomputable def T_X12_readChange_0 (σ : en_M) : en_R := B_X12_readChange_0 (LK_X12_readChange en_FU) [.inr (185, 12, 0, 0), en_un, en_un] [] en_zz σ
noncomputable def T_X12_readChange_15 (n : Nat) (x1 : Int32) (x2 : Int32) (σ : en_M) : en_R := LK_X12_readChange n 15 [.inr (185, 12, 0, 0), .inl x1, .inl x2] [] en_zz σ
set_option maxRecDepth 400000 in
set_option maxHeartbeats 4000000 in
theorem t_X12_readChange_0 (σ : en_M) : T_X12_readChange_0 σ = ((O_X12_passes [.inr (185, 12, 0, 0), .inl (120 : Int32)] σ).bind fun r1 => if r1.1 = 0 then (T_X12_readChange_15 en_FU (0 : Int32) (-1 : Int32) r1.2) else (en_ri (0 : Int32) r1.2)) := rfl
set_option maxRecDepth 400000 in
set_option maxHeartbeats 4000000 in
theorem t_X12_readChange_15 (n : Nat) (x1 : Int32) (x2 : Int32) (σ : en_M) : T_X12_readChange_15 (n + 1) x1 x2 σ = ((O_X12_fine [.inr (185, 12, 0, 0)] σ).bind fun r2 => if r2.1 = 0 then (en_ri x1 r2.2) else (if x1 = 0 then ((O_X12_here [.inr (185, 12, 0, 0)] r2.2).bind fun r3 => (O_X12_in [.inl r3.1, .inl (49 : Int32), .inl ((48 : Int32) + (r3.2 185 1))] r3.2).bind fun r4 => if r4.1 = 0 then ((O_X12_oneOf [.inr (185, 12, 0, 0), .inl (49 : Int32), .inl (r4.2 185 1)] r4.2).bind fun r5 => T_X12_readChange_15 n (x1 ||| (en_shl (1 : Int32) r5.1)) r5.1 r5.2) else ((O_X12_here [.inr (185, 12, 0, 0)] r4.2).bind fun r6 => if x2 < (r6.1 - (49 : Int32)) then ((O_X12_oneOf [.inr (185, 12, 0, 0), .inl (49 : Int32), .inl (r6.2 185 1)] r6.2).bind fun r7 => T_X12_readChange_15 n (x1 ||| (en_shl (1 : Int32) r7.1)) r7.1 r7.2) else ((O_X12_fault [.inr (185, 12, 0, 0), .inl (r6.2 185 15)] r6.2).bind fun r8 => T_X12_readChange_15 n x1 x2 r8))) else ((O_X12_here [.inr (185, 12, 0, 0)] r2.2).bind fun r9 => (O_X12_in [.inl r9.1, .inl (49 : Int32), .inl ((48 : Int32) + (r9.2 185 1))] r9.2).bind fun r10 => if r10.1 = 0 then (en_ri x1 r10.2) else ((O_X12_here [.inr (185, 12, 0, 0)] r10.2).bind fun r11 => (O_X12_in [.inl r11.1, .inl (49 : Int32), .inl ((48 : Int32) + (r11.2 185 1))] r11.2).bind fun r12 => if r12.1 = 0 then ((O_X12_oneOf [.inr (185, 12, 0, 0), .inl (49 : Int32), .inl (r12.2 185 1)] r12.2).bind fun r13 => T_X12_readChange_15 n (x1 ||| (en_shl (1 : Int32) r13.1)) r13.1 r13.2) else ((O_X12_here [.inr (185, 12, 0, 0)] r12.2).bind fun r14 => if x2 < (r14.1 - (49 : Int32)) then ((O_X12_oneOf [.inr (185, 12, 0, 0), .inl (49 : Int32), .inl (r14.2 185 1)] r14.2).bind fun r15 => T_X12_readChange_15 n (x1 ||| (en_shl (1 : Int32) r15.1)) r15.1 r15.2) else ((O_X12_fault [.inr (185, 12, 0, 0), .inl (r14.2 185 15)] r14.2).bind fun r16 => T_X12_readChange_15 n x1 x2 r16)))))) := rfl
noncomputable def P_X12_readChange : List en_V → en_M → Option (Int32 × en_M) := fun av σ => match av with
  | [.inr (185, 12, 0, 0)] => en_oi (T_X12_readChange_0 σ)
  | _ => none
theorem ox_X12_readChange : ∃ f, f = P_X12_readChange := ⟨_, rfl⟩
noncomputable def O_X12_readChange : List en_V → en_M → Option (Int32 × en_M) := Classical.choose ox_X12_readChange
theorem oe_X12_readChange : O_X12_readChange = P_X12_readChange := Classical.choose_spec ox_X12_readChange
theorem o_X12_readChange (σ : en_M) : O_X12_readChange [.inr (185, 12, 0, 0)] σ = en_oi (T_X12_readChange_0 σ) := by rw [oe_X12_readChange]; rfl
theorem i_X12_readChange (G : en_G) (hst : G.2.2.2.2.2 = true) : en_I G 4 yX12_readChange cX12_readChange 3 (some .int) 0 0 (en_wi (O_X12_readChange)) := en_of_i (M := M_X12_readChange) hst (s_X12_readChange_0 G hst _ (l_X12_readChange G hst en_FU)) (plainFor_of_name (by decide +kernel)) rfl rfl rfl (Or.inl ⟨rfl, rfl⟩) (fun av σ x σ' h => by
  rw [oe_X12_readChange] at h; unfold P_X12_readChange at h
  split at h
  · exact ⟨(Nat.le_of_ble_eq_true rfl), en_oi_some h⟩
  · cases h)
