-- EachMayMissOne$Changes.changeAt(I)I
def M_X0_changeAt : en_Me := (cX0_changeAt, RX0, 2, false, 2, false)
theorem cs_X0_changeAt : en_cs yX0_changeAt cX0_changeAt 2 (some .int) 1 := ⟨wm_747, wm_723, ⟨(by decide +kernel), (by decide +kernel), (by decide +kernel)⟩, (Nat.le_of_ble_eq_true rfl)⟩
noncomputable def B_X0_changeAt_20 (kc : Nat → en_B) : en_B := op_iret
set_option maxRecDepth 20000 in
theorem s_X0_changeAt_20 (G : en_G) (hst : G.2.2.2.2.2 = true) (kc : Nat → en_B) (hk : ∀ t, en_Snd G M_X0_changeAt t (kc t)) : en_Snd G M_X0_changeAt 20 (B_X0_changeAt_20 kc) := (sn_iret (by decide +kernel) rfl)
noncomputable def B_X0_changeAt_12 (kc : Nat → en_B) : en_B := (op_iload 1 (op_aload 0 (op_geti 0 2 (op_calli O_J9_floorMod_7cf53 2 (B_X0_changeAt_20 kc)))))
set_option maxRecDepth 20000 in
theorem s_X0_changeAt_12 (G : en_G) (hst : G.2.2.2.2.2 = true) (kc : Nat → en_B) (hk : ∀ t, en_Snd G M_X0_changeAt t (kc t)) : en_Snd G M_X0_changeAt 12 (B_X0_changeAt_12 kc) := (sn_iload_n (i := 1) (n := 1) (by decide +kernel) rfl (sn_aload_n (i := 0) (n := 0) (by decide +kernel) rfl (sn_geti (ci := 0) (j := 2) en_c0 (by decide +kernel) wm_727 (Nat.le_of_ble_eq_true rfl) rfl (sn_callSi (n := 2) (idx := 51) (i_J9_floorMod_7cf53 G hst) (Nat.le_of_ble_eq_true rfl) cs_J9_floorMod_7cf53 ⟨wm_751, Or.inl wm_752⟩ (by decide +kernel) (s_X0_changeAt_20 G hst kc hk)))))
noncomputable def B_X0_changeAt_0 (kc : Nat → en_B) : en_B := (op_aload 0 (op_geti 0 2 (op_const (1 : Int32) (op_iclt (op_const (0 : Int32) (B_X0_changeAt_20 kc)) (B_X0_changeAt_12 kc)))))
set_option maxRecDepth 20000 in
theorem s_X0_changeAt_0 (G : en_G) (hst : G.2.2.2.2.2 = true) (kc : Nat → en_B) (hk : ∀ t, en_Snd G M_X0_changeAt t (kc t)) : en_Snd G M_X0_changeAt 0 (B_X0_changeAt_0 kc) := (sn_aload_n (i := 0) (n := 0) (by decide +kernel) rfl (sn_geti (ci := 0) (j := 2) en_c0 (by decide +kernel) wm_727 (Nat.le_of_ble_eq_true rfl) rfl (sn_iconst (n := 1) (v := 1) (by decide +kernel) rfl (sn_icge (off := 7) (tgt := 12) (by decide +kernel) rfl (s_X0_changeAt_12 G hst kc hk) (sn_iconst (n := 0) (v := 0) (by decide +kernel) rfl (sn_goto (off := 11) (tgt := 20) (by decide +kernel) rfl (s_X0_changeAt_20 G hst kc hk)))))))
noncomputable def LK_X0_changeAt : Nat → Nat → en_B
  | 0, _ => en_no
  | n + 1, t => en_no
theorem l_X0_changeAt (G : en_G) (hst : G.2.2.2.2.2 = true) : ∀ n t, en_Snd G M_X0_changeAt t (LK_X0_changeAt n t)
  | 0, _ => sn_no
  | n + 1, t => by
    show en_Snd G M_X0_changeAt t (en_no)
    exact sn_no
noncomputable def T_X0_changeAt_0 (x1 : Int32) (σ : en_M) : en_R := B_X0_changeAt_0 (LK_X0_changeAt en_FU) [.inr (7, 0, 0, 0), .inl x1] [] en_zz σ
set_option maxRecDepth 400000 in
set_option maxHeartbeats 4000000 in
theorem t_X0_changeAt_0 (x1 : Int32) (σ : en_M) : T_X0_changeAt_0 x1 σ = (if (σ 7 2) < (1 : Int32) then (en_ri (0 : Int32) σ) else ((O_J9_floorMod_7cf53 [.inl x1, .inl (σ 7 2)] σ).bind fun r1 => en_ri r1.1 r1.2)) := rfl
noncomputable def P_X0_changeAt : List en_V → en_M → Option (Int32 × en_M) := fun av σ => match av with
  | [.inr (7, 0, 0, 0), .inl x1] => en_oi (T_X0_changeAt_0 x1 σ)
  | _ => none
theorem ox_X0_changeAt : ∃ f, f = P_X0_changeAt := ⟨_, rfl⟩
noncomputable def O_X0_changeAt : List en_V → en_M → Option (Int32 × en_M) := Classical.choose ox_X0_changeAt
theorem oe_X0_changeAt : O_X0_changeAt = P_X0_changeAt := Classical.choose_spec ox_X0_changeAt
theorem o_X0_changeAt (x1 : Int32) (σ : en_M) : O_X0_changeAt [.inr (7, 0, 0, 0), .inl x1] σ = en_oi (T_X0_changeAt_0 x1 σ) := by rw [oe_X0_changeAt]; rfl
theorem i_X0_changeAt (G : en_G) (hst : G.2.2.2.2.2 = true) : en_I G 2 yX0_changeAt cX0_changeAt 2 (some .int) 0 0 (en_wi (O_X0_changeAt)) := en_of_i (M := M_X0_changeAt) hst (s_X0_changeAt_0 G hst _ (l_X0_changeAt G hst en_FU)) (plainFor_of_name (by decide +kernel)) rfl rfl rfl (Or.inl ⟨rfl, rfl⟩) (fun av σ x σ' h => by
  rw [oe_X0_changeAt] at h; unfold P_X0_changeAt at h
  split at h
  · exact ⟨(Nat.le_of_ble_eq_true rfl), en_oi_some h⟩
  · cases h)
-- EachMayMissOne$Changes.sameChange(II)Z
def M_X0_sameChange : en_Me := (cX0_sameChange, RX0, 3, false, 3, true)
theorem cs_X0_sameChange : en_cs yX0_sameChange cX0_sameChange 3 (some .boolean) 2 := ⟨wm_753, wm_723, ⟨(by decide +kernel), (by decide +kernel), (by decide +kernel)⟩, (Nat.le_of_ble_eq_true rfl)⟩
noncomputable def B_X0_sameChange_18 (kc : Nat → en_B) : en_B := op_zret
set_option maxRecDepth 20000 in
theorem s_X0_sameChange_18 (G : en_G) (hst : G.2.2.2.2.2 = true) (kc : Nat → en_B) (hk : ∀ t, en_Snd G M_X0_sameChange t (kc t)) : en_Snd G M_X0_sameChange 18 (B_X0_sameChange_18 kc) := (sn_zret (by decide +kernel))
noncomputable def B_X0_sameChange_17 (kc : Nat → en_B) : en_B := (op_const (0 : Int32) (B_X0_sameChange_18 kc))
set_option maxRecDepth 20000 in
theorem s_X0_sameChange_17 (G : en_G) (hst : G.2.2.2.2.2 = true) (kc : Nat → en_B) (hk : ∀ t, en_Snd G M_X0_sameChange t (kc t)) : en_Snd G M_X0_sameChange 17 (B_X0_sameChange_17 kc) := (sn_iconst (n := 0) (v := 0) (by decide +kernel) rfl (s_X0_sameChange_18 G hst kc hk))
noncomputable def B_X0_sameChange_0 (kc : Nat → en_B) : en_B := (op_aload 0 (op_iload 1 (op_rcv 0 1 (op_calli O_X0_changeAt 2 (op_aload 0 (op_iload 2 (op_rcv 0 1 (op_calli O_X0_changeAt 2 (op_iceq (op_const (1 : Int32) (B_X0_sameChange_18 kc)) (B_X0_sameChange_17 kc))))))))))
set_option maxRecDepth 20000 in
theorem s_X0_sameChange_0 (G : en_G) (hst : G.2.2.2.2.2 = true) (kc : Nat → en_B) (hk : ∀ t, en_Snd G M_X0_sameChange t (kc t)) : en_Snd G M_X0_sameChange 0 (B_X0_sameChange_0 kc) := (sn_aload_n (i := 0) (n := 0) (by decide +kernel) rfl (sn_iload_n (i := 1) (n := 1) (by decide +kernel) rfl (sn_callVi (n := 1) (idx := 56) (ci := 0) (i_X0_changeAt G hst) (Nat.le_of_ble_eq_true rfl) cs_X0_changeAt ⟨wm_748, wm_749, wm_756⟩ ⟨⟨_, rfl, rfl⟩, (Nat.le_of_ble_eq_true rfl)⟩ (by decide +kernel) (sn_aload_n (i := 0) (n := 0) (by decide +kernel) rfl (sn_iload_n (i := 2) (n := 2) (by decide +kernel) rfl (sn_callVi (n := 1) (idx := 56) (ci := 0) (i_X0_changeAt G hst) (Nat.le_of_ble_eq_true rfl) cs_X0_changeAt ⟨wm_748, wm_749, wm_756⟩ ⟨⟨_, rfl, rfl⟩, (Nat.le_of_ble_eq_true rfl)⟩ (by decide +kernel) (sn_icne (off := 7) (tgt := 17) (by decide +kernel) rfl (s_X0_sameChange_17 G hst kc hk) (sn_iconst (n := 1) (v := 1) (by decide +kernel) rfl (sn_goto (off := 4) (tgt := 18) (by decide +kernel) rfl (s_X0_sameChange_18 G hst kc hk))))))))))
noncomputable def LK_X0_sameChange : Nat → Nat → en_B
  | 0, _ => en_no
  | n + 1, t => en_no
theorem l_X0_sameChange (G : en_G) (hst : G.2.2.2.2.2 = true) : ∀ n t, en_Snd G M_X0_sameChange t (LK_X0_sameChange n t)
  | 0, _ => sn_no
  | n + 1, t => by
    show en_Snd G M_X0_sameChange t (en_no)
    exact sn_no
noncomputable def T_X0_sameChange_0 (x1 : Int32) (x2 : Int32) (σ : en_M) : en_R := B_X0_sameChange_0 (LK_X0_sameChange en_FU) [.inr (7, 0, 0, 0), .inl x1, .inl x2] [] en_zz σ
set_option maxRecDepth 400000 in
set_option maxHeartbeats 4000000 in
theorem t_X0_sameChange_0 (x1 : Int32) (x2 : Int32) (σ : en_M) : T_X0_sameChange_0 x1 x2 σ = ((O_X0_changeAt [.inr (7, 0, 0, 0), .inl x1] σ).bind fun r1 => (O_X0_changeAt [.inr (7, 0, 0, 0), .inl x2] r1.2).bind fun r2 => if r1.1 = r2.1 then (if (1 : Int32) = 0 ∨ (1 : Int32) = 1 then en_ri (1 : Int32) r2.2 else none) else (if (0 : Int32) = 0 ∨ (0 : Int32) = 1 then en_ri (0 : Int32) r2.2 else none)) := rfl
noncomputable def P_X0_sameChange : List en_V → en_M → Option (Int32 × en_M) := fun av σ => match av with
  | [.inr (7, 0, 0, 0), .inl x1, .inl x2] => en_oi (T_X0_sameChange_0 x1 x2 σ)
  | _ => none
theorem ox_X0_sameChange : ∃ f, f = P_X0_sameChange := ⟨_, rfl⟩
noncomputable def O_X0_sameChange : List en_V → en_M → Option (Int32 × en_M) := Classical.choose ox_X0_sameChange
theorem oe_X0_sameChange : O_X0_sameChange = P_X0_sameChange := Classical.choose_spec ox_X0_sameChange
theorem o_X0_sameChange (x1 : Int32) (x2 : Int32) (σ : en_M) : O_X0_sameChange [.inr (7, 0, 0, 0), .inl x1, .inl x2] σ = en_oi (T_X0_sameChange_0 x1 x2 σ) := by rw [oe_X0_sameChange]; rfl
theorem i_X0_sameChange (G : en_G) (hst : G.2.2.2.2.2 = true) : en_I G 3 yX0_sameChange cX0_sameChange 3 (some .boolean) 0 0 (en_wi (O_X0_sameChange)) := en_of_i (M := M_X0_sameChange) hst (s_X0_sameChange_0 G hst _ (l_X0_sameChange G hst en_FU)) (plainFor_of_name (by decide +kernel)) rfl rfl rfl (Or.inr ⟨Or.inl rfl, rfl⟩) (fun av σ x σ' h => by
  rw [oe_X0_sameChange] at h; unfold P_X0_sameChange at h
  split at h
  · exact ⟨(Nat.le_of_ble_eq_true rfl), en_oi_some h⟩
  · cases h)
-- EachMayMissOne.bellAt(II)I
def M_X11_bellAt : en_Me := (cX11_bellAt, RX11, 2, false, 1, false)
theorem cs_X11_bellAt : en_cs yX11_bellAt cX11_bellAt 2 (some .int) 2 := ⟨wm_275, wm_2, ⟨(by decide +kernel), (by decide +kernel), (by decide +kernel)⟩, (Nat.le_of_ble_eq_true rfl)⟩
noncomputable def B_X11_bellAt_0 (kc : Nat → en_B) : en_B := (op_iload 0 (op_const (3 : Int32) (op_iload 1 (op_bin (fun (x y : Int32) => x * y) (op_bin en_shr (op_const (7 : Int32) (op_bin (fun (x y : Int32) => x &&& y) op_iret)))))))
set_option maxRecDepth 20000 in
theorem s_X11_bellAt_0 (G : en_G) (hst : G.2.2.2.2.2 = true) (kc : Nat → en_B) (hk : ∀ t, en_Snd G M_X11_bellAt t (kc t)) : en_Snd G M_X11_bellAt 0 (B_X11_bellAt_0 kc) := (sn_iload_n (i := 0) (n := 0) (by decide +kernel) rfl (sn_iconst (n := 3) (v := 3) (by decide +kernel) rfl (sn_iload_n (i := 1) (n := 1) (by decide +kernel) rfl (sn_imul (by decide +kernel) (sn_ishr (by decide +kernel) (sn_bipush (n := 7) (v := 7) (by decide +kernel) rfl (sn_iand (by decide +kernel) (sn_iret (by decide +kernel) rfl))))))))
noncomputable def LK_X11_bellAt : Nat → Nat → en_B
  | 0, _ => en_no
  | n + 1, t => en_no
theorem l_X11_bellAt (G : en_G) (hst : G.2.2.2.2.2 = true) : ∀ n t, en_Snd G M_X11_bellAt t (LK_X11_bellAt n t)
  | 0, _ => sn_no
  | n + 1, t => by
    show en_Snd G M_X11_bellAt t (en_no)
    exact sn_no
noncomputable def T_X11_bellAt_0 (x0 : Int32) (x1 : Int32) (σ : en_M) : en_R := B_X11_bellAt_0 (LK_X11_bellAt en_FU) [.inl x0, .inl x1] [] en_zz σ
set_option maxRecDepth 400000 in
set_option maxHeartbeats 4000000 in
theorem t_X11_bellAt_0 (x0 : Int32) (x1 : Int32) (σ : en_M) : T_X11_bellAt_0 x0 x1 σ = (en_ri ((en_shr x0 ((3 : Int32) * x1)) &&& (7 : Int32)) σ) := rfl
noncomputable def P_X11_bellAt : List en_V → en_M → Option (Int32 × en_M) := fun av σ => match av with
  | [.inl x0, .inl x1] => en_oi (T_X11_bellAt_0 x0 x1 σ)
  | _ => none
theorem ox_X11_bellAt : ∃ f, f = P_X11_bellAt := ⟨_, rfl⟩
noncomputable def O_X11_bellAt : List en_V → en_M → Option (Int32 × en_M) := Classical.choose ox_X11_bellAt
theorem oe_X11_bellAt : O_X11_bellAt = P_X11_bellAt := Classical.choose_spec ox_X11_bellAt
theorem o_X11_bellAt (x0 : Int32) (x1 : Int32) (σ : en_M) : O_X11_bellAt [.inl x0, .inl x1] σ = en_oi (T_X11_bellAt_0 x0 x1 σ) := by rw [oe_X11_bellAt]; rfl
theorem i_X11_bellAt (G : en_G) (hst : G.2.2.2.2.2 = true) : en_I G 1 yX11_bellAt cX11_bellAt 2 (some .int) 0 0 (en_wi (O_X11_bellAt)) := en_of_i (M := M_X11_bellAt) hst (s_X11_bellAt_0 G hst _ (l_X11_bellAt G hst en_FU)) (plainFor_of_name (by decide +kernel)) rfl rfl rfl (Or.inl ⟨rfl, rfl⟩) (fun av σ x σ' h => by
  rw [oe_X11_bellAt] at h; unfold P_X11_bellAt at h
  split at h
  · exact ⟨(Nat.le_of_ble_eq_true rfl), en_oi_some h⟩
  · cases h)
-- EachMayMissOne$Changes.next(III)I
def M_X0_next : en_Me := (cX0_next, RX0, 9, false, 3, false)
theorem cs_X0_next : en_cs yX0_next cX0_next 9 (some .int) 3 := ⟨wm_757, wm_723, ⟨(by decide +kernel), (by decide +kernel), (by decide +kernel)⟩, (Nat.le_of_ble_eq_true rfl)⟩
noncomputable def B_X0_next_88 (kc : Nat → en_B) : en_B := (op_iload 5 op_iret)
set_option maxRecDepth 20000 in
theorem s_X0_next_88 (G : en_G) (hst : G.2.2.2.2.2 = true) (kc : Nat → en_B) (hk : ∀ t, en_Snd G M_X0_next t (kc t)) : en_Snd G M_X0_next 88 (B_X0_next_88 kc) := (sn_iload (i := 5) (by decide +kernel) (sn_iret (by decide +kernel) rfl))
noncomputable def B_X0_next_82 (kc : Nat → en_B) : en_B := (op_iinc 6 (1 : Int32) (kc 18))
set_option maxRecDepth 20000 in
theorem s_X0_next_82 (G : en_G) (hst : G.2.2.2.2.2 = true) (kc : Nat → en_B) (hk : ∀ t, en_Snd G M_X0_next t (kc t)) : en_Snd G M_X0_next 82 (B_X0_next_82 kc) := (sn_iinc (i := 6) (n := 1) (v := 1) (by decide +kernel) rfl (sn_goto (off := -67) (tgt := 18) (by decide +kernel) rfl (hk 18)))
noncomputable def B_X0_next_18 (kc : Nat → en_B) : en_B := (op_iload 6 (op_const (1 : Int32) (op_bin (fun (x y : Int32) => x + y) (op_iload 2 (op_iclt (op_iload 4 (op_iload 6 (op_bin en_shr (op_const (3 : Int32) (op_bin (fun (x y : Int32) => x &&& y) (op_ifeq (op_iload 5 (op_iload 6 (op_calli O_X11_bellAt 2 (op_istore 7 (op_iload 5 (op_iload 6 (op_const (1 : Int32) (op_bin (fun (x y : Int32) => x + y) (op_calli O_X11_bellAt 2 (op_istore 8 (op_iload 5 (op_iload 6 (op_iload 8 (op_calli O_X11_withBell 3 (op_iload 6 (op_const (1 : Int32) (op_bin (fun (x y : Int32) => x + y) (op_iload 7 (op_calli O_X11_withBell 3 (op_istore 5 (op_iinc 6 (2 : Int32) (kc 18)))))))))))))))))))))) (B_X0_next_82 kc))))))) (B_X0_next_88 kc))))))
set_option maxRecDepth 20000 in
theorem s_X0_next_18 (G : en_G) (hst : G.2.2.2.2.2 = true) (kc : Nat → en_B) (hk : ∀ t, en_Snd G M_X0_next t (kc t)) : en_Snd G M_X0_next 18 (B_X0_next_18 kc) := (sn_iload (i := 6) (by decide +kernel) (sn_iconst (n := 1) (v := 1) (by decide +kernel) rfl (sn_iadd (by decide +kernel) (sn_iload_n (i := 2) (n := 2) (by decide +kernel) rfl (sn_icge (off := 65) (tgt := 88) (by decide +kernel) rfl (s_X0_next_88 G hst kc hk) (sn_iload (i := 4) (by decide +kernel) (sn_iload (i := 6) (by decide +kernel) (sn_ishr (by decide +kernel) (sn_iconst (n := 3) (v := 3) (by decide +kernel) rfl (sn_iand (by decide +kernel) (sn_ifne (off := 49) (tgt := 82) (by decide +kernel) rfl (s_X0_next_82 G hst kc hk) (sn_iload (i := 5) (by decide +kernel) (sn_iload (i := 6) (by decide +kernel) (sn_callSi (n := 2) (idx := 59) (i_X11_bellAt G hst) (Nat.le_of_ble_eq_true rfl) cs_X11_bellAt ⟨wm_276, Or.inr (by decide +kernel)⟩ (by decide +kernel) (sn_istore (i := 7) (by decide +kernel) (Nat.le_of_ble_eq_true rfl) (sn_iload (i := 5) (by decide +kernel) (sn_iload (i := 6) (by decide +kernel) (sn_iconst (n := 1) (v := 1) (by decide +kernel) rfl (sn_iadd (by decide +kernel) (sn_callSi (n := 2) (idx := 59) (i_X11_bellAt G hst) (Nat.le_of_ble_eq_true rfl) cs_X11_bellAt ⟨wm_276, Or.inr (by decide +kernel)⟩ (by decide +kernel) (sn_istore (i := 8) (by decide +kernel) (Nat.le_of_ble_eq_true rfl) (sn_iload (i := 5) (by decide +kernel) (sn_iload (i := 6) (by decide +kernel) (sn_iload (i := 8) (by decide +kernel) (sn_callSi (n := 3) (idx := 62) (i_X11_withBell G hst) (Nat.le_of_ble_eq_true rfl) cs_X11_withBell ⟨wm_278, Or.inr (by decide +kernel)⟩ (by decide +kernel) (sn_iload (i := 6) (by decide +kernel) (sn_iconst (n := 1) (v := 1) (by decide +kernel) rfl (sn_iadd (by decide +kernel) (sn_iload (i := 7) (by decide +kernel) (sn_callSi (n := 3) (idx := 62) (i_X11_withBell G hst) (Nat.le_of_ble_eq_true rfl) cs_X11_withBell ⟨wm_278, Or.inr (by decide +kernel)⟩ (by decide +kernel) (sn_istore (i := 5) (by decide +kernel) (Nat.le_of_ble_eq_true rfl) (sn_iinc (i := 6) (n := 2) (v := 2) (by decide +kernel) rfl (sn_goto (off := -61) (tgt := 18) (by decide +kernel) rfl (hk 18))))))))))))))))))))))))))))))))))
noncomputable def B_X0_next_0 (kc : Nat → en_B) : en_B := (op_aload 0 (op_gets 0 1 (20, 20, 0) (op_aload 0 (op_iload 3 (op_rcv 0 1 (op_calli O_X0_changeAt 2 (op_ald 20 (op_istore 4 (op_iload 1 (op_istore 5 (op_const (0 : Int32) (op_istore 6 (kc 18)))))))))))))
set_option maxRecDepth 20000 in
theorem s_X0_next_0 (G : en_G) (hst : G.2.2.2.2.2 = true) (kc : Nat → en_B) (hk : ∀ t, en_Snd G M_X0_next t (kc t)) : en_Snd G M_X0_next 0 (B_X0_next_0 kc) := (sn_aload_n (i := 0) (n := 0) (by decide +kernel) rfl (sn_gets (ci := 0) (j := 0) (off := 1) hst en_c0 of_0_1 (Nat.le_of_ble_eq_true rfl) (by decide +kernel) wm_725 (Nat.le_of_ble_eq_true rfl) rfl (sn_aload_n (i := 0) (n := 0) (by decide +kernel) rfl (sn_iload_n (i := 3) (n := 3) (by decide +kernel) rfl (sn_callVi (n := 1) (idx := 56) (ci := 0) (i_X0_changeAt G hst) (Nat.le_of_ble_eq_true rfl) cs_X0_changeAt ⟨wm_748, wm_749, wm_756⟩ ⟨⟨_, rfl, rfl⟩, (Nat.le_of_ble_eq_true rfl)⟩ (by decide +kernel) (sn_iald (by decide +kernel) (sn_istore (i := 4) (by decide +kernel) (Nat.le_of_ble_eq_true rfl) (sn_iload_n (i := 1) (n := 1) (by decide +kernel) rfl (sn_istore (i := 5) (by decide +kernel) (Nat.le_of_ble_eq_true rfl) (sn_iconst (n := 0) (v := 0) (by decide +kernel) rfl (sn_istore (i := 6) (by decide +kernel) (Nat.le_of_ble_eq_true rfl) (hk 18))))))))))))
noncomputable def LK_X0_next : Nat → Nat → en_B
  | 0, _ => en_no
  | n + 1, t => if t = 18 then B_X0_next_18 (LK_X0_next n) else en_no
theorem l_X0_next (G : en_G) (hst : G.2.2.2.2.2 = true) : ∀ n t, en_Snd G M_X0_next t (LK_X0_next n t)
  | 0, _ => sn_no
  | n + 1, t => by
    show en_Snd G M_X0_next t (if t = 18 then B_X0_next_18 (LK_X0_next n) else en_no)
    by_cases h_18 : t = 18
    · rw [if_pos h_18, h_18]; exact s_X0_next_18 G hst _ (l_X0_next G hst n)
    rw [if_neg h_18]
    exact sn_no
noncomputable def T_X0_next_0 (x1 : Int32) (x2 : Int32) (x3 : Int32) (σ : en_M) : en_R := B_X0_next_0 (LK_X0_next en_FU) [.inr (7, 0, 0, 0), .inl x1, .inl x2, .inl x3, en_un, en_un, en_un, en_un, en_un] [] en_zz σ
noncomputable def T_X0_next_18 (n : Nat) (x1 : Int32) (x2 : Int32) (x3 : Int32) (x4 : Int32) (x5 : Int32) (x6 : Int32) (u7 : en_V) (u8 : en_V) (σ : en_M) : en_R := LK_X0_next n 18 [.inr (7, 0, 0, 0), .inl x1, .inl x2, .inl x3, .inl x4, .inl x5, .inl x6, u7, u8] [] en_zz σ
set_option maxRecDepth 400000 in
set_option maxHeartbeats 4000000 in
theorem t_X0_next_0 (x1 : Int32) (x2 : Int32) (x3 : Int32) (σ : en_M) : T_X0_next_0 x1 x2 x3 σ = ((O_X0_changeAt [.inr (7, 0, 0, 0), .inl x3] σ).bind fun r1 => (en_ix r1.1 20).bind fun j2 => T_X0_next_18 en_FU x1 x2 x3 (r1.2 8 j2) x1 (0 : Int32) (en_un) (en_un) r1.2) := rfl
set_option maxRecDepth 400000 in
set_option maxHeartbeats 4000000 in
theorem t_X0_next_18 (n : Nat) (x1 : Int32) (x2 : Int32) (x3 : Int32) (x4 : Int32) (x5 : Int32) (x6 : Int32) (u7 : en_V) (u8 : en_V) (σ : en_M) : T_X0_next_18 (n + 1) x1 x2 x3 x4 x5 x6 u7 u8 σ = (if (x6 + (1 : Int32)) < x2 then (if ((en_shr x4 x6) &&& (3 : Int32)) = 0 then ((O_X11_bellAt [.inl x5, .inl x6] σ).bind fun r3 => (O_X11_bellAt [.inl x5, .inl (x6 + (1 : Int32))] r3.2).bind fun r4 => (O_X11_withBell [.inl x5, .inl x6, .inl r4.1] r4.2).bind fun r5 => (O_X11_withBell [.inl r5.1, .inl (x6 + (1 : Int32)), .inl r3.1] r5.2).bind fun r6 => T_X0_next_18 n x1 x2 x3 x4 r6.1 (x6 + (2 : Int32)) (.inl r3.1) (.inl r4.1) r6.2) else (T_X0_next_18 n x1 x2 x3 x4 x5 (x6 + (1 : Int32)) (u7) (u8) σ)) else (en_ri x5 σ)) := rfl
noncomputable def P_X0_next : List en_V → en_M → Option (Int32 × en_M) := fun av σ => match av with
  | [.inr (7, 0, 0, 0), .inl x1, .inl x2, .inl x3] => en_oi (T_X0_next_0 x1 x2 x3 σ)
  | _ => none
theorem ox_X0_next : ∃ f, f = P_X0_next := ⟨_, rfl⟩
noncomputable def O_X0_next : List en_V → en_M → Option (Int32 × en_M) := Classical.choose ox_X0_next
theorem oe_X0_next : O_X0_next = P_X0_next := Classical.choose_spec ox_X0_next
theorem o_X0_next (x1 : Int32) (x2 : Int32) (x3 : Int32) (σ : en_M) : O_X0_next [.inr (7, 0, 0, 0), .inl x1, .inl x2, .inl x3] σ = en_oi (T_X0_next_0 x1 x2 x3 σ) := by rw [oe_X0_next]; rfl
theorem i_X0_next (G : en_G) (hst : G.2.2.2.2.2 = true) : en_I G 3 yX0_next cX0_next 9 (some .int) 0 0 (en_wi (O_X0_next)) := en_of_i (M := M_X0_next) hst (s_X0_next_0 G hst _ (l_X0_next G hst en_FU)) (plainFor_of_name (by decide +kernel)) rfl rfl rfl (Or.inl ⟨rfl, rfl⟩) (fun av σ x σ' h => by
  rw [oe_X0_next] at h; unfold P_X0_next at h
  split at h
  · exact ⟨(Nat.le_of_ble_eq_true rfl), en_oi_some h⟩
  · cases h)
-- java/lang/String.coder()B
def M_J0_coder_7d493 : en_Me := (cJ0_coder_7d493, RJ0, 1, false, 1, true)
theorem cs_J0_coder_7d493 : en_cs yJ0_coder_7d493 cJ0_coder_7d493 1 (some .byte) 0 := ⟨wm_1268, wm_963, ⟨(by decide +kernel), (by decide +kernel), (by decide +kernel)⟩, (Nat.le_of_ble_eq_true rfl)⟩
noncomputable def B_J0_coder_7d493_14 (kc : Nat → en_B) : en_B := op_zret
set_option maxRecDepth 20000 in
theorem s_J0_coder_7d493_14 (G : en_G) (hst : G.2.2.2.2.2 = true) (kc : Nat → en_B) (hk : ∀ t, en_Snd G M_J0_coder_7d493 t (kc t)) : en_Snd G M_J0_coder_7d493 14 (B_J0_coder_7d493_14 kc) := (sn_zret (by decide +kernel))
noncomputable def B_J0_coder_7d493_13 (kc : Nat → en_B) : en_B := (op_const (1 : Int32) (B_J0_coder_7d493_14 kc))
set_option maxRecDepth 20000 in
theorem s_J0_coder_7d493_13 (G : en_G) (hst : G.2.2.2.2.2 = true) (kc : Nat → en_B) (hk : ∀ t, en_Snd G M_J0_coder_7d493 t (kc t)) : en_Snd G M_J0_coder_7d493 13 (B_J0_coder_7d493_13 kc) := (sn_iconst (n := 1) (v := 1) (by decide +kernel) rfl (s_J0_coder_7d493_14 G hst kc hk))
noncomputable def B_J0_coder_7d493_0 (kc : Nat → en_B) : en_B := (op_const (1 : Int32) (op_ifeq (B_J0_coder_7d493_13 kc) (op_aload 0 (op_stc (B_J0_coder_7d493_14 kc)))))
set_option maxRecDepth 20000 in
theorem s_J0_coder_7d493_0 (G : en_G) (hst : G.2.2.2.2.2 = true) (kc : Nat → en_B) (hk : ∀ t, en_Snd G M_J0_coder_7d493 t (kc t)) : en_Snd G M_J0_coder_7d493 0 (B_J0_coder_7d493_0 kc) := (sn_gst wm_1266 (by decide +kernel) (sn_ifeq (off := 10) (tgt := 13) (by decide +kernel) rfl (s_J0_coder_7d493_13 G hst kc hk) (sn_aload_n (i := 0) (n := 0) (by decide +kernel) rfl (sn_stc wm_1267 (by decide +kernel) (sn_goto (off := 4) (tgt := 14) (by decide +kernel) rfl (s_J0_coder_7d493_14 G hst kc hk))))))
noncomputable def LK_J0_coder_7d493 : Nat → Nat → en_B
  | 0, _ => en_no
  | n + 1, t => en_no
theorem l_J0_coder_7d493 (G : en_G) (hst : G.2.2.2.2.2 = true) : ∀ n t, en_Snd G M_J0_coder_7d493 t (LK_J0_coder_7d493 n t)
  | 0, _ => sn_no
  | n + 1, t => by
    show en_Snd G M_J0_coder_7d493 t (en_no)
    exact sn_no
noncomputable def T_J0_coder_7d493_0 (σ : en_M) : en_R := B_J0_coder_7d493_0 (LK_J0_coder_7d493 en_FU) [.inr (0, 31, 0, 0)] [] en_zz σ
set_option maxRecDepth 400000 in
set_option maxHeartbeats 4000000 in
theorem t_J0_coder_7d493_0 (σ : en_M) : T_J0_coder_7d493_0 σ = (if (1 : Int32) = 0 then (if (1 : Int32) = 0 ∨ (1 : Int32) = 1 then en_ri (1 : Int32) σ else none) else (if 0 = 0 ∨ 0 = 1 then en_ri 0 σ else none)) := rfl
noncomputable def P_J0_coder_7d493 : List en_V → en_M → Option (Int32 × en_M) := fun av σ => match av with
  | [.inr (0, 31, 0, 0)] => en_oi (T_J0_coder_7d493_0 σ)
  | _ => none
theorem ox_J0_coder_7d493 : ∃ f, f = P_J0_coder_7d493 := ⟨_, rfl⟩
noncomputable def O_J0_coder_7d493 : List en_V → en_M → Option (Int32 × en_M) := Classical.choose ox_J0_coder_7d493
theorem oe_J0_coder_7d493 : O_J0_coder_7d493 = P_J0_coder_7d493 := Classical.choose_spec ox_J0_coder_7d493
theorem o_J0_coder_7d493 (σ : en_M) : O_J0_coder_7d493 [.inr (0, 31, 0, 0)] σ = en_oi (T_J0_coder_7d493_0 σ) := by rw [oe_J0_coder_7d493]; rfl
theorem i_J0_coder_7d493 (G : en_G) (hst : G.2.2.2.2.2 = true) : en_I G 1 yJ0_coder_7d493 cJ0_coder_7d493 1 (some .byte) 0 0 (en_wi (O_J0_coder_7d493)) := en_of_i (M := M_J0_coder_7d493) hst (s_J0_coder_7d493_0 G hst _ (l_J0_coder_7d493 G hst en_FU)) (plainFor_of_name (by decide +kernel)) rfl rfl rfl (Or.inr ⟨Or.inr rfl, rfl⟩) (fun av σ x σ' h => by
  rw [oe_J0_coder_7d493] at h; unfold P_J0_coder_7d493 at h
  split at h
  · exact ⟨(Nat.le_of_ble_eq_true rfl), en_oi_some h⟩
  · cases h)
-- java/lang/String.length()I
def M_J0_length_8abf5 : en_Me := (cJ0_length_8abf5, RJ0, 1, false, 2, false)
theorem cs_J0_length_8abf5 : en_cs yJ0_length_8abf5 cJ0_length_8abf5 1 (some .int) 0 := ⟨wm_961, wm_963, ⟨(by decide +kernel), (by decide +kernel), (by decide +kernel)⟩, (Nat.le_of_ble_eq_true rfl)⟩
noncomputable def B_J0_length_8abf5_0 (kc : Nat → en_B) : en_B := (op_aload 0 (op_stv (op_sbn (op_aload 0 (op_rcv 31 0 (op_calli O_J0_coder_7d493 1 (op_bin en_shr op_iret)))))))
set_option maxRecDepth 20000 in
theorem s_J0_length_8abf5_0 (G : en_G) (hst : G.2.2.2.2.2 = true) (kc : Nat → en_B) (hk : ∀ t, en_Snd G M_J0_length_8abf5 t (kc t)) : en_Snd G M_J0_length_8abf5 0 (B_J0_length_8abf5_0 kc) := (sn_aload_n (i := 0) (n := 0) (by decide +kernel) rfl (sn_stv wm_1260 (by decide +kernel) (sn_sbn (by decide +kernel) (sn_aload_n (i := 0) (n := 0) (by decide +kernel) rfl (sn_callTi (n := 0) (idx := 335) (ci := 31) (i_J0_coder_7d493 G hst) (Nat.le_of_ble_eq_true rfl) cs_J0_coder_7d493 ⟨wm_1269, wm_1270, wm_1271⟩ ⟨rfl, rfl⟩ (by decide +kernel) (sn_ishr (by decide +kernel) (sn_iret (by decide +kernel) rfl)))))))
noncomputable def LK_J0_length_8abf5 : Nat → Nat → en_B
  | 0, _ => en_no
  | n + 1, t => en_no
theorem l_J0_length_8abf5 (G : en_G) (hst : G.2.2.2.2.2 = true) : ∀ n t, en_Snd G M_J0_length_8abf5 t (LK_J0_length_8abf5 n t)
  | 0, _ => sn_no
  | n + 1, t => by
    show en_Snd G M_J0_length_8abf5 t (en_no)
    exact sn_no
noncomputable def T_J0_length_8abf5_0 (σ : en_M) : en_R := B_J0_length_8abf5_0 (LK_J0_length_8abf5 en_FU) [.inr (0, 31, 0, 0)] [] en_zz σ
set_option maxRecDepth 400000 in
set_option maxHeartbeats 4000000 in
theorem t_J0_length_8abf5_0 (σ : en_M) : T_J0_length_8abf5_0 σ = ((O_J0_coder_7d493 [.inr (0, 31, 0, 0)] σ).bind fun r1 => en_ri (en_shr 7 r1.1) r1.2) := rfl
noncomputable def P_J0_length_8abf5 : List en_V → en_M → Option (Int32 × en_M) := fun av σ => match av with
  | [.inr (0, 31, 0, 0)] => en_oi (T_J0_length_8abf5_0 σ)
  | _ => none
theorem ox_J0_length_8abf5 : ∃ f, f = P_J0_length_8abf5 := ⟨_, rfl⟩
noncomputable def O_J0_length_8abf5 : List en_V → en_M → Option (Int32 × en_M) := Classical.choose ox_J0_length_8abf5
theorem oe_J0_length_8abf5 : O_J0_length_8abf5 = P_J0_length_8abf5 := Classical.choose_spec ox_J0_length_8abf5
theorem o_J0_length_8abf5 (σ : en_M) : O_J0_length_8abf5 [.inr (0, 31, 0, 0)] σ = en_oi (T_J0_length_8abf5_0 σ) := by rw [oe_J0_length_8abf5]; rfl
theorem i_J0_length_8abf5 (G : en_G) (hst : G.2.2.2.2.2 = true) : en_I G 2 yJ0_length_8abf5 cJ0_length_8abf5 1 (some .int) 0 0 (en_wi (O_J0_length_8abf5)) := en_of_i (M := M_J0_length_8abf5) hst (s_J0_length_8abf5_0 G hst _ (l_J0_length_8abf5 G hst en_FU)) (plainFor_of_name (by decide +kernel)) rfl rfl rfl (Or.inl ⟨rfl, rfl⟩) (fun av σ x σ' h => by
  rw [oe_J0_length_8abf5] at h; unfold P_J0_length_8abf5 at h
  split at h
  · exact ⟨(Nat.le_of_ble_eq_true rfl), en_oi_some h⟩
  · cases h)
-- EachMayMissOne$Rule.peek(LEachMayMissOne$Text;)I
def M_X6_peek : en_Me := (cX6_peek, RX6, 2, false, 2, false)
theorem cs_X6_peek : en_cs yX6_peek cX6_peek 2 (some .int) 1 := ⟨wm_978, wm_956, ⟨(by decide +kernel), (by decide +kernel), (by decide +kernel)⟩, (Nat.le_of_ble_eq_true rfl)⟩
noncomputable def B_X6_peek_0 (kc : Nat → en_B) : en_B := (op_aload 1 (op_aload 0 (op_geti 6 6 (op_const (40 : Int32) (op_rcv 8 2 (op_calli O_X8_at 3 op_iret))))))
set_option maxRecDepth 20000 in
theorem s_X6_peek_0 (G : en_G) (hst : G.2.2.2.2.2 = true) (kc : Nat → en_B) (hk : ∀ t, en_Snd G M_X6_peek t (kc t)) : en_Snd G M_X6_peek 0 (B_X6_peek_0 kc) := (sn_aload_n (i := 1) (n := 1) (by decide +kernel) rfl (sn_aload_n (i := 0) (n := 0) (by decide +kernel) rfl (sn_geti (ci := 6) (j := 6) en_c6 (by decide +kernel) wm_972 (Nat.le_of_ble_eq_true rfl) rfl (sn_bipush (n := 40) (v := 40) (by decide +kernel) rfl (sn_callVi (n := 2) (idx := 64) (ci := 8) (i_X8_at G hst) (Nat.le_of_ble_eq_true rfl) cs_X8_at ⟨wm_1079, wm_1080, wm_981⟩ ⟨⟨_, rfl, rfl⟩, (Nat.le_of_ble_eq_true rfl)⟩ (by decide +kernel) (sn_iret (by decide +kernel) rfl))))))
noncomputable def LK_X6_peek : Nat → Nat → en_B
  | 0, _ => en_no
  | n + 1, t => en_no
theorem l_X6_peek (G : en_G) (hst : G.2.2.2.2.2 = true) : ∀ n t, en_Snd G M_X6_peek t (LK_X6_peek n t)
  | 0, _ => sn_no
  | n + 1, t => by
    show en_Snd G M_X6_peek t (en_no)
    exact sn_no
noncomputable def T_X6_peek_0 (σ : en_M) : en_R := B_X6_peek_0 (LK_X6_peek en_FU) [.inr (10, 6, 0, 0), .inr (1, 8, 0, 0)] [] en_zz σ
set_option maxRecDepth 400000 in
set_option maxHeartbeats 4000000 in
theorem t_X6_peek_0 (σ : en_M) : T_X6_peek_0 σ = ((O_X8_at [.inr (1, 8, 0, 0), .inl (σ 10 6), .inl (40 : Int32)] σ).bind fun r1 => en_ri r1.1 r1.2) := rfl
noncomputable def P_X6_peek : List en_V → en_M → Option (Int32 × en_M) := fun av σ => match av with
  | [.inr (10, 6, 0, 0), .inr (1, 8, 0, 0)] => en_oi (T_X6_peek_0 σ)
  | _ => none
theorem ox_X6_peek : ∃ f, f = P_X6_peek := ⟨_, rfl⟩
noncomputable def O_X6_peek : List en_V → en_M → Option (Int32 × en_M) := Classical.choose ox_X6_peek
theorem oe_X6_peek : O_X6_peek = P_X6_peek := Classical.choose_spec ox_X6_peek
theorem o_X6_peek (σ : en_M) : O_X6_peek [.inr (10, 6, 0, 0), .inr (1, 8, 0, 0)] σ = en_oi (T_X6_peek_0 σ) := by rw [oe_X6_peek]; rfl
theorem i_X6_peek (G : en_G) (hst : G.2.2.2.2.2 = true) : en_I G 2 yX6_peek cX6_peek 2 (some .int) 0 0 (en_wi (O_X6_peek)) := en_of_i (M := M_X6_peek) hst (s_X6_peek_0 G hst _ (l_X6_peek G hst en_FU)) (plainFor_of_name (by decide +kernel)) rfl rfl rfl (Or.inl ⟨rfl, rfl⟩) (fun av σ x σ' h => by
  rw [oe_X6_peek] at h; unfold P_X6_peek at h
  split at h
  · exact ⟨(Nat.le_of_ble_eq_true rfl), en_oi_some h⟩
  · cases h)
-- EachMayMissOne$Rule.write(I)V
def M_X6_write : en_Me := (cX6_write, RX6, 2, false, 1, false)
theorem cs_X6_write : en_cs yX6_write cX6_write 2 none 1 := ⟨wm_982, wm_956, ⟨(by decide +kernel), (by decide +kernel), (by decide +kernel)⟩, (Nat.le_of_ble_eq_true rfl)⟩
noncomputable def B_X6_write_29 (kc : Nat → en_B) : en_B := op_vret
set_option maxRecDepth 20000 in
theorem s_X6_write_29 (G : en_G) (hst : G.2.2.2.2.2 = true) (kc : Nat → en_B) (hk : ∀ t, en_Snd G M_X6_write t (kc t)) : en_Snd G M_X6_write 29 (B_X6_write_29 kc) := (sn_vret (by decide +kernel))
noncomputable def B_X6_write_0 (kc : Nat → en_B) : en_B := (op_aload 0 (op_geti 6 5 (op_const (40 : Int32) (op_iclt (op_aload 0 (op_gets 6 2 (20, 40, 0) (op_aload 0 (op_geti 6 5 (op_iload 1 (op_ast 20 (fun (x : Int32) => x) (op_aload 0 (op_dup (op_geti 6 5 (op_const (1 : Int32) (op_bin (fun (x y : Int32) => x + y) (op_puti 6 5 (B_X6_write_29 kc))))))))))))) (B_X6_write_29 kc)))))
set_option maxRecDepth 20000 in
theorem s_X6_write_0 (G : en_G) (hst : G.2.2.2.2.2 = true) (kc : Nat → en_B) (hk : ∀ t, en_Snd G M_X6_write t (kc t)) : en_Snd G M_X6_write 0 (B_X6_write_0 kc) := (sn_aload_n (i := 0) (n := 0) (by decide +kernel) rfl (sn_geti (ci := 6) (j := 5) en_c6 (by decide +kernel) wm_973 (Nat.le_of_ble_eq_true rfl) rfl (sn_bipush (n := 40) (v := 40) (by decide +kernel) rfl (sn_icge (off := 23) (tgt := 29) (by decide +kernel) rfl (s_X6_write_29 G hst kc hk) (sn_aload_n (i := 0) (n := 0) (by decide +kernel) rfl (sn_gets (ci := 6) (j := 1) (off := 2) hst en_c6 of_6_2 (Nat.le_of_ble_eq_true rfl) (by decide +kernel) wm_959 (Nat.le_of_ble_eq_true rfl) rfl (sn_aload_n (i := 0) (n := 0) (by decide +kernel) rfl (sn_geti (ci := 6) (j := 5) en_c6 (by decide +kernel) wm_973 (Nat.le_of_ble_eq_true rfl) rfl (sn_iload_n (i := 1) (n := 1) (by decide +kernel) rfl (sn_iast (by decide +kernel) (sn_aload_n (i := 0) (n := 0) (by decide +kernel) rfl (sn_dup (by decide +kernel) (sn_geti (ci := 6) (j := 5) en_c6 (by decide +kernel) wm_973 (Nat.le_of_ble_eq_true rfl) rfl (sn_iconst (n := 1) (v := 1) (by decide +kernel) rfl (sn_iadd (by decide +kernel) (sn_puti (ci := 6) (j := 5) en_c6 (by decide +kernel) wm_973 (Nat.le_of_ble_eq_true rfl) rfl rfl rfl (s_X6_write_29 G hst kc hk)))))))))))))))))
noncomputable def LK_X6_write : Nat → Nat → en_B
  | 0, _ => en_no
  | n + 1, t => en_no
theorem l_X6_write (G : en_G) (hst : G.2.2.2.2.2 = true) : ∀ n t, en_Snd G M_X6_write t (LK_X6_write n t)
  | 0, _ => sn_no
  | n + 1, t => by
    show en_Snd G M_X6_write t (en_no)
    exact sn_no
noncomputable def T_X6_write_0 (x1 : Int32) (σ : en_M) : en_R := B_X6_write_0 (LK_X6_write en_FU) [.inr (10, 6, 0, 0), .inl x1] [] en_zz σ
set_option maxRecDepth 400000 in
set_option maxHeartbeats 4000000 in
theorem t_X6_write_0 (x1 : Int32) (σ : en_M) : T_X6_write_0 x1 σ = (if (σ 10 5) < (40 : Int32) then ((en_ix (σ 10 5) 40).bind fun j1 => en_rv (en_up (en_up σ 12 j1 x1) 10 5 ((σ 10 5) + (1 : Int32)))) else (en_rv σ)) := rfl
noncomputable def P_X6_write : List en_V → en_M → Option en_M := fun av σ => match av with
  | [.inr (10, 6, 0, 0), .inl x1] => en_ov (T_X6_write_0 x1 σ)
  | _ => none
theorem ox_X6_write : ∃ f, f = P_X6_write := ⟨_, rfl⟩
noncomputable def O_X6_write : List en_V → en_M → Option en_M := Classical.choose ox_X6_write
theorem oe_X6_write : O_X6_write = P_X6_write := Classical.choose_spec ox_X6_write
theorem o_X6_write (x1 : Int32) (σ : en_M) : O_X6_write [.inr (10, 6, 0, 0), .inl x1] σ = en_ov (T_X6_write_0 x1 σ) := by rw [oe_X6_write]; rfl
theorem i_X6_write (G : en_G) (hst : G.2.2.2.2.2 = true) : en_I G 1 yX6_write cX6_write 2 none 0 0 (en_wv (O_X6_write)) := en_of_v (M := M_X6_write) hst (s_X6_write_0 G hst _ (l_X6_write G hst en_FU)) (plainFor_of_name (by decide +kernel)) rfl rfl rfl (fun av σ σ' h => by
  rw [oe_X6_write] at h; unfold P_X6_write at h
  split at h
  · exact ⟨(Nat.le_of_ble_eq_true rfl), en_ov_some h⟩
  · cases h)
-- EachMayMissOne$Rule.readNumber(LEachMayMissOne$Text;)V
def M_X6_readNumber : en_Me := (cX6_readNumber, RX6, 5, false, 3, false)
theorem cs_X6_readNumber : en_cs yX6_readNumber cX6_readNumber 5 none 1 := ⟨wm_1014, wm_956, ⟨(by decide +kernel), (by decide +kernel), (by decide +kernel)⟩, (Nat.le_of_ble_eq_true rfl)⟩
noncomputable def B_X6_readNumber_61 (kc : Nat → en_B) : en_B := (op_aload 0 (op_iload 2 (op_rcv 6 1 (op_callv O_X6_write 2 op_vret))))
set_option maxRecDepth 20000 in
theorem s_X6_readNumber_61 (G : en_G) (hst : G.2.2.2.2.2 = true) (kc : Nat → en_B) (hk : ∀ t, en_Snd G M_X6_readNumber t (kc t)) : en_Snd G M_X6_readNumber 61 (B_X6_readNumber_61 kc) := (sn_aload_n (i := 0) (n := 0) (by decide +kernel) rfl (sn_iload_n (i := 2) (n := 2) (by decide +kernel) rfl (sn_callVv (n := 1) (idx := 70) (ci := 6) (i_X6_write G hst) (Nat.le_of_ble_eq_true rfl) cs_X6_write ⟨wm_983, wm_984, wm_989⟩ ⟨⟨_, rfl, rfl⟩, (Nat.le_of_ble_eq_true rfl)⟩ (by decide +kernel) (sn_vret (by decide +kernel)))))
noncomputable def B_X6_readNumber_11 (kc : Nat → en_B) : en_B := (op_iload 4 (op_const (3 : Int32) (op_iclt (op_iload 3 (op_const (48 : Int32) (op_iclt (B_X6_readNumber_61 kc) (op_iload 3 (op_const (57 : Int32) (op_icgt (B_X6_readNumber_61 kc) (op_iload 2 (op_const (10 : Int32) (op_bin (fun (x y : Int32) => x * y) (op_iload 3 (op_bin (fun (x y : Int32) => x + y) (op_const (48 : Int32) (op_bin (fun (x y : Int32) => x - y) (op_istore 2 (op_aload 0 (op_dup (op_geti 6 6 (op_const (1 : Int32) (op_bin (fun (x y : Int32) => x + y) (op_puti 6 6 (op_aload 0 (op_aload 1 (op_rcv 6 1 (op_calli O_X6_peek 2 (op_istore 3 (op_iinc 4 (1 : Int32) (kc 11))))))))))))))))))))))))))) (B_X6_readNumber_61 kc))))
set_option maxRecDepth 20000 in
theorem s_X6_readNumber_11 (G : en_G) (hst : G.2.2.2.2.2 = true) (kc : Nat → en_B) (hk : ∀ t, en_Snd G M_X6_readNumber t (kc t)) : en_Snd G M_X6_readNumber 11 (B_X6_readNumber_11 kc) := (sn_iload (i := 4) (by decide +kernel) (sn_iconst (n := 3) (v := 3) (by decide +kernel) rfl (sn_icge (off := 47) (tgt := 61) (by decide +kernel) rfl (s_X6_readNumber_61 G hst kc hk) (sn_iload_n (i := 3) (n := 3) (by decide +kernel) rfl (sn_bipush (n := 48) (v := 48) (by decide +kernel) rfl (sn_iclt (off := 41) (tgt := 61) (by decide +kernel) rfl (s_X6_readNumber_61 G hst kc hk) (sn_iload_n (i := 3) (n := 3) (by decide +kernel) rfl (sn_bipush (n := 57) (v := 57) (by decide +kernel) rfl (sn_icgt (off := 35) (tgt := 61) (by decide +kernel) rfl (s_X6_readNumber_61 G hst kc hk) (sn_iload_n (i := 2) (n := 2) (by decide +kernel) rfl (sn_bipush (n := 10) (v := 10) (by decide +kernel) rfl (sn_imul (by decide +kernel) (sn_iload_n (i := 3) (n := 3) (by decide +kernel) rfl (sn_iadd (by decide +kernel) (sn_bipush (n := 48) (v := 48) (by decide +kernel) rfl (sn_isub (by decide +kernel) (sn_istore_n (i := 2) (n := 2) (by decide +kernel) rfl (Nat.le_of_ble_eq_true rfl) (sn_aload_n (i := 0) (n := 0) (by decide +kernel) rfl (sn_dup (by decide +kernel) (sn_geti (ci := 6) (j := 6) en_c6 (by decide +kernel) wm_972 (Nat.le_of_ble_eq_true rfl) rfl (sn_iconst (n := 1) (v := 1) (by decide +kernel) rfl (sn_iadd (by decide +kernel) (sn_puti (ci := 6) (j := 6) en_c6 (by decide +kernel) wm_972 (Nat.le_of_ble_eq_true rfl) rfl rfl rfl (sn_aload_n (i := 0) (n := 0) (by decide +kernel) rfl (sn_aload_n (i := 1) (n := 1) (by decide +kernel) rfl (sn_callVi (n := 1) (idx := 48) (ci := 6) (i_X6_peek G hst) (Nat.le_of_ble_eq_true rfl) cs_X6_peek ⟨wm_979, wm_980, wm_975⟩ ⟨⟨_, rfl, rfl⟩, (Nat.le_of_ble_eq_true rfl)⟩ (by decide +kernel) (sn_istore_n (i := 3) (n := 3) (by decide +kernel) rfl (Nat.le_of_ble_eq_true rfl) (sn_iinc (i := 4) (n := 1) (v := 1) (by decide +kernel) rfl (sn_goto (off := -47) (tgt := 11) (by decide +kernel) rfl (hk 11))))))))))))))))))))))))))))))
noncomputable def B_X6_readNumber_0 (kc : Nat → en_B) : en_B := (op_const (0 : Int32) (op_istore 2 (op_aload 0 (op_aload 1 (op_rcv 6 1 (op_calli O_X6_peek 2 (op_istore 3 (op_const (0 : Int32) (op_istore 4 (kc 11))))))))))
set_option maxRecDepth 20000 in
theorem s_X6_readNumber_0 (G : en_G) (hst : G.2.2.2.2.2 = true) (kc : Nat → en_B) (hk : ∀ t, en_Snd G M_X6_readNumber t (kc t)) : en_Snd G M_X6_readNumber 0 (B_X6_readNumber_0 kc) := (sn_iconst (n := 0) (v := 0) (by decide +kernel) rfl (sn_istore_n (i := 2) (n := 2) (by decide +kernel) rfl (Nat.le_of_ble_eq_true rfl) (sn_aload_n (i := 0) (n := 0) (by decide +kernel) rfl (sn_aload_n (i := 1) (n := 1) (by decide +kernel) rfl (sn_callVi (n := 1) (idx := 48) (ci := 6) (i_X6_peek G hst) (Nat.le_of_ble_eq_true rfl) cs_X6_peek ⟨wm_979, wm_980, wm_975⟩ ⟨⟨_, rfl, rfl⟩, (Nat.le_of_ble_eq_true rfl)⟩ (by decide +kernel) (sn_istore_n (i := 3) (n := 3) (by decide +kernel) rfl (Nat.le_of_ble_eq_true rfl) (sn_iconst (n := 0) (v := 0) (by decide +kernel) rfl (sn_istore (i := 4) (by decide +kernel) (Nat.le_of_ble_eq_true rfl) (hk 11)))))))))
noncomputable def LK_X6_readNumber : Nat → Nat → en_B
  | 0, _ => en_no
  | n + 1, t => if t = 11 then B_X6_readNumber_11 (LK_X6_readNumber n) else en_no
theorem l_X6_readNumber (G : en_G) (hst : G.2.2.2.2.2 = true) : ∀ n t, en_Snd G M_X6_readNumber t (LK_X6_readNumber n t)
  | 0, _ => sn_no
  | n + 1, t => by
    show en_Snd G M_X6_readNumber t (if t = 11 then B_X6_readNumber_11 (LK_X6_readNumber n) else en_no)
    by_cases h_11 : t = 11
    · rw [if_pos h_11, h_11]; exact s_X6_readNumber_11 G hst _ (l_X6_readNumber G hst n)
    rw [if_neg h_11]
    exact sn_no
noncomputable def T_X6_readNumber_0 (σ : en_M) : en_R := B_X6_readNumber_0 (LK_X6_readNumber en_FU) [.inr (10, 6, 0, 0), .inr (1, 8, 0, 0), en_un, en_un, en_un] [] en_zz σ
noncomputable def T_X6_readNumber_11 (n : Nat) (x2 : Int32) (x3 : Int32) (x4 : Int32) (σ : en_M) : en_R := LK_X6_readNumber n 11 [.inr (10, 6, 0, 0), .inr (1, 8, 0, 0), .inl x2, .inl x3, .inl x4] [] en_zz σ
set_option maxRecDepth 400000 in
set_option maxHeartbeats 4000000 in
theorem t_X6_readNumber_0 (σ : en_M) : T_X6_readNumber_0 σ = ((O_X6_peek [.inr (10, 6, 0, 0), .inr (1, 8, 0, 0)] σ).bind fun r1 => T_X6_readNumber_11 en_FU (0 : Int32) r1.1 (0 : Int32) r1.2) := rfl
set_option maxRecDepth 400000 in
set_option maxHeartbeats 4000000 in
theorem t_X6_readNumber_11 (n : Nat) (x2 : Int32) (x3 : Int32) (x4 : Int32) (σ : en_M) : T_X6_readNumber_11 (n + 1) x2 x3 x4 σ = (if x4 < (3 : Int32) then (if x3 < (48 : Int32) then ((O_X6_write [.inr (10, 6, 0, 0), .inl x2] σ).bind fun r3 => en_rv r3) else (if (57 : Int32) < x3 then ((O_X6_write [.inr (10, 6, 0, 0), .inl x2] σ).bind fun r4 => en_rv r4) else ((O_X6_peek [.inr (10, 6, 0, 0), .inr (1, 8, 0, 0)] (en_up σ 10 6 ((σ 10 6) + (1 : Int32)))).bind fun r5 => T_X6_readNumber_11 n (((x2 * (10 : Int32)) + x3) - (48 : Int32)) r5.1 (x4 + (1 : Int32)) r5.2))) else ((O_X6_write [.inr (10, 6, 0, 0), .inl x2] σ).bind fun r2 => en_rv r2)) := rfl
noncomputable def P_X6_readNumber : List en_V → en_M → Option en_M := fun av σ => match av with
  | [.inr (10, 6, 0, 0), .inr (1, 8, 0, 0)] => en_ov (T_X6_readNumber_0 σ)
  | _ => none
theorem ox_X6_readNumber : ∃ f, f = P_X6_readNumber := ⟨_, rfl⟩
noncomputable def O_X6_readNumber : List en_V → en_M → Option en_M := Classical.choose ox_X6_readNumber
theorem oe_X6_readNumber : O_X6_readNumber = P_X6_readNumber := Classical.choose_spec ox_X6_readNumber
theorem o_X6_readNumber (σ : en_M) : O_X6_readNumber [.inr (10, 6, 0, 0), .inr (1, 8, 0, 0)] σ = en_ov (T_X6_readNumber_0 σ) := by rw [oe_X6_readNumber]; rfl
theorem i_X6_readNumber (G : en_G) (hst : G.2.2.2.2.2 = true) : en_I G 3 yX6_readNumber cX6_readNumber 5 none 0 0 (en_wv (O_X6_readNumber)) := en_of_v (M := M_X6_readNumber) hst (s_X6_readNumber_0 G hst _ (l_X6_readNumber G hst en_FU)) (plainFor_of_name (by decide +kernel)) rfl rfl rfl (fun av σ σ' h => by
  rw [oe_X6_readNumber] at h; unfold P_X6_readNumber at h
  split at h
  · exact ⟨(Nat.le_of_ble_eq_true rfl), en_ov_some h⟩
  · cases h)
-- java/lang/String.isLatin1()Z
def M_J0_isLatin1_aae02 : en_Me := (cJ0_isLatin1_aae02, RJ0, 1, false, 1, true)
theorem cs_J0_isLatin1_aae02 : en_cs yJ0_isLatin1_aae02 cJ0_isLatin1_aae02 1 (some .boolean) 0 := ⟨wm_1256, wm_963, ⟨(by decide +kernel), (by decide +kernel), (by decide +kernel)⟩, (Nat.le_of_ble_eq_true rfl)⟩
noncomputable def B_J0_isLatin1_aae02_18 (kc : Nat → en_B) : en_B := op_zret
set_option maxRecDepth 20000 in
theorem s_J0_isLatin1_aae02_18 (G : en_G) (hst : G.2.2.2.2.2 = true) (kc : Nat → en_B) (hk : ∀ t, en_Snd G M_J0_isLatin1_aae02 t (kc t)) : en_Snd G M_J0_isLatin1_aae02 18 (B_J0_isLatin1_aae02_18 kc) := (sn_zret (by decide +kernel))
noncomputable def B_J0_isLatin1_aae02_17 (kc : Nat → en_B) : en_B := (op_const (0 : Int32) (B_J0_isLatin1_aae02_18 kc))
set_option maxRecDepth 20000 in
theorem s_J0_isLatin1_aae02_17 (G : en_G) (hst : G.2.2.2.2.2 = true) (kc : Nat → en_B) (hk : ∀ t, en_Snd G M_J0_isLatin1_aae02 t (kc t)) : en_Snd G M_J0_isLatin1_aae02 17 (B_J0_isLatin1_aae02_17 kc) := (sn_iconst (n := 0) (v := 0) (by decide +kernel) rfl (s_J0_isLatin1_aae02_18 G hst kc hk))
noncomputable def B_J0_isLatin1_aae02_0 (kc : Nat → en_B) : en_B := (op_const (1 : Int32) (op_ifeq (B_J0_isLatin1_aae02_17 kc) (op_aload 0 (op_stc (op_ifeq (op_const (1 : Int32) (B_J0_isLatin1_aae02_18 kc)) (B_J0_isLatin1_aae02_17 kc))))))
set_option maxRecDepth 20000 in
theorem s_J0_isLatin1_aae02_0 (G : en_G) (hst : G.2.2.2.2.2 = true) (kc : Nat → en_B) (hk : ∀ t, en_Snd G M_J0_isLatin1_aae02 t (kc t)) : en_Snd G M_J0_isLatin1_aae02 0 (B_J0_isLatin1_aae02_0 kc) := (sn_gst wm_1266 (by decide +kernel) (sn_ifeq (off := 14) (tgt := 17) (by decide +kernel) rfl (s_J0_isLatin1_aae02_17 G hst kc hk) (sn_aload_n (i := 0) (n := 0) (by decide +kernel) rfl (sn_stc wm_1267 (by decide +kernel) (sn_ifne (off := 7) (tgt := 17) (by decide +kernel) rfl (s_J0_isLatin1_aae02_17 G hst kc hk) (sn_iconst (n := 1) (v := 1) (by decide +kernel) rfl (sn_goto (off := 4) (tgt := 18) (by decide +kernel) rfl (s_J0_isLatin1_aae02_18 G hst kc hk))))))))
noncomputable def LK_J0_isLatin1_aae02 : Nat → Nat → en_B
  | 0, _ => en_no
  | n + 1, t => en_no
theorem l_J0_isLatin1_aae02 (G : en_G) (hst : G.2.2.2.2.2 = true) : ∀ n t, en_Snd G M_J0_isLatin1_aae02 t (LK_J0_isLatin1_aae02 n t)
  | 0, _ => sn_no
  | n + 1, t => by
    show en_Snd G M_J0_isLatin1_aae02 t (en_no)
    exact sn_no
noncomputable def T_J0_isLatin1_aae02_0 (σ : en_M) : en_R := B_J0_isLatin1_aae02_0 (LK_J0_isLatin1_aae02 en_FU) [.inr (0, 31, 0, 0)] [] en_zz σ
set_option maxRecDepth 400000 in
set_option maxHeartbeats 4000000 in
theorem t_J0_isLatin1_aae02_0 (σ : en_M) : T_J0_isLatin1_aae02_0 σ = (if (1 : Int32) = 0 then (if (0 : Int32) = 0 ∨ (0 : Int32) = 1 then en_ri (0 : Int32) σ else none) else (if 0 = 0 then (if (1 : Int32) = 0 ∨ (1 : Int32) = 1 then en_ri (1 : Int32) σ else none) else (if (0 : Int32) = 0 ∨ (0 : Int32) = 1 then en_ri (0 : Int32) σ else none))) := rfl
noncomputable def P_J0_isLatin1_aae02 : List en_V → en_M → Option (Int32 × en_M) := fun av σ => match av with
  | [.inr (0, 31, 0, 0)] => en_oi (T_J0_isLatin1_aae02_0 σ)
  | _ => none
theorem ox_J0_isLatin1_aae02 : ∃ f, f = P_J0_isLatin1_aae02 := ⟨_, rfl⟩
noncomputable def O_J0_isLatin1_aae02 : List en_V → en_M → Option (Int32 × en_M) := Classical.choose ox_J0_isLatin1_aae02
theorem oe_J0_isLatin1_aae02 : O_J0_isLatin1_aae02 = P_J0_isLatin1_aae02 := Classical.choose_spec ox_J0_isLatin1_aae02
theorem o_J0_isLatin1_aae02 (σ : en_M) : O_J0_isLatin1_aae02 [.inr (0, 31, 0, 0)] σ = en_oi (T_J0_isLatin1_aae02_0 σ) := by rw [oe_J0_isLatin1_aae02]; rfl
theorem i_J0_isLatin1_aae02 (G : en_G) (hst : G.2.2.2.2.2 = true) : en_I G 1 yJ0_isLatin1_aae02 cJ0_isLatin1_aae02 1 (some .boolean) 0 0 (en_wi (O_J0_isLatin1_aae02)) := en_of_i (M := M_J0_isLatin1_aae02) hst (s_J0_isLatin1_aae02_0 G hst _ (l_J0_isLatin1_aae02 G hst en_FU)) (plainFor_of_name (by decide +kernel)) rfl rfl rfl (Or.inr ⟨Or.inl rfl, rfl⟩) (fun av σ x σ' h => by
  rw [oe_J0_isLatin1_aae02] at h; unfold P_J0_isLatin1_aae02 at h
  split at h
  · exact ⟨(Nat.le_of_ble_eq_true rfl), en_oi_some h⟩
  · cases h)
-- java/lang/StringLatin1.canEncode(I)Z
def M_J1_canEncode_9a6ad : en_Me := (cJ1_canEncode_9a6ad, RJ1, 1, false, 1, true)
theorem cs_J1_canEncode_9a6ad : en_cs yJ1_canEncode_9a6ad cJ1_canEncode_9a6ad 1 (some .boolean) 1 := ⟨wm_1272, wm_1264, ⟨(by decide +kernel), (by decide +kernel), (by decide +kernel)⟩, (Nat.le_of_ble_eq_true rfl)⟩
noncomputable def B_J1_canEncode_9a6ad_16 (kc : Nat → en_B) : en_B := op_zret
set_option maxRecDepth 20000 in
theorem s_J1_canEncode_9a6ad_16 (G : en_G) (hst : G.2.2.2.2.2 = true) (kc : Nat → en_B) (hk : ∀ t, en_Snd G M_J1_canEncode_9a6ad t (kc t)) : en_Snd G M_J1_canEncode_9a6ad 16 (B_J1_canEncode_9a6ad_16 kc) := (sn_zret (by decide +kernel))
noncomputable def B_J1_canEncode_9a6ad_15 (kc : Nat → en_B) : en_B := (op_const (0 : Int32) (B_J1_canEncode_9a6ad_16 kc))
set_option maxRecDepth 20000 in
theorem s_J1_canEncode_9a6ad_15 (G : en_G) (hst : G.2.2.2.2.2 = true) (kc : Nat → en_B) (hk : ∀ t, en_Snd G M_J1_canEncode_9a6ad t (kc t)) : en_Snd G M_J1_canEncode_9a6ad 15 (B_J1_canEncode_9a6ad_15 kc) := (sn_iconst (n := 0) (v := 0) (by decide +kernel) rfl (s_J1_canEncode_9a6ad_16 G hst kc hk))
noncomputable def B_J1_canEncode_9a6ad_0 (kc : Nat → en_B) : en_B := (op_iload 0 (op_iflt (B_J1_canEncode_9a6ad_15 kc) (op_iload 0 (op_const (255 : Int32) (op_icgt (B_J1_canEncode_9a6ad_15 kc) (op_const (1 : Int32) (B_J1_canEncode_9a6ad_16 kc)))))))
set_option maxRecDepth 20000 in
theorem s_J1_canEncode_9a6ad_0 (G : en_G) (hst : G.2.2.2.2.2 = true) (kc : Nat → en_B) (hk : ∀ t, en_Snd G M_J1_canEncode_9a6ad t (kc t)) : en_Snd G M_J1_canEncode_9a6ad 0 (B_J1_canEncode_9a6ad_0 kc) := (sn_iload_n (i := 0) (n := 0) (by decide +kernel) rfl (sn_iflt (off := 14) (tgt := 15) (by decide +kernel) rfl (s_J1_canEncode_9a6ad_15 G hst kc hk) (sn_iload_n (i := 0) (n := 0) (by decide +kernel) rfl (sn_sipush (n := 255) (v := 255) (by decide +kernel) rfl (sn_icgt (off := 7) (tgt := 15) (by decide +kernel) rfl (s_J1_canEncode_9a6ad_15 G hst kc hk) (sn_iconst (n := 1) (v := 1) (by decide +kernel) rfl (sn_goto (off := 4) (tgt := 16) (by decide +kernel) rfl (s_J1_canEncode_9a6ad_16 G hst kc hk))))))))
noncomputable def LK_J1_canEncode_9a6ad : Nat → Nat → en_B
  | 0, _ => en_no
  | n + 1, t => en_no
theorem l_J1_canEncode_9a6ad (G : en_G) (hst : G.2.2.2.2.2 = true) : ∀ n t, en_Snd G M_J1_canEncode_9a6ad t (LK_J1_canEncode_9a6ad n t)
  | 0, _ => sn_no
  | n + 1, t => by
    show en_Snd G M_J1_canEncode_9a6ad t (en_no)
    exact sn_no
noncomputable def T_J1_canEncode_9a6ad_0 (x0 : Int32) (σ : en_M) : en_R := B_J1_canEncode_9a6ad_0 (LK_J1_canEncode_9a6ad en_FU) [.inl x0] [] en_zz σ
set_option maxRecDepth 400000 in
set_option maxHeartbeats 4000000 in
theorem t_J1_canEncode_9a6ad_0 (x0 : Int32) (σ : en_M) : T_J1_canEncode_9a6ad_0 x0 σ = (if x0 < 0 then (if (0 : Int32) = 0 ∨ (0 : Int32) = 1 then en_ri (0 : Int32) σ else none) else (if (255 : Int32) < x0 then (if (0 : Int32) = 0 ∨ (0 : Int32) = 1 then en_ri (0 : Int32) σ else none) else (if (1 : Int32) = 0 ∨ (1 : Int32) = 1 then en_ri (1 : Int32) σ else none))) := rfl
noncomputable def P_J1_canEncode_9a6ad : List en_V → en_M → Option (Int32 × en_M) := fun av σ => match av with
  | [.inl x0] => en_oi (T_J1_canEncode_9a6ad_0 x0 σ)
  | _ => none
theorem ox_J1_canEncode_9a6ad : ∃ f, f = P_J1_canEncode_9a6ad := ⟨_, rfl⟩
noncomputable def O_J1_canEncode_9a6ad : List en_V → en_M → Option (Int32 × en_M) := Classical.choose ox_J1_canEncode_9a6ad
theorem oe_J1_canEncode_9a6ad : O_J1_canEncode_9a6ad = P_J1_canEncode_9a6ad := Classical.choose_spec ox_J1_canEncode_9a6ad
theorem o_J1_canEncode_9a6ad (x0 : Int32) (σ : en_M) : O_J1_canEncode_9a6ad [.inl x0] σ = en_oi (T_J1_canEncode_9a6ad_0 x0 σ) := by rw [oe_J1_canEncode_9a6ad]; rfl
theorem i_J1_canEncode_9a6ad (G : en_G) (hst : G.2.2.2.2.2 = true) : en_I G 1 yJ1_canEncode_9a6ad cJ1_canEncode_9a6ad 1 (some .boolean) 0 0 (en_wi (O_J1_canEncode_9a6ad)) := en_of_i (M := M_J1_canEncode_9a6ad) hst (s_J1_canEncode_9a6ad_0 G hst _ (l_J1_canEncode_9a6ad G hst en_FU)) (plainFor_of_name (by decide +kernel)) rfl rfl rfl (Or.inr ⟨Or.inl rfl, rfl⟩) (fun av σ x σ' h => by
  rw [oe_J1_canEncode_9a6ad] at h; unfold P_J1_canEncode_9a6ad at h
  split at h
  · exact ⟨(Nat.le_of_ble_eq_true rfl), en_oi_some h⟩
  · cases h)
-- java/lang/Math.min(II)I
def M_J9_min_7cf53 : en_Me := (cJ9_min_7cf53, RJ9, 2, false, 1, false)
theorem cs_J9_min_7cf53 : en_cs yJ9_min_7cf53 cJ9_min_7cf53 2 (some .int) 2 := ⟨wm_262, wm_264, ⟨(by decide +kernel), (by decide +kernel), (by decide +kernel)⟩, (Nat.le_of_ble_eq_true rfl)⟩
noncomputable def B_J9_min_7cf53_10 (kc : Nat → en_B) : en_B := op_iret
set_option maxRecDepth 20000 in
theorem s_J9_min_7cf53_10 (G : en_G) (hst : G.2.2.2.2.2 = true) (kc : Nat → en_B) (hk : ∀ t, en_Snd G M_J9_min_7cf53 t (kc t)) : en_Snd G M_J9_min_7cf53 10 (B_J9_min_7cf53_10 kc) := (sn_iret (by decide +kernel) rfl)
noncomputable def B_J9_min_7cf53_9 (kc : Nat → en_B) : en_B := (op_iload 1 (B_J9_min_7cf53_10 kc))
set_option maxRecDepth 20000 in
theorem s_J9_min_7cf53_9 (G : en_G) (hst : G.2.2.2.2.2 = true) (kc : Nat → en_B) (hk : ∀ t, en_Snd G M_J9_min_7cf53 t (kc t)) : en_Snd G M_J9_min_7cf53 9 (B_J9_min_7cf53_9 kc) := (sn_iload_n (i := 1) (n := 1) (by decide +kernel) rfl (s_J9_min_7cf53_10 G hst kc hk))
noncomputable def B_J9_min_7cf53_0 (kc : Nat → en_B) : en_B := (op_iload 0 (op_iload 1 (op_icgt (B_J9_min_7cf53_9 kc) (op_iload 0 (B_J9_min_7cf53_10 kc)))))
set_option maxRecDepth 20000 in
theorem s_J9_min_7cf53_0 (G : en_G) (hst : G.2.2.2.2.2 = true) (kc : Nat → en_B) (hk : ∀ t, en_Snd G M_J9_min_7cf53 t (kc t)) : en_Snd G M_J9_min_7cf53 0 (B_J9_min_7cf53_0 kc) := (sn_iload_n (i := 0) (n := 0) (by decide +kernel) rfl (sn_iload_n (i := 1) (n := 1) (by decide +kernel) rfl (sn_icgt (off := 7) (tgt := 9) (by decide +kernel) rfl (s_J9_min_7cf53_9 G hst kc hk) (sn_iload_n (i := 0) (n := 0) (by decide +kernel) rfl (sn_goto (off := 4) (tgt := 10) (by decide +kernel) rfl (s_J9_min_7cf53_10 G hst kc hk))))))
noncomputable def LK_J9_min_7cf53 : Nat → Nat → en_B
  | 0, _ => en_no
  | n + 1, t => en_no
theorem l_J9_min_7cf53 (G : en_G) (hst : G.2.2.2.2.2 = true) : ∀ n t, en_Snd G M_J9_min_7cf53 t (LK_J9_min_7cf53 n t)
  | 0, _ => sn_no
  | n + 1, t => by
    show en_Snd G M_J9_min_7cf53 t (en_no)
    exact sn_no
noncomputable def T_J9_min_7cf53_0 (x0 : Int32) (x1 : Int32) (σ : en_M) : en_R := B_J9_min_7cf53_0 (LK_J9_min_7cf53 en_FU) [.inl x0, .inl x1] [] en_zz σ
set_option maxRecDepth 400000 in
set_option maxHeartbeats 4000000 in
theorem t_J9_min_7cf53_0 (x0 : Int32) (x1 : Int32) (σ : en_M) : T_J9_min_7cf53_0 x0 x1 σ = (if x1 < x0 then (en_ri x1 σ) else (en_ri x0 σ)) := rfl
noncomputable def P_J9_min_7cf53 : List en_V → en_M → Option (Int32 × en_M) := fun av σ => match av with
  | [.inl x0, .inl x1] => en_oi (T_J9_min_7cf53_0 x0 x1 σ)
  | _ => none
theorem ox_J9_min_7cf53 : ∃ f, f = P_J9_min_7cf53 := ⟨_, rfl⟩
noncomputable def O_J9_min_7cf53 : List en_V → en_M → Option (Int32 × en_M) := Classical.choose ox_J9_min_7cf53
theorem oe_J9_min_7cf53 : O_J9_min_7cf53 = P_J9_min_7cf53 := Classical.choose_spec ox_J9_min_7cf53
theorem o_J9_min_7cf53 (x0 : Int32) (x1 : Int32) (σ : en_M) : O_J9_min_7cf53 [.inl x0, .inl x1] σ = en_oi (T_J9_min_7cf53_0 x0 x1 σ) := by rw [oe_J9_min_7cf53]; rfl
theorem i_J9_min_7cf53 (G : en_G) (hst : G.2.2.2.2.2 = true) : en_I G 1 yJ9_min_7cf53 cJ9_min_7cf53 2 (some .int) 0 0 (en_wi (O_J9_min_7cf53)) := en_of_i (M := M_J9_min_7cf53) hst (s_J9_min_7cf53_0 G hst _ (l_J9_min_7cf53 G hst en_FU)) (by decide +kernel) rfl rfl rfl (Or.inl ⟨rfl, rfl⟩) (fun av σ x σ' h => by
  rw [oe_J9_min_7cf53] at h; unfold P_J9_min_7cf53 at h
  split at h
  · exact ⟨(Nat.le_of_ble_eq_true rfl), en_oi_some h⟩
  · cases h)
-- java/lang/StringLatin1.indexOfChar([BIII)I
def M_J1_indexOfChar_4cfef : en_Me := (cJ1_indexOfChar_4cfef, RJ1, 6, false, 1, false)
theorem cs_J1_indexOfChar_4cfef : en_cs yJ1_indexOfChar_4cfef cJ1_indexOfChar_4cfef 6 (some .int) 4 := ⟨wm_1277, wm_1264, ⟨(by decide +kernel), (by decide +kernel), (by decide +kernel)⟩, (Nat.le_of_ble_eq_true rfl)⟩
noncomputable def B_J1_indexOfChar_4cfef_31 (kc : Nat → en_B) : en_B := (op_const (-1 : Int32) op_iret)
set_option maxRecDepth 20000 in
theorem s_J1_indexOfChar_4cfef_31 (G : en_G) (hst : G.2.2.2.2.2 = true) (kc : Nat → en_B) (hk : ∀ t, en_Snd G M_J1_indexOfChar_4cfef t (kc t)) : en_Snd G M_J1_indexOfChar_4cfef 31 (B_J1_indexOfChar_4cfef_31 kc) := (sn_iconst (n := -1) (v := -1) (by decide +kernel) rfl (sn_iret (by decide +kernel) rfl))
noncomputable def B_J1_indexOfChar_4cfef_25 (kc : Nat → en_B) : en_B := (op_iinc 5 (1 : Int32) (kc 7))
set_option maxRecDepth 20000 in
theorem s_J1_indexOfChar_4cfef_25 (G : en_G) (hst : G.2.2.2.2.2 = true) (kc : Nat → en_B) (hk : ∀ t, en_Snd G M_J1_indexOfChar_4cfef t (kc t)) : en_Snd G M_J1_indexOfChar_4cfef 25 (B_J1_indexOfChar_4cfef_25 kc) := (sn_iinc (i := 5) (n := 1) (v := 1) (by decide +kernel) rfl (sn_goto (off := -21) (tgt := 7) (by decide +kernel) rfl (hk 7)))
noncomputable def B_J1_indexOfChar_4cfef_7 (kc : Nat → en_B) : en_B := (op_iload 5 (op_iload 3 (op_iclt (op_aload 0 (op_iload 5 (op_sbl (op_iload 4 (op_iceq (op_iload 5 op_iret) (B_J1_indexOfChar_4cfef_25 kc)))))) (B_J1_indexOfChar_4cfef_31 kc))))
set_option maxRecDepth 20000 in
theorem s_J1_indexOfChar_4cfef_7 (G : en_G) (hst : G.2.2.2.2.2 = true) (kc : Nat → en_B) (hk : ∀ t, en_Snd G M_J1_indexOfChar_4cfef t (kc t)) : en_Snd G M_J1_indexOfChar_4cfef 7 (B_J1_indexOfChar_4cfef_7 kc) := (sn_iload (i := 5) (by decide +kernel) (sn_iload_n (i := 3) (n := 3) (by decide +kernel) rfl (sn_icge (off := 21) (tgt := 31) (by decide +kernel) rfl (s_J1_indexOfChar_4cfef_31 G hst kc hk) (sn_aload_n (i := 0) (n := 0) (by decide +kernel) rfl (sn_iload (i := 5) (by decide +kernel) (sn_sbl (by decide +kernel) (sn_iload (i := 4) (by decide +kernel) (sn_icne (off := 6) (tgt := 25) (by decide +kernel) rfl (s_J1_indexOfChar_4cfef_25 G hst kc hk) (sn_iload (i := 5) (by decide +kernel) (sn_iret (by decide +kernel) rfl))))))))))
noncomputable def B_J1_indexOfChar_4cfef_0 (kc : Nat → en_B) : en_B := (op_iload 1 (op_un en_i2b (op_istore 4 (op_iload 2 (op_istore 5 (kc 7))))))
set_option maxRecDepth 20000 in
theorem s_J1_indexOfChar_4cfef_0 (G : en_G) (hst : G.2.2.2.2.2 = true) (kc : Nat → en_B) (hk : ∀ t, en_Snd G M_J1_indexOfChar_4cfef t (kc t)) : en_Snd G M_J1_indexOfChar_4cfef 0 (B_J1_indexOfChar_4cfef_0 kc) := (sn_iload_n (i := 1) (n := 1) (by decide +kernel) rfl (sn_i2b (by decide +kernel) (sn_istore (i := 4) (by decide +kernel) (Nat.le_of_ble_eq_true rfl) (sn_iload_n (i := 2) (n := 2) (by decide +kernel) rfl (sn_istore (i := 5) (by decide +kernel) (Nat.le_of_ble_eq_true rfl) (hk 7))))))
noncomputable def LK_J1_indexOfChar_4cfef : Nat → Nat → en_B
  | 0, _ => en_no
  | n + 1, t => if t = 7 then B_J1_indexOfChar_4cfef_7 (LK_J1_indexOfChar_4cfef n) else en_no
theorem l_J1_indexOfChar_4cfef (G : en_G) (hst : G.2.2.2.2.2 = true) : ∀ n t, en_Snd G M_J1_indexOfChar_4cfef t (LK_J1_indexOfChar_4cfef n t)
  | 0, _ => sn_no
  | n + 1, t => by
    show en_Snd G M_J1_indexOfChar_4cfef t (if t = 7 then B_J1_indexOfChar_4cfef_7 (LK_J1_indexOfChar_4cfef n) else en_no)
    by_cases h_7 : t = 7
    · rw [if_pos h_7, h_7]; exact s_J1_indexOfChar_4cfef_7 G hst _ (l_J1_indexOfChar_4cfef G hst n)
    rw [if_neg h_7]
    exact sn_no
noncomputable def T_J1_indexOfChar_4cfef_0 (x1 : Int32) (x2 : Int32) (x3 : Int32) (σ : en_M) : en_R := B_J1_indexOfChar_4cfef_0 (LK_J1_indexOfChar_4cfef en_FU) [.inr (0, 32, 7, 0), .inl x1, .inl x2, .inl x3, en_un, en_un] [] en_zz σ
noncomputable def T_J1_indexOfChar_4cfef_7 (n : Nat) (x1 : Int32) (x2 : Int32) (x3 : Int32) (x4 : Int32) (x5 : Int32) (σ : en_M) : en_R := LK_J1_indexOfChar_4cfef n 7 [.inr (0, 32, 7, 0), .inl x1, .inl x2, .inl x3, .inl x4, .inl x5] [] en_zz σ
set_option maxRecDepth 400000 in
set_option maxHeartbeats 4000000 in
theorem t_J1_indexOfChar_4cfef_0 (x1 : Int32) (x2 : Int32) (x3 : Int32) (σ : en_M) : T_J1_indexOfChar_4cfef_0 x1 x2 x3 σ = (T_J1_indexOfChar_4cfef_7 en_FU x1 x2 x3 (en_i2b x1) x2 σ) := rfl
set_option maxRecDepth 400000 in
set_option maxHeartbeats 4000000 in
theorem t_J1_indexOfChar_4cfef_7 (n : Nat) (x1 : Int32) (x2 : Int32) (x3 : Int32) (x4 : Int32) (x5 : Int32) (σ : en_M) : T_J1_indexOfChar_4cfef_7 (n + 1) x1 x2 x3 x4 x5 σ = (if x5 < x3 then ((en_ix x5 7).bind fun j1 => if (en_wt j1) = x4 then (en_ri x5 σ) else (T_J1_indexOfChar_4cfef_7 n x1 x2 x3 x4 (x5 + (1 : Int32)) σ)) else (en_ri (-1 : Int32) σ)) := rfl
noncomputable def P_J1_indexOfChar_4cfef : List en_V → en_M → Option (Int32 × en_M) := fun av σ => match av with
  | [.inr (0, 32, 7, 0), .inl x1, .inl x2, .inl x3] => en_oi (T_J1_indexOfChar_4cfef_0 x1 x2 x3 σ)
  | _ => none
theorem ox_J1_indexOfChar_4cfef : ∃ f, f = P_J1_indexOfChar_4cfef := ⟨_, rfl⟩
noncomputable def O_J1_indexOfChar_4cfef : List en_V → en_M → Option (Int32 × en_M) := Classical.choose ox_J1_indexOfChar_4cfef
theorem oe_J1_indexOfChar_4cfef : O_J1_indexOfChar_4cfef = P_J1_indexOfChar_4cfef := Classical.choose_spec ox_J1_indexOfChar_4cfef
theorem o_J1_indexOfChar_4cfef (x1 : Int32) (x2 : Int32) (x3 : Int32) (σ : en_M) : O_J1_indexOfChar_4cfef [.inr (0, 32, 7, 0), .inl x1, .inl x2, .inl x3] σ = en_oi (T_J1_indexOfChar_4cfef_0 x1 x2 x3 σ) := by rw [oe_J1_indexOfChar_4cfef]; rfl
theorem i_J1_indexOfChar_4cfef (G : en_G) (hst : G.2.2.2.2.2 = true) : en_I G 1 yJ1_indexOfChar_4cfef cJ1_indexOfChar_4cfef 6 (some .int) 0 0 (en_wi (O_J1_indexOfChar_4cfef)) := en_of_i (M := M_J1_indexOfChar_4cfef) hst (s_J1_indexOfChar_4cfef_0 G hst _ (l_J1_indexOfChar_4cfef G hst en_FU)) (plainFor_of_name (by decide +kernel)) rfl rfl rfl (Or.inl ⟨rfl, rfl⟩) (fun av σ x σ' h => by
  rw [oe_J1_indexOfChar_4cfef] at h; unfold P_J1_indexOfChar_4cfef at h
  split at h
  · exact ⟨(Nat.le_of_ble_eq_true rfl), en_oi_some h⟩
  · cases h)
-- java/lang/StringLatin1.indexOf([BIII)I
def M_J1_indexOf_4cfef : en_Me := (cJ1_indexOf_4cfef, RJ1, 4, false, 2, false)
theorem cs_J1_indexOf_4cfef : en_cs yJ1_indexOf_4cfef cJ1_indexOf_4cfef 4 (some .int) 4 := ⟨wm_1262, wm_1264, ⟨(by decide +kernel), (by decide +kernel), (by decide +kernel)⟩, (Nat.le_of_ble_eq_true rfl)⟩
noncomputable def B_J1_indexOf_4cfef_29 (kc : Nat → en_B) : en_B := (op_aload 0 (op_iload 1 (op_iload 2 (op_iload 3 (op_calli O_J1_indexOfChar_4cfef 4 op_iret)))))
set_option maxRecDepth 20000 in
theorem s_J1_indexOf_4cfef_29 (G : en_G) (hst : G.2.2.2.2.2 = true) (kc : Nat → en_B) (hk : ∀ t, en_Snd G M_J1_indexOf_4cfef t (kc t)) : en_Snd G M_J1_indexOf_4cfef 29 (B_J1_indexOf_4cfef_29 kc) := (sn_aload_n (i := 0) (n := 0) (by decide +kernel) rfl (sn_iload_n (i := 1) (n := 1) (by decide +kernel) rfl (sn_iload_n (i := 2) (n := 2) (by decide +kernel) rfl (sn_iload_n (i := 3) (n := 3) (by decide +kernel) rfl (sn_callSi (n := 4) (idx := 95) (i_J1_indexOfChar_4cfef G hst) (Nat.le_of_ble_eq_true rfl) cs_J1_indexOfChar_4cfef ⟨wm_1278, Or.inl wm_1279⟩ (by decide +kernel) (sn_iret (by decide +kernel) rfl))))))
noncomputable def B_J1_indexOf_4cfef_9 (kc : Nat → en_B) : en_B := (op_iload 2 (op_const (0 : Int32) (op_calli O_J9_max_7cf53 2 (op_istore 2 (op_iload 3 (op_aload 0 (op_sbn (op_calli O_J9_min_7cf53 2 (op_istore 3 (op_iload 2 (op_iload 3 (op_iclt (B_J1_indexOf_4cfef_29 kc) (op_const (-1 : Int32) op_iret)))))))))))))
set_option maxRecDepth 20000 in
theorem s_J1_indexOf_4cfef_9 (G : en_G) (hst : G.2.2.2.2.2 = true) (kc : Nat → en_B) (hk : ∀ t, en_Snd G M_J1_indexOf_4cfef t (kc t)) : en_Snd G M_J1_indexOf_4cfef 9 (B_J1_indexOf_4cfef_9 kc) := (sn_iload_n (i := 2) (n := 2) (by decide +kernel) rfl (sn_iconst (n := 0) (v := 0) (by decide +kernel) rfl (sn_callSi (n := 2) (idx := 92) (i_J9_max_7cf53 G hst) (Nat.le_of_ble_eq_true rfl) cs_J9_max_7cf53 ⟨wm_267, Or.inl wm_1275⟩ (by decide +kernel) (sn_istore_n (i := 2) (n := 2) (by decide +kernel) rfl (Nat.le_of_ble_eq_true rfl) (sn_iload_n (i := 3) (n := 3) (by decide +kernel) rfl (sn_aload_n (i := 0) (n := 0) (by decide +kernel) rfl (sn_sbn (by decide +kernel) (sn_callSi (n := 2) (idx := 38) (i_J9_min_7cf53 G hst) (Nat.le_of_ble_eq_true rfl) cs_J9_min_7cf53 ⟨wm_263, Or.inl wm_1276⟩ (by decide +kernel) (sn_istore_n (i := 3) (n := 3) (by decide +kernel) rfl (Nat.le_of_ble_eq_true rfl) (sn_iload_n (i := 2) (n := 2) (by decide +kernel) rfl (sn_iload_n (i := 3) (n := 3) (by decide +kernel) rfl (sn_iclt (off := 5) (tgt := 29) (by decide +kernel) rfl (s_J1_indexOf_4cfef_29 G hst kc hk) (sn_iconst (n := -1) (v := -1) (by decide +kernel) rfl (sn_iret (by decide +kernel) rfl))))))))))))))
noncomputable def B_J1_indexOf_4cfef_0 (kc : Nat → en_B) : en_B := (op_iload 1 (op_calli O_J1_canEncode_9a6ad 1 (op_ifeq (op_const (-1 : Int32) op_iret) (B_J1_indexOf_4cfef_9 kc))))
set_option maxRecDepth 20000 in
theorem s_J1_indexOf_4cfef_0 (G : en_G) (hst : G.2.2.2.2.2 = true) (kc : Nat → en_B) (hk : ∀ t, en_Snd G M_J1_indexOf_4cfef t (kc t)) : en_Snd G M_J1_indexOf_4cfef 0 (B_J1_indexOf_4cfef_0 kc) := (sn_iload_n (i := 1) (n := 1) (by decide +kernel) rfl (sn_callSi (n := 1) (idx := 88) (i_J1_canEncode_9a6ad G hst) (Nat.le_of_ble_eq_true rfl) cs_J1_canEncode_9a6ad ⟨wm_1273, Or.inl wm_1274⟩ (by decide +kernel) (sn_ifne (off := 5) (tgt := 9) (by decide +kernel) rfl (s_J1_indexOf_4cfef_9 G hst kc hk) (sn_iconst (n := -1) (v := -1) (by decide +kernel) rfl (sn_iret (by decide +kernel) rfl)))))
noncomputable def LK_J1_indexOf_4cfef : Nat → Nat → en_B
  | 0, _ => en_no
  | n + 1, t => en_no
theorem l_J1_indexOf_4cfef (G : en_G) (hst : G.2.2.2.2.2 = true) : ∀ n t, en_Snd G M_J1_indexOf_4cfef t (LK_J1_indexOf_4cfef n t)
  | 0, _ => sn_no
  | n + 1, t => by
    show en_Snd G M_J1_indexOf_4cfef t (en_no)
    exact sn_no
noncomputable def T_J1_indexOf_4cfef_0 (x1 : Int32) (x2 : Int32) (x3 : Int32) (σ : en_M) : en_R := B_J1_indexOf_4cfef_0 (LK_J1_indexOf_4cfef en_FU) [.inr (0, 32, 7, 0), .inl x1, .inl x2, .inl x3] [] en_zz σ
set_option maxRecDepth 400000 in
set_option maxHeartbeats 4000000 in
theorem t_J1_indexOf_4cfef_0 (x1 : Int32) (x2 : Int32) (x3 : Int32) (σ : en_M) : T_J1_indexOf_4cfef_0 x1 x2 x3 σ = ((O_J1_canEncode_9a6ad [.inl x1] σ).bind fun r1 => if r1.1 = 0 then (en_ri (-1 : Int32) r1.2) else ((O_J9_max_7cf53 [.inl x2, .inl (0 : Int32)] r1.2).bind fun r2 => (O_J9_min_7cf53 [.inl x3, .inl 7] r2.2).bind fun r3 => if r2.1 < r3.1 then ((O_J1_indexOfChar_4cfef [.inr (0, 32, 7, 0), .inl x1, .inl r2.1, .inl r3.1] r3.2).bind fun r4 => en_ri r4.1 r4.2) else (en_ri (-1 : Int32) r3.2))) := rfl
noncomputable def P_J1_indexOf_4cfef : List en_V → en_M → Option (Int32 × en_M) := fun av σ => match av with
  | [.inr (0, 32, 7, 0), .inl x1, .inl x2, .inl x3] => en_oi (T_J1_indexOf_4cfef_0 x1 x2 x3 σ)
  | _ => none
theorem ox_J1_indexOf_4cfef : ∃ f, f = P_J1_indexOf_4cfef := ⟨_, rfl⟩
noncomputable def O_J1_indexOf_4cfef : List en_V → en_M → Option (Int32 × en_M) := Classical.choose ox_J1_indexOf_4cfef
theorem oe_J1_indexOf_4cfef : O_J1_indexOf_4cfef = P_J1_indexOf_4cfef := Classical.choose_spec ox_J1_indexOf_4cfef
theorem o_J1_indexOf_4cfef (x1 : Int32) (x2 : Int32) (x3 : Int32) (σ : en_M) : O_J1_indexOf_4cfef [.inr (0, 32, 7, 0), .inl x1, .inl x2, .inl x3] σ = en_oi (T_J1_indexOf_4cfef_0 x1 x2 x3 σ) := by rw [oe_J1_indexOf_4cfef]; rfl
theorem i_J1_indexOf_4cfef (G : en_G) (hst : G.2.2.2.2.2 = true) : en_I G 2 yJ1_indexOf_4cfef cJ1_indexOf_4cfef 4 (some .int) 0 0 (en_wi (O_J1_indexOf_4cfef)) := en_of_i (M := M_J1_indexOf_4cfef) hst (s_J1_indexOf_4cfef_0 G hst _ (l_J1_indexOf_4cfef G hst en_FU)) (plainFor_of_name (by decide +kernel)) rfl rfl rfl (Or.inl ⟨rfl, rfl⟩) (fun av σ x σ' h => by
  rw [oe_J1_indexOf_4cfef] at h; unfold P_J1_indexOf_4cfef at h
  split at h
  · exact ⟨(Nat.le_of_ble_eq_true rfl), en_oi_some h⟩
  · cases h)
