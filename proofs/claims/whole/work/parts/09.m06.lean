-- EachMayMissOne$Past.push(LEachMayMissOne$State;)V
def M_X4_push : en_Me := (cX4_push, RX4, 2, false, 2, false)
theorem cs_X4_push : en_cs yX4_push cX4_push 2 none 1 := ⟨wm_856, wm_27, ⟨(by decide +kernel), (by decide +kernel), (by decide +kernel)⟩, (Nat.le_of_ble_eq_true rfl)⟩
noncomputable def B_X4_push_32 (kc : Nat → en_B) : en_B := (op_aload 0 (op_gets 4 1 (24, 12, 1) (op_aload 0 (op_geti 4 1 (op_aload 0 (op_geti 4 2 (op_bin (fun (x y : Int32) => x + y) (op_const (12 : Int32) (op_div (fun (x y : Int32) => x - x / y * y) (op_aldS (op_aload 1 (op_rcv 7 1 (op_callv O_X7_copy 2 (op_aload 0 (op_dup (op_geti 4 2 (op_const (1 : Int32) (op_bin (fun (x y : Int32) => x + y) (op_puti 4 2 op_vret)))))))))))))))))))
set_option maxRecDepth 20000 in
theorem s_X4_push_32 (G : en_G) (hst : G.2.2.2.2.2 = true) (kc : Nat → en_B) (hk : ∀ t, en_Snd G M_X4_push t (kc t)) : en_Snd G M_X4_push 32 (B_X4_push_32 kc) := (sn_aload_n (i := 0) (n := 0) (by decide +kernel) rfl (sn_gets (ci := 4) (j := 0) (off := 1) hst en_c4 of_4_1 (Nat.le_of_ble_eq_true rfl) (by decide +kernel) wm_854 (Nat.le_of_ble_eq_true rfl) rfl (sn_aload_n (i := 0) (n := 0) (by decide +kernel) rfl (sn_geti (ci := 4) (j := 1) en_c4 (by decide +kernel) wm_860 (Nat.le_of_ble_eq_true rfl) rfl (sn_aload_n (i := 0) (n := 0) (by decide +kernel) rfl (sn_geti (ci := 4) (j := 2) en_c4 (by decide +kernel) wm_859 (Nat.le_of_ble_eq_true rfl) rfl (sn_iadd (by decide +kernel) (sn_bipush (n := 12) (v := 12) (by decide +kernel) rfl (sn_irem (by decide +kernel) (sn_aldS hst (by decide +kernel) (sn_aload_n (i := 1) (n := 1) (by decide +kernel) rfl (sn_callVv (n := 1) (idx := 25) (ci := 7) (i_X7_copy G hst) (Nat.le_of_ble_eq_true rfl) cs_X7_copy ⟨wm_1042, wm_1043, wm_861⟩ ⟨⟨_, rfl, rfl⟩, (Nat.le_of_ble_eq_true rfl)⟩ (by decide +kernel) (sn_aload_n (i := 0) (n := 0) (by decide +kernel) rfl (sn_dup (by decide +kernel) (sn_geti (ci := 4) (j := 2) en_c4 (by decide +kernel) wm_859 (Nat.le_of_ble_eq_true rfl) rfl (sn_iconst (n := 1) (v := 1) (by decide +kernel) rfl (sn_iadd (by decide +kernel) (sn_puti (ci := 4) (j := 2) en_c4 (by decide +kernel) wm_859 (Nat.le_of_ble_eq_true rfl) rfl rfl rfl (sn_vret (by decide +kernel))))))))))))))))))))
noncomputable def B_X4_push_0 (kc : Nat → en_B) : en_B := (op_aload 0 (op_geti 4 2 (op_const (12 : Int32) (op_iceq (op_aload 0 (op_aload 0 (op_geti 4 1 (op_const (1 : Int32) (op_bin (fun (x y : Int32) => x + y) (op_const (12 : Int32) (op_div (fun (x y : Int32) => x - x / y * y) (op_puti 4 1 (op_aload 0 (op_dup (op_geti 4 2 (op_const (1 : Int32) (op_bin (fun (x y : Int32) => x - y) (op_puti 4 2 (B_X4_push_32 kc))))))))))))))) (B_X4_push_32 kc)))))
set_option maxRecDepth 20000 in
theorem s_X4_push_0 (G : en_G) (hst : G.2.2.2.2.2 = true) (kc : Nat → en_B) (hk : ∀ t, en_Snd G M_X4_push t (kc t)) : en_Snd G M_X4_push 0 (B_X4_push_0 kc) := (sn_aload_n (i := 0) (n := 0) (by decide +kernel) rfl (sn_geti (ci := 4) (j := 2) en_c4 (by decide +kernel) wm_859 (Nat.le_of_ble_eq_true rfl) rfl (sn_bipush (n := 12) (v := 12) (by decide +kernel) rfl (sn_icne (off := 26) (tgt := 32) (by decide +kernel) rfl (s_X4_push_32 G hst kc hk) (sn_aload_n (i := 0) (n := 0) (by decide +kernel) rfl (sn_aload_n (i := 0) (n := 0) (by decide +kernel) rfl (sn_geti (ci := 4) (j := 1) en_c4 (by decide +kernel) wm_860 (Nat.le_of_ble_eq_true rfl) rfl (sn_iconst (n := 1) (v := 1) (by decide +kernel) rfl (sn_iadd (by decide +kernel) (sn_bipush (n := 12) (v := 12) (by decide +kernel) rfl (sn_irem (by decide +kernel) (sn_puti (ci := 4) (j := 1) en_c4 (by decide +kernel) wm_860 (Nat.le_of_ble_eq_true rfl) rfl rfl rfl (sn_aload_n (i := 0) (n := 0) (by decide +kernel) rfl (sn_dup (by decide +kernel) (sn_geti (ci := 4) (j := 2) en_c4 (by decide +kernel) wm_859 (Nat.le_of_ble_eq_true rfl) rfl (sn_iconst (n := 1) (v := 1) (by decide +kernel) rfl (sn_isub (by decide +kernel) (sn_puti (ci := 4) (j := 2) en_c4 (by decide +kernel) wm_859 (Nat.le_of_ble_eq_true rfl) rfl rfl rfl (s_X4_push_32 G hst kc hk)))))))))))))))))))
noncomputable def LK_X4_push : Nat → Nat → en_B
  | 0, _ => en_no
  | n + 1, t => en_no
theorem l_X4_push (G : en_G) (hst : G.2.2.2.2.2 = true) : ∀ n t, en_Snd G M_X4_push t (LK_X4_push n t)
  | 0, _ => sn_no
  | n + 1, t => by
    show en_Snd G M_X4_push t (en_no)
    exact sn_no
noncomputable def T_X4_push_0 (k1 : Nat) (σ : en_M) : en_R := B_X4_push_0 (LK_X4_push en_FU) [.inr (25, 4, 0, 0), .inr (k1, 7, 0, 0)] [] en_zz σ
set_option maxRecDepth 400000 in
set_option maxHeartbeats 4000000 in
theorem t_X4_push_0 (k1 : Nat) (σ : en_M) : T_X4_push_0 k1 σ = (if (σ 25 2) = (12 : Int32) then (if (12 : Int32) = 0 then none else (if (12 : Int32) = 0 then none else ((en_ix (((((σ 25 1) + (1 : Int32)) - ((σ 25 1) + (1 : Int32)) / (12 : Int32) * (12 : Int32)) + ((σ 25 2) - (1 : Int32))) - ((((σ 25 1) + (1 : Int32)) - ((σ 25 1) + (1 : Int32)) / (12 : Int32) * (12 : Int32)) + ((σ 25 2) - (1 : Int32))) / (12 : Int32) * (12 : Int32)) 12).bind fun j3 => (O_X7_copy [.inr ((26 + 1 + 5 * j3), 7, 0, 0), .inr (k1, 7, 0, 0)] (en_up (en_up σ 25 1 (((σ 25 1) + (1 : Int32)) - ((σ 25 1) + (1 : Int32)) / (12 : Int32) * (12 : Int32))) 25 2 ((σ 25 2) - (1 : Int32)))).bind fun r4 => en_rv (en_up r4 25 2 ((r4 25 2) + (1 : Int32)))))) else (if (12 : Int32) = 0 then none else ((en_ix (((σ 25 1) + (σ 25 2)) - ((σ 25 1) + (σ 25 2)) / (12 : Int32) * (12 : Int32)) 12).bind fun j1 => (O_X7_copy [.inr ((26 + 1 + 5 * j1), 7, 0, 0), .inr (k1, 7, 0, 0)] σ).bind fun r2 => en_rv (en_up r2 25 2 ((r2 25 2) + (1 : Int32)))))) := rfl
noncomputable def P_X4_push : List en_V → en_M → Option en_M := fun av σ => match av with
  | [.inr (25, 4, 0, 0), .inr (k1, 7, 0, 0)] => en_ov (T_X4_push_0 k1 σ)
  | _ => none
theorem ox_X4_push : ∃ f, f = P_X4_push := ⟨_, rfl⟩
noncomputable def O_X4_push : List en_V → en_M → Option en_M := Classical.choose ox_X4_push
theorem oe_X4_push : O_X4_push = P_X4_push := Classical.choose_spec ox_X4_push
theorem o_X4_push (k1 : Nat) (σ : en_M) : O_X4_push [.inr (25, 4, 0, 0), .inr (k1, 7, 0, 0)] σ = en_ov (T_X4_push_0 k1 σ) := by rw [oe_X4_push]; rfl
theorem i_X4_push (G : en_G) (hst : G.2.2.2.2.2 = true) : en_I G 2 yX4_push cX4_push 2 none 0 0 (en_wv (O_X4_push)) := en_of_v (M := M_X4_push) hst (s_X4_push_0 G hst _ (l_X4_push G hst en_FU)) (plainFor_of_name (by decide +kernel)) rfl rfl rfl (fun av σ σ' h => by
  rw [oe_X4_push] at h; unfold P_X4_push at h
  split at h
  · exact ⟨(Nat.le_of_ble_eq_true rfl), en_ov_some h⟩
  · cases h)
-- EachMayMissOne$Past.pop(LEachMayMissOne$State;)Z
def M_X4_pop : en_Me := (cX4_pop, RX4, 2, false, 2, true)
theorem cs_X4_pop : en_cs yX4_pop cX4_pop 2 (some .boolean) 1 := ⟨wm_862, wm_27, ⟨(by decide +kernel), (by decide +kernel), (by decide +kernel)⟩, (Nat.le_of_ble_eq_true rfl)⟩
noncomputable def B_X4_pop_9 (kc : Nat → en_B) : en_B := (op_aload 0 (op_dup (op_geti 4 2 (op_const (1 : Int32) (op_bin (fun (x y : Int32) => x - y) (op_puti 4 2 (op_aload 1 (op_aload 0 (op_gets 4 1 (24, 12, 1) (op_aload 0 (op_geti 4 1 (op_aload 0 (op_geti 4 2 (op_bin (fun (x y : Int32) => x + y) (op_const (12 : Int32) (op_div (fun (x y : Int32) => x - x / y * y) (op_aldS (op_rcv 7 1 (op_callv O_X7_copy 2 (op_const (1 : Int32) op_zret))))))))))))))))))))
set_option maxRecDepth 20000 in
theorem s_X4_pop_9 (G : en_G) (hst : G.2.2.2.2.2 = true) (kc : Nat → en_B) (hk : ∀ t, en_Snd G M_X4_pop t (kc t)) : en_Snd G M_X4_pop 9 (B_X4_pop_9 kc) := (sn_aload_n (i := 0) (n := 0) (by decide +kernel) rfl (sn_dup (by decide +kernel) (sn_geti (ci := 4) (j := 2) en_c4 (by decide +kernel) wm_859 (Nat.le_of_ble_eq_true rfl) rfl (sn_iconst (n := 1) (v := 1) (by decide +kernel) rfl (sn_isub (by decide +kernel) (sn_puti (ci := 4) (j := 2) en_c4 (by decide +kernel) wm_859 (Nat.le_of_ble_eq_true rfl) rfl rfl rfl (sn_aload_n (i := 1) (n := 1) (by decide +kernel) rfl (sn_aload_n (i := 0) (n := 0) (by decide +kernel) rfl (sn_gets (ci := 4) (j := 0) (off := 1) hst en_c4 of_4_1 (Nat.le_of_ble_eq_true rfl) (by decide +kernel) wm_854 (Nat.le_of_ble_eq_true rfl) rfl (sn_aload_n (i := 0) (n := 0) (by decide +kernel) rfl (sn_geti (ci := 4) (j := 1) en_c4 (by decide +kernel) wm_860 (Nat.le_of_ble_eq_true rfl) rfl (sn_aload_n (i := 0) (n := 0) (by decide +kernel) rfl (sn_geti (ci := 4) (j := 2) en_c4 (by decide +kernel) wm_859 (Nat.le_of_ble_eq_true rfl) rfl (sn_iadd (by decide +kernel) (sn_bipush (n := 12) (v := 12) (by decide +kernel) rfl (sn_irem (by decide +kernel) (sn_aldS hst (by decide +kernel) (sn_callVv (n := 1) (idx := 25) (ci := 7) (i_X7_copy G hst) (Nat.le_of_ble_eq_true rfl) cs_X7_copy ⟨wm_1042, wm_1043, wm_861⟩ ⟨⟨_, rfl, rfl⟩, (Nat.le_of_ble_eq_true rfl)⟩ (by decide +kernel) (sn_iconst (n := 1) (v := 1) (by decide +kernel) rfl (sn_zret (by decide +kernel)))))))))))))))))))))
noncomputable def B_X4_pop_0 (kc : Nat → en_B) : en_B := (op_aload 0 (op_geti 4 2 (op_ifeq (op_const (0 : Int32) op_zret) (B_X4_pop_9 kc))))
set_option maxRecDepth 20000 in
theorem s_X4_pop_0 (G : en_G) (hst : G.2.2.2.2.2 = true) (kc : Nat → en_B) (hk : ∀ t, en_Snd G M_X4_pop t (kc t)) : en_Snd G M_X4_pop 0 (B_X4_pop_0 kc) := (sn_aload_n (i := 0) (n := 0) (by decide +kernel) rfl (sn_geti (ci := 4) (j := 2) en_c4 (by decide +kernel) wm_859 (Nat.le_of_ble_eq_true rfl) rfl (sn_ifne (off := 5) (tgt := 9) (by decide +kernel) rfl (s_X4_pop_9 G hst kc hk) (sn_iconst (n := 0) (v := 0) (by decide +kernel) rfl (sn_zret (by decide +kernel))))))
noncomputable def LK_X4_pop : Nat → Nat → en_B
  | 0, _ => en_no
  | n + 1, t => en_no
theorem l_X4_pop (G : en_G) (hst : G.2.2.2.2.2 = true) : ∀ n t, en_Snd G M_X4_pop t (LK_X4_pop n t)
  | 0, _ => sn_no
  | n + 1, t => by
    show en_Snd G M_X4_pop t (en_no)
    exact sn_no
noncomputable def T_X4_pop_0 (k1 : Nat) (σ : en_M) : en_R := B_X4_pop_0 (LK_X4_pop en_FU) [.inr (25, 4, 0, 0), .inr (k1, 7, 0, 0)] [] en_zz σ
set_option maxRecDepth 400000 in
set_option maxHeartbeats 4000000 in
theorem t_X4_pop_0 (k1 : Nat) (σ : en_M) : T_X4_pop_0 k1 σ = (if (σ 25 2) = 0 then (if (0 : Int32) = 0 ∨ (0 : Int32) = 1 then en_ri (0 : Int32) σ else none) else (if (12 : Int32) = 0 then none else ((en_ix (((σ 25 1) + ((σ 25 2) - (1 : Int32))) - ((σ 25 1) + ((σ 25 2) - (1 : Int32))) / (12 : Int32) * (12 : Int32)) 12).bind fun j1 => (O_X7_copy [.inr (k1, 7, 0, 0), .inr ((26 + 1 + 5 * j1), 7, 0, 0)] (en_up σ 25 2 ((σ 25 2) - (1 : Int32)))).bind fun r2 => if (1 : Int32) = 0 ∨ (1 : Int32) = 1 then en_ri (1 : Int32) r2 else none))) := rfl
noncomputable def P_X4_pop : List en_V → en_M → Option (Int32 × en_M) := fun av σ => match av with
  | [.inr (25, 4, 0, 0), .inr (k1, 7, 0, 0)] => en_oi (T_X4_pop_0 k1 σ)
  | _ => none
theorem ox_X4_pop : ∃ f, f = P_X4_pop := ⟨_, rfl⟩
noncomputable def O_X4_pop : List en_V → en_M → Option (Int32 × en_M) := Classical.choose ox_X4_pop
theorem oe_X4_pop : O_X4_pop = P_X4_pop := Classical.choose_spec ox_X4_pop
theorem o_X4_pop (k1 : Nat) (σ : en_M) : O_X4_pop [.inr (25, 4, 0, 0), .inr (k1, 7, 0, 0)] σ = en_oi (T_X4_pop_0 k1 σ) := by rw [oe_X4_pop]; rfl
theorem i_X4_pop (G : en_G) (hst : G.2.2.2.2.2 = true) : en_I G 2 yX4_pop cX4_pop 2 (some .boolean) 0 0 (en_wi (O_X4_pop)) := en_of_i (M := M_X4_pop) hst (s_X4_pop_0 G hst _ (l_X4_pop G hst en_FU)) (plainFor_of_name (by decide +kernel)) rfl rfl rfl (Or.inr ⟨Or.inl rfl, rfl⟩) (fun av σ x σ' h => by
  rw [oe_X4_pop] at h; unfold P_X4_pop at h
  split at h
  · exact ⟨(Nat.le_of_ble_eq_true rfl), en_oi_some h⟩
  · cases h)
-- EachMayMissOne$Past.forget()V
def M_X4_forget : en_Me := (cX4_forget, RX4, 1, false, 1, false)
theorem cs_X4_forget : en_cs yX4_forget cX4_forget 1 none 0 := ⟨wm_865, wm_27, ⟨(by decide +kernel), (by decide +kernel), (by decide +kernel)⟩, (Nat.le_of_ble_eq_true rfl)⟩
noncomputable def B_X4_forget_0 (kc : Nat → en_B) : en_B := (op_aload 0 (op_const (0 : Int32) (op_puti 4 2 op_vret)))
set_option maxRecDepth 20000 in
theorem s_X4_forget_0 (G : en_G) (hst : G.2.2.2.2.2 = true) (kc : Nat → en_B) (hk : ∀ t, en_Snd G M_X4_forget t (kc t)) : en_Snd G M_X4_forget 0 (B_X4_forget_0 kc) := (sn_aload_n (i := 0) (n := 0) (by decide +kernel) rfl (sn_iconst (n := 0) (v := 0) (by decide +kernel) rfl (sn_puti (ci := 4) (j := 2) en_c4 (by decide +kernel) wm_859 (Nat.le_of_ble_eq_true rfl) rfl rfl rfl (sn_vret (by decide +kernel)))))
noncomputable def LK_X4_forget : Nat → Nat → en_B
  | 0, _ => en_no
  | n + 1, t => en_no
theorem l_X4_forget (G : en_G) (hst : G.2.2.2.2.2 = true) : ∀ n t, en_Snd G M_X4_forget t (LK_X4_forget n t)
  | 0, _ => sn_no
  | n + 1, t => by
    show en_Snd G M_X4_forget t (en_no)
    exact sn_no
noncomputable def T_X4_forget_0 (σ : en_M) : en_R := B_X4_forget_0 (LK_X4_forget en_FU) [.inr (25, 4, 0, 0)] [] en_zz σ
set_option maxRecDepth 400000 in
set_option maxHeartbeats 4000000 in
theorem t_X4_forget_0 (σ : en_M) : T_X4_forget_0 σ = (en_rv (en_up σ 25 2 (0 : Int32))) := rfl
noncomputable def P_X4_forget : List en_V → en_M → Option en_M := fun av σ => match av with
  | [.inr (25, 4, 0, 0)] => en_ov (T_X4_forget_0 σ)
  | _ => none
theorem ox_X4_forget : ∃ f, f = P_X4_forget := ⟨_, rfl⟩
noncomputable def O_X4_forget : List en_V → en_M → Option en_M := Classical.choose ox_X4_forget
theorem oe_X4_forget : O_X4_forget = P_X4_forget := Classical.choose_spec ox_X4_forget
theorem o_X4_forget (σ : en_M) : O_X4_forget [.inr (25, 4, 0, 0)] σ = en_ov (T_X4_forget_0 σ) := by rw [oe_X4_forget]; rfl
theorem i_X4_forget (G : en_G) (hst : G.2.2.2.2.2 = true) : en_I G 1 yX4_forget cX4_forget 1 none 0 0 (en_wv (O_X4_forget)) := en_of_v (M := M_X4_forget) hst (s_X4_forget_0 G hst _ (l_X4_forget G hst en_FU)) (plainFor_of_name (by decide +kernel)) rfl rfl rfl (fun av σ σ' h => by
  rw [oe_X4_forget] at h; unfold P_X4_forget at h
  split at h
  · exact ⟨(Nat.le_of_ble_eq_true rfl), en_ov_some h⟩
  · cases h)
-- EachMayMissOne$Kept.put(ILEachMayMissOne$State;)Z
def M_X1_put : en_Me := (cX1_put, RX1, 3, false, 2, true)
theorem cs_X1_put : en_cs yX1_put cX1_put 3 (some .boolean) 2 := ⟨wm_769, wm_32, ⟨(by decide +kernel), (by decide +kernel), (by decide +kernel)⟩, (Nat.le_of_ble_eq_true rfl)⟩
noncomputable def B_X1_put_11 (kc : Nat → en_B) : en_B := (op_aload 0 (op_gets 1 1 (24, 2, 2) (op_iload 1 (op_aldS (op_aload 2 (op_rcv 7 1 (op_callv O_X7_copy 2 (op_aload 0 (op_gets 1 2 (22, 2, 0) (op_iload 1 (op_const (1 : Int32) (op_ast 22 (vp_nar .boolean) (op_const (1 : Int32) op_zret)))))))))))))
set_option maxRecDepth 20000 in
theorem s_X1_put_11 (G : en_G) (hst : G.2.2.2.2.2 = true) (kc : Nat → en_B) (hk : ∀ t, en_Snd G M_X1_put t (kc t)) : en_Snd G M_X1_put 11 (B_X1_put_11 kc) := (sn_aload_n (i := 0) (n := 0) (by decide +kernel) rfl (sn_gets (ci := 1) (j := 0) (off := 1) hst en_c1 of_1_1 (Nat.le_of_ble_eq_true rfl) (by decide +kernel) wm_766 (Nat.le_of_ble_eq_true rfl) rfl (sn_iload_n (i := 1) (n := 1) (by decide +kernel) rfl (sn_aldS hst (by decide +kernel) (sn_aload_n (i := 2) (n := 2) (by decide +kernel) rfl (sn_callVv (n := 1) (idx := 20) (ci := 7) (i_X7_copy G hst) (Nat.le_of_ble_eq_true rfl) cs_X7_copy ⟨wm_1042, wm_1043, wm_772⟩ ⟨⟨_, rfl, rfl⟩, (Nat.le_of_ble_eq_true rfl)⟩ (by decide +kernel) (sn_aload_n (i := 0) (n := 0) (by decide +kernel) rfl (sn_gets (ci := 1) (j := 1) (off := 2) hst en_c1 of_1_2 (Nat.le_of_ble_eq_true rfl) (by decide +kernel) wm_767 (Nat.le_of_ble_eq_true rfl) rfl (sn_iload_n (i := 1) (n := 1) (by decide +kernel) rfl (sn_iconst (n := 1) (v := 1) (by decide +kernel) rfl (sn_zast (by decide +kernel) (sn_iconst (n := 1) (v := 1) (by decide +kernel) rfl (sn_zret (by decide +kernel))))))))))))))
noncomputable def B_X1_put_9 (kc : Nat → en_B) : en_B := (op_const (0 : Int32) op_zret)
set_option maxRecDepth 20000 in
theorem s_X1_put_9 (G : en_G) (hst : G.2.2.2.2.2 = true) (kc : Nat → en_B) (hk : ∀ t, en_Snd G M_X1_put t (kc t)) : en_Snd G M_X1_put 9 (B_X1_put_9 kc) := (sn_iconst (n := 0) (v := 0) (by decide +kernel) rfl (sn_zret (by decide +kernel)))
noncomputable def B_X1_put_0 (kc : Nat → en_B) : en_B := (op_iload 1 (op_iflt (B_X1_put_9 kc) (op_iload 1 (op_const (2 : Int32) (op_iclt (B_X1_put_11 kc) (B_X1_put_9 kc))))))
set_option maxRecDepth 20000 in
theorem s_X1_put_0 (G : en_G) (hst : G.2.2.2.2.2 = true) (kc : Nat → en_B) (hk : ∀ t, en_Snd G M_X1_put t (kc t)) : en_Snd G M_X1_put 0 (B_X1_put_0 kc) := (sn_iload_n (i := 1) (n := 1) (by decide +kernel) rfl (sn_iflt (off := 8) (tgt := 9) (by decide +kernel) rfl (s_X1_put_9 G hst kc hk) (sn_iload_n (i := 1) (n := 1) (by decide +kernel) rfl (sn_iconst (n := 2) (v := 2) (by decide +kernel) rfl (sn_iclt (off := 5) (tgt := 11) (by decide +kernel) rfl (s_X1_put_11 G hst kc hk) (s_X1_put_9 G hst kc hk))))))
noncomputable def LK_X1_put : Nat → Nat → en_B
  | 0, _ => en_no
  | n + 1, t => en_no
theorem l_X1_put (G : en_G) (hst : G.2.2.2.2.2 = true) : ∀ n t, en_Snd G M_X1_put t (LK_X1_put n t)
  | 0, _ => sn_no
  | n + 1, t => by
    show en_Snd G M_X1_put t (en_no)
    exact sn_no
noncomputable def T_X1_put_0 (x1 : Int32) (k2 : Nat) (σ : en_M) : en_R := B_X1_put_0 (LK_X1_put en_FU) [.inr (87, 1, 0, 0), .inl x1, .inr (k2, 7, 0, 0)] [] en_zz σ
set_option maxRecDepth 400000 in
set_option maxHeartbeats 4000000 in
theorem t_X1_put_0 (x1 : Int32) (k2 : Nat) (σ : en_M) : T_X1_put_0 x1 k2 σ = (if x1 < 0 then (if (0 : Int32) = 0 ∨ (0 : Int32) = 1 then en_ri (0 : Int32) σ else none) else (if x1 < (2 : Int32) then ((en_ix x1 2).bind fun j1 => (O_X7_copy [.inr ((88 + 2 + 5 * j1), 7, 0, 0), .inr (k2, 7, 0, 0)] σ).bind fun r2 => (en_ix x1 2).bind fun j3 => if (1 : Int32) = 0 ∨ (1 : Int32) = 1 then en_ri (1 : Int32) (en_up r2 89 j3 (vp_nar .boolean (1 : Int32))) else none) else (if (0 : Int32) = 0 ∨ (0 : Int32) = 1 then en_ri (0 : Int32) σ else none))) := rfl
noncomputable def P_X1_put : List en_V → en_M → Option (Int32 × en_M) := fun av σ => match av with
  | [.inr (87, 1, 0, 0), .inl x1, .inr (k2, 7, 0, 0)] => en_oi (T_X1_put_0 x1 k2 σ)
  | _ => none
theorem ox_X1_put : ∃ f, f = P_X1_put := ⟨_, rfl⟩
noncomputable def O_X1_put : List en_V → en_M → Option (Int32 × en_M) := Classical.choose ox_X1_put
theorem oe_X1_put : O_X1_put = P_X1_put := Classical.choose_spec ox_X1_put
theorem o_X1_put (x1 : Int32) (k2 : Nat) (σ : en_M) : O_X1_put [.inr (87, 1, 0, 0), .inl x1, .inr (k2, 7, 0, 0)] σ = en_oi (T_X1_put_0 x1 k2 σ) := by rw [oe_X1_put]; rfl
theorem i_X1_put (G : en_G) (hst : G.2.2.2.2.2 = true) : en_I G 2 yX1_put cX1_put 3 (some .boolean) 0 0 (en_wi (O_X1_put)) := en_of_i (M := M_X1_put) hst (s_X1_put_0 G hst _ (l_X1_put G hst en_FU)) (plainFor_of_name (by decide +kernel)) rfl rfl rfl (Or.inr ⟨Or.inl rfl, rfl⟩) (fun av σ x σ' h => by
  rw [oe_X1_put] at h; unfold P_X1_put at h
  split at h
  · exact ⟨(Nat.le_of_ble_eq_true rfl), en_oi_some h⟩
  · cases h)
-- EachMayMissOne$Kept.restore(ILEachMayMissOne$State;)Z
def M_X1_restore : en_Me := (cX1_restore, RX1, 3, false, 2, true)
theorem cs_X1_restore : en_cs yX1_restore cX1_restore 3 (some .boolean) 2 := ⟨wm_773, wm_32, ⟨(by decide +kernel), (by decide +kernel), (by decide +kernel)⟩, (Nat.le_of_ble_eq_true rfl)⟩
noncomputable def B_X1_restore_20 (kc : Nat → en_B) : en_B := (op_aload 2 (op_aload 0 (op_gets 1 1 (24, 2, 2) (op_iload 1 (op_aldS (op_rcv 7 1 (op_callv O_X7_copy 2 (op_const (1 : Int32) op_zret))))))))
set_option maxRecDepth 20000 in
theorem s_X1_restore_20 (G : en_G) (hst : G.2.2.2.2.2 = true) (kc : Nat → en_B) (hk : ∀ t, en_Snd G M_X1_restore t (kc t)) : en_Snd G M_X1_restore 20 (B_X1_restore_20 kc) := (sn_aload_n (i := 2) (n := 2) (by decide +kernel) rfl (sn_aload_n (i := 0) (n := 0) (by decide +kernel) rfl (sn_gets (ci := 1) (j := 0) (off := 1) hst en_c1 of_1_1 (Nat.le_of_ble_eq_true rfl) (by decide +kernel) wm_766 (Nat.le_of_ble_eq_true rfl) rfl (sn_iload_n (i := 1) (n := 1) (by decide +kernel) rfl (sn_aldS hst (by decide +kernel) (sn_callVv (n := 1) (idx := 20) (ci := 7) (i_X7_copy G hst) (Nat.le_of_ble_eq_true rfl) cs_X7_copy ⟨wm_1042, wm_1043, wm_772⟩ ⟨⟨_, rfl, rfl⟩, (Nat.le_of_ble_eq_true rfl)⟩ (by decide +kernel) (sn_iconst (n := 1) (v := 1) (by decide +kernel) rfl (sn_zret (by decide +kernel)))))))))
noncomputable def B_X1_restore_18 (kc : Nat → en_B) : en_B := (op_const (0 : Int32) op_zret)
set_option maxRecDepth 20000 in
theorem s_X1_restore_18 (G : en_G) (hst : G.2.2.2.2.2 = true) (kc : Nat → en_B) (hk : ∀ t, en_Snd G M_X1_restore t (kc t)) : en_Snd G M_X1_restore 18 (B_X1_restore_18 kc) := (sn_iconst (n := 0) (v := 0) (by decide +kernel) rfl (sn_zret (by decide +kernel)))
noncomputable def B_X1_restore_0 (kc : Nat → en_B) : en_B := (op_iload 1 (op_iflt (B_X1_restore_18 kc) (op_iload 1 (op_const (2 : Int32) (op_iclt (op_aload 0 (op_gets 1 2 (22, 2, 0) (op_iload 1 (op_ald 22 (op_ifeq (B_X1_restore_18 kc) (B_X1_restore_20 kc)))))) (B_X1_restore_18 kc))))))
set_option maxRecDepth 20000 in
theorem s_X1_restore_0 (G : en_G) (hst : G.2.2.2.2.2 = true) (kc : Nat → en_B) (hk : ∀ t, en_Snd G M_X1_restore t (kc t)) : en_Snd G M_X1_restore 0 (B_X1_restore_0 kc) := (sn_iload_n (i := 1) (n := 1) (by decide +kernel) rfl (sn_iflt (off := 17) (tgt := 18) (by decide +kernel) rfl (s_X1_restore_18 G hst kc hk) (sn_iload_n (i := 1) (n := 1) (by decide +kernel) rfl (sn_iconst (n := 2) (v := 2) (by decide +kernel) rfl (sn_icge (off := 12) (tgt := 18) (by decide +kernel) rfl (s_X1_restore_18 G hst kc hk) (sn_aload_n (i := 0) (n := 0) (by decide +kernel) rfl (sn_gets (ci := 1) (j := 1) (off := 2) hst en_c1 of_1_2 (Nat.le_of_ble_eq_true rfl) (by decide +kernel) wm_767 (Nat.le_of_ble_eq_true rfl) rfl (sn_iload_n (i := 1) (n := 1) (by decide +kernel) rfl (sn_zald (by decide +kernel) (sn_ifne (off := 5) (tgt := 20) (by decide +kernel) rfl (s_X1_restore_20 G hst kc hk) (s_X1_restore_18 G hst kc hk)))))))))))
noncomputable def LK_X1_restore : Nat → Nat → en_B
  | 0, _ => en_no
  | n + 1, t => en_no
theorem l_X1_restore (G : en_G) (hst : G.2.2.2.2.2 = true) : ∀ n t, en_Snd G M_X1_restore t (LK_X1_restore n t)
  | 0, _ => sn_no
  | n + 1, t => by
    show en_Snd G M_X1_restore t (en_no)
    exact sn_no
noncomputable def T_X1_restore_0 (x1 : Int32) (k2 : Nat) (σ : en_M) : en_R := B_X1_restore_0 (LK_X1_restore en_FU) [.inr (87, 1, 0, 0), .inl x1, .inr (k2, 7, 0, 0)] [] en_zz σ
set_option maxRecDepth 400000 in
set_option maxHeartbeats 4000000 in
theorem t_X1_restore_0 (x1 : Int32) (k2 : Nat) (σ : en_M) : T_X1_restore_0 x1 k2 σ = (if x1 < 0 then (if (0 : Int32) = 0 ∨ (0 : Int32) = 1 then en_ri (0 : Int32) σ else none) else (if x1 < (2 : Int32) then ((en_ix x1 2).bind fun j1 => if (σ 89 j1) = 0 then (if (0 : Int32) = 0 ∨ (0 : Int32) = 1 then en_ri (0 : Int32) σ else none) else ((en_ix x1 2).bind fun j2 => (O_X7_copy [.inr (k2, 7, 0, 0), .inr ((88 + 2 + 5 * j2), 7, 0, 0)] σ).bind fun r3 => if (1 : Int32) = 0 ∨ (1 : Int32) = 1 then en_ri (1 : Int32) r3 else none)) else (if (0 : Int32) = 0 ∨ (0 : Int32) = 1 then en_ri (0 : Int32) σ else none))) := rfl
noncomputable def P_X1_restore : List en_V → en_M → Option (Int32 × en_M) := fun av σ => match av with
  | [.inr (87, 1, 0, 0), .inl x1, .inr (k2, 7, 0, 0)] => en_oi (T_X1_restore_0 x1 k2 σ)
  | _ => none
theorem ox_X1_restore : ∃ f, f = P_X1_restore := ⟨_, rfl⟩
noncomputable def O_X1_restore : List en_V → en_M → Option (Int32 × en_M) := Classical.choose ox_X1_restore
theorem oe_X1_restore : O_X1_restore = P_X1_restore := Classical.choose_spec ox_X1_restore
theorem o_X1_restore (x1 : Int32) (k2 : Nat) (σ : en_M) : O_X1_restore [.inr (87, 1, 0, 0), .inl x1, .inr (k2, 7, 0, 0)] σ = en_oi (T_X1_restore_0 x1 k2 σ) := by rw [oe_X1_restore]; rfl
theorem i_X1_restore (G : en_G) (hst : G.2.2.2.2.2 = true) : en_I G 2 yX1_restore cX1_restore 3 (some .boolean) 0 0 (en_wi (O_X1_restore)) := en_of_i (M := M_X1_restore) hst (s_X1_restore_0 G hst _ (l_X1_restore G hst en_FU)) (plainFor_of_name (by decide +kernel)) rfl rfl rfl (Or.inr ⟨Or.inl rfl, rfl⟩) (fun av σ x σ' h => by
  rw [oe_X1_restore] at h; unfold P_X1_restore at h
  split at h
  · exact ⟨(Nat.le_of_ble_eq_true rfl), en_oi_some h⟩
  · cases h)
-- EachMayMissOne$Kept.forget()V
def M_X1_forget : en_Me := (cX1_forget, RX1, 1, false, 1, false)
theorem cs_X1_forget : en_cs yX1_forget cX1_forget 1 none 0 := ⟨wm_776, wm_32, ⟨(by decide +kernel), (by decide +kernel), (by decide +kernel)⟩, (Nat.le_of_ble_eq_true rfl)⟩
noncomputable def B_X1_forget_0 (kc : Nat → en_B) : en_B := (op_aload 0 (op_gets 1 2 (22, 2, 0) (op_const (0 : Int32) (op_const (0 : Int32) (op_ast 22 (vp_nar .boolean) (op_aload 0 (op_gets 1 2 (22, 2, 0) (op_const (1 : Int32) (op_const (0 : Int32) (op_ast 22 (vp_nar .boolean) op_vret))))))))))
set_option maxRecDepth 20000 in
theorem s_X1_forget_0 (G : en_G) (hst : G.2.2.2.2.2 = true) (kc : Nat → en_B) (hk : ∀ t, en_Snd G M_X1_forget t (kc t)) : en_Snd G M_X1_forget 0 (B_X1_forget_0 kc) := (sn_aload_n (i := 0) (n := 0) (by decide +kernel) rfl (sn_gets (ci := 1) (j := 1) (off := 2) hst en_c1 of_1_2 (Nat.le_of_ble_eq_true rfl) (by decide +kernel) wm_767 (Nat.le_of_ble_eq_true rfl) rfl (sn_iconst (n := 0) (v := 0) (by decide +kernel) rfl (sn_iconst (n := 0) (v := 0) (by decide +kernel) rfl (sn_zast (by decide +kernel) (sn_aload_n (i := 0) (n := 0) (by decide +kernel) rfl (sn_gets (ci := 1) (j := 1) (off := 2) hst en_c1 of_1_2 (Nat.le_of_ble_eq_true rfl) (by decide +kernel) wm_767 (Nat.le_of_ble_eq_true rfl) rfl (sn_iconst (n := 1) (v := 1) (by decide +kernel) rfl (sn_iconst (n := 0) (v := 0) (by decide +kernel) rfl (sn_zast (by decide +kernel) (sn_vret (by decide +kernel))))))))))))
noncomputable def LK_X1_forget : Nat → Nat → en_B
  | 0, _ => en_no
  | n + 1, t => en_no
theorem l_X1_forget (G : en_G) (hst : G.2.2.2.2.2 = true) : ∀ n t, en_Snd G M_X1_forget t (LK_X1_forget n t)
  | 0, _ => sn_no
  | n + 1, t => by
    show en_Snd G M_X1_forget t (en_no)
    exact sn_no
noncomputable def T_X1_forget_0 (σ : en_M) : en_R := B_X1_forget_0 (LK_X1_forget en_FU) [.inr (87, 1, 0, 0)] [] en_zz σ
set_option maxRecDepth 400000 in
set_option maxHeartbeats 4000000 in
theorem t_X1_forget_0 (σ : en_M) : T_X1_forget_0 σ = ((en_ix (0 : Int32) 2).bind fun j1 => (en_ix (1 : Int32) 2).bind fun j2 => en_rv (en_up (en_up σ 89 j1 (vp_nar .boolean (0 : Int32))) 89 j2 (vp_nar .boolean (0 : Int32)))) := rfl
noncomputable def P_X1_forget : List en_V → en_M → Option en_M := fun av σ => match av with
  | [.inr (87, 1, 0, 0)] => en_ov (T_X1_forget_0 σ)
  | _ => none
theorem ox_X1_forget : ∃ f, f = P_X1_forget := ⟨_, rfl⟩
noncomputable def O_X1_forget : List en_V → en_M → Option en_M := Classical.choose ox_X1_forget
theorem oe_X1_forget : O_X1_forget = P_X1_forget := Classical.choose_spec ox_X1_forget
theorem o_X1_forget (σ : en_M) : O_X1_forget [.inr (87, 1, 0, 0)] σ = en_ov (T_X1_forget_0 σ) := by rw [oe_X1_forget]; rfl
theorem i_X1_forget (G : en_G) (hst : G.2.2.2.2.2 = true) : en_I G 1 yX1_forget cX1_forget 1 none 0 0 (en_wv (O_X1_forget)) := en_of_v (M := M_X1_forget) hst (s_X1_forget_0 G hst _ (l_X1_forget G hst en_FU)) (plainFor_of_name (by decide +kernel)) rfl rfl rfl (fun av σ σ' h => by
  rw [oe_X1_forget] at h; unfold P_X1_forget at h
  split at h
  · exact ⟨(Nat.le_of_ble_eq_true rfl), en_ov_some h⟩
  · cases h)
-- EachMayMissOne$Night.write(II)V
def M_X2_write : en_Me := (cX2_write, RX2, 3, false, 1, false)
theorem cs_X2_write : en_cs yX2_write cX2_write 3 none 2 := ⟨wm_808, wm_37, ⟨(by decide +kernel), (by decide +kernel), (by decide +kernel)⟩, (Nat.le_of_ble_eq_true rfl)⟩
noncomputable def B_X2_write_39 (kc : Nat → en_B) : en_B := op_vret
set_option maxRecDepth 20000 in
theorem s_X2_write_39 (G : en_G) (hst : G.2.2.2.2.2 = true) (kc : Nat → en_B) (hk : ∀ t, en_Snd G M_X2_write t (kc t)) : en_Snd G M_X2_write 39 (B_X2_write_39 kc) := (sn_vret (by decide +kernel))
noncomputable def B_X2_write_0 (kc : Nat → en_B) : en_B := (op_aload 0 (op_geti 2 2 (op_const (30 : Int32) (op_iclt (op_aload 0 (op_gets 2 1 (20, 30, 0) (op_aload 0 (op_geti 2 2 (op_iload 1 (op_ast 20 (fun (x : Int32) => x) (op_aload 0 (op_gets 2 2 (20, 30, 0) (op_aload 0 (op_geti 2 2 (op_iload 2 (op_ast 20 (fun (x : Int32) => x) (op_aload 0 (op_dup (op_geti 2 2 (op_const (1 : Int32) (op_bin (fun (x y : Int32) => x + y) (op_puti 2 2 (B_X2_write_39 kc))))))))))))))))))) (B_X2_write_39 kc)))))
set_option maxRecDepth 20000 in
theorem s_X2_write_0 (G : en_G) (hst : G.2.2.2.2.2 = true) (kc : Nat → en_B) (hk : ∀ t, en_Snd G M_X2_write t (kc t)) : en_Snd G M_X2_write 0 (B_X2_write_0 kc) := (sn_aload_n (i := 0) (n := 0) (by decide +kernel) rfl (sn_geti (ci := 2) (j := 2) en_c2 (by decide +kernel) wm_787 (Nat.le_of_ble_eq_true rfl) rfl (sn_bipush (n := 30) (v := 30) (by decide +kernel) rfl (sn_icge (off := 33) (tgt := 39) (by decide +kernel) rfl (s_X2_write_39 G hst kc hk) (sn_aload_n (i := 0) (n := 0) (by decide +kernel) rfl (sn_gets (ci := 2) (j := 0) (off := 1) hst en_c2 of_2_1 (Nat.le_of_ble_eq_true rfl) (by decide +kernel) wm_782 (Nat.le_of_ble_eq_true rfl) rfl (sn_aload_n (i := 0) (n := 0) (by decide +kernel) rfl (sn_geti (ci := 2) (j := 2) en_c2 (by decide +kernel) wm_787 (Nat.le_of_ble_eq_true rfl) rfl (sn_iload_n (i := 1) (n := 1) (by decide +kernel) rfl (sn_iast (by decide +kernel) (sn_aload_n (i := 0) (n := 0) (by decide +kernel) rfl (sn_gets (ci := 2) (j := 1) (off := 2) hst en_c2 of_2_2 (Nat.le_of_ble_eq_true rfl) (by decide +kernel) wm_783 (Nat.le_of_ble_eq_true rfl) rfl (sn_aload_n (i := 0) (n := 0) (by decide +kernel) rfl (sn_geti (ci := 2) (j := 2) en_c2 (by decide +kernel) wm_787 (Nat.le_of_ble_eq_true rfl) rfl (sn_iload_n (i := 2) (n := 2) (by decide +kernel) rfl (sn_iast (by decide +kernel) (sn_aload_n (i := 0) (n := 0) (by decide +kernel) rfl (sn_dup (by decide +kernel) (sn_geti (ci := 2) (j := 2) en_c2 (by decide +kernel) wm_787 (Nat.le_of_ble_eq_true rfl) rfl (sn_iconst (n := 1) (v := 1) (by decide +kernel) rfl (sn_iadd (by decide +kernel) (sn_puti (ci := 2) (j := 2) en_c2 (by decide +kernel) wm_787 (Nat.le_of_ble_eq_true rfl) rfl rfl rfl (s_X2_write_39 G hst kc hk)))))))))))))))))))))))
noncomputable def LK_X2_write : Nat → Nat → en_B
  | 0, _ => en_no
  | n + 1, t => en_no
theorem l_X2_write (G : en_G) (hst : G.2.2.2.2.2 = true) : ∀ n t, en_Snd G M_X2_write t (LK_X2_write n t)
  | 0, _ => sn_no
  | n + 1, t => by
    show en_Snd G M_X2_write t (en_no)
    exact sn_no
noncomputable def T_X2_write_0 (x1 : Int32) (x2 : Int32) (σ : en_M) : en_R := B_X2_write_0 (LK_X2_write en_FU) [.inr (100, 2, 0, 0), .inl x1, .inl x2] [] en_zz σ
set_option maxRecDepth 400000 in
set_option maxHeartbeats 4000000 in
theorem t_X2_write_0 (x1 : Int32) (x2 : Int32) (σ : en_M) : T_X2_write_0 x1 x2 σ = (if (σ 100 2) < (30 : Int32) then ((en_ix (σ 100 2) 30).bind fun j1 => (en_ix (σ 100 2) 30).bind fun j2 => en_rv (en_up (en_up (en_up σ 101 j1 x1) 102 j2 x2) 100 2 ((σ 100 2) + (1 : Int32)))) else (en_rv σ)) := rfl
noncomputable def P_X2_write : List en_V → en_M → Option en_M := fun av σ => match av with
  | [.inr (100, 2, 0, 0), .inl x1, .inl x2] => en_ov (T_X2_write_0 x1 x2 σ)
  | _ => none
theorem ox_X2_write : ∃ f, f = P_X2_write := ⟨_, rfl⟩
noncomputable def O_X2_write : List en_V → en_M → Option en_M := Classical.choose ox_X2_write
theorem oe_X2_write : O_X2_write = P_X2_write := Classical.choose_spec ox_X2_write
theorem o_X2_write (x1 : Int32) (x2 : Int32) (σ : en_M) : O_X2_write [.inr (100, 2, 0, 0), .inl x1, .inl x2] σ = en_ov (T_X2_write_0 x1 x2 σ) := by rw [oe_X2_write]; rfl
theorem i_X2_write (G : en_G) (hst : G.2.2.2.2.2 = true) : en_I G 1 yX2_write cX2_write 3 none 0 0 (en_wv (O_X2_write)) := en_of_v (M := M_X2_write) hst (s_X2_write_0 G hst _ (l_X2_write G hst en_FU)) (plainFor_of_name (by decide +kernel)) rfl rfl rfl (fun av σ σ' h => by
  rw [oe_X2_write] at h; unfold P_X2_write at h
  split at h
  · exact ⟨(Nat.le_of_ble_eq_true rfl), en_ov_some h⟩
  · cases h)
-- EachMayMissOne$Night.readRounds(LEachMayMissOne$Text;I)I
def M_X2_readRounds : en_Me := (cX2_readRounds, RX2, 7, false, 2, false)
theorem cs_X2_readRounds : en_cs yX2_readRounds cX2_readRounds 7 (some .int) 2 := ⟨wm_799, wm_37, ⟨(by decide +kernel), (by decide +kernel), (by decide +kernel)⟩, (Nat.le_of_ble_eq_true rfl)⟩
noncomputable def B_X2_readRounds_77 (kc : Nat → en_B) : en_B := op_iret
set_option maxRecDepth 20000 in
theorem s_X2_readRounds_77 (G : en_G) (hst : G.2.2.2.2.2 = true) (kc : Nat → en_B) (hk : ∀ t, en_Snd G M_X2_readRounds t (kc t)) : en_Snd G M_X2_readRounds 77 (B_X2_readRounds_77 kc) := (sn_iret (by decide +kernel) rfl)
noncomputable def B_X2_readRounds_73 (kc : Nat → en_B) : en_B := (op_iload 2 (op_calli O_X11_cannotStand 1 (B_X2_readRounds_77 kc)))
set_option maxRecDepth 20000 in
theorem s_X2_readRounds_73 (G : en_G) (hst : G.2.2.2.2.2 = true) (kc : Nat → en_B) (hk : ∀ t, en_Snd G M_X2_readRounds t (kc t)) : en_Snd G M_X2_readRounds 73 (B_X2_readRounds_73 kc) := (sn_iload_n (i := 2) (n := 2) (by decide +kernel) rfl (sn_callSi (n := 1) (idx := 35) (i_X11_cannotStand G hst) (Nat.le_of_ble_eq_true rfl) cs_X11_cannotStand ⟨wm_274, Or.inr (by decide +kernel)⟩ (by decide +kernel) (s_X2_readRounds_77 G hst kc hk)))
noncomputable def B_X2_readRounds_56 (kc : Nat → en_B) : en_B := (op_aload 0 (op_const (1 : Int32) (op_iload 3 (op_rcv 2 2 (op_callv O_X2_write 3 (op_iload 4 (op_iload 2 (op_icgt (op_iload 4 (B_X2_readRounds_77 kc)) (B_X2_readRounds_73 kc)))))))))
set_option maxRecDepth 20000 in
theorem s_X2_readRounds_56 (G : en_G) (hst : G.2.2.2.2.2 = true) (kc : Nat → en_B) (hk : ∀ t, en_Snd G M_X2_readRounds t (kc t)) : en_Snd G M_X2_readRounds 56 (B_X2_readRounds_56 kc) := (sn_aload_n (i := 0) (n := 0) (by decide +kernel) rfl (sn_iconst (n := 1) (v := 1) (by decide +kernel) rfl (sn_iload_n (i := 3) (n := 3) (by decide +kernel) rfl (sn_callVv (n := 2) (idx := 39) (ci := 2) (i_X2_write G hst) (Nat.le_of_ble_eq_true rfl) cs_X2_write ⟨wm_809, wm_810, wm_795⟩ ⟨⟨_, rfl, rfl⟩, (Nat.le_of_ble_eq_true rfl)⟩ (by decide +kernel) (sn_iload (i := 4) (by decide +kernel) (sn_iload_n (i := 2) (n := 2) (by decide +kernel) rfl (sn_icle (off := 8) (tgt := 73) (by decide +kernel) rfl (s_X2_readRounds_73 G hst kc hk) (sn_iload (i := 4) (by decide +kernel) (sn_goto (off := 7) (tgt := 77) (by decide +kernel) rfl (s_X2_readRounds_77 G hst kc hk))))))))))
noncomputable def B_X2_readRounds_50 (kc : Nat → en_B) : en_B := (op_iinc 5 (1 : Int32) (kc 8))
set_option maxRecDepth 20000 in
theorem s_X2_readRounds_50 (G : en_G) (hst : G.2.2.2.2.2 = true) (kc : Nat → en_B) (hk : ∀ t, en_Snd G M_X2_readRounds t (kc t)) : en_Snd G M_X2_readRounds 50 (B_X2_readRounds_50 kc) := (sn_iinc (i := 5) (n := 1) (v := 1) (by decide +kernel) rfl (sn_goto (off := -45) (tgt := 8) (by decide +kernel) rfl (hk 8)))
noncomputable def B_X2_readRounds_8 (kc : Nat → en_B) : en_B := (op_iload 5 (op_const (2 : Int32) (op_iclt (op_aload 1 (op_iload 4 (op_const (60 : Int32) (op_rcv 8 2 (op_calli O_X8_at 3 (op_const (48 : Int32) (op_bin (fun (x y : Int32) => x - y) (op_istore 6 (op_iload 6 (op_iflt (B_X2_readRounds_50 kc) (op_iload 6 (op_const (9 : Int32) (op_icgt (B_X2_readRounds_50 kc) (op_iload 3 (op_const (10 : Int32) (op_bin (fun (x y : Int32) => x * y) (op_iload 6 (op_bin (fun (x y : Int32) => x + y) (op_istore 3 (op_iinc 4 (1 : Int32) (B_X2_readRounds_50 kc))))))))))))))))))))) (B_X2_readRounds_56 kc))))
set_option maxRecDepth 20000 in
theorem s_X2_readRounds_8 (G : en_G) (hst : G.2.2.2.2.2 = true) (kc : Nat → en_B) (hk : ∀ t, en_Snd G M_X2_readRounds t (kc t)) : en_Snd G M_X2_readRounds 8 (B_X2_readRounds_8 kc) := (sn_iload (i := 5) (by decide +kernel) (sn_iconst (n := 2) (v := 2) (by decide +kernel) rfl (sn_icge (off := 45) (tgt := 56) (by decide +kernel) rfl (s_X2_readRounds_56 G hst kc hk) (sn_aload_n (i := 1) (n := 1) (by decide +kernel) rfl (sn_iload (i := 4) (by decide +kernel) (sn_bipush (n := 60) (v := 60) (by decide +kernel) rfl (sn_callVi (n := 2) (idx := 31) (ci := 8) (i_X8_at G hst) (Nat.le_of_ble_eq_true rfl) cs_X8_at ⟨wm_1079, wm_1080, wm_790⟩ ⟨⟨_, rfl, rfl⟩, (Nat.le_of_ble_eq_true rfl)⟩ (by decide +kernel) (sn_bipush (n := 48) (v := 48) (by decide +kernel) rfl (sn_isub (by decide +kernel) (sn_istore (i := 6) (by decide +kernel) (Nat.le_of_ble_eq_true rfl) (sn_iload (i := 6) (by decide +kernel) (sn_iflt (off := 21) (tgt := 50) (by decide +kernel) rfl (s_X2_readRounds_50 G hst kc hk) (sn_iload (i := 6) (by decide +kernel) (sn_bipush (n := 9) (v := 9) (by decide +kernel) rfl (sn_icgt (off := 14) (tgt := 50) (by decide +kernel) rfl (s_X2_readRounds_50 G hst kc hk) (sn_iload_n (i := 3) (n := 3) (by decide +kernel) rfl (sn_bipush (n := 10) (v := 10) (by decide +kernel) rfl (sn_imul (by decide +kernel) (sn_iload (i := 6) (by decide +kernel) (sn_iadd (by decide +kernel) (sn_istore_n (i := 3) (n := 3) (by decide +kernel) rfl (Nat.le_of_ble_eq_true rfl) (sn_iinc (i := 4) (n := 1) (v := 1) (by decide +kernel) rfl (s_X2_readRounds_50 G hst kc hk)))))))))))))))))))))))
noncomputable def B_X2_readRounds_0 (kc : Nat → en_B) : en_B := (op_const (0 : Int32) (op_istore 3 (op_iload 2 (op_istore 4 (op_const (0 : Int32) (op_istore 5 (kc 8)))))))
set_option maxRecDepth 20000 in
theorem s_X2_readRounds_0 (G : en_G) (hst : G.2.2.2.2.2 = true) (kc : Nat → en_B) (hk : ∀ t, en_Snd G M_X2_readRounds t (kc t)) : en_Snd G M_X2_readRounds 0 (B_X2_readRounds_0 kc) := (sn_iconst (n := 0) (v := 0) (by decide +kernel) rfl (sn_istore_n (i := 3) (n := 3) (by decide +kernel) rfl (Nat.le_of_ble_eq_true rfl) (sn_iload_n (i := 2) (n := 2) (by decide +kernel) rfl (sn_istore (i := 4) (by decide +kernel) (Nat.le_of_ble_eq_true rfl) (sn_iconst (n := 0) (v := 0) (by decide +kernel) rfl (sn_istore (i := 5) (by decide +kernel) (Nat.le_of_ble_eq_true rfl) (hk 8)))))))
noncomputable def LK_X2_readRounds : Nat → Nat → en_B
  | 0, _ => en_no
  | n + 1, t => if t = 8 then B_X2_readRounds_8 (LK_X2_readRounds n) else en_no
theorem l_X2_readRounds (G : en_G) (hst : G.2.2.2.2.2 = true) : ∀ n t, en_Snd G M_X2_readRounds t (LK_X2_readRounds n t)
  | 0, _ => sn_no
  | n + 1, t => by
    show en_Snd G M_X2_readRounds t (if t = 8 then B_X2_readRounds_8 (LK_X2_readRounds n) else en_no)
    by_cases h_8 : t = 8
    · rw [if_pos h_8, h_8]; exact s_X2_readRounds_8 G hst _ (l_X2_readRounds G hst n)
    rw [if_neg h_8]
    exact sn_no
noncomputable def T_X2_readRounds_0 (x2 : Int32) (σ : en_M) : en_R := B_X2_readRounds_0 (LK_X2_readRounds en_FU) [.inr (100, 2, 0, 0), .inr (1, 8, 0, 0), .inl x2, en_un, en_un, en_un, en_un] [] en_zz σ
noncomputable def T_X2_readRounds_8 (n : Nat) (x2 : Int32) (x3 : Int32) (x4 : Int32) (x5 : Int32) (u6 : en_V) (σ : en_M) : en_R := LK_X2_readRounds n 8 [.inr (100, 2, 0, 0), .inr (1, 8, 0, 0), .inl x2, .inl x3, .inl x4, .inl x5, u6] [] en_zz σ
set_option maxRecDepth 400000 in
set_option maxHeartbeats 4000000 in
theorem t_X2_readRounds_0 (x2 : Int32) (σ : en_M) : T_X2_readRounds_0 x2 σ = (T_X2_readRounds_8 en_FU x2 (0 : Int32) x2 (0 : Int32) (en_un) σ) := rfl
set_option maxRecDepth 400000 in
set_option maxHeartbeats 4000000 in
theorem t_X2_readRounds_8 (n : Nat) (x2 : Int32) (x3 : Int32) (x4 : Int32) (x5 : Int32) (u6 : en_V) (σ : en_M) : T_X2_readRounds_8 (n + 1) x2 x3 x4 x5 u6 σ = (if x5 < (2 : Int32) then ((O_X8_at [.inr (1, 8, 0, 0), .inl x4, .inl (60 : Int32)] σ).bind fun r3 => if (r3.1 - (48 : Int32)) < 0 then (T_X2_readRounds_8 n x2 x3 x4 (x5 + (1 : Int32)) (.inl (r3.1 - (48 : Int32))) r3.2) else (if (9 : Int32) < (r3.1 - (48 : Int32)) then (T_X2_readRounds_8 n x2 x3 x4 (x5 + (1 : Int32)) (.inl (r3.1 - (48 : Int32))) r3.2) else (T_X2_readRounds_8 n x2 ((x3 * (10 : Int32)) + (r3.1 - (48 : Int32))) (x4 + (1 : Int32)) (x5 + (1 : Int32)) (.inl (r3.1 - (48 : Int32))) r3.2))) else ((O_X2_write [.inr (100, 2, 0, 0), .inl (1 : Int32), .inl x3] σ).bind fun r1 => if x2 < x4 then (en_ri x4 r1) else ((O_X11_cannotStand [.inl x2] r1).bind fun r2 => en_ri r2.1 r2.2))) := rfl
noncomputable def P_X2_readRounds : List en_V → en_M → Option (Int32 × en_M) := fun av σ => match av with
  | [.inr (100, 2, 0, 0), .inr (1, 8, 0, 0), .inl x2] => en_oi (T_X2_readRounds_0 x2 σ)
  | _ => none
theorem ox_X2_readRounds : ∃ f, f = P_X2_readRounds := ⟨_, rfl⟩
noncomputable def O_X2_readRounds : List en_V → en_M → Option (Int32 × en_M) := Classical.choose ox_X2_readRounds
theorem oe_X2_readRounds : O_X2_readRounds = P_X2_readRounds := Classical.choose_spec ox_X2_readRounds
theorem o_X2_readRounds (x2 : Int32) (σ : en_M) : O_X2_readRounds [.inr (100, 2, 0, 0), .inr (1, 8, 0, 0), .inl x2] σ = en_oi (T_X2_readRounds_0 x2 σ) := by rw [oe_X2_readRounds]; rfl
theorem i_X2_readRounds (G : en_G) (hst : G.2.2.2.2.2 = true) : en_I G 2 yX2_readRounds cX2_readRounds 7 (some .int) 0 0 (en_wi (O_X2_readRounds)) := en_of_i (M := M_X2_readRounds) hst (s_X2_readRounds_0 G hst _ (l_X2_readRounds G hst en_FU)) (plainFor_of_name (by decide +kernel)) rfl rfl rfl (Or.inl ⟨rfl, rfl⟩) (fun av σ x σ' h => by
  rw [oe_X2_readRounds] at h; unfold P_X2_readRounds at h
  split at h
  · exact ⟨(Nat.le_of_ble_eq_true rfl), en_oi_some h⟩
  · cases h)
-- EachMayMissOne$Night.isLetter(I)Z
def M_X2_isLetter : en_Me := (cX2_isLetter, RX2, 1, false, 1, true)
theorem cs_X2_isLetter : en_cs yX2_isLetter cX2_isLetter 1 (some .boolean) 1 := ⟨wm_806, wm_37, ⟨(by decide +kernel), (by decide +kernel), (by decide +kernel)⟩, (Nat.le_of_ble_eq_true rfl)⟩
noncomputable def B_X2_isLetter_15 (kc : Nat → en_B) : en_B := op_zret
set_option maxRecDepth 20000 in
theorem s_X2_isLetter_15 (G : en_G) (hst : G.2.2.2.2.2 = true) (kc : Nat → en_B) (hk : ∀ t, en_Snd G M_X2_isLetter t (kc t)) : en_Snd G M_X2_isLetter 15 (B_X2_isLetter_15 kc) := (sn_zret (by decide +kernel))
noncomputable def B_X2_isLetter_14 (kc : Nat → en_B) : en_B := (op_const (0 : Int32) (B_X2_isLetter_15 kc))
set_option maxRecDepth 20000 in
theorem s_X2_isLetter_14 (G : en_G) (hst : G.2.2.2.2.2 = true) (kc : Nat → en_B) (hk : ∀ t, en_Snd G M_X2_isLetter t (kc t)) : en_Snd G M_X2_isLetter 14 (B_X2_isLetter_14 kc) := (sn_iconst (n := 0) (v := 0) (by decide +kernel) rfl (s_X2_isLetter_15 G hst kc hk))
noncomputable def B_X2_isLetter_0 (kc : Nat → en_B) : en_B := (op_iload 0 (op_iflt (B_X2_isLetter_14 kc) (op_iload 0 (op_const (7 : Int32) (op_iclt (op_const (1 : Int32) (B_X2_isLetter_15 kc)) (B_X2_isLetter_14 kc))))))
set_option maxRecDepth 20000 in
theorem s_X2_isLetter_0 (G : en_G) (hst : G.2.2.2.2.2 = true) (kc : Nat → en_B) (hk : ∀ t, en_Snd G M_X2_isLetter t (kc t)) : en_Snd G M_X2_isLetter 0 (B_X2_isLetter_0 kc) := (sn_iload_n (i := 0) (n := 0) (by decide +kernel) rfl (sn_iflt (off := 13) (tgt := 14) (by decide +kernel) rfl (s_X2_isLetter_14 G hst kc hk) (sn_iload_n (i := 0) (n := 0) (by decide +kernel) rfl (sn_bipush (n := 7) (v := 7) (by decide +kernel) rfl (sn_icge (off := 7) (tgt := 14) (by decide +kernel) rfl (s_X2_isLetter_14 G hst kc hk) (sn_iconst (n := 1) (v := 1) (by decide +kernel) rfl (sn_goto (off := 4) (tgt := 15) (by decide +kernel) rfl (s_X2_isLetter_15 G hst kc hk))))))))
noncomputable def LK_X2_isLetter : Nat → Nat → en_B
  | 0, _ => en_no
  | n + 1, t => en_no
theorem l_X2_isLetter (G : en_G) (hst : G.2.2.2.2.2 = true) : ∀ n t, en_Snd G M_X2_isLetter t (LK_X2_isLetter n t)
  | 0, _ => sn_no
  | n + 1, t => by
    show en_Snd G M_X2_isLetter t (en_no)
    exact sn_no
noncomputable def T_X2_isLetter_0 (x0 : Int32) (σ : en_M) : en_R := B_X2_isLetter_0 (LK_X2_isLetter en_FU) [.inl x0] [] en_zz σ
set_option maxRecDepth 400000 in
set_option maxHeartbeats 4000000 in
theorem t_X2_isLetter_0 (x0 : Int32) (σ : en_M) : T_X2_isLetter_0 x0 σ = (if x0 < 0 then (if (0 : Int32) = 0 ∨ (0 : Int32) = 1 then en_ri (0 : Int32) σ else none) else (if x0 < (7 : Int32) then (if (1 : Int32) = 0 ∨ (1 : Int32) = 1 then en_ri (1 : Int32) σ else none) else (if (0 : Int32) = 0 ∨ (0 : Int32) = 1 then en_ri (0 : Int32) σ else none))) := rfl
noncomputable def P_X2_isLetter : List en_V → en_M → Option (Int32 × en_M) := fun av σ => match av with
  | [.inl x0] => en_oi (T_X2_isLetter_0 x0 σ)
  | _ => none
theorem ox_X2_isLetter : ∃ f, f = P_X2_isLetter := ⟨_, rfl⟩
noncomputable def O_X2_isLetter : List en_V → en_M → Option (Int32 × en_M) := Classical.choose ox_X2_isLetter
theorem oe_X2_isLetter : O_X2_isLetter = P_X2_isLetter := Classical.choose_spec ox_X2_isLetter
theorem o_X2_isLetter (x0 : Int32) (σ : en_M) : O_X2_isLetter [.inl x0] σ = en_oi (T_X2_isLetter_0 x0 σ) := by rw [oe_X2_isLetter]; rfl
theorem i_X2_isLetter (G : en_G) (hst : G.2.2.2.2.2 = true) : en_I G 1 yX2_isLetter cX2_isLetter 1 (some .boolean) 0 0 (en_wi (O_X2_isLetter)) := en_of_i (M := M_X2_isLetter) hst (s_X2_isLetter_0 G hst _ (l_X2_isLetter G hst en_FU)) (plainFor_of_name (by decide +kernel)) rfl rfl rfl (Or.inr ⟨Or.inl rfl, rfl⟩) (fun av σ x σ' h => by
  rw [oe_X2_isLetter] at h; unfold P_X2_isLetter at h
  split at h
  · exact ⟨(Nat.le_of_ble_eq_true rfl), en_oi_some h⟩
  · cases h)
-- EachMayMissOne$Night.readMissing(LEachMayMissOne$Text;I)I
def M_X2_readMissing : en_Me := (cX2_readMissing, RX2, 6, false, 2, false)
theorem cs_X2_readMissing : en_cs yX2_readMissing cX2_readMissing 6 (some .int) 2 := ⟨wm_802, wm_37, ⟨(by decide +kernel), (by decide +kernel), (by decide +kernel)⟩, (Nat.le_of_ble_eq_true rfl)⟩
noncomputable def B_X2_readMissing_96 (kc : Nat → en_B) : en_B := op_iret
set_option maxRecDepth 20000 in
theorem s_X2_readMissing_96 (G : en_G) (hst : G.2.2.2.2.2 = true) (kc : Nat → en_B) (hk : ∀ t, en_Snd G M_X2_readMissing t (kc t)) : en_Snd G M_X2_readMissing 96 (B_X2_readMissing_96 kc) := (sn_iret (by decide +kernel) rfl)
noncomputable def B_X2_readMissing_92 (kc : Nat → en_B) : en_B := (op_iload 2 (op_calli O_X11_cannotStand 1 (B_X2_readMissing_96 kc)))
set_option maxRecDepth 20000 in
theorem s_X2_readMissing_92 (G : en_G) (hst : G.2.2.2.2.2 = true) (kc : Nat → en_B) (hk : ∀ t, en_Snd G M_X2_readMissing t (kc t)) : en_Snd G M_X2_readMissing 92 (B_X2_readMissing_92 kc) := (sn_iload_n (i := 2) (n := 2) (by decide +kernel) rfl (sn_callSi (n := 1) (idx := 35) (i_X11_cannotStand G hst) (Nat.le_of_ble_eq_true rfl) cs_X11_cannotStand ⟨wm_274, Or.inr (by decide +kernel)⟩ (by decide +kernel) (s_X2_readMissing_96 G hst kc hk)))
noncomputable def B_X2_readMissing_75 (kc : Nat → en_B) : en_B := (op_aload 0 (op_const (0 : Int32) (op_iload 3 (op_rcv 2 2 (op_callv O_X2_write 3 (op_iload 4 (op_iload 2 (op_icgt (op_iload 4 (B_X2_readMissing_96 kc)) (B_X2_readMissing_92 kc)))))))))
set_option maxRecDepth 20000 in
theorem s_X2_readMissing_75 (G : en_G) (hst : G.2.2.2.2.2 = true) (kc : Nat → en_B) (hk : ∀ t, en_Snd G M_X2_readMissing t (kc t)) : en_Snd G M_X2_readMissing 75 (B_X2_readMissing_75 kc) := (sn_aload_n (i := 0) (n := 0) (by decide +kernel) rfl (sn_iconst (n := 0) (v := 0) (by decide +kernel) rfl (sn_iload_n (i := 3) (n := 3) (by decide +kernel) rfl (sn_callVv (n := 2) (idx := 39) (ci := 2) (i_X2_write G hst) (Nat.le_of_ble_eq_true rfl) cs_X2_write ⟨wm_809, wm_810, wm_795⟩ ⟨⟨_, rfl, rfl⟩, (Nat.le_of_ble_eq_true rfl)⟩ (by decide +kernel) (sn_iload (i := 4) (by decide +kernel) (sn_iload_n (i := 2) (n := 2) (by decide +kernel) rfl (sn_icle (off := 8) (tgt := 92) (by decide +kernel) rfl (s_X2_readMissing_92 G hst kc hk) (sn_iload (i := 4) (by decide +kernel) (sn_goto (off := 7) (tgt := 96) (by decide +kernel) rfl (s_X2_readMissing_96 G hst kc hk))))))))))
noncomputable def B_X2_readMissing_49 (kc : Nat → en_B) : en_B := (op_iload 3 (op_const (1 : Int32) (op_iload 5 (op_bin en_shl (op_bin (fun (x y : Int32) => x ||| y) (op_istore 3 (op_iinc 4 (1 : Int32) (op_aload 1 (op_iload 4 (op_const (60 : Int32) (op_rcv 8 2 (op_calli O_X8_at 3 (op_const (97 : Int32) (op_bin (fun (x y : Int32) => x - y) (op_istore 5 (kc 18))))))))))))))))
set_option maxRecDepth 20000 in
theorem s_X2_readMissing_49 (G : en_G) (hst : G.2.2.2.2.2 = true) (kc : Nat → en_B) (hk : ∀ t, en_Snd G M_X2_readMissing t (kc t)) : en_Snd G M_X2_readMissing 49 (B_X2_readMissing_49 kc) := (sn_iload_n (i := 3) (n := 3) (by decide +kernel) rfl (sn_iconst (n := 1) (v := 1) (by decide +kernel) rfl (sn_iload (i := 5) (by decide +kernel) (sn_ishl (by decide +kernel) (sn_ior (by decide +kernel) (sn_istore_n (i := 3) (n := 3) (by decide +kernel) rfl (Nat.le_of_ble_eq_true rfl) (sn_iinc (i := 4) (n := 1) (v := 1) (by decide +kernel) rfl (sn_aload_n (i := 1) (n := 1) (by decide +kernel) rfl (sn_iload (i := 4) (by decide +kernel) (sn_bipush (n := 60) (v := 60) (by decide +kernel) rfl (sn_callVi (n := 2) (idx := 31) (ci := 8) (i_X8_at G hst) (Nat.le_of_ble_eq_true rfl) cs_X8_at ⟨wm_1079, wm_1080, wm_790⟩ ⟨⟨_, rfl, rfl⟩, (Nat.le_of_ble_eq_true rfl)⟩ (by decide +kernel) (sn_bipush (n := 97) (v := 97) (by decide +kernel) rfl (sn_isub (by decide +kernel) (sn_istore (i := 5) (by decide +kernel) (Nat.le_of_ble_eq_true rfl) (sn_goto (off := -54) (tgt := 18) (by decide +kernel) rfl (hk 18))))))))))))))))
noncomputable def B_X2_readMissing_18 (kc : Nat → en_B) : en_B := (op_iload 4 (op_const (60 : Int32) (op_iclt (op_iload 5 (op_calli O_X2_isLetter 1 (op_ifeq (B_X2_readMissing_75 kc) (op_iload 3 (op_iload 5 (op_calli O_X11_bit 2 (op_const (1 : Int32) (op_iceq (op_iload 4 (op_calli O_X11_cannotStand 1 op_iret)) (B_X2_readMissing_49 kc))))))))) (B_X2_readMissing_75 kc))))
set_option maxRecDepth 20000 in
theorem s_X2_readMissing_18 (G : en_G) (hst : G.2.2.2.2.2 = true) (kc : Nat → en_B) (hk : ∀ t, en_Snd G M_X2_readMissing t (kc t)) : en_Snd G M_X2_readMissing 18 (B_X2_readMissing_18 kc) := (sn_iload (i := 4) (by decide +kernel) (sn_bipush (n := 60) (v := 60) (by decide +kernel) rfl (sn_icge (off := 53) (tgt := 75) (by decide +kernel) rfl (s_X2_readMissing_75 G hst kc hk) (sn_iload (i := 5) (by decide +kernel) (sn_callSi (n := 1) (idx := 46) (i_X2_isLetter G hst) (Nat.le_of_ble_eq_true rfl) cs_X2_isLetter ⟨wm_807, Or.inl wm_797⟩ (by decide +kernel) (sn_ifeq (off := 45) (tgt := 75) (by decide +kernel) rfl (s_X2_readMissing_75 G hst kc hk) (sn_iload_n (i := 3) (n := 3) (by decide +kernel) rfl (sn_iload (i := 5) (by decide +kernel) (sn_callSi (n := 2) (idx := 53) (i_X11_bit G hst) (Nat.le_of_ble_eq_true rfl) cs_X11_bit ⟨wm_257, Or.inr (by decide +kernel)⟩ (by decide +kernel) (sn_iconst (n := 1) (v := 1) (by decide +kernel) rfl (sn_icne (off := 9) (tgt := 49) (by decide +kernel) rfl (s_X2_readMissing_49 G hst kc hk) (sn_iload (i := 4) (by decide +kernel) (sn_callSi (n := 1) (idx := 35) (i_X11_cannotStand G hst) (Nat.le_of_ble_eq_true rfl) cs_X11_cannotStand ⟨wm_274, Or.inr (by decide +kernel)⟩ (by decide +kernel) (sn_iret (by decide +kernel) rfl))))))))))))))
noncomputable def B_X2_readMissing_0 (kc : Nat → en_B) : en_B := (op_const (0 : Int32) (op_istore 3 (op_iload 2 (op_istore 4 (op_aload 1 (op_iload 4 (op_const (60 : Int32) (op_rcv 8 2 (op_calli O_X8_at 3 (op_const (97 : Int32) (op_bin (fun (x y : Int32) => x - y) (op_istore 5 (kc 18)))))))))))))
set_option maxRecDepth 20000 in
theorem s_X2_readMissing_0 (G : en_G) (hst : G.2.2.2.2.2 = true) (kc : Nat → en_B) (hk : ∀ t, en_Snd G M_X2_readMissing t (kc t)) : en_Snd G M_X2_readMissing 0 (B_X2_readMissing_0 kc) := (sn_iconst (n := 0) (v := 0) (by decide +kernel) rfl (sn_istore_n (i := 3) (n := 3) (by decide +kernel) rfl (Nat.le_of_ble_eq_true rfl) (sn_iload_n (i := 2) (n := 2) (by decide +kernel) rfl (sn_istore (i := 4) (by decide +kernel) (Nat.le_of_ble_eq_true rfl) (sn_aload_n (i := 1) (n := 1) (by decide +kernel) rfl (sn_iload (i := 4) (by decide +kernel) (sn_bipush (n := 60) (v := 60) (by decide +kernel) rfl (sn_callVi (n := 2) (idx := 31) (ci := 8) (i_X8_at G hst) (Nat.le_of_ble_eq_true rfl) cs_X8_at ⟨wm_1079, wm_1080, wm_790⟩ ⟨⟨_, rfl, rfl⟩, (Nat.le_of_ble_eq_true rfl)⟩ (by decide +kernel) (sn_bipush (n := 97) (v := 97) (by decide +kernel) rfl (sn_isub (by decide +kernel) (sn_istore (i := 5) (by decide +kernel) (Nat.le_of_ble_eq_true rfl) (hk 18))))))))))))
noncomputable def LK_X2_readMissing : Nat → Nat → en_B
  | 0, _ => en_no
  | n + 1, t => if t = 18 then B_X2_readMissing_18 (LK_X2_readMissing n) else en_no
theorem l_X2_readMissing (G : en_G) (hst : G.2.2.2.2.2 = true) : ∀ n t, en_Snd G M_X2_readMissing t (LK_X2_readMissing n t)
  | 0, _ => sn_no
  | n + 1, t => by
    show en_Snd G M_X2_readMissing t (if t = 18 then B_X2_readMissing_18 (LK_X2_readMissing n) else en_no)
    by_cases h_18 : t = 18
    · rw [if_pos h_18, h_18]; exact s_X2_readMissing_18 G hst _ (l_X2_readMissing G hst n)
    rw [if_neg h_18]
    exact sn_no
noncomputable def T_X2_readMissing_0 (x2 : Int32) (σ : en_M) : en_R := B_X2_readMissing_0 (LK_X2_readMissing en_FU) [.inr (100, 2, 0, 0), .inr (1, 8, 0, 0), .inl x2, en_un, en_un, en_un] [] en_zz σ
noncomputable def T_X2_readMissing_18 (n : Nat) (x2 : Int32) (x3 : Int32) (x4 : Int32) (x5 : Int32) (σ : en_M) : en_R := LK_X2_readMissing n 18 [.inr (100, 2, 0, 0), .inr (1, 8, 0, 0), .inl x2, .inl x3, .inl x4, .inl x5] [] en_zz σ
set_option maxRecDepth 400000 in
set_option maxHeartbeats 4000000 in
theorem t_X2_readMissing_0 (x2 : Int32) (σ : en_M) : T_X2_readMissing_0 x2 σ = ((O_X8_at [.inr (1, 8, 0, 0), .inl x2, .inl (60 : Int32)] σ).bind fun r1 => T_X2_readMissing_18 en_FU x2 (0 : Int32) x2 (r1.1 - (97 : Int32)) r1.2) := rfl
set_option maxRecDepth 400000 in
set_option maxHeartbeats 4000000 in
theorem t_X2_readMissing_18 (n : Nat) (x2 : Int32) (x3 : Int32) (x4 : Int32) (x5 : Int32) (σ : en_M) : T_X2_readMissing_18 (n + 1) x2 x3 x4 x5 σ = (if x4 < (60 : Int32) then ((O_X2_isLetter [.inl x5] σ).bind fun r4 => if r4.1 = 0 then ((O_X2_write [.inr (100, 2, 0, 0), .inl (0 : Int32), .inl x3] r4.2).bind fun r5 => if x2 < x4 then (en_ri x4 r5) else ((O_X11_cannotStand [.inl x2] r5).bind fun r6 => en_ri r6.1 r6.2)) else ((O_X11_bit [.inl x3, .inl x5] r4.2).bind fun r7 => if r7.1 = (1 : Int32) then ((O_X11_cannotStand [.inl x4] r7.2).bind fun r9 => en_ri r9.1 r9.2) else ((O_X8_at [.inr (1, 8, 0, 0), .inl (x4 + (1 : Int32)), .inl (60 : Int32)] r7.2).bind fun r8 => T_X2_readMissing_18 n x2 (x3 ||| (en_shl (1 : Int32) x5)) (x4 + (1 : Int32)) (r8.1 - (97 : Int32)) r8.2))) else ((O_X2_write [.inr (100, 2, 0, 0), .inl (0 : Int32), .inl x3] σ).bind fun r2 => if x2 < x4 then (en_ri x4 r2) else ((O_X11_cannotStand [.inl x2] r2).bind fun r3 => en_ri r3.1 r3.2))) := rfl
noncomputable def P_X2_readMissing : List en_V → en_M → Option (Int32 × en_M) := fun av σ => match av with
  | [.inr (100, 2, 0, 0), .inr (1, 8, 0, 0), .inl x2] => en_oi (T_X2_readMissing_0 x2 σ)
  | _ => none
theorem ox_X2_readMissing : ∃ f, f = P_X2_readMissing := ⟨_, rfl⟩
noncomputable def O_X2_readMissing : List en_V → en_M → Option (Int32 × en_M) := Classical.choose ox_X2_readMissing
theorem oe_X2_readMissing : O_X2_readMissing = P_X2_readMissing := Classical.choose_spec ox_X2_readMissing
theorem o_X2_readMissing (x2 : Int32) (σ : en_M) : O_X2_readMissing [.inr (100, 2, 0, 0), .inr (1, 8, 0, 0), .inl x2] σ = en_oi (T_X2_readMissing_0 x2 σ) := by rw [oe_X2_readMissing]; rfl
theorem i_X2_readMissing (G : en_G) (hst : G.2.2.2.2.2 = true) : en_I G 2 yX2_readMissing cX2_readMissing 6 (some .int) 0 0 (en_wi (O_X2_readMissing)) := en_of_i (M := M_X2_readMissing) hst (s_X2_readMissing_0 G hst _ (l_X2_readMissing G hst en_FU)) (plainFor_of_name (by decide +kernel)) rfl rfl rfl (Or.inl ⟨rfl, rfl⟩) (fun av σ x σ' h => by
  rw [oe_X2_readMissing] at h; unfold P_X2_readMissing at h
  split at h
  · exact ⟨(Nat.le_of_ble_eq_true rfl), en_oi_some h⟩
  · cases h)
-- EachMayMissOne$Night.readAct(LEachMayMissOne$Text;I)I
def M_X2_readAct : en_Me := (cX2_readAct, RX2, 5, false, 3, false)
theorem cs_X2_readAct : en_cs yX2_readAct cX2_readAct 5 (some .int) 2 := ⟨wm_792, wm_37, ⟨(by decide +kernel), (by decide +kernel), (by decide +kernel)⟩, (Nat.le_of_ble_eq_true rfl)⟩
noncomputable def B_X2_readAct_87 (kc : Nat → en_B) : en_B := (op_aload 0 (op_aload 1 (op_iload 2 (op_rcv 2 2 (op_calli O_X2_readMissing 3 op_iret)))))
set_option maxRecDepth 20000 in
theorem s_X2_readAct_87 (G : en_G) (hst : G.2.2.2.2.2 = true) (kc : Nat → en_B) (hk : ∀ t, en_Snd G M_X2_readAct t (kc t)) : en_Snd G M_X2_readAct 87 (B_X2_readAct_87 kc) := (sn_aload_n (i := 0) (n := 0) (by decide +kernel) rfl (sn_aload_n (i := 1) (n := 1) (by decide +kernel) rfl (sn_iload_n (i := 2) (n := 2) (by decide +kernel) rfl (sn_callVi (n := 2) (idx := 50) (ci := 2) (i_X2_readMissing G hst) (Nat.le_of_ble_eq_true rfl) cs_X2_readMissing ⟨wm_803, wm_804, wm_798⟩ ⟨⟨_, rfl, rfl⟩, (Nat.le_of_ble_eq_true rfl)⟩ (by decide +kernel) (sn_iret (by decide +kernel) rfl)))))
noncomputable def B_X2_readAct_86 (kc : Nat → en_B) : en_B := op_iret
set_option maxRecDepth 20000 in
theorem s_X2_readAct_86 (G : en_G) (hst : G.2.2.2.2.2 = true) (kc : Nat → en_B) (hk : ∀ t, en_Snd G M_X2_readAct t (kc t)) : en_Snd G M_X2_readAct 86 (B_X2_readAct_86 kc) := (sn_iret (by decide +kernel) rfl)
noncomputable def B_X2_readAct_80 (kc : Nat → en_B) : en_B := (op_iload 2 (op_const (1 : Int32) (op_bin (fun (x y : Int32) => x + y) (op_calli O_X11_cannotStand 1 (B_X2_readAct_86 kc)))))
set_option maxRecDepth 20000 in
theorem s_X2_readAct_80 (G : en_G) (hst : G.2.2.2.2.2 = true) (kc : Nat → en_B) (hk : ∀ t, en_Snd G M_X2_readAct t (kc t)) : en_Snd G M_X2_readAct 80 (B_X2_readAct_80 kc) := (sn_iload_n (i := 2) (n := 2) (by decide +kernel) rfl (sn_iconst (n := 1) (v := 1) (by decide +kernel) rfl (sn_iadd (by decide +kernel) (sn_callSi (n := 1) (idx := 35) (i_X11_cannotStand G hst) (Nat.le_of_ble_eq_true rfl) cs_X11_cannotStand ⟨wm_274, Or.inr (by decide +kernel)⟩ (by decide +kernel) (s_X2_readAct_86 G hst kc hk)))))
noncomputable def B_X2_readAct_39 (kc : Nat → en_B) : en_B := (op_iload 3 (op_const (33 : Int32) (op_iceq (op_aload 1 (op_iload 2 (op_const (1 : Int32) (op_bin (fun (x y : Int32) => x + y) (op_const (60 : Int32) (op_rcv 8 2 (op_calli O_X8_at 3 (op_const (97 : Int32) (op_bin (fun (x y : Int32) => x - y) (op_istore 4 (op_aload 0 (op_const (2 : Int32) (op_iload 4 (op_rcv 2 2 (op_callv O_X2_write 3 (op_iload 4 (op_calli O_X2_isLetter 1 (op_ifeq (B_X2_readAct_80 kc) (op_iload 2 (op_const (2 : Int32) (op_bin (fun (x y : Int32) => x + y) (B_X2_readAct_86 kc)))))))))))))))))))))) (B_X2_readAct_87 kc))))
set_option maxRecDepth 20000 in
theorem s_X2_readAct_39 (G : en_G) (hst : G.2.2.2.2.2 = true) (kc : Nat → en_B) (hk : ∀ t, en_Snd G M_X2_readAct t (kc t)) : en_Snd G M_X2_readAct 39 (B_X2_readAct_39 kc) := (sn_iload_n (i := 3) (n := 3) (by decide +kernel) rfl (sn_bipush (n := 33) (v := 33) (by decide +kernel) rfl (sn_icne (off := 45) (tgt := 87) (by decide +kernel) rfl (s_X2_readAct_87 G hst kc hk) (sn_aload_n (i := 1) (n := 1) (by decide +kernel) rfl (sn_iload_n (i := 2) (n := 2) (by decide +kernel) rfl (sn_iconst (n := 1) (v := 1) (by decide +kernel) rfl (sn_iadd (by decide +kernel) (sn_bipush (n := 60) (v := 60) (by decide +kernel) rfl (sn_callVi (n := 2) (idx := 31) (ci := 8) (i_X8_at G hst) (Nat.le_of_ble_eq_true rfl) cs_X8_at ⟨wm_1079, wm_1080, wm_790⟩ ⟨⟨_, rfl, rfl⟩, (Nat.le_of_ble_eq_true rfl)⟩ (by decide +kernel) (sn_bipush (n := 97) (v := 97) (by decide +kernel) rfl (sn_isub (by decide +kernel) (sn_istore (i := 4) (by decide +kernel) (Nat.le_of_ble_eq_true rfl) (sn_aload_n (i := 0) (n := 0) (by decide +kernel) rfl (sn_iconst (n := 2) (v := 2) (by decide +kernel) rfl (sn_iload (i := 4) (by decide +kernel) (sn_callVv (n := 2) (idx := 39) (ci := 2) (i_X2_write G hst) (Nat.le_of_ble_eq_true rfl) cs_X2_write ⟨wm_809, wm_810, wm_795⟩ ⟨⟨_, rfl, rfl⟩, (Nat.le_of_ble_eq_true rfl)⟩ (by decide +kernel) (sn_iload (i := 4) (by decide +kernel) (sn_callSi (n := 1) (idx := 46) (i_X2_isLetter G hst) (Nat.le_of_ble_eq_true rfl) cs_X2_isLetter ⟨wm_807, Or.inl wm_797⟩ (by decide +kernel) (sn_ifeq (off := 9) (tgt := 80) (by decide +kernel) rfl (s_X2_readAct_80 G hst kc hk) (sn_iload_n (i := 2) (n := 2) (by decide +kernel) rfl (sn_iconst (n := 2) (v := 2) (by decide +kernel) rfl (sn_iadd (by decide +kernel) (sn_goto (off := 9) (tgt := 86) (by decide +kernel) rfl (s_X2_readAct_86 G hst kc hk))))))))))))))))))))))))
noncomputable def B_X2_readAct_24 (kc : Nat → en_B) : en_B := (op_iload 3 (op_const (114 : Int32) (op_iceq (op_aload 0 (op_aload 1 (op_iload 2 (op_const (1 : Int32) (op_bin (fun (x y : Int32) => x + y) (op_rcv 2 2 (op_calli O_X2_readRounds 3 op_iret))))))) (B_X2_readAct_39 kc))))
set_option maxRecDepth 20000 in
theorem s_X2_readAct_24 (G : en_G) (hst : G.2.2.2.2.2 = true) (kc : Nat → en_B) (hk : ∀ t, en_Snd G M_X2_readAct t (kc t)) : en_Snd G M_X2_readAct 24 (B_X2_readAct_24 kc) := (sn_iload_n (i := 3) (n := 3) (by decide +kernel) rfl (sn_bipush (n := 114) (v := 114) (by decide +kernel) rfl (sn_icne (off := 12) (tgt := 39) (by decide +kernel) rfl (s_X2_readAct_39 G hst kc hk) (sn_aload_n (i := 0) (n := 0) (by decide +kernel) rfl (sn_aload_n (i := 1) (n := 1) (by decide +kernel) rfl (sn_iload_n (i := 2) (n := 2) (by decide +kernel) rfl (sn_iconst (n := 1) (v := 1) (by decide +kernel) rfl (sn_iadd (by decide +kernel) (sn_callVi (n := 2) (idx := 43) (ci := 2) (i_X2_readRounds G hst) (Nat.le_of_ble_eq_true rfl) cs_X2_readRounds ⟨wm_800, wm_801, wm_796⟩ ⟨⟨_, rfl, rfl⟩, (Nat.le_of_ble_eq_true rfl)⟩ (by decide +kernel) (sn_iret (by decide +kernel) rfl))))))))))
noncomputable def B_X2_readAct_0 (kc : Nat → en_B) : en_B := (op_aload 1 (op_iload 2 (op_const (60 : Int32) (op_rcv 8 2 (op_calli O_X8_at 3 (op_istore 3 (op_iload 3 (op_const (45 : Int32) (op_iceq (op_aload 0 (op_const (0 : Int32) (op_const (0 : Int32) (op_rcv 2 2 (op_callv O_X2_write 3 (op_iload 2 (op_const (1 : Int32) (op_bin (fun (x y : Int32) => x + y) op_iret)))))))) (B_X2_readAct_24 kc))))))))))
set_option maxRecDepth 20000 in
theorem s_X2_readAct_0 (G : en_G) (hst : G.2.2.2.2.2 = true) (kc : Nat → en_B) (hk : ∀ t, en_Snd G M_X2_readAct t (kc t)) : en_Snd G M_X2_readAct 0 (B_X2_readAct_0 kc) := (sn_aload_n (i := 1) (n := 1) (by decide +kernel) rfl (sn_iload_n (i := 2) (n := 2) (by decide +kernel) rfl (sn_bipush (n := 60) (v := 60) (by decide +kernel) rfl (sn_callVi (n := 2) (idx := 31) (ci := 8) (i_X8_at G hst) (Nat.le_of_ble_eq_true rfl) cs_X8_at ⟨wm_1079, wm_1080, wm_790⟩ ⟨⟨_, rfl, rfl⟩, (Nat.le_of_ble_eq_true rfl)⟩ (by decide +kernel) (sn_istore_n (i := 3) (n := 3) (by decide +kernel) rfl (Nat.le_of_ble_eq_true rfl) (sn_iload_n (i := 3) (n := 3) (by decide +kernel) rfl (sn_bipush (n := 45) (v := 45) (by decide +kernel) rfl (sn_icne (off := 13) (tgt := 24) (by decide +kernel) rfl (s_X2_readAct_24 G hst kc hk) (sn_aload_n (i := 0) (n := 0) (by decide +kernel) rfl (sn_iconst (n := 0) (v := 0) (by decide +kernel) rfl (sn_iconst (n := 0) (v := 0) (by decide +kernel) rfl (sn_callVv (n := 2) (idx := 39) (ci := 2) (i_X2_write G hst) (Nat.le_of_ble_eq_true rfl) cs_X2_write ⟨wm_809, wm_810, wm_795⟩ ⟨⟨_, rfl, rfl⟩, (Nat.le_of_ble_eq_true rfl)⟩ (by decide +kernel) (sn_iload_n (i := 2) (n := 2) (by decide +kernel) rfl (sn_iconst (n := 1) (v := 1) (by decide +kernel) rfl (sn_iadd (by decide +kernel) (sn_iret (by decide +kernel) rfl))))))))))))))))
noncomputable def LK_X2_readAct : Nat → Nat → en_B
  | 0, _ => en_no
  | n + 1, t => en_no
theorem l_X2_readAct (G : en_G) (hst : G.2.2.2.2.2 = true) : ∀ n t, en_Snd G M_X2_readAct t (LK_X2_readAct n t)
  | 0, _ => sn_no
  | n + 1, t => by
    show en_Snd G M_X2_readAct t (en_no)
    exact sn_no
noncomputable def T_X2_readAct_0 (x2 : Int32) (σ : en_M) : en_R := B_X2_readAct_0 (LK_X2_readAct en_FU) [.inr (100, 2, 0, 0), .inr (1, 8, 0, 0), .inl x2, en_un, en_un] [] en_zz σ
set_option maxRecDepth 400000 in
set_option maxHeartbeats 4000000 in
theorem t_X2_readAct_0 (x2 : Int32) (σ : en_M) : T_X2_readAct_0 x2 σ = ((O_X8_at [.inr (1, 8, 0, 0), .inl x2, .inl (60 : Int32)] σ).bind fun r1 => if r1.1 = (45 : Int32) then ((O_X2_write [.inr (100, 2, 0, 0), .inl (0 : Int32), .inl (0 : Int32)] r1.2).bind fun r8 => en_ri (x2 + (1 : Int32)) r8) else (if r1.1 = (114 : Int32) then ((O_X2_readRounds [.inr (100, 2, 0, 0), .inr (1, 8, 0, 0), .inl (x2 + (1 : Int32))] r1.2).bind fun r7 => en_ri r7.1 r7.2) else (if r1.1 = (33 : Int32) then ((O_X8_at [.inr (1, 8, 0, 0), .inl (x2 + (1 : Int32)), .inl (60 : Int32)] r1.2).bind fun r3 => (O_X2_write [.inr (100, 2, 0, 0), .inl (2 : Int32), .inl (r3.1 - (97 : Int32))] r3.2).bind fun r4 => (O_X2_isLetter [.inl (r3.1 - (97 : Int32))] r4).bind fun r5 => if r5.1 = 0 then ((O_X11_cannotStand [.inl (x2 + (1 : Int32))] r5.2).bind fun r6 => en_ri r6.1 r6.2) else (en_ri (x2 + (2 : Int32)) r5.2)) else ((O_X2_readMissing [.inr (100, 2, 0, 0), .inr (1, 8, 0, 0), .inl x2] r1.2).bind fun r2 => en_ri r2.1 r2.2)))) := rfl
noncomputable def P_X2_readAct : List en_V → en_M → Option (Int32 × en_M) := fun av σ => match av with
  | [.inr (100, 2, 0, 0), .inr (1, 8, 0, 0), .inl x2] => en_oi (T_X2_readAct_0 x2 σ)
  | _ => none
theorem ox_X2_readAct : ∃ f, f = P_X2_readAct := ⟨_, rfl⟩
noncomputable def O_X2_readAct : List en_V → en_M → Option (Int32 × en_M) := Classical.choose ox_X2_readAct
theorem oe_X2_readAct : O_X2_readAct = P_X2_readAct := Classical.choose_spec ox_X2_readAct
theorem o_X2_readAct (x2 : Int32) (σ : en_M) : O_X2_readAct [.inr (100, 2, 0, 0), .inr (1, 8, 0, 0), .inl x2] σ = en_oi (T_X2_readAct_0 x2 σ) := by rw [oe_X2_readAct]; rfl
theorem i_X2_readAct (G : en_G) (hst : G.2.2.2.2.2 = true) : en_I G 3 yX2_readAct cX2_readAct 5 (some .int) 0 0 (en_wi (O_X2_readAct)) := en_of_i (M := M_X2_readAct) hst (s_X2_readAct_0 G hst _ (l_X2_readAct G hst en_FU)) (plainFor_of_name (by decide +kernel)) rfl rfl rfl (Or.inl ⟨rfl, rfl⟩) (fun av σ x σ' h => by
  rw [oe_X2_readAct] at h; unfold P_X2_readAct at h
  split at h
  · exact ⟨(Nat.le_of_ble_eq_true rfl), en_oi_some h⟩
  · cases h)
