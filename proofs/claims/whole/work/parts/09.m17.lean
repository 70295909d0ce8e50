-- EachMayMissOne.keep(I)Z
def M_X11_keep : en_Me := (cX11_keep, RX11, 2, false, 3, true)
theorem cs_X11_keep : en_cs yX11_keep cX11_keep 2 (some .boolean) 1 := ⟨wm_238, wm_2, ⟨(by decide +kernel), (by decide +kernel), (by decide +kernel)⟩, (Nat.le_of_ble_eq_true rfl)⟩
noncomputable def B_X11_keep_0 (kc : Nat → en_B) : en_B := (op_aload 0 (op_gets 11 87 (1, 0, 0) (op_iload 1 (op_aload 0 (op_gets 11 15 (7, 0, 0) (op_rcv 1 2 (op_calli O_X1_put 3 op_zret)))))))
set_option maxRecDepth 20000 in
theorem s_X11_keep_0 (G : en_G) (hst : G.2.2.2.2.2 = true) (kc : Nat → en_B) (hk : ∀ t, en_Snd G M_X11_keep t (kc t)) : en_Snd G M_X11_keep 0 (B_X11_keep_0 kc) := (sn_aload_n (i := 0) (n := 0) (by decide +kernel) rfl (sn_gets (ci := 11) (j := 6) (off := 87) hst en_c11 of_11_87 (Nat.le_of_ble_eq_true rfl) (by decide +kernel) wm_34 (Nat.le_of_ble_eq_true rfl) rfl (sn_iload_n (i := 1) (n := 1) (by decide +kernel) rfl (sn_aload_n (i := 0) (n := 0) (by decide +kernel) rfl (sn_gets (ci := 11) (j := 3) (off := 15) hst en_c11 of_11_15 (Nat.le_of_ble_eq_true rfl) (by decide +kernel) wm_23 (Nat.le_of_ble_eq_true rfl) rfl (sn_callVi (n := 2) (idx := 325) (ci := 1) (i_X1_put G hst) (Nat.le_of_ble_eq_true rfl) cs_X1_put ⟨wm_770, wm_771, wm_241⟩ ⟨⟨_, rfl, rfl⟩, (Nat.le_of_ble_eq_true rfl)⟩ (by decide +kernel) (sn_zret (by decide +kernel))))))))
noncomputable def LK_X11_keep : Nat → Nat → en_B
  | 0, _ => en_no
  | n + 1, t => en_no
theorem l_X11_keep (G : en_G) (hst : G.2.2.2.2.2 = true) : ∀ n t, en_Snd G M_X11_keep t (LK_X11_keep n t)
  | 0, _ => sn_no
  | n + 1, t => by
    show en_Snd G M_X11_keep t (en_no)
    exact sn_no
noncomputable def T_X11_keep_0 (x1 : Int32) (σ : en_M) : en_R := B_X11_keep_0 (LK_X11_keep en_FU) [.inr (0, 11, 0, 0), .inl x1] [] en_zz σ
set_option maxRecDepth 400000 in
set_option maxHeartbeats 4000000 in
theorem t_X11_keep_0 (x1 : Int32) (σ : en_M) : T_X11_keep_0 x1 σ = ((O_X1_put [.inr (87, 1, 0, 0), .inl x1, .inr (15, 7, 0, 0)] σ).bind fun r1 => if r1.1 = 0 ∨ r1.1 = 1 then en_ri r1.1 r1.2 else none) := rfl
noncomputable def P_X11_keep : List en_V → en_M → Option (Int32 × en_M) := fun av σ => match av with
  | [.inr (0, 11, 0, 0), .inl x1] => en_oi (T_X11_keep_0 x1 σ)
  | _ => none
theorem ox_X11_keep : ∃ f, f = P_X11_keep := ⟨_, rfl⟩
noncomputable def O_X11_keep : List en_V → en_M → Option (Int32 × en_M) := Classical.choose ox_X11_keep
theorem oe_X11_keep : O_X11_keep = P_X11_keep := Classical.choose_spec ox_X11_keep
theorem o_X11_keep (x1 : Int32) (σ : en_M) : O_X11_keep [.inr (0, 11, 0, 0), .inl x1] σ = en_oi (T_X11_keep_0 x1 σ) := by rw [oe_X11_keep]; rfl
theorem i_X11_keep (G : en_G) (hst : G.2.2.2.2.2 = true) : en_I G 3 yX11_keep cX11_keep 2 (some .boolean) 0 0 (en_wi (O_X11_keep)) := en_of_i (M := M_X11_keep) hst (s_X11_keep_0 G hst _ (l_X11_keep G hst en_FU)) (plainFor_of_name (by decide +kernel)) rfl rfl rfl (Or.inr ⟨Or.inl rfl, rfl⟩) (fun av σ x σ' h => by
  rw [oe_X11_keep] at h; unfold P_X11_keep at h
  split at h
  · exact ⟨(Nat.le_of_ble_eq_true rfl), en_oi_some h⟩
  · cases h)
-- EachMayMissOne.again(I)Z
def M_X11_again : en_Me := (cX11_again, RX11, 2, false, 3, true)
theorem cs_X11_again : en_cs yX11_again cX11_again 2 (some .boolean) 1 := ⟨wm_242, wm_2, ⟨(by decide +kernel), (by decide +kernel), (by decide +kernel)⟩, (Nat.le_of_ble_eq_true rfl)⟩
noncomputable def B_X11_again_17 (kc : Nat → en_B) : en_B := (op_aload 0 (op_gets 11 25 (4, 0, 0) (op_rcv 4 0 (op_callv O_X4_forget 1 (op_const (1 : Int32) op_zret)))))
set_option maxRecDepth 20000 in
theorem s_X11_again_17 (G : en_G) (hst : G.2.2.2.2.2 = true) (kc : Nat → en_B) (hk : ∀ t, en_Snd G M_X11_again t (kc t)) : en_Snd G M_X11_again 17 (B_X11_again_17 kc) := (sn_aload_n (i := 0) (n := 0) (by decide +kernel) rfl (sn_gets (ci := 11) (j := 5) (off := 25) hst en_c11 of_11_25 (Nat.le_of_ble_eq_true rfl) (by decide +kernel) wm_29 (Nat.le_of_ble_eq_true rfl) rfl (sn_callVv (n := 0) (idx := 106) (ci := 4) (i_X4_forget G hst) (Nat.le_of_ble_eq_true rfl) cs_X4_forget ⟨wm_866, wm_867, wm_68⟩ ⟨⟨_, rfl, rfl⟩, (Nat.le_of_ble_eq_true rfl)⟩ (by decide +kernel) (sn_iconst (n := 1) (v := 1) (by decide +kernel) rfl (sn_zret (by decide +kernel))))))
noncomputable def B_X11_again_0 (kc : Nat → en_B) : en_B := (op_aload 0 (op_gets 11 87 (1, 0, 0) (op_iload 1 (op_aload 0 (op_gets 11 15 (7, 0, 0) (op_rcv 1 2 (op_calli O_X1_restore 3 (op_ifeq (op_const (0 : Int32) op_zret) (B_X11_again_17 kc)))))))))
set_option maxRecDepth 20000 in
theorem s_X11_again_0 (G : en_G) (hst : G.2.2.2.2.2 = true) (kc : Nat → en_B) (hk : ∀ t, en_Snd G M_X11_again t (kc t)) : en_Snd G M_X11_again 0 (B_X11_again_0 kc) := (sn_aload_n (i := 0) (n := 0) (by decide +kernel) rfl (sn_gets (ci := 11) (j := 6) (off := 87) hst en_c11 of_11_87 (Nat.le_of_ble_eq_true rfl) (by decide +kernel) wm_34 (Nat.le_of_ble_eq_true rfl) rfl (sn_iload_n (i := 1) (n := 1) (by decide +kernel) rfl (sn_aload_n (i := 0) (n := 0) (by decide +kernel) rfl (sn_gets (ci := 11) (j := 3) (off := 15) hst en_c11 of_11_15 (Nat.le_of_ble_eq_true rfl) (by decide +kernel) wm_23 (Nat.le_of_ble_eq_true rfl) rfl (sn_callVi (n := 2) (idx := 328) (ci := 1) (i_X1_restore G hst) (Nat.le_of_ble_eq_true rfl) cs_X1_restore ⟨wm_774, wm_775, wm_245⟩ ⟨⟨_, rfl, rfl⟩, (Nat.le_of_ble_eq_true rfl)⟩ (by decide +kernel) (sn_ifne (off := 5) (tgt := 17) (by decide +kernel) rfl (s_X11_again_17 G hst kc hk) (sn_iconst (n := 0) (v := 0) (by decide +kernel) rfl (sn_zret (by decide +kernel))))))))))
noncomputable def LK_X11_again : Nat → Nat → en_B
  | 0, _ => en_no
  | n + 1, t => en_no
theorem l_X11_again (G : en_G) (hst : G.2.2.2.2.2 = true) : ∀ n t, en_Snd G M_X11_again t (LK_X11_again n t)
  | 0, _ => sn_no
  | n + 1, t => by
    show en_Snd G M_X11_again t (en_no)
    exact sn_no
noncomputable def T_X11_again_0 (x1 : Int32) (σ : en_M) : en_R := B_X11_again_0 (LK_X11_again en_FU) [.inr (0, 11, 0, 0), .inl x1] [] en_zz σ
set_option maxRecDepth 400000 in
set_option maxHeartbeats 4000000 in
theorem t_X11_again_0 (x1 : Int32) (σ : en_M) : T_X11_again_0 x1 σ = ((O_X1_restore [.inr (87, 1, 0, 0), .inl x1, .inr (15, 7, 0, 0)] σ).bind fun r1 => if r1.1 = 0 then (if (0 : Int32) = 0 ∨ (0 : Int32) = 1 then en_ri (0 : Int32) r1.2 else none) else ((O_X4_forget [.inr (25, 4, 0, 0)] r1.2).bind fun r2 => if (1 : Int32) = 0 ∨ (1 : Int32) = 1 then en_ri (1 : Int32) r2 else none)) := rfl
noncomputable def P_X11_again : List en_V → en_M → Option (Int32 × en_M) := fun av σ => match av with
  | [.inr (0, 11, 0, 0), .inl x1] => en_oi (T_X11_again_0 x1 σ)
  | _ => none
theorem ox_X11_again : ∃ f, f = P_X11_again := ⟨_, rfl⟩
noncomputable def O_X11_again : List en_V → en_M → Option (Int32 × en_M) := Classical.choose ox_X11_again
theorem oe_X11_again : O_X11_again = P_X11_again := Classical.choose_spec ox_X11_again
theorem o_X11_again (x1 : Int32) (σ : en_M) : O_X11_again [.inr (0, 11, 0, 0), .inl x1] σ = en_oi (T_X11_again_0 x1 σ) := by rw [oe_X11_again]; rfl
theorem i_X11_again (G : en_G) (hst : G.2.2.2.2.2 = true) : en_I G 3 yX11_again cX11_again 2 (some .boolean) 0 0 (en_wi (O_X11_again)) := en_of_i (M := M_X11_again) hst (s_X11_again_0 G hst _ (l_X11_again G hst en_FU)) (plainFor_of_name (by decide +kernel)) rfl rfl rfl (Or.inr ⟨Or.inl rfl, rfl⟩) (fun av σ x σ' h => by
  rw [oe_X11_again] at h; unfold P_X11_again at h
  split at h
  · exact ⟨(Nat.le_of_ble_eq_true rfl), en_oi_some h⟩
  · cases h)
-- EachMayMissOne.count(I)I
def M_X11_count : en_Me := (cX11_count, RX11, 2, false, 2, false)
theorem cs_X11_count : en_cs yX11_count cX11_count 2 (some .int) 1 := ⟨wm_246, wm_2, ⟨(by decide +kernel), (by decide +kernel), (by decide +kernel)⟩, (Nat.le_of_ble_eq_true rfl)⟩
noncomputable def B_X11_count_196 (kc : Nat → en_B) : en_B := (op_const (-100 : Int32) op_iret)
set_option maxRecDepth 20000 in
theorem s_X11_count_196 (G : en_G) (hst : G.2.2.2.2.2 = true) (kc : Nat → en_B) (hk : ∀ t, en_Snd G M_X11_count t (kc t)) : en_Snd G M_X11_count 196 (B_X11_count_196 kc) := (sn_bipush (n := -100) (v := -100) (by decide +kernel) rfl (sn_iret (by decide +kernel) rfl))
noncomputable def B_X11_count_188 (kc : Nat → en_B) : en_B := (op_aload 0 (op_gets 11 1 (8, 0, 0) (op_geti 8 1 op_iret)))
set_option maxRecDepth 20000 in
theorem s_X11_count_188 (G : en_G) (hst : G.2.2.2.2.2 = true) (kc : Nat → en_B) (hk : ∀ t, en_Snd G M_X11_count t (kc t)) : en_Snd G M_X11_count 188 (B_X11_count_188 kc) := (sn_aload_n (i := 0) (n := 0) (by decide +kernel) rfl (sn_gets (ci := 11) (j := 0) (off := 1) hst en_c11 of_11_1 (Nat.le_of_ble_eq_true rfl) (by decide +kernel) wm_8 (Nat.le_of_ble_eq_true rfl) rfl (sn_geti (ci := 8) (j := 1) en_c8 (by decide +kernel) wm_57 (Nat.le_of_ble_eq_true rfl) rfl (sn_iret (by decide +kernel) rfl))))
noncomputable def B_X11_count_180 (kc : Nat → en_B) : en_B := (op_aload 0 (op_gets 11 3 (9, 0, 0) (op_geti 9 1 op_iret)))
set_option maxRecDepth 20000 in
theorem s_X11_count_180 (G : en_G) (hst : G.2.2.2.2.2 = true) (kc : Nat → en_B) (hk : ∀ t, en_Snd G M_X11_count t (kc t)) : en_Snd G M_X11_count 180 (B_X11_count_180 kc) := (sn_aload_n (i := 0) (n := 0) (by decide +kernel) rfl (sn_gets (ci := 11) (j := 1) (off := 3) hst en_c11 of_11_3 (Nat.le_of_ble_eq_true rfl) (by decide +kernel) wm_13 (Nat.le_of_ble_eq_true rfl) rfl (sn_geti (ci := 9) (j := 1) en_c9 (by decide +kernel) wm_251 (Nat.le_of_ble_eq_true rfl) rfl (sn_iret (by decide +kernel) rfl))))
noncomputable def B_X11_count_172 (kc : Nat → en_B) : en_B := (op_aload 0 (op_gets 11 25 (4, 0, 0) (op_geti 4 2 op_iret)))
set_option maxRecDepth 20000 in
theorem s_X11_count_172 (G : en_G) (hst : G.2.2.2.2.2 = true) (kc : Nat → en_B) (hk : ∀ t, en_Snd G M_X11_count t (kc t)) : en_Snd G M_X11_count 172 (B_X11_count_172 kc) := (sn_aload_n (i := 0) (n := 0) (by decide +kernel) rfl (sn_gets (ci := 11) (j := 5) (off := 25) hst en_c11 of_11_25 (Nat.le_of_ble_eq_true rfl) (by decide +kernel) wm_29 (Nat.le_of_ble_eq_true rfl) rfl (sn_geti (ci := 4) (j := 2) en_c4 (by decide +kernel) wm_139 (Nat.le_of_ble_eq_true rfl) rfl (sn_iret (by decide +kernel) rfl))))
noncomputable def B_X11_count_164 (kc : Nat → en_B) : en_B := (op_aload 0 (op_gets 11 5 (10, 0, 0) (op_geti 10 6 op_iret)))
set_option maxRecDepth 20000 in
theorem s_X11_count_164 (G : en_G) (hst : G.2.2.2.2.2 = true) (kc : Nat → en_B) (hk : ∀ t, en_Snd G M_X11_count t (kc t)) : en_Snd G M_X11_count 164 (B_X11_count_164 kc) := (sn_aload_n (i := 0) (n := 0) (by decide +kernel) rfl (sn_gets (ci := 11) (j := 2) (off := 5) hst en_c11 of_11_5 (Nat.le_of_ble_eq_true rfl) (by decide +kernel) wm_18 (Nat.le_of_ble_eq_true rfl) rfl (sn_geti (ci := 10) (j := 6) en_c10 (by decide +kernel) wm_102 (Nat.le_of_ble_eq_true rfl) rfl (sn_iret (by decide +kernel) rfl))))
noncomputable def B_X11_count_156 (kc : Nat → en_B) : en_B := (op_aload 0 (op_gets 11 5 (10, 0, 0) (op_geti 10 5 op_iret)))
set_option maxRecDepth 20000 in
theorem s_X11_count_156 (G : en_G) (hst : G.2.2.2.2.2 = true) (kc : Nat → en_B) (hk : ∀ t, en_Snd G M_X11_count t (kc t)) : en_Snd G M_X11_count 156 (B_X11_count_156 kc) := (sn_aload_n (i := 0) (n := 0) (by decide +kernel) rfl (sn_gets (ci := 11) (j := 2) (off := 5) hst en_c11 of_11_5 (Nat.le_of_ble_eq_true rfl) (by decide +kernel) wm_18 (Nat.le_of_ble_eq_true rfl) rfl (sn_geti (ci := 10) (j := 5) en_c10 (by decide +kernel) wm_101 (Nat.le_of_ble_eq_true rfl) rfl (sn_iret (by decide +kernel) rfl))))
noncomputable def B_X11_count_148 (kc : Nat → en_B) : en_B := (op_aload 0 (op_gets 11 15 (7, 0, 0) (op_geti 7 8 op_iret)))
set_option maxRecDepth 20000 in
theorem s_X11_count_148 (G : en_G) (hst : G.2.2.2.2.2 = true) (kc : Nat → en_B) (hk : ∀ t, en_Snd G M_X11_count t (kc t)) : en_Snd G M_X11_count 148 (B_X11_count_148 kc) := (sn_aload_n (i := 0) (n := 0) (by decide +kernel) rfl (sn_gets (ci := 11) (j := 3) (off := 15) hst en_c11 of_11_15 (Nat.le_of_ble_eq_true rfl) (by decide +kernel) wm_23 (Nat.le_of_ble_eq_true rfl) rfl (sn_geti (ci := 7) (j := 8) en_c7 (by decide +kernel) wm_116 (Nat.le_of_ble_eq_true rfl) rfl (sn_iret (by decide +kernel) rfl))))
noncomputable def B_X11_count_140 (kc : Nat → en_B) : en_B := (op_aload 0 (op_gets 11 5 (10, 0, 0) (op_geti 10 4 op_iret)))
set_option maxRecDepth 20000 in
theorem s_X11_count_140 (G : en_G) (hst : G.2.2.2.2.2 = true) (kc : Nat → en_B) (hk : ∀ t, en_Snd G M_X11_count t (kc t)) : en_Snd G M_X11_count 140 (B_X11_count_140 kc) := (sn_aload_n (i := 0) (n := 0) (by decide +kernel) rfl (sn_gets (ci := 11) (j := 2) (off := 5) hst en_c11 of_11_5 (Nat.le_of_ble_eq_true rfl) (by decide +kernel) wm_18 (Nat.le_of_ble_eq_true rfl) rfl (sn_geti (ci := 10) (j := 4) en_c10 (by decide +kernel) wm_250 (Nat.le_of_ble_eq_true rfl) rfl (sn_iret (by decide +kernel) rfl))))
noncomputable def B_X11_count_129 (kc : Nat → en_B) : en_B := (op_aload 0 (op_gets 11 15 (7, 0, 0) (op_gets 7 1 (20, 7, 0) (op_calli O_X11_sum 1 op_iret))))
set_option maxRecDepth 20000 in
theorem s_X11_count_129 (G : en_G) (hst : G.2.2.2.2.2 = true) (kc : Nat → en_B) (hk : ∀ t, en_Snd G M_X11_count t (kc t)) : en_Snd G M_X11_count 129 (B_X11_count_129 kc) := (sn_aload_n (i := 0) (n := 0) (by decide +kernel) rfl (sn_gets (ci := 11) (j := 3) (off := 15) hst en_c11 of_11_15 (Nat.le_of_ble_eq_true rfl) (by decide +kernel) wm_23 (Nat.le_of_ble_eq_true rfl) rfl (sn_gets (ci := 7) (j := 0) (off := 1) hst en_c7 of_7_1 (Nat.le_of_ble_eq_true rfl) (by decide +kernel) wm_86 (Nat.le_of_ble_eq_true rfl) rfl (sn_callSi (n := 1) (idx := 190) (i_X11_sum G hst) (Nat.le_of_ble_eq_true rfl) cs_X11_sum ⟨wm_272, Or.inl wm_108⟩ (by decide +kernel) (sn_iret (by decide +kernel) rfl)))))
noncomputable def B_X11_count_118 (kc : Nat → en_B) : en_B := (op_aload 0 (op_gets 11 15 (7, 0, 0) (op_gets 7 2 (20, 7, 0) (op_calli O_X11_sum 1 op_iret))))
set_option maxRecDepth 20000 in
theorem s_X11_count_118 (G : en_G) (hst : G.2.2.2.2.2 = true) (kc : Nat → en_B) (hk : ∀ t, en_Snd G M_X11_count t (kc t)) : en_Snd G M_X11_count 118 (B_X11_count_118 kc) := (sn_aload_n (i := 0) (n := 0) (by decide +kernel) rfl (sn_gets (ci := 11) (j := 3) (off := 15) hst en_c11 of_11_15 (Nat.le_of_ble_eq_true rfl) (by decide +kernel) wm_23 (Nat.le_of_ble_eq_true rfl) rfl (sn_gets (ci := 7) (j := 1) (off := 2) hst en_c7 of_7_2 (Nat.le_of_ble_eq_true rfl) (by decide +kernel) wm_87 (Nat.le_of_ble_eq_true rfl) rfl (sn_callSi (n := 1) (idx := 190) (i_X11_sum G hst) (Nat.le_of_ble_eq_true rfl) cs_X11_sum ⟨wm_272, Or.inl wm_108⟩ (by decide +kernel) (sn_iret (by decide +kernel) rfl)))))
noncomputable def B_X11_count_107 (kc : Nat → en_B) : en_B := (op_aload 0 (op_gets 11 15 (7, 0, 0) (op_gets 7 3 (20, 7, 0) (op_calli O_X11_sum 1 op_iret))))
set_option maxRecDepth 20000 in
theorem s_X11_count_107 (G : en_G) (hst : G.2.2.2.2.2 = true) (kc : Nat → en_B) (hk : ∀ t, en_Snd G M_X11_count t (kc t)) : en_Snd G M_X11_count 107 (B_X11_count_107 kc) := (sn_aload_n (i := 0) (n := 0) (by decide +kernel) rfl (sn_gets (ci := 11) (j := 3) (off := 15) hst en_c11 of_11_15 (Nat.le_of_ble_eq_true rfl) (by decide +kernel) wm_23 (Nat.le_of_ble_eq_true rfl) rfl (sn_gets (ci := 7) (j := 2) (off := 3) hst en_c7 of_7_3 (Nat.le_of_ble_eq_true rfl) (by decide +kernel) wm_88 (Nat.le_of_ble_eq_true rfl) rfl (sn_callSi (n := 1) (idx := 190) (i_X11_sum G hst) (Nat.le_of_ble_eq_true rfl) cs_X11_sum ⟨wm_272, Or.inl wm_108⟩ (by decide +kernel) (sn_iret (by decide +kernel) rfl)))))
noncomputable def B_X11_count_99 (kc : Nat → en_B) : en_B := (op_aload 0 (op_gets 11 15 (7, 0, 0) (op_geti 7 6 op_iret)))
set_option maxRecDepth 20000 in
theorem s_X11_count_99 (G : en_G) (hst : G.2.2.2.2.2 = true) (kc : Nat → en_B) (hk : ∀ t, en_Snd G M_X11_count t (kc t)) : en_Snd G M_X11_count 99 (B_X11_count_99 kc) := (sn_aload_n (i := 0) (n := 0) (by decide +kernel) rfl (sn_gets (ci := 11) (j := 3) (off := 15) hst en_c11 of_11_15 (Nat.le_of_ble_eq_true rfl) (by decide +kernel) wm_23 (Nat.le_of_ble_eq_true rfl) rfl (sn_geti (ci := 7) (j := 6) en_c7 (by decide +kernel) wm_133 (Nat.le_of_ble_eq_true rfl) rfl (sn_iret (by decide +kernel) rfl))))
noncomputable def B_X11_count_91 (kc : Nat → en_B) : en_B := (op_aload 0 (op_gets 11 15 (7, 0, 0) (op_geti 7 5 op_iret)))
set_option maxRecDepth 20000 in
theorem s_X11_count_91 (G : en_G) (hst : G.2.2.2.2.2 = true) (kc : Nat → en_B) (hk : ∀ t, en_Snd G M_X11_count t (kc t)) : en_Snd G M_X11_count 91 (B_X11_count_91 kc) := (sn_aload_n (i := 0) (n := 0) (by decide +kernel) rfl (sn_gets (ci := 11) (j := 3) (off := 15) hst en_c11 of_11_15 (Nat.le_of_ble_eq_true rfl) (by decide +kernel) wm_23 (Nat.le_of_ble_eq_true rfl) rfl (sn_geti (ci := 7) (j := 5) en_c7 (by decide +kernel) wm_123 (Nat.le_of_ble_eq_true rfl) rfl (sn_iret (by decide +kernel) rfl))))
noncomputable def B_X11_count_80 (kc : Nat → en_B) : en_B := (op_aload 0 (op_gets 11 5 (10, 0, 0) (op_gets 10 2 (0, 0, 0) (op_geti 0 2 op_iret))))
set_option maxRecDepth 20000 in
theorem s_X11_count_80 (G : en_G) (hst : G.2.2.2.2.2 = true) (kc : Nat → en_B) (hk : ∀ t, en_Snd G M_X11_count t (kc t)) : en_Snd G M_X11_count 80 (B_X11_count_80 kc) := (sn_aload_n (i := 0) (n := 0) (by decide +kernel) rfl (sn_gets (ci := 11) (j := 2) (off := 5) hst en_c11 of_11_5 (Nat.le_of_ble_eq_true rfl) (by decide +kernel) wm_18 (Nat.le_of_ble_eq_true rfl) rfl (sn_gets (ci := 10) (j := 1) (off := 2) hst en_c10 of_10_2 (Nat.le_of_ble_eq_true rfl) (by decide +kernel) wm_73 (Nat.le_of_ble_eq_true rfl) rfl (sn_geti (ci := 0) (j := 2) en_c0 (by decide +kernel) wm_249 (Nat.le_of_ble_eq_true rfl) rfl (sn_iret (by decide +kernel) rfl)))))
noncomputable def B_X11_count_72 (kc : Nat → en_B) : en_B := (op_aload 0 (op_gets 11 5 (10, 0, 0) (op_geti 10 3 op_iret)))
set_option maxRecDepth 20000 in
theorem s_X11_count_72 (G : en_G) (hst : G.2.2.2.2.2 = true) (kc : Nat → en_B) (hk : ∀ t, en_Snd G M_X11_count t (kc t)) : en_Snd G M_X11_count 72 (B_X11_count_72 kc) := (sn_aload_n (i := 0) (n := 0) (by decide +kernel) rfl (sn_gets (ci := 11) (j := 2) (off := 5) hst en_c11 of_11_5 (Nat.le_of_ble_eq_true rfl) (by decide +kernel) wm_18 (Nat.le_of_ble_eq_true rfl) rfl (sn_geti (ci := 10) (j := 3) en_c10 (by decide +kernel) wm_74 (Nat.le_of_ble_eq_true rfl) rfl (sn_iret (by decide +kernel) rfl))))
/-- the switch at 1 -/
noncomputable def B_X11_count_0 (kc : Nat → en_B) : en_B := (op_iload 1 (op_sw [((0 : Int32), (B_X11_count_72 kc)), ((1 : Int32), (B_X11_count_80 kc)), ((2 : Int32), (B_X11_count_91 kc)), ((3 : Int32), (B_X11_count_99 kc)), ((4 : Int32), (B_X11_count_107 kc)), ((5 : Int32), (B_X11_count_118 kc)), ((6 : Int32), (B_X11_count_129 kc)), ((7 : Int32), (B_X11_count_140 kc)), ((8 : Int32), (B_X11_count_148 kc)), ((9 : Int32), (B_X11_count_156 kc)), ((10 : Int32), (B_X11_count_164 kc)), ((11 : Int32), (B_X11_count_172 kc)), ((12 : Int32), (B_X11_count_180 kc)), ((13 : Int32), (B_X11_count_188 kc))] (B_X11_count_196 kc)))
set_option maxRecDepth 20000 in
theorem s_X11_count_0 (G : en_G) (hst : G.2.2.2.2.2 = true) (kc : Nat → en_B) (hk : ∀ t, en_Snd G M_X11_count t (kc t)) : en_Snd G M_X11_count 0 (B_X11_count_0 kc) := (sn_iload_n (i := 1) (n := 1) (by decide +kernel) rfl (sn_tsw (offs := #[71, 79, 90, 98, 106, 117, 128, 139, 147, 155, 163, 171, 179, 187]) (len := 71) (dflt := 195) (hi := 13) (dt := 196) (by decide +kernel) rfl (show 14 < 2 ^ 31 by decide) rfl (s_X11_count_196 G hst kc hk) (fun i hi => match i, hi with | 0, _ => ⟨rfl, 71, 72, rfl, rfl, (s_X11_count_72 G hst kc hk)⟩ | 1, _ => ⟨rfl, 79, 80, rfl, rfl, (s_X11_count_80 G hst kc hk)⟩ | 2, _ => ⟨rfl, 90, 91, rfl, rfl, (s_X11_count_91 G hst kc hk)⟩ | 3, _ => ⟨rfl, 98, 99, rfl, rfl, (s_X11_count_99 G hst kc hk)⟩ | 4, _ => ⟨rfl, 106, 107, rfl, rfl, (s_X11_count_107 G hst kc hk)⟩ | 5, _ => ⟨rfl, 117, 118, rfl, rfl, (s_X11_count_118 G hst kc hk)⟩ | 6, _ => ⟨rfl, 128, 129, rfl, rfl, (s_X11_count_129 G hst kc hk)⟩ | 7, _ => ⟨rfl, 139, 140, rfl, rfl, (s_X11_count_140 G hst kc hk)⟩ | 8, _ => ⟨rfl, 147, 148, rfl, rfl, (s_X11_count_148 G hst kc hk)⟩ | 9, _ => ⟨rfl, 155, 156, rfl, rfl, (s_X11_count_156 G hst kc hk)⟩ | 10, _ => ⟨rfl, 163, 164, rfl, rfl, (s_X11_count_164 G hst kc hk)⟩ | 11, _ => ⟨rfl, 171, 172, rfl, rfl, (s_X11_count_172 G hst kc hk)⟩ | 12, _ => ⟨rfl, 179, 180, rfl, rfl, (s_X11_count_180 G hst kc hk)⟩ | 13, _ => ⟨rfl, 187, 188, rfl, rfl, (s_X11_count_188 G hst kc hk)⟩ | n + 14, h9 => absurd h9 (by simp))))
noncomputable def LK_X11_count : Nat → Nat → en_B
  | 0, _ => en_no
  | n + 1, t => en_no
theorem l_X11_count (G : en_G) (hst : G.2.2.2.2.2 = true) : ∀ n t, en_Snd G M_X11_count t (LK_X11_count n t)
  | 0, _ => sn_no
  | n + 1, t => by
    show en_Snd G M_X11_count t (en_no)
    exact sn_no
noncomputable def T_X11_count_0 (x1 : Int32) (σ : en_M) : en_R := B_X11_count_0 (LK_X11_count en_FU) [.inr (0, 11, 0, 0), .inl x1] [] en_zz σ
set_option maxRecDepth 400000 in
set_option maxHeartbeats 4000000 in
theorem t_X11_count_0 (x1 : Int32) (σ : en_M) : T_X11_count_0 x1 σ = ((if x1 = (0 : Int32) then (en_ri (σ 5 3) σ) else (if x1 = (1 : Int32) then (en_ri (σ 7 2) σ) else (if x1 = (2 : Int32) then (en_ri (σ 15 5) σ) else (if x1 = (3 : Int32) then (en_ri (σ 15 6) σ) else (if x1 = (4 : Int32) then ((O_X11_sum [.inr (18, 20, 7, 0)] σ).bind fun r1 => en_ri r1.1 r1.2) else (if x1 = (5 : Int32) then ((O_X11_sum [.inr (17, 20, 7, 0)] σ).bind fun r2 => en_ri r2.1 r2.2) else (if x1 = (6 : Int32) then ((O_X11_sum [.inr (16, 20, 7, 0)] σ).bind fun r3 => en_ri r3.1 r3.2) else (if x1 = (7 : Int32) then (en_ri (σ 5 4) σ) else (if x1 = (8 : Int32) then (en_ri (σ 15 8) σ) else (if x1 = (9 : Int32) then (en_ri (σ 5 5) σ) else (if x1 = (10 : Int32) then (en_ri (σ 5 6) σ) else (if x1 = (11 : Int32) then (en_ri (σ 25 2) σ) else (if x1 = (12 : Int32) then (en_ri (σ 3 1) σ) else (if x1 = (13 : Int32) then (en_ri (σ 1 1) σ) else (en_ri (-100 : Int32) σ)))))))))))))))) := rfl
noncomputable def P_X11_count : List en_V → en_M → Option (Int32 × en_M) := fun av σ => match av with
  | [.inr (0, 11, 0, 0), .inl x1] => en_oi (T_X11_count_0 x1 σ)
  | _ => none
theorem ox_X11_count : ∃ f, f = P_X11_count := ⟨_, rfl⟩
noncomputable def O_X11_count : List en_V → en_M → Option (Int32 × en_M) := Classical.choose ox_X11_count
theorem oe_X11_count : O_X11_count = P_X11_count := Classical.choose_spec ox_X11_count
theorem o_X11_count (x1 : Int32) (σ : en_M) : O_X11_count [.inr (0, 11, 0, 0), .inl x1] σ = en_oi (T_X11_count_0 x1 σ) := by rw [oe_X11_count]; rfl
theorem i_X11_count (G : en_G) (hst : G.2.2.2.2.2 = true) : en_I G 2 yX11_count cX11_count 2 (some .int) 0 0 (en_wi (O_X11_count)) := en_of_i (M := M_X11_count) hst (s_X11_count_0 G hst _ (l_X11_count G hst en_FU)) (plainFor_of_name (by decide +kernel)) rfl rfl rfl (Or.inl ⟨rfl, rfl⟩) (fun av σ x σ' h => by
  rw [oe_X11_count] at h; unfold P_X11_count at h
  split at h
  · exact ⟨(Nat.le_of_ble_eq_true rfl), en_oi_some h⟩
  · cases h)
-- EachMayMissOneModel.thrown()I
def M_X12_thrown : en_Me := (cX12_thrown, RX12, 1, false, 1, false)
theorem cs_X12_thrown : en_cs yX12_thrown cX12_thrown 1 (some .int) 0 := ⟨wm_365, wm_337, ⟨(by decide +kernel), (by decide +kernel), (by decide +kernel)⟩, (Nat.le_of_ble_eq_true rfl)⟩
noncomputable def B_X12_thrown_0 (kc : Nat → en_B) : en_B := (op_aload 0 (op_geti 12 11 op_iret))
set_option maxRecDepth 20000 in
theorem s_X12_thrown_0 (G : en_G) (hst : G.2.2.2.2.2 = true) (kc : Nat → en_B) (hk : ∀ t, en_Snd G M_X12_thrown t (kc t)) : en_Snd G M_X12_thrown 0 (B_X12_thrown_0 kc) := (sn_aload_n (i := 0) (n := 0) (by decide +kernel) rfl (sn_geti (ci := 12) (j := 11) en_c12 (by decide +kernel) wm_368 (Nat.le_of_ble_eq_true rfl) rfl (sn_iret (by decide +kernel) rfl)))
noncomputable def LK_X12_thrown : Nat → Nat → en_B
  | 0, _ => en_no
  | n + 1, t => en_no
theorem l_X12_thrown (G : en_G) (hst : G.2.2.2.2.2 = true) : ∀ n t, en_Snd G M_X12_thrown t (LK_X12_thrown n t)
  | 0, _ => sn_no
  | n + 1, t => by
    show en_Snd G M_X12_thrown t (en_no)
    exact sn_no
noncomputable def T_X12_thrown_0 (σ : en_M) : en_R := B_X12_thrown_0 (LK_X12_thrown en_FU) [.inr (185, 12, 0, 0)] [] en_zz σ
set_option maxRecDepth 400000 in
set_option maxHeartbeats 4000000 in
theorem t_X12_thrown_0 (σ : en_M) : T_X12_thrown_0 σ = (en_ri (σ 185 11) σ) := rfl
noncomputable def P_X12_thrown : List en_V → en_M → Option (Int32 × en_M) := fun av σ => match av with
  | [.inr (185, 12, 0, 0)] => en_oi (T_X12_thrown_0 σ)
  | _ => none
theorem ox_X12_thrown : ∃ f, f = P_X12_thrown := ⟨_, rfl⟩
noncomputable def O_X12_thrown : List en_V → en_M → Option (Int32 × en_M) := Classical.choose ox_X12_thrown
theorem oe_X12_thrown : O_X12_thrown = P_X12_thrown := Classical.choose_spec ox_X12_thrown
theorem o_X12_thrown (σ : en_M) : O_X12_thrown [.inr (185, 12, 0, 0)] σ = en_oi (T_X12_thrown_0 σ) := by rw [oe_X12_thrown]; rfl
theorem i_X12_thrown (G : en_G) (hst : G.2.2.2.2.2 = true) : en_I G 1 yX12_thrown cX12_thrown 1 (some .int) 0 0 (en_wi (O_X12_thrown)) := en_of_i (M := M_X12_thrown) hst (s_X12_thrown_0 G hst _ (l_X12_thrown G hst en_FU)) (plainFor_of_name (by decide +kernel)) rfl rfl rfl (Or.inl ⟨rfl, rfl⟩) (fun av σ x σ' h => by
  rw [oe_X12_thrown] at h; unfold P_X12_thrown at h
  split at h
  · exact ⟨(Nat.le_of_ble_eq_true rfl), en_oi_some h⟩
  · cases h)
-- EachMayMissOneModel.in(III)Z
def M_X12_in : en_Me := (cX12_in, RX12, 3, false, 1, true)
theorem cs_X12_in : en_cs yX12_in cX12_in 3 (some .boolean) 3 := ⟨wm_369, wm_337, ⟨(by decide +kernel), (by decide +kernel), (by decide +kernel)⟩, (Nat.le_of_ble_eq_true rfl)⟩
noncomputable def B_X12_in_15 (kc : Nat → en_B) : en_B := op_zret
set_option maxRecDepth 20000 in
theorem s_X12_in_15 (G : en_G) (hst : G.2.2.2.2.2 = true) (kc : Nat → en_B) (hk : ∀ t, en_Snd G M_X12_in t (kc t)) : en_Snd G M_X12_in 15 (B_X12_in_15 kc) := (sn_zret (by decide +kernel))
noncomputable def B_X12_in_14 (kc : Nat → en_B) : en_B := (op_const (0 : Int32) (B_X12_in_15 kc))
set_option maxRecDepth 20000 in
theorem s_X12_in_14 (G : en_G) (hst : G.2.2.2.2.2 = true) (kc : Nat → en_B) (hk : ∀ t, en_Snd G M_X12_in t (kc t)) : en_Snd G M_X12_in 14 (B_X12_in_14 kc) := (sn_iconst (n := 0) (v := 0) (by decide +kernel) rfl (s_X12_in_15 G hst kc hk))
noncomputable def B_X12_in_0 (kc : Nat → en_B) : en_B := (op_iload 0 (op_iload 1 (op_iclt (B_X12_in_14 kc) (op_iload 0 (op_iload 2 (op_icgt (B_X12_in_14 kc) (op_const (1 : Int32) (B_X12_in_15 kc))))))))
set_option maxRecDepth 20000 in
theorem s_X12_in_0 (G : en_G) (hst : G.2.2.2.2.2 = true) (kc : Nat → en_B) (hk : ∀ t, en_Snd G M_X12_in t (kc t)) : en_Snd G M_X12_in 0 (B_X12_in_0 kc) := (sn_iload_n (i := 0) (n := 0) (by decide +kernel) rfl (sn_iload_n (i := 1) (n := 1) (by decide +kernel) rfl (sn_iclt (off := 12) (tgt := 14) (by decide +kernel) rfl (s_X12_in_14 G hst kc hk) (sn_iload_n (i := 0) (n := 0) (by decide +kernel) rfl (sn_iload_n (i := 2) (n := 2) (by decide +kernel) rfl (sn_icgt (off := 7) (tgt := 14) (by decide +kernel) rfl (s_X12_in_14 G hst kc hk) (sn_iconst (n := 1) (v := 1) (by decide +kernel) rfl (sn_goto (off := 4) (tgt := 15) (by decide +kernel) rfl (s_X12_in_15 G hst kc hk)))))))))
noncomputable def LK_X12_in : Nat → Nat → en_B
  | 0, _ => en_no
  | n + 1, t => en_no
theorem l_X12_in (G : en_G) (hst : G.2.2.2.2.2 = true) : ∀ n t, en_Snd G M_X12_in t (LK_X12_in n t)
  | 0, _ => sn_no
  | n + 1, t => by
    show en_Snd G M_X12_in t (en_no)
    exact sn_no
noncomputable def T_X12_in_0 (x0 : Int32) (x1 : Int32) (x2 : Int32) (σ : en_M) : en_R := B_X12_in_0 (LK_X12_in en_FU) [.inl x0, .inl x1, .inl x2] [] en_zz σ
set_option maxRecDepth 400000 in
set_option maxHeartbeats 4000000 in
theorem t_X12_in_0 (x0 : Int32) (x1 : Int32) (x2 : Int32) (σ : en_M) : T_X12_in_0 x0 x1 x2 σ = (if x0 < x1 then (if (0 : Int32) = 0 ∨ (0 : Int32) = 1 then en_ri (0 : Int32) σ else none) else (if x2 < x0 then (if (0 : Int32) = 0 ∨ (0 : Int32) = 1 then en_ri (0 : Int32) σ else none) else (if (1 : Int32) = 0 ∨ (1 : Int32) = 1 then en_ri (1 : Int32) σ else none))) := rfl
noncomputable def P_X12_in : List en_V → en_M → Option (Int32 × en_M) := fun av σ => match av with
  | [.inl x0, .inl x1, .inl x2] => en_oi (T_X12_in_0 x0 x1 x2 σ)
  | _ => none
theorem ox_X12_in : ∃ f, f = P_X12_in := ⟨_, rfl⟩
noncomputable def O_X12_in : List en_V → en_M → Option (Int32 × en_M) := Classical.choose ox_X12_in
theorem oe_X12_in : O_X12_in = P_X12_in := Classical.choose_spec ox_X12_in
theorem o_X12_in (x0 : Int32) (x1 : Int32) (x2 : Int32) (σ : en_M) : O_X12_in [.inl x0, .inl x1, .inl x2] σ = en_oi (T_X12_in_0 x0 x1 x2 σ) := by rw [oe_X12_in]; rfl
theorem i_X12_in (G : en_G) (hst : G.2.2.2.2.2 = true) : en_I G 1 yX12_in cX12_in 3 (some .boolean) 0 0 (en_wi (O_X12_in)) := en_of_i (M := M_X12_in) hst (s_X12_in_0 G hst _ (l_X12_in G hst en_FU)) (plainFor_of_name (by decide +kernel)) rfl rfl rfl (Or.inr ⟨Or.inl rfl, rfl⟩) (fun av σ x σ' h => by
  rw [oe_X12_in] at h; unfold P_X12_in at h
  split at h
  · exact ⟨(Nat.le_of_ble_eq_true rfl), en_oi_some h⟩
  · cases h)
-- EachMayMissOneModel.has(II)Z
def M_X12_has : en_Me := (cX12_has, RX12, 2, false, 1, true)
theorem cs_X12_has : en_cs yX12_has cX12_has 2 (some .boolean) 2 := ⟨wm_371, wm_337, ⟨(by decide +kernel), (by decide +kernel), (by decide +kernel)⟩, (Nat.le_of_ble_eq_true rfl)⟩
noncomputable def B_X12_has_14 (kc : Nat → en_B) : en_B := op_zret
set_option maxRecDepth 20000 in
theorem s_X12_has_14 (G : en_G) (hst : G.2.2.2.2.2 = true) (kc : Nat → en_B) (hk : ∀ t, en_Snd G M_X12_has t (kc t)) : en_Snd G M_X12_has 14 (B_X12_has_14 kc) := (sn_zret (by decide +kernel))
noncomputable def B_X12_has_13 (kc : Nat → en_B) : en_B := (op_const (0 : Int32) (B_X12_has_14 kc))
set_option maxRecDepth 20000 in
theorem s_X12_has_13 (G : en_G) (hst : G.2.2.2.2.2 = true) (kc : Nat → en_B) (hk : ∀ t, en_Snd G M_X12_has t (kc t)) : en_Snd G M_X12_has 13 (B_X12_has_13 kc) := (sn_iconst (n := 0) (v := 0) (by decide +kernel) rfl (s_X12_has_14 G hst kc hk))
noncomputable def B_X12_has_0 (kc : Nat → en_B) : en_B := (op_iload 0 (op_iload 1 (op_bin en_shr (op_const (1 : Int32) (op_bin (fun (x y : Int32) => x &&& y) (op_const (1 : Int32) (op_iceq (op_const (1 : Int32) (B_X12_has_14 kc)) (B_X12_has_13 kc))))))))
set_option maxRecDepth 20000 in
theorem s_X12_has_0 (G : en_G) (hst : G.2.2.2.2.2 = true) (kc : Nat → en_B) (hk : ∀ t, en_Snd G M_X12_has t (kc t)) : en_Snd G M_X12_has 0 (B_X12_has_0 kc) := (sn_iload_n (i := 0) (n := 0) (by decide +kernel) rfl (sn_iload_n (i := 1) (n := 1) (by decide +kernel) rfl (sn_ishr (by decide +kernel) (sn_iconst (n := 1) (v := 1) (by decide +kernel) rfl (sn_iand (by decide +kernel) (sn_iconst (n := 1) (v := 1) (by decide +kernel) rfl (sn_icne (off := 7) (tgt := 13) (by decide +kernel) rfl (s_X12_has_13 G hst kc hk) (sn_iconst (n := 1) (v := 1) (by decide +kernel) rfl (sn_goto (off := 4) (tgt := 14) (by decide +kernel) rfl (s_X12_has_14 G hst kc hk))))))))))
noncomputable def LK_X12_has : Nat → Nat → en_B
  | 0, _ => en_no
  | n + 1, t => en_no
theorem l_X12_has (G : en_G) (hst : G.2.2.2.2.2 = true) : ∀ n t, en_Snd G M_X12_has t (LK_X12_has n t)
  | 0, _ => sn_no
  | n + 1, t => by
    show en_Snd G M_X12_has t (en_no)
    exact sn_no
noncomputable def T_X12_has_0 (x0 : Int32) (x1 : Int32) (σ : en_M) : en_R := B_X12_has_0 (LK_X12_has en_FU) [.inl x0, .inl x1] [] en_zz σ
set_option maxRecDepth 400000 in
set_option maxHeartbeats 4000000 in
theorem t_X12_has_0 (x0 : Int32) (x1 : Int32) (σ : en_M) : T_X12_has_0 x0 x1 σ = (if ((en_shr x0 x1) &&& (1 : Int32)) = (1 : Int32) then (if (1 : Int32) = 0 ∨ (1 : Int32) = 1 then en_ri (1 : Int32) σ else none) else (if (0 : Int32) = 0 ∨ (0 : Int32) = 1 then en_ri (0 : Int32) σ else none)) := rfl
noncomputable def P_X12_has : List en_V → en_M → Option (Int32 × en_M) := fun av σ => match av with
  | [.inl x0, .inl x1] => en_oi (T_X12_has_0 x0 x1 σ)
  | _ => none
theorem ox_X12_has : ∃ f, f = P_X12_has := ⟨_, rfl⟩
noncomputable def O_X12_has : List en_V → en_M → Option (Int32 × en_M) := Classical.choose ox_X12_has
theorem oe_X12_has : O_X12_has = P_X12_has := Classical.choose_spec ox_X12_has
theorem o_X12_has (x0 : Int32) (x1 : Int32) (σ : en_M) : O_X12_has [.inl x0, .inl x1] σ = en_oi (T_X12_has_0 x0 x1 σ) := by rw [oe_X12_has]; rfl
theorem i_X12_has (G : en_G) (hst : G.2.2.2.2.2 = true) : en_I G 1 yX12_has cX12_has 2 (some .boolean) 0 0 (en_wi (O_X12_has)) := en_of_i (M := M_X12_has) hst (s_X12_has_0 G hst _ (l_X12_has G hst en_FU)) (plainFor_of_name (by decide +kernel)) rfl rfl rfl (Or.inr ⟨Or.inl rfl, rfl⟩) (fun av σ x σ' h => by
  rw [oe_X12_has] at h; unfold P_X12_has at h
  split at h
  · exact ⟨(Nat.le_of_ble_eq_true rfl), en_oi_some h⟩
  · cases h)
-- EachMayMissOneModel.lost()I
def M_X12_lost : en_Me := (cX12_lost, RX12, 1, false, 1, false)
theorem cs_X12_lost : en_cs yX12_lost cX12_lost 1 (some .int) 0 := ⟨wm_373, wm_337, ⟨(by decide +kernel), (by decide +kernel), (by decide +kernel)⟩, (Nat.le_of_ble_eq_true rfl)⟩
noncomputable def B_X12_lost_0 (kc : Nat → en_B) : en_B := (op_aload 0 (op_const (1 : Int32) (op_puti 12 11 (op_const (0 : Int32) op_iret))))
set_option maxRecDepth 20000 in
theorem s_X12_lost_0 (G : en_G) (hst : G.2.2.2.2.2 = true) (kc : Nat → en_B) (hk : ∀ t, en_Snd G M_X12_lost t (kc t)) : en_Snd G M_X12_lost 0 (B_X12_lost_0 kc) := (sn_aload_n (i := 0) (n := 0) (by decide +kernel) rfl (sn_iconst (n := 1) (v := 1) (by decide +kernel) rfl (sn_puti (ci := 12) (j := 11) en_c12 (by decide +kernel) wm_368 (Nat.le_of_ble_eq_true rfl) rfl rfl rfl (sn_iconst (n := 0) (v := 0) (by decide +kernel) rfl (sn_iret (by decide +kernel) rfl)))))
noncomputable def LK_X12_lost : Nat → Nat → en_B
  | 0, _ => en_no
  | n + 1, t => en_no
theorem l_X12_lost (G : en_G) (hst : G.2.2.2.2.2 = true) : ∀ n t, en_Snd G M_X12_lost t (LK_X12_lost n t)
  | 0, _ => sn_no
  | n + 1, t => by
    show en_Snd G M_X12_lost t (en_no)
    exact sn_no
noncomputable def T_X12_lost_0 (σ : en_M) : en_R := B_X12_lost_0 (LK_X12_lost en_FU) [.inr (185, 12, 0, 0)] [] en_zz σ
set_option maxRecDepth 400000 in
set_option maxHeartbeats 4000000 in
theorem t_X12_lost_0 (σ : en_M) : T_X12_lost_0 σ = (en_ri (0 : Int32) (en_up σ 185 11 (1 : Int32))) := rfl
noncomputable def P_X12_lost : List en_V → en_M → Option (Int32 × en_M) := fun av σ => match av with
  | [.inr (185, 12, 0, 0)] => en_oi (T_X12_lost_0 σ)
  | _ => none
theorem ox_X12_lost : ∃ f, f = P_X12_lost := ⟨_, rfl⟩
noncomputable def O_X12_lost : List en_V → en_M → Option (Int32 × en_M) := Classical.choose ox_X12_lost
theorem oe_X12_lost : O_X12_lost = P_X12_lost := Classical.choose_spec ox_X12_lost
theorem o_X12_lost (σ : en_M) : O_X12_lost [.inr (185, 12, 0, 0)] σ = en_oi (T_X12_lost_0 σ) := by rw [oe_X12_lost]; rfl
theorem i_X12_lost (G : en_G) (hst : G.2.2.2.2.2 = true) : en_I G 1 yX12_lost cX12_lost 1 (some .int) 0 0 (en_wi (O_X12_lost)) := en_of_i (M := M_X12_lost) hst (s_X12_lost_0 G hst _ (l_X12_lost G hst en_FU)) (plainFor_of_name (by decide +kernel)) rfl rfl rfl (Or.inl ⟨rfl, rfl⟩) (fun av σ x σ' h => by
  rw [oe_X12_lost] at h; unfold P_X12_lost at h
  split at h
  · exact ⟨(Nat.le_of_ble_eq_true rfl), en_oi_some h⟩
  · cases h)
-- EachMayMissOneModel.tell(I)V
def M_X12_tell : en_Me := (cX12_tell, RX12, 2, false, 1, false)
theorem cs_X12_tell : en_cs yX12_tell cX12_tell 2 none 1 := ⟨wm_376, wm_337, ⟨(by decide +kernel), (by decide +kernel), (by decide +kernel)⟩, (Nat.le_of_ble_eq_true rfl)⟩
noncomputable def B_X12_tell_0 (kc : Nat → en_B) : en_B := (op_aload 0 (op_gets 12 5 (20, 20, 0) (op_aload 0 (op_geti 12 10 (op_iload 1 (op_ast 20 (fun (x : Int32) => x) (op_aload 0 (op_dup (op_geti 12 10 (op_const (1 : Int32) (op_bin (fun (x y : Int32) => x + y) (op_puti 12 10 op_vret))))))))))))
set_option maxRecDepth 20000 in
theorem s_X12_tell_0 (G : en_G) (hst : G.2.2.2.2.2 = true) (kc : Nat → en_B) (hk : ∀ t, en_Snd G M_X12_tell t (kc t)) : en_Snd G M_X12_tell 0 (B_X12_tell_0 kc) := (sn_aload_n (i := 0) (n := 0) (by decide +kernel) rfl (sn_gets (ci := 12) (j := 9) (off := 5) hst en_c12 of_12_5 (Nat.le_of_ble_eq_true rfl) (by decide +kernel) wm_346 (Nat.le_of_ble_eq_true rfl) rfl (sn_aload_n (i := 0) (n := 0) (by decide +kernel) rfl (sn_geti (ci := 12) (j := 10) en_c12 (by decide +kernel) wm_379 (Nat.le_of_ble_eq_true rfl) rfl (sn_iload_n (i := 1) (n := 1) (by decide +kernel) rfl (sn_iast (by decide +kernel) (sn_aload_n (i := 0) (n := 0) (by decide +kernel) rfl (sn_dup (by decide +kernel) (sn_geti (ci := 12) (j := 10) en_c12 (by decide +kernel) wm_379 (Nat.le_of_ble_eq_true rfl) rfl (sn_iconst (n := 1) (v := 1) (by decide +kernel) rfl (sn_iadd (by decide +kernel) (sn_puti (ci := 12) (j := 10) en_c12 (by decide +kernel) wm_379 (Nat.le_of_ble_eq_true rfl) rfl rfl rfl (sn_vret (by decide +kernel))))))))))))))
noncomputable def LK_X12_tell : Nat → Nat → en_B
  | 0, _ => en_no
  | n + 1, t => en_no
theorem l_X12_tell (G : en_G) (hst : G.2.2.2.2.2 = true) : ∀ n t, en_Snd G M_X12_tell t (LK_X12_tell n t)
  | 0, _ => sn_no
  | n + 1, t => by
    show en_Snd G M_X12_tell t (en_no)
    exact sn_no
noncomputable def T_X12_tell_0 (x1 : Int32) (σ : en_M) : en_R := B_X12_tell_0 (LK_X12_tell en_FU) [.inr (185, 12, 0, 0), .inl x1] [] en_zz σ
set_option maxRecDepth 400000 in
set_option maxHeartbeats 4000000 in
theorem t_X12_tell_0 (x1 : Int32) (σ : en_M) : T_X12_tell_0 x1 σ = ((en_ix (σ 185 10) 20).bind fun j1 => en_rv (en_up (en_up σ 190 j1 x1) 185 10 ((σ 185 10) + (1 : Int32)))) := rfl
noncomputable def P_X12_tell : List en_V → en_M → Option en_M := fun av σ => match av with
  | [.inr (185, 12, 0, 0), .inl x1] => en_ov (T_X12_tell_0 x1 σ)
  | _ => none
theorem ox_X12_tell : ∃ f, f = P_X12_tell := ⟨_, rfl⟩
noncomputable def O_X12_tell : List en_V → en_M → Option en_M := Classical.choose ox_X12_tell
theorem oe_X12_tell : O_X12_tell = P_X12_tell := Classical.choose_spec ox_X12_tell
theorem o_X12_tell (x1 : Int32) (σ : en_M) : O_X12_tell [.inr (185, 12, 0, 0), .inl x1] σ = en_ov (T_X12_tell_0 x1 σ) := by rw [oe_X12_tell]; rfl
theorem i_X12_tell (G : en_G) (hst : G.2.2.2.2.2 = true) : en_I G 1 yX12_tell cX12_tell 2 none 0 0 (en_wv (O_X12_tell)) := en_of_v (M := M_X12_tell) hst (s_X12_tell_0 G hst _ (l_X12_tell G hst en_FU)) (plainFor_of_name (by decide +kernel)) rfl rfl rfl (fun av σ σ' h => by
  rw [oe_X12_tell] at h; unfold P_X12_tell at h
  split at h
  · exact ⟨(Nat.le_of_ble_eq_true rfl), en_ov_some h⟩
  · cases h)
-- EachMayMissOneModel.isOne(I)Z
def M_X12_isOne : en_Me := (cX12_isOne, RX12, 2, false, 2, true)
theorem cs_X12_isOne : en_cs yX12_isOne cX12_isOne 2 (some .boolean) 1 := ⟨wm_380, wm_337, ⟨(by decide +kernel), (by decide +kernel), (by decide +kernel)⟩, (Nat.le_of_ble_eq_true rfl)⟩
noncomputable def B_X12_isOne_0 (kc : Nat → en_B) : en_B := (op_iload 1 (op_const (0 : Int32) (op_aload 0 (op_geti 12 1 (op_const (1 : Int32) (op_bin (fun (x y : Int32) => x - y) (op_calli O_X12_in 3 op_zret)))))))
set_option maxRecDepth 20000 in
theorem s_X12_isOne_0 (G : en_G) (hst : G.2.2.2.2.2 = true) (kc : Nat → en_B) (hk : ∀ t, en_Snd G M_X12_isOne t (kc t)) : en_Snd G M_X12_isOne 0 (B_X12_isOne_0 kc) := (sn_iload_n (i := 1) (n := 1) (by decide +kernel) rfl (sn_iconst (n := 0) (v := 0) (by decide +kernel) rfl (sn_aload_n (i := 0) (n := 0) (by decide +kernel) rfl (sn_geti (ci := 12) (j := 1) en_c12 (by decide +kernel) wm_383 (Nat.le_of_ble_eq_true rfl) rfl (sn_iconst (n := 1) (v := 1) (by decide +kernel) rfl (sn_isub (by decide +kernel) (sn_callSi (n := 3) (idx := 100) (i_X12_in G hst) (Nat.le_of_ble_eq_true rfl) cs_X12_in ⟨wm_370, Or.inl wm_384⟩ (by decide +kernel) (sn_zret (by decide +kernel)))))))))
noncomputable def LK_X12_isOne : Nat → Nat → en_B
  | 0, _ => en_no
  | n + 1, t => en_no
theorem l_X12_isOne (G : en_G) (hst : G.2.2.2.2.2 = true) : ∀ n t, en_Snd G M_X12_isOne t (LK_X12_isOne n t)
  | 0, _ => sn_no
  | n + 1, t => by
    show en_Snd G M_X12_isOne t (en_no)
    exact sn_no
noncomputable def T_X12_isOne_0 (x1 : Int32) (σ : en_M) : en_R := B_X12_isOne_0 (LK_X12_isOne en_FU) [.inr (185, 12, 0, 0), .inl x1] [] en_zz σ
set_option maxRecDepth 400000 in
set_option maxHeartbeats 4000000 in
theorem t_X12_isOne_0 (x1 : Int32) (σ : en_M) : T_X12_isOne_0 x1 σ = ((O_X12_in [.inl x1, .inl (0 : Int32), .inl ((σ 185 1) - (1 : Int32))] σ).bind fun r1 => if r1.1 = 0 ∨ r1.1 = 1 then en_ri r1.1 r1.2 else none) := rfl
noncomputable def P_X12_isOne : List en_V → en_M → Option (Int32 × en_M) := fun av σ => match av with
  | [.inr (185, 12, 0, 0), .inl x1] => en_oi (T_X12_isOne_0 x1 σ)
  | _ => none
theorem ox_X12_isOne : ∃ f, f = P_X12_isOne := ⟨_, rfl⟩
noncomputable def O_X12_isOne : List en_V → en_M → Option (Int32 × en_M) := Classical.choose ox_X12_isOne
theorem oe_X12_isOne : O_X12_isOne = P_X12_isOne := Classical.choose_spec ox_X12_isOne
theorem o_X12_isOne (x1 : Int32) (σ : en_M) : O_X12_isOne [.inr (185, 12, 0, 0), .inl x1] σ = en_oi (T_X12_isOne_0 x1 σ) := by rw [oe_X12_isOne]; rfl
theorem i_X12_isOne (G : en_G) (hst : G.2.2.2.2.2 = true) : en_I G 2 yX12_isOne cX12_isOne 2 (some .boolean) 0 0 (en_wi (O_X12_isOne)) := en_of_i (M := M_X12_isOne) hst (s_X12_isOne_0 G hst _ (l_X12_isOne G hst en_FU)) (plainFor_of_name (by decide +kernel)) rfl rfl rfl (Or.inr ⟨Or.inl rfl, rfl⟩) (fun av σ x σ' h => by
  rw [oe_X12_isOne] at h; unfold P_X12_isOne at h
  split at h
  · exact ⟨(Nat.le_of_ble_eq_true rfl), en_oi_some h⟩
  · cases h)
-- EachMayMissOneModel.areTwo(II)Z
def M_X12_areTwo : en_Me := (cX12_areTwo, RX12, 3, false, 3, true)
theorem cs_X12_areTwo : en_cs yX12_areTwo cX12_areTwo 3 (some .boolean) 2 := ⟨wm_385, wm_337, ⟨(by decide +kernel), (by decide +kernel), (by decide +kernel)⟩, (Nat.le_of_ble_eq_true rfl)⟩
noncomputable def B_X12_areTwo_26 (kc : Nat → en_B) : en_B := op_zret
set_option maxRecDepth 20000 in
theorem s_X12_areTwo_26 (G : en_G) (hst : G.2.2.2.2.2 = true) (kc : Nat → en_B) (hk : ∀ t, en_Snd G M_X12_areTwo t (kc t)) : en_Snd G M_X12_areTwo 26 (B_X12_areTwo_26 kc) := (sn_zret (by decide +kernel))
noncomputable def B_X12_areTwo_25 (kc : Nat → en_B) : en_B := (op_const (0 : Int32) (B_X12_areTwo_26 kc))
set_option maxRecDepth 20000 in
theorem s_X12_areTwo_25 (G : en_G) (hst : G.2.2.2.2.2 = true) (kc : Nat → en_B) (hk : ∀ t, en_Snd G M_X12_areTwo t (kc t)) : en_Snd G M_X12_areTwo 25 (B_X12_areTwo_25 kc) := (sn_iconst (n := 0) (v := 0) (by decide +kernel) rfl (s_X12_areTwo_26 G hst kc hk))
noncomputable def B_X12_areTwo_0 (kc : Nat → en_B) : en_B := (op_aload 0 (op_iload 1 (op_rcv 12 1 (op_calli O_X12_isOne 2 (op_ifeq (B_X12_areTwo_25 kc) (op_aload 0 (op_iload 2 (op_rcv 12 1 (op_calli O_X12_isOne 2 (op_ifeq (B_X12_areTwo_25 kc) (op_iload 1 (op_iload 2 (op_iceq (B_X12_areTwo_25 kc) (op_const (1 : Int32) (B_X12_areTwo_26 kc)))))))))))))))
set_option maxRecDepth 20000 in
theorem s_X12_areTwo_0 (G : en_G) (hst : G.2.2.2.2.2 = true) (kc : Nat → en_B) (hk : ∀ t, en_Snd G M_X12_areTwo t (kc t)) : en_Snd G M_X12_areTwo 0 (B_X12_areTwo_0 kc) := (sn_aload_n (i := 0) (n := 0) (by decide +kernel) rfl (sn_iload_n (i := 1) (n := 1) (by decide +kernel) rfl (sn_callVi (n := 1) (idx := 104) (ci := 12) (i_X12_isOne G hst) (Nat.le_of_ble_eq_true rfl) cs_X12_isOne ⟨wm_381, wm_382, wm_388⟩ ⟨⟨_, rfl, rfl⟩, (Nat.le_of_ble_eq_true rfl)⟩ (by decide +kernel) (sn_ifeq (off := 20) (tgt := 25) (by decide +kernel) rfl (s_X12_areTwo_25 G hst kc hk) (sn_aload_n (i := 0) (n := 0) (by decide +kernel) rfl (sn_iload_n (i := 2) (n := 2) (by decide +kernel) rfl (sn_callVi (n := 1) (idx := 104) (ci := 12) (i_X12_isOne G hst) (Nat.le_of_ble_eq_true rfl) cs_X12_isOne ⟨wm_381, wm_382, wm_388⟩ ⟨⟨_, rfl, rfl⟩, (Nat.le_of_ble_eq_true rfl)⟩ (by decide +kernel) (sn_ifeq (off := 12) (tgt := 25) (by decide +kernel) rfl (s_X12_areTwo_25 G hst kc hk) (sn_iload_n (i := 1) (n := 1) (by decide +kernel) rfl (sn_iload_n (i := 2) (n := 2) (by decide +kernel) rfl (sn_iceq (off := 7) (tgt := 25) (by decide +kernel) rfl (s_X12_areTwo_25 G hst kc hk) (sn_iconst (n := 1) (v := 1) (by decide +kernel) rfl (sn_goto (off := 4) (tgt := 26) (by decide +kernel) rfl (s_X12_areTwo_26 G hst kc hk))))))))))))))
noncomputable def LK_X12_areTwo : Nat → Nat → en_B
  | 0, _ => en_no
  | n + 1, t => en_no
theorem l_X12_areTwo (G : en_G) (hst : G.2.2.2.2.2 = true) : ∀ n t, en_Snd G M_X12_areTwo t (LK_X12_areTwo n t)
  | 0, _ => sn_no
  | n + 1, t => by
    show en_Snd G M_X12_areTwo t (en_no)
    exact sn_no
noncomputable def T_X12_areTwo_0 (x1 : Int32) (x2 : Int32) (σ : en_M) : en_R := B_X12_areTwo_0 (LK_X12_areTwo en_FU) [.inr (185, 12, 0, 0), .inl x1, .inl x2] [] en_zz σ
set_option maxRecDepth 400000 in
set_option maxHeartbeats 4000000 in
theorem t_X12_areTwo_0 (x1 : Int32) (x2 : Int32) (σ : en_M) : T_X12_areTwo_0 x1 x2 σ = ((O_X12_isOne [.inr (185, 12, 0, 0), .inl x1] σ).bind fun r1 => if r1.1 = 0 then (if (0 : Int32) = 0 ∨ (0 : Int32) = 1 then en_ri (0 : Int32) r1.2 else none) else ((O_X12_isOne [.inr (185, 12, 0, 0), .inl x2] r1.2).bind fun r2 => if r2.1 = 0 then (if (0 : Int32) = 0 ∨ (0 : Int32) = 1 then en_ri (0 : Int32) r2.2 else none) else (if x1 = x2 then (if (0 : Int32) = 0 ∨ (0 : Int32) = 1 then en_ri (0 : Int32) r2.2 else none) else (if (1 : Int32) = 0 ∨ (1 : Int32) = 1 then en_ri (1 : Int32) r2.2 else none)))) := rfl
noncomputable def P_X12_areTwo : List en_V → en_M → Option (Int32 × en_M) := fun av σ => match av with
  | [.inr (185, 12, 0, 0), .inl x1, .inl x2] => en_oi (T_X12_areTwo_0 x1 x2 σ)
  | _ => none
theorem ox_X12_areTwo : ∃ f, f = P_X12_areTwo := ⟨_, rfl⟩
noncomputable def O_X12_areTwo : List en_V → en_M → Option (Int32 × en_M) := Classical.choose ox_X12_areTwo
theorem oe_X12_areTwo : O_X12_areTwo = P_X12_areTwo := Classical.choose_spec ox_X12_areTwo
theorem o_X12_areTwo (x1 : Int32) (x2 : Int32) (σ : en_M) : O_X12_areTwo [.inr (185, 12, 0, 0), .inl x1, .inl x2] σ = en_oi (T_X12_areTwo_0 x1 x2 σ) := by rw [oe_X12_areTwo]; rfl
theorem i_X12_areTwo (G : en_G) (hst : G.2.2.2.2.2 = true) : en_I G 3 yX12_areTwo cX12_areTwo 3 (some .boolean) 0 0 (en_wi (O_X12_areTwo)) := en_of_i (M := M_X12_areTwo) hst (s_X12_areTwo_0 G hst _ (l_X12_areTwo G hst en_FU)) (plainFor_of_name (by decide +kernel)) rfl rfl rfl (Or.inr ⟨Or.inl rfl, rfl⟩) (fun av σ x σ' h => by
  rw [oe_X12_areTwo] at h; unfold P_X12_areTwo at h
  split at h
  · exact ⟨(Nat.le_of_ble_eq_true rfl), en_oi_some h⟩
  · cases h)
-- EachMayMissOneModel.everybody()I
def M_X12_everybody : en_Me := (cX12_everybody, RX12, 1, false, 1, false)
theorem cs_X12_everybody : en_cs yX12_everybody cX12_everybody 1 (some .int) 0 := ⟨wm_389, wm_337, ⟨(by decide +kernel), (by decide +kernel), (by decide +kernel)⟩, (Nat.le_of_ble_eq_true rfl)⟩
noncomputable def B_X12_everybody_0 (kc : Nat → en_B) : en_B := (op_const (1 : Int32) (op_aload 0 (op_geti 12 1 (op_bin en_shl (op_const (1 : Int32) (op_bin (fun (x y : Int32) => x - y) op_iret))))))
set_option maxRecDepth 20000 in
theorem s_X12_everybody_0 (G : en_G) (hst : G.2.2.2.2.2 = true) (kc : Nat → en_B) (hk : ∀ t, en_Snd G M_X12_everybody t (kc t)) : en_Snd G M_X12_everybody 0 (B_X12_everybody_0 kc) := (sn_iconst (n := 1) (v := 1) (by decide +kernel) rfl (sn_aload_n (i := 0) (n := 0) (by decide +kernel) rfl (sn_geti (ci := 12) (j := 1) en_c12 (by decide +kernel) wm_383 (Nat.le_of_ble_eq_true rfl) rfl (sn_ishl (by decide +kernel) (sn_iconst (n := 1) (v := 1) (by decide +kernel) rfl (sn_isub (by decide +kernel) (sn_iret (by decide +kernel) rfl)))))))
noncomputable def LK_X12_everybody : Nat → Nat → en_B
  | 0, _ => en_no
  | n + 1, t => en_no
theorem l_X12_everybody (G : en_G) (hst : G.2.2.2.2.2 = true) : ∀ n t, en_Snd G M_X12_everybody t (LK_X12_everybody n t)
  | 0, _ => sn_no
  | n + 1, t => by
    show en_Snd G M_X12_everybody t (en_no)
    exact sn_no
noncomputable def T_X12_everybody_0 (σ : en_M) : en_R := B_X12_everybody_0 (LK_X12_everybody en_FU) [.inr (185, 12, 0, 0)] [] en_zz σ
set_option maxRecDepth 400000 in
set_option maxHeartbeats 4000000 in
theorem t_X12_everybody_0 (σ : en_M) : T_X12_everybody_0 σ = (en_ri ((en_shl (1 : Int32) (σ 185 1)) - (1 : Int32)) σ) := rfl
noncomputable def P_X12_everybody : List en_V → en_M → Option (Int32 × en_M) := fun av σ => match av with
  | [.inr (185, 12, 0, 0)] => en_oi (T_X12_everybody_0 σ)
  | _ => none
theorem ox_X12_everybody : ∃ f, f = P_X12_everybody := ⟨_, rfl⟩
noncomputable def O_X12_everybody : List en_V → en_M → Option (Int32 × en_M) := Classical.choose ox_X12_everybody
theorem oe_X12_everybody : O_X12_everybody = P_X12_everybody := Classical.choose_spec ox_X12_everybody
theorem o_X12_everybody (σ : en_M) : O_X12_everybody [.inr (185, 12, 0, 0)] σ = en_oi (T_X12_everybody_0 σ) := by rw [oe_X12_everybody]; rfl
theorem i_X12_everybody (G : en_G) (hst : G.2.2.2.2.2 = true) : en_I G 1 yX12_everybody cX12_everybody 1 (some .int) 0 0 (en_wi (O_X12_everybody)) := en_of_i (M := M_X12_everybody) hst (s_X12_everybody_0 G hst _ (l_X12_everybody G hst en_FU)) (plainFor_of_name (by decide +kernel)) rfl rfl rfl (Or.inl ⟨rfl, rfl⟩) (fun av σ x σ' h => by
  rw [oe_X12_everybody] at h; unfold P_X12_everybody at h
  split at h
  · exact ⟨(Nat.le_of_ble_eq_true rfl), en_oi_some h⟩
  · cases h)
-- EachMayMissOneModel.areThose(I)Z
def M_X12_areThose : en_Me := (cX12_areThose, RX12, 2, false, 2, true)
theorem cs_X12_areThose : en_cs yX12_areThose cX12_areThose 2 (some .boolean) 1 := ⟨wm_392, wm_337, ⟨(by decide +kernel), (by decide +kernel), (by decide +kernel)⟩, (Nat.le_of_ble_eq_true rfl)⟩
noncomputable def B_X12_areThose_0 (kc : Nat → en_B) : en_B := (op_iload 1 (op_const (0 : Int32) (op_aload 0 (op_rcv 12 0 (op_calli O_X12_everybody 1 (op_calli O_X12_in 3 op_zret))))))
set_option maxRecDepth 20000 in
theorem s_X12_areThose_0 (G : en_G) (hst : G.2.2.2.2.2 = true) (kc : Nat → en_B) (hk : ∀ t, en_Snd G M_X12_areThose t (kc t)) : en_Snd G M_X12_areThose 0 (B_X12_areThose_0 kc) := (sn_iload_n (i := 1) (n := 1) (by decide +kernel) rfl (sn_iconst (n := 0) (v := 0) (by decide +kernel) rfl (sn_aload_n (i := 0) (n := 0) (by decide +kernel) rfl (sn_callVi (n := 0) (idx := 108) (ci := 12) (i_X12_everybody G hst) (Nat.le_of_ble_eq_true rfl) cs_X12_everybody ⟨wm_390, wm_391, wm_395⟩ ⟨⟨_, rfl, rfl⟩, (Nat.le_of_ble_eq_true rfl)⟩ (by decide +kernel) (sn_callSi (n := 3) (idx := 100) (i_X12_in G hst) (Nat.le_of_ble_eq_true rfl) cs_X12_in ⟨wm_370, Or.inl wm_384⟩ (by decide +kernel) (sn_zret (by decide +kernel)))))))
noncomputable def LK_X12_areThose : Nat → Nat → en_B
  | 0, _ => en_no
  | n + 1, t => en_no
theorem l_X12_areThose (G : en_G) (hst : G.2.2.2.2.2 = true) : ∀ n t, en_Snd G M_X12_areThose t (LK_X12_areThose n t)
  | 0, _ => sn_no
  | n + 1, t => by
    show en_Snd G M_X12_areThose t (en_no)
    exact sn_no
noncomputable def T_X12_areThose_0 (x1 : Int32) (σ : en_M) : en_R := B_X12_areThose_0 (LK_X12_areThose en_FU) [.inr (185, 12, 0, 0), .inl x1] [] en_zz σ
set_option maxRecDepth 400000 in
set_option maxHeartbeats 4000000 in
theorem t_X12_areThose_0 (x1 : Int32) (σ : en_M) : T_X12_areThose_0 x1 σ = ((O_X12_everybody [.inr (185, 12, 0, 0)] σ).bind fun r1 => (O_X12_in [.inl x1, .inl (0 : Int32), .inl r1.1] r1.2).bind fun r2 => if r2.1 = 0 ∨ r2.1 = 1 then en_ri r2.1 r2.2 else none) := rfl
noncomputable def P_X12_areThose : List en_V → en_M → Option (Int32 × en_M) := fun av σ => match av with
  | [.inr (185, 12, 0, 0), .inl x1] => en_oi (T_X12_areThose_0 x1 σ)
  | _ => none
theorem ox_X12_areThose : ∃ f, f = P_X12_areThose := ⟨_, rfl⟩
noncomputable def O_X12_areThose : List en_V → en_M → Option (Int32 × en_M) := Classical.choose ox_X12_areThose
theorem oe_X12_areThose : O_X12_areThose = P_X12_areThose := Classical.choose_spec ox_X12_areThose
theorem o_X12_areThose (x1 : Int32) (σ : en_M) : O_X12_areThose [.inr (185, 12, 0, 0), .inl x1] σ = en_oi (T_X12_areThose_0 x1 σ) := by rw [oe_X12_areThose]; rfl
theorem i_X12_areThose (G : en_G) (hst : G.2.2.2.2.2 = true) : en_I G 2 yX12_areThose cX12_areThose 2 (some .boolean) 0 0 (en_wi (O_X12_areThose)) := en_of_i (M := M_X12_areThose) hst (s_X12_areThose_0 G hst _ (l_X12_areThose G hst en_FU)) (plainFor_of_name (by decide +kernel)) rfl rfl rfl (Or.inr ⟨Or.inl rfl, rfl⟩) (fun av σ x σ' h => by
  rw [oe_X12_areThose] at h; unfold P_X12_areThose at h
  split at h
  · exact ⟨(Nat.le_of_ble_eq_true rfl), en_oi_some h⟩
  · cases h)
-- EachMayMissOneModel.sign(I)I
def M_X12_sign : en_Me := (cX12_sign, RX12, 3, false, 1, false)
theorem cs_X12_sign : en_cs yX12_sign cX12_sign 3 (some .int) 1 := ⟨wm_396, wm_337, ⟨(by decide +kernel), (by decide +kernel), (by decide +kernel)⟩, (Nat.le_of_ble_eq_true rfl)⟩
noncomputable def B_X12_sign_53 (kc : Nat → en_B) : en_B := (op_aload 0 (op_geti 12 8 op_iret))
set_option maxRecDepth 20000 in
theorem s_X12_sign_53 (G : en_G) (hst : G.2.2.2.2.2 = true) (kc : Nat → en_B) (hk : ∀ t, en_Snd G M_X12_sign t (kc t)) : en_Snd G M_X12_sign 53 (B_X12_sign_53 kc) := (sn_aload_n (i := 0) (n := 0) (by decide +kernel) rfl (sn_geti (ci := 12) (j := 8) en_c12 (by decide +kernel) wm_399 (Nat.le_of_ble_eq_true rfl) rfl (sn_iret (by decide +kernel) rfl)))
noncomputable def B_X12_sign_20 (kc : Nat → en_B) : en_B := (op_iload 2 (op_iflt (B_X12_sign_53 kc) (op_aload 0 (op_gets 12 4 (21, 80, 0) (op_aload 0 (op_dup (op_geti 12 8 (op_dupx1 (op_const (1 : Int32) (op_bin (fun (x y : Int32) => x + y) (op_puti 12 8 (op_iload 1 (op_const (8 : Int32) (op_iload 2 (op_bin (fun (x y : Int32) => x * y) (op_bin en_shr (op_un en_i2b (op_ast 21 (vp_nar .byte) (op_iinc 2 (-1 : Int32) (kc 20))))))))))))))))))))
set_option maxRecDepth 20000 in
theorem s_X12_sign_20 (G : en_G) (hst : G.2.2.2.2.2 = true) (kc : Nat → en_B) (hk : ∀ t, en_Snd G M_X12_sign t (kc t)) : en_Snd G M_X12_sign 20 (B_X12_sign_20 kc) := (sn_iload_n (i := 2) (n := 2) (by decide +kernel) rfl (sn_iflt (off := 32) (tgt := 53) (by decide +kernel) rfl (s_X12_sign_53 G hst kc hk) (sn_aload_n (i := 0) (n := 0) (by decide +kernel) rfl (sn_gets (ci := 12) (j := 7) (off := 4) hst en_c12 of_12_4 (Nat.le_of_ble_eq_true rfl) (by decide +kernel) wm_345 (Nat.le_of_ble_eq_true rfl) rfl (sn_aload_n (i := 0) (n := 0) (by decide +kernel) rfl (sn_dup (by decide +kernel) (sn_geti (ci := 12) (j := 8) en_c12 (by decide +kernel) wm_399 (Nat.le_of_ble_eq_true rfl) rfl (sn_dupx1 (by decide +kernel) (sn_iconst (n := 1) (v := 1) (by decide +kernel) rfl (sn_iadd (by decide +kernel) (sn_puti (ci := 12) (j := 8) en_c12 (by decide +kernel) wm_399 (Nat.le_of_ble_eq_true rfl) rfl rfl rfl (sn_iload_n (i := 1) (n := 1) (by decide +kernel) rfl (sn_bipush (n := 8) (v := 8) (by decide +kernel) rfl (sn_iload_n (i := 2) (n := 2) (by decide +kernel) rfl (sn_imul (by decide +kernel) (sn_ishr (by decide +kernel) (sn_i2b (by decide +kernel) (sn_bast (by decide +kernel) (sn_iinc (i := 2) (n := -1) (v := -1) (by decide +kernel) rfl (sn_goto (off := -30) (tgt := 20) (by decide +kernel) rfl (hk 20)))))))))))))))))))))
noncomputable def B_X12_sign_18 (kc : Nat → en_B) : en_B := (op_const (3 : Int32) (op_istore 2 (kc 20)))
set_option maxRecDepth 20000 in
theorem s_X12_sign_18 (G : en_G) (hst : G.2.2.2.2.2 = true) (kc : Nat → en_B) (hk : ∀ t, en_Snd G M_X12_sign t (kc t)) : en_Snd G M_X12_sign 18 (B_X12_sign_18 kc) := (sn_iconst (n := 3) (v := 3) (by decide +kernel) rfl (sn_istore_n (i := 2) (n := 2) (by decide +kernel) rfl (Nat.le_of_ble_eq_true rfl) (hk 20)))
noncomputable def B_X12_sign_0 (kc : Nat → en_B) : en_B := (op_aload 0 (op_const (0 : Int32) (op_puti 12 11 (op_aload 0 (op_geti 12 8 (op_const (4 : Int32) (op_bin (fun (x y : Int32) => x + y) (op_const (80 : Int32) (op_icgt (op_const (-1 : Int32) op_iret) (B_X12_sign_18 kc))))))))))
set_option maxRecDepth 20000 in
theorem s_X12_sign_0 (G : en_G) (hst : G.2.2.2.2.2 = true) (kc : Nat → en_B) (hk : ∀ t, en_Snd G M_X12_sign t (kc t)) : en_Snd G M_X12_sign 0 (B_X12_sign_0 kc) := (sn_aload_n (i := 0) (n := 0) (by decide +kernel) rfl (sn_iconst (n := 0) (v := 0) (by decide +kernel) rfl (sn_puti (ci := 12) (j := 11) en_c12 (by decide +kernel) wm_368 (Nat.le_of_ble_eq_true rfl) rfl rfl rfl (sn_aload_n (i := 0) (n := 0) (by decide +kernel) rfl (sn_geti (ci := 12) (j := 8) en_c12 (by decide +kernel) wm_399 (Nat.le_of_ble_eq_true rfl) rfl (sn_iconst (n := 4) (v := 4) (by decide +kernel) rfl (sn_iadd (by decide +kernel) (sn_bipush (n := 80) (v := 80) (by decide +kernel) rfl (sn_icle (off := 5) (tgt := 18) (by decide +kernel) rfl (s_X12_sign_18 G hst kc hk) (sn_iconst (n := -1) (v := -1) (by decide +kernel) rfl (sn_iret (by decide +kernel) rfl)))))))))))
noncomputable def LK_X12_sign : Nat → Nat → en_B
  | 0, _ => en_no
  | n + 1, t => if t = 20 then B_X12_sign_20 (LK_X12_sign n) else en_no
theorem l_X12_sign (G : en_G) (hst : G.2.2.2.2.2 = true) : ∀ n t, en_Snd G M_X12_sign t (LK_X12_sign n t)
  | 0, _ => sn_no
  | n + 1, t => by
    show en_Snd G M_X12_sign t (if t = 20 then B_X12_sign_20 (LK_X12_sign n) else en_no)
    by_cases h_20 : t = 20
    · rw [if_pos h_20, h_20]; exact s_X12_sign_20 G hst _ (l_X12_sign G hst n)
    rw [if_neg h_20]
    exact sn_no
noncomputable def T_X12_sign_0 (x1 : Int32) (σ : en_M) : en_R := B_X12_sign_0 (LK_X12_sign en_FU) [.inr (185, 12, 0, 0), .inl x1, en_un] [] en_zz σ
noncomputable def T_X12_sign_20 (n : Nat) (x1 : Int32) (x2 : Int32) (σ : en_M) : en_R := LK_X12_sign n 20 [.inr (185, 12, 0, 0), .inl x1, .inl x2] [] en_zz σ
set_option maxRecDepth 400000 in
set_option maxHeartbeats 4000000 in
theorem t_X12_sign_0 (x1 : Int32) (σ : en_M) : T_X12_sign_0 x1 σ = (if (80 : Int32) < ((σ 185 8) + (4 : Int32)) then (en_ri (-1 : Int32) (en_up σ 185 11 (0 : Int32))) else (T_X12_sign_20 en_FU x1 (3 : Int32) (en_up σ 185 11 (0 : Int32)))) := rfl
set_option maxRecDepth 400000 in
set_option maxHeartbeats 4000000 in
theorem t_X12_sign_20 (n : Nat) (x1 : Int32) (x2 : Int32) (σ : en_M) : T_X12_sign_20 (n + 1) x1 x2 σ = (if x2 < 0 then (en_ri (σ 185 8) σ) else ((en_ix (σ 185 8) 80).bind fun j1 => T_X12_sign_20 n x1 (x2 + (-1 : Int32)) (en_up (en_up σ 185 8 ((σ 185 8) + (1 : Int32))) 189 j1 (vp_nar .byte (en_i2b (en_shr x1 ((8 : Int32) * x2))))))) := rfl
noncomputable def P_X12_sign : List en_V → en_M → Option (Int32 × en_M) := fun av σ => match av with
  | [.inr (185, 12, 0, 0), .inl x1] => en_oi (T_X12_sign_0 x1 σ)
  | _ => none
theorem ox_X12_sign : ∃ f, f = P_X12_sign := ⟨_, rfl⟩
noncomputable def O_X12_sign : List en_V → en_M → Option (Int32 × en_M) := Classical.choose ox_X12_sign
theorem oe_X12_sign : O_X12_sign = P_X12_sign := Classical.choose_spec ox_X12_sign
theorem o_X12_sign (x1 : Int32) (σ : en_M) : O_X12_sign [.inr (185, 12, 0, 0), .inl x1] σ = en_oi (T_X12_sign_0 x1 σ) := by rw [oe_X12_sign]; rfl
theorem i_X12_sign (G : en_G) (hst : G.2.2.2.2.2 = true) : en_I G 1 yX12_sign cX12_sign 3 (some .int) 0 0 (en_wi (O_X12_sign)) := en_of_i (M := M_X12_sign) hst (s_X12_sign_0 G hst _ (l_X12_sign G hst en_FU)) (plainFor_of_name (by decide +kernel)) rfl rfl rfl (Or.inl ⟨rfl, rfl⟩) (fun av σ x σ' h => by
  rw [oe_X12_sign] at h; unfold P_X12_sign at h
  split at h
  · exact ⟨(Nat.le_of_ble_eq_true rfl), en_oi_some h⟩
  · cases h)
-- EachMayMissOneModel.end(I)Z
def M_X12_end : en_Me := (cX12_end, RX12, 2, false, 2, true)
theorem cs_X12_end : en_cs yX12_end cX12_end 2 (some .boolean) 1 := ⟨wm_400, wm_337, ⟨(by decide +kernel), (by decide +kernel), (by decide +kernel)⟩, (Nat.le_of_ble_eq_true rfl)⟩
noncomputable def B_X12_end_19 (kc : Nat → en_B) : en_B := (op_aload 0 (op_iload 1 (op_puti 12 8 (op_const (1 : Int32) op_zret))))
set_option maxRecDepth 20000 in
theorem s_X12_end_19 (G : en_G) (hst : G.2.2.2.2.2 = true) (kc : Nat → en_B) (hk : ∀ t, en_Snd G M_X12_end t (kc t)) : en_Snd G M_X12_end 19 (B_X12_end_19 kc) := (sn_aload_n (i := 0) (n := 0) (by decide +kernel) rfl (sn_iload_n (i := 1) (n := 1) (by decide +kernel) rfl (sn_puti (ci := 12) (j := 8) en_c12 (by decide +kernel) wm_399 (Nat.le_of_ble_eq_true rfl) rfl rfl rfl (sn_iconst (n := 1) (v := 1) (by decide +kernel) rfl (sn_zret (by decide +kernel))))))
noncomputable def B_X12_end_0 (kc : Nat → en_B) : en_B := (op_aload 0 (op_const (0 : Int32) (op_puti 12 11 (op_iload 1 (op_const (0 : Int32) (op_aload 0 (op_geti 12 8 (op_calli O_X12_in 3 (op_ifeq (op_const (0 : Int32) op_zret) (B_X12_end_19 kc))))))))))
set_option maxRecDepth 20000 in
theorem s_X12_end_0 (G : en_G) (hst : G.2.2.2.2.2 = true) (kc : Nat → en_B) (hk : ∀ t, en_Snd G M_X12_end t (kc t)) : en_Snd G M_X12_end 0 (B_X12_end_0 kc) := (sn_aload_n (i := 0) (n := 0) (by decide +kernel) rfl (sn_iconst (n := 0) (v := 0) (by decide +kernel) rfl (sn_puti (ci := 12) (j := 11) en_c12 (by decide +kernel) wm_368 (Nat.le_of_ble_eq_true rfl) rfl rfl rfl (sn_iload_n (i := 1) (n := 1) (by decide +kernel) rfl (sn_iconst (n := 0) (v := 0) (by decide +kernel) rfl (sn_aload_n (i := 0) (n := 0) (by decide +kernel) rfl (sn_geti (ci := 12) (j := 8) en_c12 (by decide +kernel) wm_399 (Nat.le_of_ble_eq_true rfl) rfl (sn_callSi (n := 3) (idx := 100) (i_X12_in G hst) (Nat.le_of_ble_eq_true rfl) cs_X12_in ⟨wm_370, Or.inl wm_384⟩ (by decide +kernel) (sn_ifne (off := 5) (tgt := 19) (by decide +kernel) rfl (s_X12_end_19 G hst kc hk) (sn_iconst (n := 0) (v := 0) (by decide +kernel) rfl (sn_zret (by decide +kernel))))))))))))
noncomputable def LK_X12_end : Nat → Nat → en_B
  | 0, _ => en_no
  | n + 1, t => en_no
theorem l_X12_end (G : en_G) (hst : G.2.2.2.2.2 = true) : ∀ n t, en_Snd G M_X12_end t (LK_X12_end n t)
  | 0, _ => sn_no
  | n + 1, t => by
    show en_Snd G M_X12_end t (en_no)
    exact sn_no
noncomputable def T_X12_end_0 (x1 : Int32) (σ : en_M) : en_R := B_X12_end_0 (LK_X12_end en_FU) [.inr (185, 12, 0, 0), .inl x1] [] en_zz σ
set_option maxRecDepth 400000 in
set_option maxHeartbeats 4000000 in
theorem t_X12_end_0 (x1 : Int32) (σ : en_M) : T_X12_end_0 x1 σ = ((O_X12_in [.inl x1, .inl (0 : Int32), .inl (σ 185 8)] (en_up σ 185 11 (0 : Int32))).bind fun r1 => if r1.1 = 0 then (if (0 : Int32) = 0 ∨ (0 : Int32) = 1 then en_ri (0 : Int32) r1.2 else none) else (if (1 : Int32) = 0 ∨ (1 : Int32) = 1 then en_ri (1 : Int32) (en_up r1.2 185 8 x1) else none)) := rfl
noncomputable def P_X12_end : List en_V → en_M → Option (Int32 × en_M) := fun av σ => match av with
  | [.inr (185, 12, 0, 0), .inl x1] => en_oi (T_X12_end_0 x1 σ)
  | _ => none
theorem ox_X12_end : ∃ f, f = P_X12_end := ⟨_, rfl⟩
noncomputable def O_X12_end : List en_V → en_M → Option (Int32 × en_M) := Classical.choose ox_X12_end
theorem oe_X12_end : O_X12_end = P_X12_end := Classical.choose_spec ox_X12_end
theorem o_X12_end (x1 : Int32) (σ : en_M) : O_X12_end [.inr (185, 12, 0, 0), .inl x1] σ = en_oi (T_X12_end_0 x1 σ) := by rw [oe_X12_end]; rfl
theorem i_X12_end (G : en_G) (hst : G.2.2.2.2.2 = true) : en_I G 2 yX12_end cX12_end 2 (some .boolean) 0 0 (en_wi (O_X12_end)) := en_of_i (M := M_X12_end) hst (s_X12_end_0 G hst _ (l_X12_end G hst en_FU)) (plainFor_of_name (by decide +kernel)) rfl rfl rfl (Or.inr ⟨Or.inl rfl, rfl⟩) (fun av σ x σ' h => by
  rw [oe_X12_end] at h; unfold P_X12_end at h
  split at h
  · exact ⟨(Nat.le_of_ble_eq_true rfl), en_oi_some h⟩
  · cases h)
