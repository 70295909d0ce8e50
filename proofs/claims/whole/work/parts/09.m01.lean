-- java/lang/Math.max(II)I
def M_J9_max_7cf53 : en_Me := (cJ9_max_7cf53, RJ9, 2, false, 1, false)
theorem cs_J9_max_7cf53 : en_cs yJ9_max_7cf53 cJ9_max_7cf53 2 (some .int) 2 := ⟨wm_266, wm_264, ⟨(by decide +kernel), (by decide +kernel), (by decide +kernel)⟩, (Nat.le_of_ble_eq_true rfl)⟩
noncomputable def B_J9_max_7cf53_10 (kc : Nat → en_B) : en_B := op_iret
set_option maxRecDepth 20000 in
theorem s_J9_max_7cf53_10 (G : en_G) (hst : G.2.2.2.2.2 = true) (kc : Nat → en_B) (hk : ∀ t, en_Snd G M_J9_max_7cf53 t (kc t)) : en_Snd G M_J9_max_7cf53 10 (B_J9_max_7cf53_10 kc) := (sn_iret (by decide +kernel) rfl)
noncomputable def B_J9_max_7cf53_9 (kc : Nat → en_B) : en_B := (op_iload 1 (B_J9_max_7cf53_10 kc))
set_option maxRecDepth 20000 in
theorem s_J9_max_7cf53_9 (G : en_G) (hst : G.2.2.2.2.2 = true) (kc : Nat → en_B) (hk : ∀ t, en_Snd G M_J9_max_7cf53 t (kc t)) : en_Snd G M_J9_max_7cf53 9 (B_J9_max_7cf53_9 kc) := (sn_iload_n (i := 1) (n := 1) (by decide +kernel) rfl (s_J9_max_7cf53_10 G hst kc hk))
noncomputable def B_J9_max_7cf53_0 (kc : Nat → en_B) : en_B := (op_iload 0 (op_iload 1 (op_iclt (B_J9_max_7cf53_9 kc) (op_iload 0 (B_J9_max_7cf53_10 kc)))))
set_option maxRecDepth 20000 in
theorem s_J9_max_7cf53_0 (G : en_G) (hst : G.2.2.2.2.2 = true) (kc : Nat → en_B) (hk : ∀ t, en_Snd G M_J9_max_7cf53 t (kc t)) : en_Snd G M_J9_max_7cf53 0 (B_J9_max_7cf53_0 kc) := (sn_iload_n (i := 0) (n := 0) (by decide +kernel) rfl (sn_iload_n (i := 1) (n := 1) (by decide +kernel) rfl (sn_iclt (off := 7) (tgt := 9) (by decide +kernel) rfl (s_J9_max_7cf53_9 G hst kc hk) (sn_iload_n (i := 0) (n := 0) (by decide +kernel) rfl (sn_goto (off := 4) (tgt := 10) (by decide +kernel) rfl (s_J9_max_7cf53_10 G hst kc hk))))))
noncomputable def LK_J9_max_7cf53 : Nat → Nat → en_B
  | 0, _ => en_no
  | n + 1, t => en_no
theorem l_J9_max_7cf53 (G : en_G) (hst : G.2.2.2.2.2 = true) : ∀ n t, en_Snd G M_J9_max_7cf53 t (LK_J9_max_7cf53 n t)
  | 0, _ => sn_no
  | n + 1, t => by
    show en_Snd G M_J9_max_7cf53 t (en_no)
    exact sn_no
noncomputable def T_J9_max_7cf53_0 (x0 : Int32) (x1 : Int32) (σ : en_M) : en_R := B_J9_max_7cf53_0 (LK_J9_max_7cf53 en_FU) [.inl x0, .inl x1] [] en_zz σ
set_option maxRecDepth 400000 in
set_option maxHeartbeats 4000000 in
theorem t_J9_max_7cf53_0 (x0 : Int32) (x1 : Int32) (σ : en_M) : T_J9_max_7cf53_0 x0 x1 σ = (if x0 < x1 then (en_ri x1 σ) else (en_ri x0 σ)) := rfl
noncomputable def P_J9_max_7cf53 : List en_V → en_M → Option (Int32 × en_M) := fun av σ => match av with
  | [.inl x0, .inl x1] => en_oi (T_J9_max_7cf53_0 x0 x1 σ)
  | _ => none
theorem ox_J9_max_7cf53 : ∃ f, f = P_J9_max_7cf53 := ⟨_, rfl⟩
noncomputable def O_J9_max_7cf53 : List en_V → en_M → Option (Int32 × en_M) := Classical.choose ox_J9_max_7cf53
theorem oe_J9_max_7cf53 : O_J9_max_7cf53 = P_J9_max_7cf53 := Classical.choose_spec ox_J9_max_7cf53
theorem o_J9_max_7cf53 (x0 : Int32) (x1 : Int32) (σ : en_M) : O_J9_max_7cf53 [.inl x0, .inl x1] σ = en_oi (T_J9_max_7cf53_0 x0 x1 σ) := by rw [oe_J9_max_7cf53]; rfl
theorem i_J9_max_7cf53 (G : en_G) (hst : G.2.2.2.2.2 = true) : en_I G 1 yJ9_max_7cf53 cJ9_max_7cf53 2 (some .int) 0 0 (en_wi (O_J9_max_7cf53)) := en_of_i (M := M_J9_max_7cf53) hst (s_J9_max_7cf53_0 G hst _ (l_J9_max_7cf53 G hst en_FU)) (by decide +kernel) rfl rfl rfl (Or.inl ⟨rfl, rfl⟩) (fun av σ x σ' h => by
  rw [oe_J9_max_7cf53] at h; unfold P_J9_max_7cf53 at h
  split at h
  · exact ⟨(Nat.le_of_ble_eq_true rfl), en_oi_some h⟩
  · cases h)
-- EachMayMissOne$State.drink(I)V
def M_X7_drink : en_Me := (cX7_drink, RX7, 2, false, 2, false)
theorem cs_X7_drink : en_cs yX7_drink cX7_drink 2 none 1 := ⟨wm_1045, wm_21, ⟨(by decide +kernel), (by decide +kernel), (by decide +kernel)⟩, (Nat.le_of_ble_eq_true rfl)⟩
noncomputable def B_X7_drink_0 (kc : Nat → en_B) : en_B := (op_aload 0 (op_gets 7 1 (20, 7, 0) (op_iload 1 (op_const (0 : Int32) (op_aload 0 (op_gets 7 1 (20, 7, 0) (op_iload 1 (op_ald 20 (op_const (10 : Int32) (op_bin (fun (x y : Int32) => x - y) (op_calli O_J9_max_7cf53 2 (op_ast 20 (fun (x : Int32) => x) op_vret))))))))))))
set_option maxRecDepth 20000 in
theorem s_X7_drink_0 (G : en_G) (hst : G.2.2.2.2.2 = true) (kc : Nat → en_B) (hk : ∀ t, en_Snd G M_X7_drink t (kc t)) : en_Snd G M_X7_drink 0 (B_X7_drink_0 kc) := (sn_aload_n (i := 0) (n := 0) (by decide +kernel) rfl (sn_gets (ci := 7) (j := 0) (off := 1) hst en_c7 of_7_1 (Nat.le_of_ble_eq_true rfl) (by decide +kernel) wm_1026 (Nat.le_of_ble_eq_true rfl) rfl (sn_iload_n (i := 1) (n := 1) (by decide +kernel) rfl (sn_iconst (n := 0) (v := 0) (by decide +kernel) rfl (sn_aload_n (i := 0) (n := 0) (by decide +kernel) rfl (sn_gets (ci := 7) (j := 0) (off := 1) hst en_c7 of_7_1 (Nat.le_of_ble_eq_true rfl) (by decide +kernel) wm_1026 (Nat.le_of_ble_eq_true rfl) rfl (sn_iload_n (i := 1) (n := 1) (by decide +kernel) rfl (sn_iald (by decide +kernel) (sn_bipush (n := 10) (v := 10) (by decide +kernel) rfl (sn_isub (by decide +kernel) (sn_callSi (n := 2) (idx := 59) (i_J9_max_7cf53 G hst) (Nat.le_of_ble_eq_true rfl) cs_J9_max_7cf53 ⟨wm_267, Or.inl wm_1048⟩ (by decide +kernel) (sn_iast (by decide +kernel) (sn_vret (by decide +kernel))))))))))))))
noncomputable def LK_X7_drink : Nat → Nat → en_B
  | 0, _ => en_no
  | n + 1, t => en_no
theorem l_X7_drink (G : en_G) (hst : G.2.2.2.2.2 = true) : ∀ n t, en_Snd G M_X7_drink t (LK_X7_drink n t)
  | 0, _ => sn_no
  | n + 1, t => by
    show en_Snd G M_X7_drink t (en_no)
    exact sn_no
noncomputable def T_X7_drink_0 (k0 : Nat) (x1 : Int32) (σ : en_M) : en_R := B_X7_drink_0 (LK_X7_drink en_FU) [.inr (k0, 7, 0, 0), .inl x1] [] en_zz σ
set_option maxRecDepth 400000 in
set_option maxHeartbeats 4000000 in
theorem t_X7_drink_0 (k0 : Nat) (x1 : Int32) (σ : en_M) : T_X7_drink_0 k0 x1 σ = ((en_ix x1 7).bind fun j1 => (O_J9_max_7cf53 [.inl (0 : Int32), .inl ((σ (k0 + 1) j1) - (10 : Int32))] σ).bind fun r2 => (en_ix x1 7).bind fun j3 => en_rv (en_up r2.2 (k0 + 1) j3 r2.1)) := rfl
noncomputable def P_X7_drink : List en_V → en_M → Option en_M := fun av σ => match av with
  | [.inr (k0, 7, 0, 0), .inl x1] => en_ov (T_X7_drink_0 k0 x1 σ)
  | _ => none
theorem ox_X7_drink : ∃ f, f = P_X7_drink := ⟨_, rfl⟩
noncomputable def O_X7_drink : List en_V → en_M → Option en_M := Classical.choose ox_X7_drink
theorem oe_X7_drink : O_X7_drink = P_X7_drink := Classical.choose_spec ox_X7_drink
theorem o_X7_drink (k0 : Nat) (x1 : Int32) (σ : en_M) : O_X7_drink [.inr (k0, 7, 0, 0), .inl x1] σ = en_ov (T_X7_drink_0 k0 x1 σ) := by rw [oe_X7_drink]; rfl
theorem i_X7_drink (G : en_G) (hst : G.2.2.2.2.2 = true) : en_I G 2 yX7_drink cX7_drink 2 none 0 0 (en_wv (O_X7_drink)) := en_of_v (M := M_X7_drink) hst (s_X7_drink_0 G hst _ (l_X7_drink G hst en_FU)) (plainFor_of_name (by decide +kernel)) rfl rfl rfl (fun av σ σ' h => by
  rw [oe_X7_drink] at h; unfold P_X7_drink at h
  split at h
  · exact ⟨(Nat.le_of_ble_eq_true rfl), en_ov_some h⟩
  · cases h)
-- EachMayMissOne.bit(II)I
def M_X11_bit : en_Me := (cX11_bit, RX11, 2, false, 1, false)
theorem cs_X11_bit : en_cs yX11_bit cX11_bit 2 (some .int) 2 := ⟨wm_256, wm_2, ⟨(by decide +kernel), (by decide +kernel), (by decide +kernel)⟩, (Nat.le_of_ble_eq_true rfl)⟩
noncomputable def B_X11_bit_0 (kc : Nat → en_B) : en_B := (op_iload 0 (op_iload 1 (op_bin en_shr (op_const (1 : Int32) (op_bin (fun (x y : Int32) => x &&& y) op_iret)))))
set_option maxRecDepth 20000 in
theorem s_X11_bit_0 (G : en_G) (hst : G.2.2.2.2.2 = true) (kc : Nat → en_B) (hk : ∀ t, en_Snd G M_X11_bit t (kc t)) : en_Snd G M_X11_bit 0 (B_X11_bit_0 kc) := (sn_iload_n (i := 0) (n := 0) (by decide +kernel) rfl (sn_iload_n (i := 1) (n := 1) (by decide +kernel) rfl (sn_ishr (by decide +kernel) (sn_iconst (n := 1) (v := 1) (by decide +kernel) rfl (sn_iand (by decide +kernel) (sn_iret (by decide +kernel) rfl))))))
noncomputable def LK_X11_bit : Nat → Nat → en_B
  | 0, _ => en_no
  | n + 1, t => en_no
theorem l_X11_bit (G : en_G) (hst : G.2.2.2.2.2 = true) : ∀ n t, en_Snd G M_X11_bit t (LK_X11_bit n t)
  | 0, _ => sn_no
  | n + 1, t => by
    show en_Snd G M_X11_bit t (en_no)
    exact sn_no
noncomputable def T_X11_bit_0 (x0 : Int32) (x1 : Int32) (σ : en_M) : en_R := B_X11_bit_0 (LK_X11_bit en_FU) [.inl x0, .inl x1] [] en_zz σ
set_option maxRecDepth 400000 in
set_option maxHeartbeats 4000000 in
theorem t_X11_bit_0 (x0 : Int32) (x1 : Int32) (σ : en_M) : T_X11_bit_0 x0 x1 σ = (en_ri ((en_shr x0 x1) &&& (1 : Int32)) σ) := rfl
noncomputable def P_X11_bit : List en_V → en_M → Option (Int32 × en_M) := fun av σ => match av with
  | [.inl x0, .inl x1] => en_oi (T_X11_bit_0 x0 x1 σ)
  | _ => none
theorem ox_X11_bit : ∃ f, f = P_X11_bit := ⟨_, rfl⟩
noncomputable def O_X11_bit : List en_V → en_M → Option (Int32 × en_M) := Classical.choose ox_X11_bit
theorem oe_X11_bit : O_X11_bit = P_X11_bit := Classical.choose_spec ox_X11_bit
theorem o_X11_bit (x0 : Int32) (x1 : Int32) (σ : en_M) : O_X11_bit [.inl x0, .inl x1] σ = en_oi (T_X11_bit_0 x0 x1 σ) := by rw [oe_X11_bit]; rfl
theorem i_X11_bit (G : en_G) (hst : G.2.2.2.2.2 = true) : en_I G 1 yX11_bit cX11_bit 2 (some .int) 0 0 (en_wi (O_X11_bit)) := en_of_i (M := M_X11_bit) hst (s_X11_bit_0 G hst _ (l_X11_bit G hst en_FU)) (plainFor_of_name (by decide +kernel)) rfl rfl rfl (Or.inl ⟨rfl, rfl⟩) (fun av σ x σ' h => by
  rw [oe_X11_bit] at h; unfold P_X11_bit at h
  split at h
  · exact ⟨(Nat.le_of_ble_eq_true rfl), en_oi_some h⟩
  · cases h)
-- EachMayMissOne$State.tiredOf(I)I
def M_X7_tiredOf : en_Me := (cX7_tiredOf, RX7, 4, false, 2, false)
theorem cs_X7_tiredOf : en_cs yX7_tiredOf cX7_tiredOf 4 (some .int) 1 := ⟨wm_1049, wm_21, ⟨(by decide +kernel), (by decide +kernel), (by decide +kernel)⟩, (Nat.le_of_ble_eq_true rfl)⟩
noncomputable def B_X7_tiredOf_31 (kc : Nat → en_B) : en_B := (op_iload 2 op_iret)
set_option maxRecDepth 20000 in
theorem s_X7_tiredOf_31 (G : en_G) (hst : G.2.2.2.2.2 = true) (kc : Nat → en_B) (hk : ∀ t, en_Snd G M_X7_tiredOf t (kc t)) : en_Snd G M_X7_tiredOf 31 (B_X7_tiredOf_31 kc) := (sn_iload_n (i := 2) (n := 2) (by decide +kernel) rfl (sn_iret (by decide +kernel) rfl))
noncomputable def B_X7_tiredOf_4 (kc : Nat → en_B) : en_B := (op_iload 3 (op_const (7 : Int32) (op_iclt (op_iload 2 (op_iload 1 (op_iload 3 (op_calli O_X11_bit 2 (op_aload 0 (op_gets 7 1 (20, 7, 0) (op_iload 3 (op_ald 20 (op_bin (fun (x y : Int32) => x * y) (op_bin (fun (x y : Int32) => x + y) (op_istore 2 (op_iinc 3 (1 : Int32) (kc 4))))))))))))) (B_X7_tiredOf_31 kc))))
set_option maxRecDepth 20000 in
theorem s_X7_tiredOf_4 (G : en_G) (hst : G.2.2.2.2.2 = true) (kc : Nat → en_B) (hk : ∀ t, en_Snd G M_X7_tiredOf t (kc t)) : en_Snd G M_X7_tiredOf 4 (B_X7_tiredOf_4 kc) := (sn_iload_n (i := 3) (n := 3) (by decide +kernel) rfl (sn_bipush (n := 7) (v := 7) (by decide +kernel) rfl (sn_icge (off := 24) (tgt := 31) (by decide +kernel) rfl (s_X7_tiredOf_31 G hst kc hk) (sn_iload_n (i := 2) (n := 2) (by decide +kernel) rfl (sn_iload_n (i := 1) (n := 1) (by decide +kernel) rfl (sn_iload_n (i := 3) (n := 3) (by decide +kernel) rfl (sn_callSi (n := 2) (idx := 65) (i_X11_bit G hst) (Nat.le_of_ble_eq_true rfl) cs_X11_bit ⟨wm_257, Or.inr (by decide +kernel)⟩ (by decide +kernel) (sn_aload_n (i := 0) (n := 0) (by decide +kernel) rfl (sn_gets (ci := 7) (j := 0) (off := 1) hst en_c7 of_7_1 (Nat.le_of_ble_eq_true rfl) (by decide +kernel) wm_1026 (Nat.le_of_ble_eq_true rfl) rfl (sn_iload_n (i := 3) (n := 3) (by decide +kernel) rfl (sn_iald (by decide +kernel) (sn_imul (by decide +kernel) (sn_iadd (by decide +kernel) (sn_istore_n (i := 2) (n := 2) (by decide +kernel) rfl (Nat.le_of_ble_eq_true rfl) (sn_iinc (i := 3) (n := 1) (v := 1) (by decide +kernel) rfl (sn_goto (off := -24) (tgt := 4) (by decide +kernel) rfl (hk 4)))))))))))))))))
noncomputable def B_X7_tiredOf_0 (kc : Nat → en_B) : en_B := (op_const (0 : Int32) (op_istore 2 (op_const (0 : Int32) (op_istore 3 (kc 4)))))
set_option maxRecDepth 20000 in
theorem s_X7_tiredOf_0 (G : en_G) (hst : G.2.2.2.2.2 = true) (kc : Nat → en_B) (hk : ∀ t, en_Snd G M_X7_tiredOf t (kc t)) : en_Snd G M_X7_tiredOf 0 (B_X7_tiredOf_0 kc) := (sn_iconst (n := 0) (v := 0) (by decide +kernel) rfl (sn_istore_n (i := 2) (n := 2) (by decide +kernel) rfl (Nat.le_of_ble_eq_true rfl) (sn_iconst (n := 0) (v := 0) (by decide +kernel) rfl (sn_istore_n (i := 3) (n := 3) (by decide +kernel) rfl (Nat.le_of_ble_eq_true rfl) (hk 4)))))
noncomputable def LK_X7_tiredOf : Nat → Nat → en_B
  | 0, _ => en_no
  | n + 1, t => if t = 4 then B_X7_tiredOf_4 (LK_X7_tiredOf n) else en_no
theorem l_X7_tiredOf (G : en_G) (hst : G.2.2.2.2.2 = true) : ∀ n t, en_Snd G M_X7_tiredOf t (LK_X7_tiredOf n t)
  | 0, _ => sn_no
  | n + 1, t => by
    show en_Snd G M_X7_tiredOf t (if t = 4 then B_X7_tiredOf_4 (LK_X7_tiredOf n) else en_no)
    by_cases h_4 : t = 4
    · rw [if_pos h_4, h_4]; exact s_X7_tiredOf_4 G hst _ (l_X7_tiredOf G hst n)
    rw [if_neg h_4]
    exact sn_no
noncomputable def T_X7_tiredOf_0 (k0 : Nat) (x1 : Int32) (σ : en_M) : en_R := B_X7_tiredOf_0 (LK_X7_tiredOf en_FU) [.inr (k0, 7, 0, 0), .inl x1, en_un, en_un] [] en_zz σ
noncomputable def T_X7_tiredOf_4 (n : Nat) (k0 : Nat) (x1 : Int32) (x2 : Int32) (x3 : Int32) (σ : en_M) : en_R := LK_X7_tiredOf n 4 [.inr (k0, 7, 0, 0), .inl x1, .inl x2, .inl x3] [] en_zz σ
set_option maxRecDepth 400000 in
set_option maxHeartbeats 4000000 in
theorem t_X7_tiredOf_0 (k0 : Nat) (x1 : Int32) (σ : en_M) : T_X7_tiredOf_0 k0 x1 σ = (T_X7_tiredOf_4 en_FU k0 x1 (0 : Int32) (0 : Int32) σ) := rfl
set_option maxRecDepth 400000 in
set_option maxHeartbeats 4000000 in
theorem t_X7_tiredOf_4 (n : Nat) (k0 : Nat) (x1 : Int32) (x2 : Int32) (x3 : Int32) (σ : en_M) : T_X7_tiredOf_4 (n + 1) k0 x1 x2 x3 σ = (if x3 < (7 : Int32) then ((O_X11_bit [.inl x1, .inl x3] σ).bind fun r1 => (en_ix x3 7).bind fun j2 => T_X7_tiredOf_4 n k0 x1 (x2 + (r1.1 * (r1.2 (k0 + 1) j2))) (x3 + (1 : Int32)) r1.2) else (en_ri x2 σ)) := rfl
noncomputable def P_X7_tiredOf : List en_V → en_M → Option (Int32 × en_M) := fun av σ => match av with
  | [.inr (k0, 7, 0, 0), .inl x1] => en_oi (T_X7_tiredOf_0 k0 x1 σ)
  | _ => none
theorem ox_X7_tiredOf : ∃ f, f = P_X7_tiredOf := ⟨_, rfl⟩
noncomputable def O_X7_tiredOf : List en_V → en_M → Option (Int32 × en_M) := Classical.choose ox_X7_tiredOf
theorem oe_X7_tiredOf : O_X7_tiredOf = P_X7_tiredOf := Classical.choose_spec ox_X7_tiredOf
theorem o_X7_tiredOf (k0 : Nat) (x1 : Int32) (σ : en_M) : O_X7_tiredOf [.inr (k0, 7, 0, 0), .inl x1] σ = en_oi (T_X7_tiredOf_0 k0 x1 σ) := by rw [oe_X7_tiredOf]; rfl
theorem i_X7_tiredOf (G : en_G) (hst : G.2.2.2.2.2 = true) : en_I G 2 yX7_tiredOf cX7_tiredOf 4 (some .int) 0 0 (en_wi (O_X7_tiredOf)) := en_of_i (M := M_X7_tiredOf) hst (s_X7_tiredOf_0 G hst _ (l_X7_tiredOf G hst en_FU)) (plainFor_of_name (by decide +kernel)) rfl rfl rfl (Or.inl ⟨rfl, rfl⟩) (fun av σ x σ' h => by
  rw [oe_X7_tiredOf] at h; unfold P_X7_tiredOf at h
  split at h
  · exact ⟨(Nat.le_of_ble_eq_true rfl), en_oi_some h⟩
  · cases h)
-- EachMayMissOne$State.knows(I)Z
def M_X7_knows : en_Me := (cX7_knows, RX7, 2, false, 1, true)
theorem cs_X7_knows : en_cs yX7_knows cX7_knows 2 (some .boolean) 1 := ⟨wm_1053, wm_21, ⟨(by decide +kernel), (by decide +kernel), (by decide +kernel)⟩, (Nat.le_of_ble_eq_true rfl)⟩
noncomputable def B_X7_knows_24 (kc : Nat → en_B) : en_B := op_zret
set_option maxRecDepth 20000 in
theorem s_X7_knows_24 (G : en_G) (hst : G.2.2.2.2.2 = true) (kc : Nat → en_B) (hk : ∀ t, en_Snd G M_X7_knows t (kc t)) : en_Snd G M_X7_knows 24 (B_X7_knows_24 kc) := (sn_zret (by decide +kernel))
noncomputable def B_X7_knows_23 (kc : Nat → en_B) : en_B := (op_const (0 : Int32) (B_X7_knows_24 kc))
set_option maxRecDepth 20000 in
theorem s_X7_knows_23 (G : en_G) (hst : G.2.2.2.2.2 = true) (kc : Nat → en_B) (hk : ∀ t, en_Snd G M_X7_knows t (kc t)) : en_Snd G M_X7_knows 23 (B_X7_knows_23 kc) := (sn_iconst (n := 0) (v := 0) (by decide +kernel) rfl (s_X7_knows_24 G hst kc hk))
noncomputable def B_X7_knows_0 (kc : Nat → en_B) : en_B := (op_iload 1 (op_const (1 : Int32) (op_iclt (B_X7_knows_23 kc) (op_iload 1 (op_const (20 : Int32) (op_icgt (B_X7_knows_23 kc) (op_iload 1 (op_aload 0 (op_geti 7 5 (op_icgt (B_X7_knows_23 kc) (op_const (1 : Int32) (B_X7_knows_24 kc))))))))))))
set_option maxRecDepth 20000 in
theorem s_X7_knows_0 (G : en_G) (hst : G.2.2.2.2.2 = true) (kc : Nat → en_B) (hk : ∀ t, en_Snd G M_X7_knows t (kc t)) : en_Snd G M_X7_knows 0 (B_X7_knows_0 kc) := (sn_iload_n (i := 1) (n := 1) (by decide +kernel) rfl (sn_iconst (n := 1) (v := 1) (by decide +kernel) rfl (sn_iclt (off := 21) (tgt := 23) (by decide +kernel) rfl (s_X7_knows_23 G hst kc hk) (sn_iload_n (i := 1) (n := 1) (by decide +kernel) rfl (sn_bipush (n := 20) (v := 20) (by decide +kernel) rfl (sn_icgt (off := 15) (tgt := 23) (by decide +kernel) rfl (s_X7_knows_23 G hst kc hk) (sn_iload_n (i := 1) (n := 1) (by decide +kernel) rfl (sn_aload_n (i := 0) (n := 0) (by decide +kernel) rfl (sn_geti (ci := 7) (j := 5) en_c7 (by decide +kernel) wm_1036 (Nat.le_of_ble_eq_true rfl) rfl (sn_icgt (off := 7) (tgt := 23) (by decide +kernel) rfl (s_X7_knows_23 G hst kc hk) (sn_iconst (n := 1) (v := 1) (by decide +kernel) rfl (sn_goto (off := 4) (tgt := 24) (by decide +kernel) rfl (s_X7_knows_24 G hst kc hk)))))))))))))
noncomputable def LK_X7_knows : Nat → Nat → en_B
  | 0, _ => en_no
  | n + 1, t => en_no
theorem l_X7_knows (G : en_G) (hst : G.2.2.2.2.2 = true) : ∀ n t, en_Snd G M_X7_knows t (LK_X7_knows n t)
  | 0, _ => sn_no
  | n + 1, t => by
    show en_Snd G M_X7_knows t (en_no)
    exact sn_no
noncomputable def T_X7_knows_0 (k0 : Nat) (x1 : Int32) (σ : en_M) : en_R := B_X7_knows_0 (LK_X7_knows en_FU) [.inr (k0, 7, 0, 0), .inl x1] [] en_zz σ
set_option maxRecDepth 400000 in
set_option maxHeartbeats 4000000 in
theorem t_X7_knows_0 (k0 : Nat) (x1 : Int32) (σ : en_M) : T_X7_knows_0 k0 x1 σ = (if x1 < (1 : Int32) then (if (0 : Int32) = 0 ∨ (0 : Int32) = 1 then en_ri (0 : Int32) σ else none) else (if (20 : Int32) < x1 then (if (0 : Int32) = 0 ∨ (0 : Int32) = 1 then en_ri (0 : Int32) σ else none) else (if (σ k0 5) < x1 then (if (0 : Int32) = 0 ∨ (0 : Int32) = 1 then en_ri (0 : Int32) σ else none) else (if (1 : Int32) = 0 ∨ (1 : Int32) = 1 then en_ri (1 : Int32) σ else none)))) := rfl
noncomputable def P_X7_knows : List en_V → en_M → Option (Int32 × en_M) := fun av σ => match av with
  | [.inr (k0, 7, 0, 0), .inl x1] => en_oi (T_X7_knows_0 k0 x1 σ)
  | _ => none
theorem ox_X7_knows : ∃ f, f = P_X7_knows := ⟨_, rfl⟩
noncomputable def O_X7_knows : List en_V → en_M → Option (Int32 × en_M) := Classical.choose ox_X7_knows
theorem oe_X7_knows : O_X7_knows = P_X7_knows := Classical.choose_spec ox_X7_knows
theorem o_X7_knows (k0 : Nat) (x1 : Int32) (σ : en_M) : O_X7_knows [.inr (k0, 7, 0, 0), .inl x1] σ = en_oi (T_X7_knows_0 k0 x1 σ) := by rw [oe_X7_knows]; rfl
theorem i_X7_knows (G : en_G) (hst : G.2.2.2.2.2 = true) : en_I G 1 yX7_knows cX7_knows 2 (some .boolean) 0 0 (en_wi (O_X7_knows)) := en_of_i (M := M_X7_knows) hst (s_X7_knows_0 G hst _ (l_X7_knows G hst en_FU)) (plainFor_of_name (by decide +kernel)) rfl rfl rfl (Or.inr ⟨Or.inl rfl, rfl⟩) (fun av σ x σ' h => by
  rw [oe_X7_knows] at h; unfold P_X7_knows at h
  split at h
  · exact ⟨(Nat.le_of_ble_eq_true rfl), en_oi_some h⟩
  · cases h)
-- java/lang/Math.floorMod(II)I
def M_J9_floorMod_7cf53 : en_Me := (cJ9_floorMod_7cf53, RJ9, 3, false, 1, false)
theorem cs_J9_floorMod_7cf53 : en_cs yJ9_floorMod_7cf53 cJ9_floorMod_7cf53 3 (some .int) 2 := ⟨wm_750, wm_264, ⟨(by decide +kernel), (by decide +kernel), (by decide +kernel)⟩, (Nat.le_of_ble_eq_true rfl)⟩
noncomputable def B_J9_floorMod_7cf53_18 (kc : Nat → en_B) : en_B := (op_iload 2 op_iret)
set_option maxRecDepth 20000 in
theorem s_J9_floorMod_7cf53_18 (G : en_G) (hst : G.2.2.2.2.2 = true) (kc : Nat → en_B) (hk : ∀ t, en_Snd G M_J9_floorMod_7cf53 t (kc t)) : en_Snd G M_J9_floorMod_7cf53 18 (B_J9_floorMod_7cf53_18 kc) := (sn_iload_n (i := 2) (n := 2) (by decide +kernel) rfl (sn_iret (by decide +kernel) rfl))
noncomputable def B_J9_floorMod_7cf53_0 (kc : Nat → en_B) : en_B := (op_iload 0 (op_iload 1 (op_div (fun (x y : Int32) => x - x / y * y) (op_istore 2 (op_iload 0 (op_iload 1 (op_bin (fun (x y : Int32) => x ^^^ y) (op_iflt (op_iload 2 (op_ifeq (B_J9_floorMod_7cf53_18 kc) (op_iload 2 (op_iload 1 (op_bin (fun (x y : Int32) => x + y) op_iret))))) (B_J9_floorMod_7cf53_18 kc)))))))))
set_option maxRecDepth 20000 in
theorem s_J9_floorMod_7cf53_0 (G : en_G) (hst : G.2.2.2.2.2 = true) (kc : Nat → en_B) (hk : ∀ t, en_Snd G M_J9_floorMod_7cf53 t (kc t)) : en_Snd G M_J9_floorMod_7cf53 0 (B_J9_floorMod_7cf53_0 kc) := (sn_iload_n (i := 0) (n := 0) (by decide +kernel) rfl (sn_iload_n (i := 1) (n := 1) (by decide +kernel) rfl (sn_irem (by decide +kernel) (sn_istore_n (i := 2) (n := 2) (by decide +kernel) rfl (Nat.le_of_ble_eq_true rfl) (sn_iload_n (i := 0) (n := 0) (by decide +kernel) rfl (sn_iload_n (i := 1) (n := 1) (by decide +kernel) rfl (sn_ixor (by decide +kernel) (sn_ifge (off := 11) (tgt := 18) (by decide +kernel) rfl (s_J9_floorMod_7cf53_18 G hst kc hk) (sn_iload_n (i := 2) (n := 2) (by decide +kernel) rfl (sn_ifeq (off := 7) (tgt := 18) (by decide +kernel) rfl (s_J9_floorMod_7cf53_18 G hst kc hk) (sn_iload_n (i := 2) (n := 2) (by decide +kernel) rfl (sn_iload_n (i := 1) (n := 1) (by decide +kernel) rfl (sn_iadd (by decide +kernel) (sn_iret (by decide +kernel) rfl))))))))))))))
noncomputable def LK_J9_floorMod_7cf53 : Nat → Nat → en_B
  | 0, _ => en_no
  | n + 1, t => en_no
theorem l_J9_floorMod_7cf53 (G : en_G) (hst : G.2.2.2.2.2 = true) : ∀ n t, en_Snd G M_J9_floorMod_7cf53 t (LK_J9_floorMod_7cf53 n t)
  | 0, _ => sn_no
  | n + 1, t => by
    show en_Snd G M_J9_floorMod_7cf53 t (en_no)
    exact sn_no
noncomputable def T_J9_floorMod_7cf53_0 (x0 : Int32) (x1 : Int32) (σ : en_M) : en_R := B_J9_floorMod_7cf53_0 (LK_J9_floorMod_7cf53 en_FU) [.inl x0, .inl x1, en_un] [] en_zz σ
set_option maxRecDepth 400000 in
set_option maxHeartbeats 4000000 in
theorem t_J9_floorMod_7cf53_0 (x0 : Int32) (x1 : Int32) (σ : en_M) : T_J9_floorMod_7cf53_0 x0 x1 σ = (if x1 = 0 then none else (if (x0 ^^^ x1) < 0 then (if (x0 - x0 / x1 * x1) = 0 then (en_ri (x0 - x0 / x1 * x1) σ) else (en_ri ((x0 - x0 / x1 * x1) + x1) σ)) else (en_ri (x0 - x0 / x1 * x1) σ))) := rfl
noncomputable def P_J9_floorMod_7cf53 : List en_V → en_M → Option (Int32 × en_M) := fun av σ => match av with
  | [.inl x0, .inl x1] => en_oi (T_J9_floorMod_7cf53_0 x0 x1 σ)
  | _ => none
theorem ox_J9_floorMod_7cf53 : ∃ f, f = P_J9_floorMod_7cf53 := ⟨_, rfl⟩
noncomputable def O_J9_floorMod_7cf53 : List en_V → en_M → Option (Int32 × en_M) := Classical.choose ox_J9_floorMod_7cf53
theorem oe_J9_floorMod_7cf53 : O_J9_floorMod_7cf53 = P_J9_floorMod_7cf53 := Classical.choose_spec ox_J9_floorMod_7cf53
theorem o_J9_floorMod_7cf53 (x0 : Int32) (x1 : Int32) (σ : en_M) : O_J9_floorMod_7cf53 [.inl x0, .inl x1] σ = en_oi (T_J9_floorMod_7cf53_0 x0 x1 σ) := by rw [oe_J9_floorMod_7cf53]; rfl
theorem i_J9_floorMod_7cf53 (G : en_G) (hst : G.2.2.2.2.2 = true) : en_I G 1 yJ9_floorMod_7cf53 cJ9_floorMod_7cf53 3 (some .int) 0 0 (en_wi (O_J9_floorMod_7cf53)) := en_of_i (M := M_J9_floorMod_7cf53) hst (s_J9_floorMod_7cf53_0 G hst _ (l_J9_floorMod_7cf53 G hst en_FU)) (by decide +kernel) rfl rfl rfl (Or.inl ⟨rfl, rfl⟩) (fun av σ x σ' h => by
  rw [oe_J9_floorMod_7cf53] at h; unfold P_J9_floorMod_7cf53 at h
  split at h
  · exact ⟨(Nat.le_of_ble_eq_true rfl), en_oi_some h⟩
  · cases h)
-- EachMayMissOne$State.missedIn(I)I
def M_X7_missedIn : en_Me := (cX7_missedIn, RX7, 2, false, 2, false)
theorem cs_X7_missedIn : en_cs yX7_missedIn cX7_missedIn 2 (some .int) 1 := ⟨wm_1056, wm_21, ⟨(by decide +kernel), (by decide +kernel), (by decide +kernel)⟩, (Nat.le_of_ble_eq_true rfl)⟩
noncomputable def B_X7_missedIn_28 (kc : Nat → en_B) : en_B := op_iret
set_option maxRecDepth 20000 in
theorem s_X7_missedIn_28 (G : en_G) (hst : G.2.2.2.2.2 = true) (kc : Nat → en_B) (hk : ∀ t, en_Snd G M_X7_missedIn t (kc t)) : en_Snd G M_X7_missedIn 28 (B_X7_missedIn_28 kc) := (sn_iret (by decide +kernel) rfl)
noncomputable def B_X7_missedIn_27 (kc : Nat → en_B) : en_B := (op_const (0 : Int32) (B_X7_missedIn_28 kc))
set_option maxRecDepth 20000 in
theorem s_X7_missedIn_27 (G : en_G) (hst : G.2.2.2.2.2 = true) (kc : Nat → en_B) (hk : ∀ t, en_Snd G M_X7_missedIn t (kc t)) : en_Snd G M_X7_missedIn 27 (B_X7_missedIn_27 kc) := (sn_iconst (n := 0) (v := 0) (by decide +kernel) rfl (s_X7_missedIn_28 G hst kc hk))
noncomputable def B_X7_missedIn_0 (kc : Nat → en_B) : en_B := (op_aload 0 (op_iload 1 (op_rcv 7 1 (op_calli O_X7_knows 2 (op_ifeq (B_X7_missedIn_27 kc) (op_aload 0 (op_gets 7 4 (20, 20, 0) (op_aload 0 (op_geti 7 5 (op_iload 1 (op_bin (fun (x y : Int32) => x - y) (op_const (20 : Int32) (op_calli O_J9_floorMod_7cf53 2 (op_ald 20 (B_X7_missedIn_28 kc)))))))))))))))
set_option maxRecDepth 20000 in
theorem s_X7_missedIn_0 (G : en_G) (hst : G.2.2.2.2.2 = true) (kc : Nat → en_B) (hk : ∀ t, en_Snd G M_X7_missedIn t (kc t)) : en_Snd G M_X7_missedIn 0 (B_X7_missedIn_0 kc) := (sn_aload_n (i := 0) (n := 0) (by decide +kernel) rfl (sn_iload_n (i := 1) (n := 1) (by decide +kernel) rfl (sn_callVi (n := 1) (idx := 68) (ci := 7) (i_X7_knows G hst) (Nat.le_of_ble_eq_true rfl) cs_X7_knows ⟨wm_1054, wm_1055, wm_1059⟩ ⟨⟨_, rfl, rfl⟩, (Nat.le_of_ble_eq_true rfl)⟩ (by decide +kernel) (sn_ifeq (off := 22) (tgt := 27) (by decide +kernel) rfl (s_X7_missedIn_27 G hst kc hk) (sn_aload_n (i := 0) (n := 0) (by decide +kernel) rfl (sn_gets (ci := 7) (j := 3) (off := 4) hst en_c7 of_7_4 (Nat.le_of_ble_eq_true rfl) (by decide +kernel) wm_1029 (Nat.le_of_ble_eq_true rfl) rfl (sn_aload_n (i := 0) (n := 0) (by decide +kernel) rfl (sn_geti (ci := 7) (j := 5) en_c7 (by decide +kernel) wm_1036 (Nat.le_of_ble_eq_true rfl) rfl (sn_iload_n (i := 1) (n := 1) (by decide +kernel) rfl (sn_isub (by decide +kernel) (sn_bipush (n := 20) (v := 20) (by decide +kernel) rfl (sn_callSi (n := 2) (idx := 72) (i_J9_floorMod_7cf53 G hst) (Nat.le_of_ble_eq_true rfl) cs_J9_floorMod_7cf53 ⟨wm_751, Or.inl wm_1060⟩ (by decide +kernel) (sn_iald (by decide +kernel) (sn_goto (off := 4) (tgt := 28) (by decide +kernel) rfl (s_X7_missedIn_28 G hst kc hk)))))))))))))))
noncomputable def LK_X7_missedIn : Nat → Nat → en_B
  | 0, _ => en_no
  | n + 1, t => en_no
theorem l_X7_missedIn (G : en_G) (hst : G.2.2.2.2.2 = true) : ∀ n t, en_Snd G M_X7_missedIn t (LK_X7_missedIn n t)
  | 0, _ => sn_no
  | n + 1, t => by
    show en_Snd G M_X7_missedIn t (en_no)
    exact sn_no
noncomputable def T_X7_missedIn_0 (k0 : Nat) (x1 : Int32) (σ : en_M) : en_R := B_X7_missedIn_0 (LK_X7_missedIn en_FU) [.inr (k0, 7, 0, 0), .inl x1] [] en_zz σ
set_option maxRecDepth 400000 in
set_option maxHeartbeats 4000000 in
theorem t_X7_missedIn_0 (k0 : Nat) (x1 : Int32) (σ : en_M) : T_X7_missedIn_0 k0 x1 σ = ((O_X7_knows [.inr (k0, 7, 0, 0), .inl x1] σ).bind fun r1 => if r1.1 = 0 then (en_ri (0 : Int32) r1.2) else ((O_J9_floorMod_7cf53 [.inl ((r1.2 k0 5) - x1), .inl (20 : Int32)] r1.2).bind fun r2 => (en_ix r2.1 20).bind fun j3 => en_ri (r2.2 (k0 + 4) j3) r2.2)) := rfl
noncomputable def P_X7_missedIn : List en_V → en_M → Option (Int32 × en_M) := fun av σ => match av with
  | [.inr (k0, 7, 0, 0), .inl x1] => en_oi (T_X7_missedIn_0 k0 x1 σ)
  | _ => none
theorem ox_X7_missedIn : ∃ f, f = P_X7_missedIn := ⟨_, rfl⟩
noncomputable def O_X7_missedIn : List en_V → en_M → Option (Int32 × en_M) := Classical.choose ox_X7_missedIn
theorem oe_X7_missedIn : O_X7_missedIn = P_X7_missedIn := Classical.choose_spec ox_X7_missedIn
theorem o_X7_missedIn (k0 : Nat) (x1 : Int32) (σ : en_M) : O_X7_missedIn [.inr (k0, 7, 0, 0), .inl x1] σ = en_oi (T_X7_missedIn_0 k0 x1 σ) := by rw [oe_X7_missedIn]; rfl
theorem i_X7_missedIn (G : en_G) (hst : G.2.2.2.2.2 = true) : en_I G 2 yX7_missedIn cX7_missedIn 2 (some .int) 0 0 (en_wi (O_X7_missedIn)) := en_of_i (M := M_X7_missedIn) hst (s_X7_missedIn_0 G hst _ (l_X7_missedIn G hst en_FU)) (plainFor_of_name (by decide +kernel)) rfl rfl rfl (Or.inl ⟨rfl, rfl⟩) (fun av σ x σ' h => by
  rw [oe_X7_missedIn] at h; unfold P_X7_missedIn at h
  split at h
  · exact ⟨(Nat.le_of_ble_eq_true rfl), en_oi_some h⟩
  · cases h)
-- EachMayMissOne$State.goOn(III)V
def M_X7_goOn : en_Me := (cX7_goOn, RX7, 4, false, 2, false)
theorem cs_X7_goOn : en_cs yX7_goOn cX7_goOn 4 none 3 := ⟨wm_1061, wm_21, ⟨(by decide +kernel), (by decide +kernel), (by decide +kernel)⟩, (Nat.le_of_ble_eq_true rfl)⟩
noncomputable def B_X7_goOn_0 (kc : Nat → en_B) : en_B := (op_aload 0 (op_gets 7 4 (20, 20, 0) (op_aload 0 (op_geti 7 5 (op_const (20 : Int32) (op_calli O_J9_floorMod_7cf53 2 (op_iload 1 (op_ast 20 (fun (x : Int32) => x) (op_aload 0 (op_iload 1 (op_puti 7 7 (op_aload 0 (op_iload 2 (op_puti 7 8 (op_aload 0 (op_iload 3 (op_puti 7 4 (op_aload 0 (op_dup (op_geti 7 5 (op_const (1 : Int32) (op_bin (fun (x y : Int32) => x + y) (op_puti 7 5 op_vret)))))))))))))))))))))))
set_option maxRecDepth 20000 in
theorem s_X7_goOn_0 (G : en_G) (hst : G.2.2.2.2.2 = true) (kc : Nat → en_B) (hk : ∀ t, en_Snd G M_X7_goOn t (kc t)) : en_Snd G M_X7_goOn 0 (B_X7_goOn_0 kc) := (sn_aload_n (i := 0) (n := 0) (by decide +kernel) rfl (sn_gets (ci := 7) (j := 3) (off := 4) hst en_c7 of_7_4 (Nat.le_of_ble_eq_true rfl) (by decide +kernel) wm_1029 (Nat.le_of_ble_eq_true rfl) rfl (sn_aload_n (i := 0) (n := 0) (by decide +kernel) rfl (sn_geti (ci := 7) (j := 5) en_c7 (by decide +kernel) wm_1036 (Nat.le_of_ble_eq_true rfl) rfl (sn_bipush (n := 20) (v := 20) (by decide +kernel) rfl (sn_callSi (n := 2) (idx := 72) (i_J9_floorMod_7cf53 G hst) (Nat.le_of_ble_eq_true rfl) cs_J9_floorMod_7cf53 ⟨wm_751, Or.inl wm_1060⟩ (by decide +kernel) (sn_iload_n (i := 1) (n := 1) (by decide +kernel) rfl (sn_iast (by decide +kernel) (sn_aload_n (i := 0) (n := 0) (by decide +kernel) rfl (sn_iload_n (i := 1) (n := 1) (by decide +kernel) rfl (sn_puti (ci := 7) (j := 7) en_c7 (by decide +kernel) wm_1038 (Nat.le_of_ble_eq_true rfl) rfl rfl rfl (sn_aload_n (i := 0) (n := 0) (by decide +kernel) rfl (sn_iload_n (i := 2) (n := 2) (by decide +kernel) rfl (sn_puti (ci := 7) (j := 8) en_c7 (by decide +kernel) wm_1039 (Nat.le_of_ble_eq_true rfl) rfl rfl rfl (sn_aload_n (i := 0) (n := 0) (by decide +kernel) rfl (sn_iload_n (i := 3) (n := 3) (by decide +kernel) rfl (sn_puti (ci := 7) (j := 4) en_c7 (by decide +kernel) wm_1031 (Nat.le_of_ble_eq_true rfl) rfl rfl rfl (sn_aload_n (i := 0) (n := 0) (by decide +kernel) rfl (sn_dup (by decide +kernel) (sn_geti (ci := 7) (j := 5) en_c7 (by decide +kernel) wm_1036 (Nat.le_of_ble_eq_true rfl) rfl (sn_iconst (n := 1) (v := 1) (by decide +kernel) rfl (sn_iadd (by decide +kernel) (sn_puti (ci := 7) (j := 5) en_c7 (by decide +kernel) wm_1036 (Nat.le_of_ble_eq_true rfl) rfl rfl rfl (sn_vret (by decide +kernel)))))))))))))))))))))))))
noncomputable def LK_X7_goOn : Nat → Nat → en_B
  | 0, _ => en_no
  | n + 1, t => en_no
theorem l_X7_goOn (G : en_G) (hst : G.2.2.2.2.2 = true) : ∀ n t, en_Snd G M_X7_goOn t (LK_X7_goOn n t)
  | 0, _ => sn_no
  | n + 1, t => by
    show en_Snd G M_X7_goOn t (en_no)
    exact sn_no
noncomputable def T_X7_goOn_0 (k0 : Nat) (x1 : Int32) (x2 : Int32) (x3 : Int32) (σ : en_M) : en_R := B_X7_goOn_0 (LK_X7_goOn en_FU) [.inr (k0, 7, 0, 0), .inl x1, .inl x2, .inl x3] [] en_zz σ
set_option maxRecDepth 400000 in
set_option maxHeartbeats 4000000 in
theorem t_X7_goOn_0 (k0 : Nat) (x1 : Int32) (x2 : Int32) (x3 : Int32) (σ : en_M) : T_X7_goOn_0 k0 x1 x2 x3 σ = ((O_J9_floorMod_7cf53 [.inl (σ k0 5), .inl (20 : Int32)] σ).bind fun r1 => (en_ix r1.1 20).bind fun j2 => en_rv (en_up (en_up (en_up (en_up (en_up r1.2 (k0 + 4) j2 x1) k0 7 x1) k0 8 x2) k0 4 x3) k0 5 (((en_up (en_up (en_up (en_up r1.2 (k0 + 4) j2 x1) k0 7 x1) k0 8 x2) k0 4 x3) k0 5) + (1 : Int32)))) := rfl
noncomputable def P_X7_goOn : List en_V → en_M → Option en_M := fun av σ => match av with
  | [.inr (k0, 7, 0, 0), .inl x1, .inl x2, .inl x3] => en_ov (T_X7_goOn_0 k0 x1 x2 x3 σ)
  | _ => none
theorem ox_X7_goOn : ∃ f, f = P_X7_goOn := ⟨_, rfl⟩
noncomputable def O_X7_goOn : List en_V → en_M → Option en_M := Classical.choose ox_X7_goOn
theorem oe_X7_goOn : O_X7_goOn = P_X7_goOn := Classical.choose_spec ox_X7_goOn
theorem o_X7_goOn (k0 : Nat) (x1 : Int32) (x2 : Int32) (x3 : Int32) (σ : en_M) : O_X7_goOn [.inr (k0, 7, 0, 0), .inl x1, .inl x2, .inl x3] σ = en_ov (T_X7_goOn_0 k0 x1 x2 x3 σ) := by rw [oe_X7_goOn]; rfl
theorem i_X7_goOn (G : en_G) (hst : G.2.2.2.2.2 = true) : en_I G 2 yX7_goOn cX7_goOn 4 none 0 0 (en_wv (O_X7_goOn)) := en_of_v (M := M_X7_goOn) hst (s_X7_goOn_0 G hst _ (l_X7_goOn G hst en_FU)) (plainFor_of_name (by decide +kernel)) rfl rfl rfl (fun av σ σ' h => by
  rw [oe_X7_goOn] at h; unfold P_X7_goOn at h
  split at h
  · exact ⟨(Nat.le_of_ble_eq_true rfl), en_ov_some h⟩
  · cases h)
-- EachMayMissOne$Changes.useX()V
def M_X0_useX : en_Me := (cX0_useX, RX0, 1, false, 1, false)
theorem cs_X0_useX : en_cs yX0_useX cX0_useX 1 none 0 := ⟨wm_744, wm_723, ⟨(by decide +kernel), (by decide +kernel), (by decide +kernel)⟩, (Nat.le_of_ble_eq_true rfl)⟩
noncomputable def B_X0_useX_0 (kc : Nat → en_B) : en_B := (op_aload 0 (op_gets 0 1 (20, 20, 0) (op_const (0 : Int32) (op_const (0 : Int32) (op_ast 20 (fun (x : Int32) => x) (op_aload 0 (op_const (1 : Int32) (op_puti 0 2 op_vret))))))))
set_option maxRecDepth 20000 in
theorem s_X0_useX_0 (G : en_G) (hst : G.2.2.2.2.2 = true) (kc : Nat → en_B) (hk : ∀ t, en_Snd G M_X0_useX t (kc t)) : en_Snd G M_X0_useX 0 (B_X0_useX_0 kc) := (sn_aload_n (i := 0) (n := 0) (by decide +kernel) rfl (sn_gets (ci := 0) (j := 0) (off := 1) hst en_c0 of_0_1 (Nat.le_of_ble_eq_true rfl) (by decide +kernel) wm_725 (Nat.le_of_ble_eq_true rfl) rfl (sn_iconst (n := 0) (v := 0) (by decide +kernel) rfl (sn_iconst (n := 0) (v := 0) (by decide +kernel) rfl (sn_iast (by decide +kernel) (sn_aload_n (i := 0) (n := 0) (by decide +kernel) rfl (sn_iconst (n := 1) (v := 1) (by decide +kernel) rfl (sn_puti (ci := 0) (j := 2) en_c0 (by decide +kernel) wm_727 (Nat.le_of_ble_eq_true rfl) rfl rfl rfl (sn_vret (by decide +kernel))))))))))
noncomputable def LK_X0_useX : Nat → Nat → en_B
  | 0, _ => en_no
  | n + 1, t => en_no
theorem l_X0_useX (G : en_G) (hst : G.2.2.2.2.2 = true) : ∀ n t, en_Snd G M_X0_useX t (LK_X0_useX n t)
  | 0, _ => sn_no
  | n + 1, t => by
    show en_Snd G M_X0_useX t (en_no)
    exact sn_no
noncomputable def T_X0_useX_0 (σ : en_M) : en_R := B_X0_useX_0 (LK_X0_useX en_FU) [.inr (7, 0, 0, 0)] [] en_zz σ
set_option maxRecDepth 400000 in
set_option maxHeartbeats 4000000 in
theorem t_X0_useX_0 (σ : en_M) : T_X0_useX_0 σ = ((en_ix (0 : Int32) 20).bind fun j1 => en_rv (en_up (en_up σ 8 j1 (0 : Int32)) 7 2 (1 : Int32))) := rfl
noncomputable def P_X0_useX : List en_V → en_M → Option en_M := fun av σ => match av with
  | [.inr (7, 0, 0, 0)] => en_ov (T_X0_useX_0 σ)
  | _ => none
theorem ox_X0_useX : ∃ f, f = P_X0_useX := ⟨_, rfl⟩
noncomputable def O_X0_useX : List en_V → en_M → Option en_M := Classical.choose ox_X0_useX
theorem oe_X0_useX : O_X0_useX = P_X0_useX := Classical.choose_spec ox_X0_useX
theorem o_X0_useX (σ : en_M) : O_X0_useX [.inr (7, 0, 0, 0)] σ = en_ov (T_X0_useX_0 σ) := by rw [oe_X0_useX]; rfl
theorem i_X0_useX (G : en_G) (hst : G.2.2.2.2.2 = true) : en_I G 1 yX0_useX cX0_useX 1 none 0 0 (en_wv (O_X0_useX)) := en_of_v (M := M_X0_useX) hst (s_X0_useX_0 G hst _ (l_X0_useX G hst en_FU)) (plainFor_of_name (by decide +kernel)) rfl rfl rfl (fun av σ σ' h => by
  rw [oe_X0_useX] at h; unfold P_X0_useX at h
  split at h
  · exact ⟨(Nat.le_of_ble_eq_true rfl), en_ov_some h⟩
  · cases h)
-- EachMayMissOne$Changes.readChange(LEachMayMissOne$Text;III)I
def M_X0_readChange : en_Me := (cX0_readChange, RX0, 8, false, 2, false)
theorem cs_X0_readChange : en_cs yX0_readChange cX0_readChange 8 (some .int) 4 := ⟨wm_737, wm_723, ⟨(by decide +kernel), (by decide +kernel), (by decide +kernel)⟩, (Nat.le_of_ble_eq_true rfl)⟩
noncomputable def B_X0_readChange_100 (kc : Nat → en_B) : en_B := (op_iload 5 op_iret)
set_option maxRecDepth 20000 in
theorem s_X0_readChange_100 (G : en_G) (hst : G.2.2.2.2.2 = true) (kc : Nat → en_B) (hk : ∀ t, en_Snd G M_X0_readChange t (kc t)) : en_Snd G M_X0_readChange 100 (B_X0_readChange_100 kc) := (sn_iload (i := 5) (by decide +kernel) (sn_iret (by decide +kernel) rfl))
noncomputable def B_X0_readChange_77 (kc : Nat → en_B) : en_B := (op_aload 0 (op_gets 0 2 (20, 20, 0) (op_iload 4 (op_dup2 (op_ald 20 (op_const (1 : Int32) (op_iload 7 (op_bin en_shl (op_bin (fun (x y : Int32) => x ||| y) (op_ast 20 (fun (x : Int32) => x) (op_iinc 5 (1 : Int32) (op_iinc 6 (1 : Int32) (kc 30)))))))))))))
set_option maxRecDepth 20000 in
theorem s_X0_readChange_77 (G : en_G) (hst : G.2.2.2.2.2 = true) (kc : Nat → en_B) (hk : ∀ t, en_Snd G M_X0_readChange t (kc t)) : en_Snd G M_X0_readChange 77 (B_X0_readChange_77 kc) := (sn_aload_n (i := 0) (n := 0) (by decide +kernel) rfl (sn_gets (ci := 0) (j := 1) (off := 2) hst en_c0 of_0_2 (Nat.le_of_ble_eq_true rfl) (by decide +kernel) wm_726 (Nat.le_of_ble_eq_true rfl) rfl (sn_iload (i := 4) (by decide +kernel) (sn_dup2 (by decide +kernel) (sn_iald (by decide +kernel) (sn_iconst (n := 1) (v := 1) (by decide +kernel) rfl (sn_iload (i := 7) (by decide +kernel) (sn_ishl (by decide +kernel) (sn_ior (by decide +kernel) (sn_iast (by decide +kernel) (sn_iinc (i := 5) (n := 1) (v := 1) (by decide +kernel) rfl (sn_iinc (i := 6) (n := 1) (v := 1) (by decide +kernel) rfl (sn_goto (off := -67) (tgt := 30) (by decide +kernel) rfl (hk 30))))))))))))))
noncomputable def B_X0_readChange_74 (kc : Nat → en_B) : en_B := (op_iload 5 op_iret)
set_option maxRecDepth 20000 in
theorem s_X0_readChange_74 (G : en_G) (hst : G.2.2.2.2.2 = true) (kc : Nat → en_B) (hk : ∀ t, en_Snd G M_X0_readChange t (kc t)) : en_Snd G M_X0_readChange 74 (B_X0_readChange_74 kc) := (sn_iload (i := 5) (by decide +kernel) (sn_iret (by decide +kernel) rfl))
noncomputable def B_X0_readChange_30 (kc : Nat → en_B) : en_B := (op_iload 6 (op_const (7 : Int32) (op_iclt (op_aload 1 (op_iload 5 (op_const (60 : Int32) (op_rcv 8 2 (op_calli O_X8_at 3 (op_const (49 : Int32) (op_bin (fun (x y : Int32) => x - y) (op_istore 7 (op_iload 7 (op_iflt (B_X0_readChange_74 kc) (op_iload 7 (op_iload 3 (op_iclt (op_aload 0 (op_gets 0 2 (20, 20, 0) (op_iload 4 (op_ald 20 (op_iload 7 (op_bin en_shr (op_ifeq (B_X0_readChange_77 kc) (B_X0_readChange_74 kc)))))))) (B_X0_readChange_74 kc)))))))))))))) (B_X0_readChange_100 kc))))
set_option maxRecDepth 20000 in
theorem s_X0_readChange_30 (G : en_G) (hst : G.2.2.2.2.2 = true) (kc : Nat → en_B) (hk : ∀ t, en_Snd G M_X0_readChange t (kc t)) : en_Snd G M_X0_readChange 30 (B_X0_readChange_30 kc) := (sn_iload (i := 6) (by decide +kernel) (sn_bipush (n := 7) (v := 7) (by decide +kernel) rfl (sn_icge (off := 66) (tgt := 100) (by decide +kernel) rfl (s_X0_readChange_100 G hst kc hk) (sn_aload_n (i := 1) (n := 1) (by decide +kernel) rfl (sn_iload (i := 5) (by decide +kernel) (sn_bipush (n := 60) (v := 60) (by decide +kernel) rfl (sn_callVi (n := 2) (idx := 38) (ci := 8) (i_X8_at G hst) (Nat.le_of_ble_eq_true rfl) cs_X8_at ⟨wm_1079, wm_1080, wm_735⟩ ⟨⟨_, rfl, rfl⟩, (Nat.le_of_ble_eq_true rfl)⟩ (by decide +kernel) (sn_bipush (n := 49) (v := 49) (by decide +kernel) rfl (sn_isub (by decide +kernel) (sn_istore (i := 7) (by decide +kernel) (Nat.le_of_ble_eq_true rfl) (sn_iload (i := 7) (by decide +kernel) (sn_iflt (off := 22) (tgt := 74) (by decide +kernel) rfl (s_X0_readChange_74 G hst kc hk) (sn_iload (i := 7) (by decide +kernel) (sn_iload_n (i := 3) (n := 3) (by decide +kernel) rfl (sn_icge (off := 16) (tgt := 74) (by decide +kernel) rfl (s_X0_readChange_74 G hst kc hk) (sn_aload_n (i := 0) (n := 0) (by decide +kernel) rfl (sn_gets (ci := 0) (j := 1) (off := 2) hst en_c0 of_0_2 (Nat.le_of_ble_eq_true rfl) (by decide +kernel) wm_726 (Nat.le_of_ble_eq_true rfl) rfl (sn_iload (i := 4) (by decide +kernel) (sn_iald (by decide +kernel) (sn_iload (i := 7) (by decide +kernel) (sn_ishr (by decide +kernel) (sn_ifeq (off := 6) (tgt := 77) (by decide +kernel) rfl (s_X0_readChange_77 G hst kc hk) (s_X0_readChange_74 G hst kc hk)))))))))))))))))))))))
noncomputable def B_X0_readChange_24 (kc : Nat → en_B) : en_B := (op_iload 2 (op_istore 5 (op_const (0 : Int32) (op_istore 6 (kc 30)))))
set_option maxRecDepth 20000 in
theorem s_X0_readChange_24 (G : en_G) (hst : G.2.2.2.2.2 = true) (kc : Nat → en_B) (hk : ∀ t, en_Snd G M_X0_readChange t (kc t)) : en_Snd G M_X0_readChange 24 (B_X0_readChange_24 kc) := (sn_iload_n (i := 2) (n := 2) (by decide +kernel) rfl (sn_istore (i := 5) (by decide +kernel) (Nat.le_of_ble_eq_true rfl) (sn_iconst (n := 0) (v := 0) (by decide +kernel) rfl (sn_istore (i := 6) (by decide +kernel) (Nat.le_of_ble_eq_true rfl) (hk 30)))))
noncomputable def B_X0_readChange_0 (kc : Nat → en_B) : en_B := (op_aload 0 (op_gets 0 2 (20, 20, 0) (op_iload 4 (op_const (0 : Int32) (op_ast 20 (fun (x : Int32) => x) (op_aload 1 (op_iload 2 (op_const (60 : Int32) (op_rcv 8 2 (op_calli O_X8_at 3 (op_const (120 : Int32) (op_iceq (op_iload 2 (op_const (1 : Int32) (op_bin (fun (x y : Int32) => x + y) op_iret))) (B_X0_readChange_24 kc)))))))))))))
set_option maxRecDepth 20000 in
theorem s_X0_readChange_0 (G : en_G) (hst : G.2.2.2.2.2 = true) (kc : Nat → en_B) (hk : ∀ t, en_Snd G M_X0_readChange t (kc t)) : en_Snd G M_X0_readChange 0 (B_X0_readChange_0 kc) := (sn_aload_n (i := 0) (n := 0) (by decide +kernel) rfl (sn_gets (ci := 0) (j := 1) (off := 2) hst en_c0 of_0_2 (Nat.le_of_ble_eq_true rfl) (by decide +kernel) wm_726 (Nat.le_of_ble_eq_true rfl) rfl (sn_iload (i := 4) (by decide +kernel) (sn_iconst (n := 0) (v := 0) (by decide +kernel) rfl (sn_iast (by decide +kernel) (sn_aload_n (i := 1) (n := 1) (by decide +kernel) rfl (sn_iload_n (i := 2) (n := 2) (by decide +kernel) rfl (sn_bipush (n := 60) (v := 60) (by decide +kernel) rfl (sn_callVi (n := 2) (idx := 38) (ci := 8) (i_X8_at G hst) (Nat.le_of_ble_eq_true rfl) cs_X8_at ⟨wm_1079, wm_1080, wm_735⟩ ⟨⟨_, rfl, rfl⟩, (Nat.le_of_ble_eq_true rfl)⟩ (by decide +kernel) (sn_bipush (n := 120) (v := 120) (by decide +kernel) rfl (sn_icne (off := 7) (tgt := 24) (by decide +kernel) rfl (s_X0_readChange_24 G hst kc hk) (sn_iload_n (i := 2) (n := 2) (by decide +kernel) rfl (sn_iconst (n := 1) (v := 1) (by decide +kernel) rfl (sn_iadd (by decide +kernel) (sn_iret (by decide +kernel) rfl)))))))))))))))
noncomputable def LK_X0_readChange : Nat → Nat → en_B
  | 0, _ => en_no
  | n + 1, t => if t = 30 then B_X0_readChange_30 (LK_X0_readChange n) else en_no
theorem l_X0_readChange (G : en_G) (hst : G.2.2.2.2.2 = true) : ∀ n t, en_Snd G M_X0_readChange t (LK_X0_readChange n t)
  | 0, _ => sn_no
  | n + 1, t => by
    show en_Snd G M_X0_readChange t (if t = 30 then B_X0_readChange_30 (LK_X0_readChange n) else en_no)
    by_cases h_30 : t = 30
    · rw [if_pos h_30, h_30]; exact s_X0_readChange_30 G hst _ (l_X0_readChange G hst n)
    rw [if_neg h_30]
    exact sn_no
noncomputable def T_X0_readChange_0 (x2 : Int32) (x3 : Int32) (x4 : Int32) (σ : en_M) : en_R := B_X0_readChange_0 (LK_X0_readChange en_FU) [.inr (7, 0, 0, 0), .inr (1, 8, 0, 0), .inl x2, .inl x3, .inl x4, en_un, en_un, en_un] [] en_zz σ
noncomputable def T_X0_readChange_30 (n : Nat) (x2 : Int32) (x3 : Int32) (x4 : Int32) (x5 : Int32) (x6 : Int32) (u7 : en_V) (σ : en_M) : en_R := LK_X0_readChange n 30 [.inr (7, 0, 0, 0), .inr (1, 8, 0, 0), .inl x2, .inl x3, .inl x4, .inl x5, .inl x6, u7] [] en_zz σ
set_option maxRecDepth 400000 in
set_option maxHeartbeats 4000000 in
theorem t_X0_readChange_0 (x2 : Int32) (x3 : Int32) (x4 : Int32) (σ : en_M) : T_X0_readChange_0 x2 x3 x4 σ = ((en_ix x4 20).bind fun j1 => (O_X8_at [.inr (1, 8, 0, 0), .inl x2, .inl (60 : Int32)] (en_up σ 9 j1 (0 : Int32))).bind fun r2 => if r2.1 = (120 : Int32) then (en_ri (x2 + (1 : Int32)) r2.2) else (T_X0_readChange_30 en_FU x2 x3 x4 x2 (0 : Int32) (en_un) r2.2)) := rfl
set_option maxRecDepth 400000 in
set_option maxHeartbeats 4000000 in
theorem t_X0_readChange_30 (n : Nat) (x2 : Int32) (x3 : Int32) (x4 : Int32) (x5 : Int32) (x6 : Int32) (u7 : en_V) (σ : en_M) : T_X0_readChange_30 (n + 1) x2 x3 x4 x5 x6 u7 σ = (if x6 < (7 : Int32) then ((O_X8_at [.inr (1, 8, 0, 0), .inl x5, .inl (60 : Int32)] σ).bind fun r3 => if (r3.1 - (49 : Int32)) < 0 then (en_ri x5 r3.2) else (if (r3.1 - (49 : Int32)) < x3 then ((en_ix x4 20).bind fun j4 => if (en_shr (r3.2 9 j4) (r3.1 - (49 : Int32))) = 0 then ((en_ix x4 20).bind fun j5 => (en_ix x4 20).bind fun j6 => T_X0_readChange_30 n x2 x3 x4 (x5 + (1 : Int32)) (x6 + (1 : Int32)) (.inl (r3.1 - (49 : Int32))) (en_up r3.2 9 j6 ((r3.2 9 j5) ||| (en_shl (1 : Int32) (r3.1 - (49 : Int32)))))) else (en_ri x5 r3.2)) else (en_ri x5 r3.2))) else (en_ri x5 σ)) := rfl
noncomputable def P_X0_readChange : List en_V → en_M → Option (Int32 × en_M) := fun av σ => match av with
  | [.inr (7, 0, 0, 0), .inr (1, 8, 0, 0), .inl x2, .inl x3, .inl x4] => en_oi (T_X0_readChange_0 x2 x3 x4 σ)
  | _ => none
theorem ox_X0_readChange : ∃ f, f = P_X0_readChange := ⟨_, rfl⟩
noncomputable def O_X0_readChange : List en_V → en_M → Option (Int32 × en_M) := Classical.choose ox_X0_readChange
theorem oe_X0_readChange : O_X0_readChange = P_X0_readChange := Classical.choose_spec ox_X0_readChange
theorem o_X0_readChange (x2 : Int32) (x3 : Int32) (x4 : Int32) (σ : en_M) : O_X0_readChange [.inr (7, 0, 0, 0), .inr (1, 8, 0, 0), .inl x2, .inl x3, .inl x4] σ = en_oi (T_X0_readChange_0 x2 x3 x4 σ) := by rw [oe_X0_readChange]; rfl
theorem i_X0_readChange (G : en_G) (hst : G.2.2.2.2.2 = true) : en_I G 2 yX0_readChange cX0_readChange 8 (some .int) 0 0 (en_wi (O_X0_readChange)) := en_of_i (M := M_X0_readChange) hst (s_X0_readChange_0 G hst _ (l_X0_readChange G hst en_FU)) (plainFor_of_name (by decide +kernel)) rfl rfl rfl (Or.inl ⟨rfl, rfl⟩) (fun av σ x σ' h => by
  rw [oe_X0_readChange] at h; unfold P_X0_readChange at h
  split at h
  · exact ⟨(Nat.le_of_ble_eq_true rfl), en_oi_some h⟩
  · cases h)
-- EachMayMissOne.cannotStand(I)I
def M_X11_cannotStand : en_Me := (cX11_cannotStand, RX11, 1, false, 1, false)
theorem cs_X11_cannotStand : en_cs yX11_cannotStand cX11_cannotStand 1 (some .int) 1 := ⟨wm_273, wm_2, ⟨(by decide +kernel), (by decide +kernel), (by decide +kernel)⟩, (Nat.le_of_ble_eq_true rfl)⟩
noncomputable def B_X11_cannotStand_0 (kc : Nat → en_B) : en_B := (op_const (-1 : Int32) (op_iload 0 (op_bin (fun (x y : Int32) => x - y) op_iret)))
set_option maxRecDepth 20000 in
theorem s_X11_cannotStand_0 (G : en_G) (hst : G.2.2.2.2.2 = true) (kc : Nat → en_B) (hk : ∀ t, en_Snd G M_X11_cannotStand t (kc t)) : en_Snd G M_X11_cannotStand 0 (B_X11_cannotStand_0 kc) := (sn_iconst (n := -1) (v := -1) (by decide +kernel) rfl (sn_iload_n (i := 0) (n := 0) (by decide +kernel) rfl (sn_isub (by decide +kernel) (sn_iret (by decide +kernel) rfl))))
noncomputable def LK_X11_cannotStand : Nat → Nat → en_B
  | 0, _ => en_no
  | n + 1, t => en_no
theorem l_X11_cannotStand (G : en_G) (hst : G.2.2.2.2.2 = true) : ∀ n t, en_Snd G M_X11_cannotStand t (LK_X11_cannotStand n t)
  | 0, _ => sn_no
  | n + 1, t => by
    show en_Snd G M_X11_cannotStand t (en_no)
    exact sn_no
noncomputable def T_X11_cannotStand_0 (x0 : Int32) (σ : en_M) : en_R := B_X11_cannotStand_0 (LK_X11_cannotStand en_FU) [.inl x0] [] en_zz σ
set_option maxRecDepth 400000 in
set_option maxHeartbeats 4000000 in
theorem t_X11_cannotStand_0 (x0 : Int32) (σ : en_M) : T_X11_cannotStand_0 x0 σ = (en_ri ((-1 : Int32) - x0) σ) := rfl
noncomputable def P_X11_cannotStand : List en_V → en_M → Option (Int32 × en_M) := fun av σ => match av with
  | [.inl x0] => en_oi (T_X11_cannotStand_0 x0 σ)
  | _ => none
theorem ox_X11_cannotStand : ∃ f, f = P_X11_cannotStand := ⟨_, rfl⟩
noncomputable def O_X11_cannotStand : List en_V → en_M → Option (Int32 × en_M) := Classical.choose ox_X11_cannotStand
theorem oe_X11_cannotStand : O_X11_cannotStand = P_X11_cannotStand := Classical.choose_spec ox_X11_cannotStand
theorem o_X11_cannotStand (x0 : Int32) (σ : en_M) : O_X11_cannotStand [.inl x0] σ = en_oi (T_X11_cannotStand_0 x0 σ) := by rw [oe_X11_cannotStand]; rfl
theorem i_X11_cannotStand (G : en_G) (hst : G.2.2.2.2.2 = true) : en_I G 1 yX11_cannotStand cX11_cannotStand 1 (some .int) 0 0 (en_wi (O_X11_cannotStand)) := en_of_i (M := M_X11_cannotStand) hst (s_X11_cannotStand_0 G hst _ (l_X11_cannotStand G hst en_FU)) (plainFor_of_name (by decide +kernel)) rfl rfl rfl (Or.inl ⟨rfl, rfl⟩) (fun av σ x σ' h => by
  rw [oe_X11_cannotStand] at h; unfold P_X11_cannotStand at h
  split at h
  · exact ⟨(Nat.le_of_ble_eq_true rfl), en_oi_some h⟩
  · cases h)
-- EachMayMissOne$Changes.take(I)I
def M_X0_take : en_Me := (cX0_take, RX0, 2, false, 1, false)
theorem cs_X0_take : en_cs yX0_take cX0_take 2 (some .int) 1 := ⟨wm_740, wm_723, ⟨(by decide +kernel), (by decide +kernel), (by decide +kernel)⟩, (Nat.le_of_ble_eq_true rfl)⟩
noncomputable def B_X0_take_0 (kc : Nat → en_B) : en_B := (op_aload 0 (op_gets 0 2 (20, 20, 0) (op_const (0 : Int32) (op_aload 0 (op_gets 0 1 (20, 20, 0) (op_const (0 : Int32) (op_const (20 : Int32) (op_copy (op_aload 0 (op_iload 1 (op_puti 0 2 (op_aload 0 (op_geti 0 2 op_iret)))))))))))))
set_option maxRecDepth 20000 in
theorem s_X0_take_0 (G : en_G) (hst : G.2.2.2.2.2 = true) (kc : Nat → en_B) (hk : ∀ t, en_Snd G M_X0_take t (kc t)) : en_Snd G M_X0_take 0 (B_X0_take_0 kc) := (sn_aload_n (i := 0) (n := 0) (by decide +kernel) rfl (sn_gets (ci := 0) (j := 1) (off := 2) hst en_c0 of_0_2 (Nat.le_of_ble_eq_true rfl) (by decide +kernel) wm_726 (Nat.le_of_ble_eq_true rfl) rfl (sn_iconst (n := 0) (v := 0) (by decide +kernel) rfl (sn_aload_n (i := 0) (n := 0) (by decide +kernel) rfl (sn_gets (ci := 0) (j := 0) (off := 1) hst en_c0 of_0_1 (Nat.le_of_ble_eq_true rfl) (by decide +kernel) wm_725 (Nat.le_of_ble_eq_true rfl) rfl (sn_iconst (n := 0) (v := 0) (by decide +kernel) rfl (sn_bipush (n := 20) (v := 20) (by decide +kernel) rfl (sn_copy (idx := 45) wm_743 wm_1291 wm_1292 wm_1288 (Nat.le_of_ble_eq_true rfl) (by decide +kernel) (sn_aload_n (i := 0) (n := 0) (by decide +kernel) rfl (sn_iload_n (i := 1) (n := 1) (by decide +kernel) rfl (sn_puti (ci := 0) (j := 2) en_c0 (by decide +kernel) wm_727 (Nat.le_of_ble_eq_true rfl) rfl rfl rfl (sn_aload_n (i := 0) (n := 0) (by decide +kernel) rfl (sn_geti (ci := 0) (j := 2) en_c0 (by decide +kernel) wm_727 (Nat.le_of_ble_eq_true rfl) rfl (sn_iret (by decide +kernel) rfl))))))))))))))
noncomputable def LK_X0_take : Nat → Nat → en_B
  | 0, _ => en_no
  | n + 1, t => en_no
theorem l_X0_take (G : en_G) (hst : G.2.2.2.2.2 = true) : ∀ n t, en_Snd G M_X0_take t (LK_X0_take n t)
  | 0, _ => sn_no
  | n + 1, t => by
    show en_Snd G M_X0_take t (en_no)
    exact sn_no
noncomputable def T_X0_take_0 (x1 : Int32) (σ : en_M) : en_R := B_X0_take_0 (LK_X0_take en_FU) [.inr (7, 0, 0, 0), .inl x1] [] en_zz σ
set_option maxRecDepth 400000 in
set_option maxHeartbeats 4000000 in
theorem t_X0_take_0 (x1 : Int32) (σ : en_M) : T_X0_take_0 x1 σ = (if (20 : Int32) < 0 ∨ (0 : Int32) < 0 ∨ (0 : Int32) < 0 then none else if (0 : Int32).toNatClampNeg + (20 : Int32).toNatClampNeg ≤ 20 ∧ (0 : Int32).toNatClampNeg + (20 : Int32).toNatClampNeg ≤ 20 then (en_ri x1 (en_up (en_cp σ 9 8 (0 : Int32).toNatClampNeg (0 : Int32).toNatClampNeg (20 : Int32).toNatClampNeg) 7 2 x1)) else none) := rfl
noncomputable def P_X0_take : List en_V → en_M → Option (Int32 × en_M) := fun av σ => match av with
  | [.inr (7, 0, 0, 0), .inl x1] => en_oi (T_X0_take_0 x1 σ)
  | _ => none
theorem ox_X0_take : ∃ f, f = P_X0_take := ⟨_, rfl⟩
noncomputable def O_X0_take : List en_V → en_M → Option (Int32 × en_M) := Classical.choose ox_X0_take
theorem oe_X0_take : O_X0_take = P_X0_take := Classical.choose_spec ox_X0_take
theorem o_X0_take (x1 : Int32) (σ : en_M) : O_X0_take [.inr (7, 0, 0, 0), .inl x1] σ = en_oi (T_X0_take_0 x1 σ) := by rw [oe_X0_take]; rfl
theorem i_X0_take (G : en_G) (hst : G.2.2.2.2.2 = true) : en_I G 1 yX0_take cX0_take 2 (some .int) 0 0 (en_wi (O_X0_take)) := en_of_i (M := M_X0_take) hst (s_X0_take_0 G hst _ (l_X0_take G hst en_FU)) (plainFor_of_name (by decide +kernel)) rfl rfl rfl (Or.inl ⟨rfl, rfl⟩) (fun av σ x σ' h => by
  rw [oe_X0_take] at h; unfold P_X0_take at h
  split at h
  · exact ⟨(Nat.le_of_ble_eq_true rfl), en_oi_some h⟩
  · cases h)
-- EachMayMissOne$Changes.read(LEachMayMissOne$Text;I)I
def M_X0_read : en_Me := (cX0_read, RX0, 7, false, 3, false)
theorem cs_X0_read : en_cs yX0_read cX0_read 7 (some .int) 2 := ⟨wm_728, wm_723, ⟨(by decide +kernel), (by decide +kernel), (by decide +kernel)⟩, (Nat.le_of_ble_eq_true rfl)⟩
noncomputable def B_X0_read_98 (kc : Nat → en_B) : en_B := (op_iload 3 (op_calli O_X11_cannotStand 1 op_iret))
set_option maxRecDepth 20000 in
theorem s_X0_read_98 (G : en_G) (hst : G.2.2.2.2.2 = true) (kc : Nat → en_B) (hk : ∀ t, en_Snd G M_X0_read t (kc t)) : en_Snd G M_X0_read 98 (B_X0_read_98 kc) := (sn_iload_n (i := 3) (n := 3) (by decide +kernel) rfl (sn_callSi (n := 1) (idx := 34) (i_X11_cannotStand G hst) (Nat.le_of_ble_eq_true rfl) cs_X11_cannotStand ⟨wm_274, Or.inr (by decide +kernel)⟩ (by decide +kernel) (sn_iret (by decide +kernel) rfl)))
noncomputable def B_X0_read_89 (kc : Nat → en_B) : en_B := (op_iinc 3 (1 : Int32) (op_iinc 4 (1 : Int32) (kc 21)))
set_option maxRecDepth 20000 in
theorem s_X0_read_89 (G : en_G) (hst : G.2.2.2.2.2 = true) (kc : Nat → en_B) (hk : ∀ t, en_Snd G M_X0_read t (kc t)) : en_Snd G M_X0_read 89 (B_X0_read_89 kc) := (sn_iinc (i := 3) (n := 1) (v := 1) (by decide +kernel) rfl (sn_iinc (i := 4) (n := 1) (v := 1) (by decide +kernel) rfl (sn_goto (off := -74) (tgt := 21) (by decide +kernel) rfl (hk 21))))
noncomputable def B_X0_read_77 (kc : Nat → en_B) : en_B := (op_iload 6 (op_const (46 : Int32) (op_iceq (B_X0_read_89 kc) (op_iload 3 (op_calli O_X11_cannotStand 1 op_iret)))))
set_option maxRecDepth 20000 in
theorem s_X0_read_77 (G : en_G) (hst : G.2.2.2.2.2 = true) (kc : Nat → en_B) (hk : ∀ t, en_Snd G M_X0_read t (kc t)) : en_Snd G M_X0_read 77 (B_X0_read_77 kc) := (sn_iload (i := 6) (by decide +kernel) (sn_bipush (n := 46) (v := 46) (by decide +kernel) rfl (sn_iceq (off := 8) (tgt := 89) (by decide +kernel) rfl (s_X0_read_89 G hst kc hk) (sn_iload_n (i := 3) (n := 3) (by decide +kernel) rfl (sn_callSi (n := 1) (idx := 34) (i_X11_cannotStand G hst) (Nat.le_of_ble_eq_true rfl) cs_X11_cannotStand ⟨wm_274, Or.inr (by decide +kernel)⟩ (by decide +kernel) (sn_iret (by decide +kernel) rfl))))))
noncomputable def B_X0_read_50 (kc : Nat → en_B) : en_B := (op_iload 5 (op_istore 3 (op_aload 1 (op_iload 3 (op_const (60 : Int32) (op_rcv 8 2 (op_calli O_X8_at 3 (op_istore 6 (op_iload 6 (op_const (-1 : Int32) (op_iceq (op_aload 0 (op_iload 4 (op_const (1 : Int32) (op_bin (fun (x y : Int32) => x + y) (op_rcv 0 1 (op_calli O_X0_take 2 op_iret)))))) (B_X0_read_77 kc))))))))))))
set_option maxRecDepth 20000 in
theorem s_X0_read_50 (G : en_G) (hst : G.2.2.2.2.2 = true) (kc : Nat → en_B) (hk : ∀ t, en_Snd G M_X0_read t (kc t)) : en_Snd G M_X0_read 50 (B_X0_read_50 kc) := (sn_iload (i := 5) (by decide +kernel) (sn_istore_n (i := 3) (n := 3) (by decide +kernel) rfl (Nat.le_of_ble_eq_true rfl) (sn_aload_n (i := 1) (n := 1) (by decide +kernel) rfl (sn_iload_n (i := 3) (n := 3) (by decide +kernel) rfl (sn_bipush (n := 60) (v := 60) (by decide +kernel) rfl (sn_callVi (n := 2) (idx := 38) (ci := 8) (i_X8_at G hst) (Nat.le_of_ble_eq_true rfl) cs_X8_at ⟨wm_1079, wm_1080, wm_735⟩ ⟨⟨_, rfl, rfl⟩, (Nat.le_of_ble_eq_true rfl)⟩ (by decide +kernel) (sn_istore (i := 6) (by decide +kernel) (Nat.le_of_ble_eq_true rfl) (sn_iload (i := 6) (by decide +kernel) (sn_iconst (n := -1) (v := -1) (by decide +kernel) rfl (sn_icne (off := 12) (tgt := 77) (by decide +kernel) rfl (s_X0_read_77 G hst kc hk) (sn_aload_n (i := 0) (n := 0) (by decide +kernel) rfl (sn_iload (i := 4) (by decide +kernel) (sn_iconst (n := 1) (v := 1) (by decide +kernel) rfl (sn_iadd (by decide +kernel) (sn_callVi (n := 1) (idx := 42) (ci := 0) (i_X0_take G hst) (Nat.le_of_ble_eq_true rfl) cs_X0_take ⟨wm_741, wm_742, wm_736⟩ ⟨⟨_, rfl, rfl⟩, (Nat.le_of_ble_eq_true rfl)⟩ (by decide +kernel) (sn_iret (by decide +kernel) rfl))))))))))))))))
noncomputable def B_X0_read_21 (kc : Nat → en_B) : en_B := (op_iload 4 (op_const (20 : Int32) (op_iclt (op_aload 0 (op_aload 1 (op_iload 3 (op_iload 2 (op_iload 4 (op_rcv 0 4 (op_calli O_X0_readChange 5 (op_istore 5 (op_iload 5 (op_iload 3 (op_iceq (op_iload 3 (op_calli O_X11_cannotStand 1 op_iret)) (B_X0_read_50 kc)))))))))))) (B_X0_read_98 kc))))
set_option maxRecDepth 20000 in
theorem s_X0_read_21 (G : en_G) (hst : G.2.2.2.2.2 = true) (kc : Nat → en_B) (hk : ∀ t, en_Snd G M_X0_read t (kc t)) : en_Snd G M_X0_read 21 (B_X0_read_21 kc) := (sn_iload (i := 4) (by decide +kernel) (sn_bipush (n := 20) (v := 20) (by decide +kernel) rfl (sn_icge (off := 73) (tgt := 98) (by decide +kernel) rfl (s_X0_read_98 G hst kc hk) (sn_aload_n (i := 0) (n := 0) (by decide +kernel) rfl (sn_aload_n (i := 1) (n := 1) (by decide +kernel) rfl (sn_iload_n (i := 3) (n := 3) (by decide +kernel) rfl (sn_iload_n (i := 2) (n := 2) (by decide +kernel) rfl (sn_iload (i := 4) (by decide +kernel) (sn_callVi (n := 4) (idx := 30) (ci := 0) (i_X0_readChange G hst) (Nat.le_of_ble_eq_true rfl) cs_X0_readChange ⟨wm_738, wm_739, wm_733⟩ ⟨⟨_, rfl, rfl⟩, (Nat.le_of_ble_eq_true rfl)⟩ (by decide +kernel) (sn_istore (i := 5) (by decide +kernel) (Nat.le_of_ble_eq_true rfl) (sn_iload (i := 5) (by decide +kernel) (sn_iload_n (i := 3) (n := 3) (by decide +kernel) rfl (sn_icne (off := 8) (tgt := 50) (by decide +kernel) rfl (s_X0_read_50 G hst kc hk) (sn_iload_n (i := 3) (n := 3) (by decide +kernel) rfl (sn_callSi (n := 1) (idx := 34) (i_X11_cannotStand G hst) (Nat.le_of_ble_eq_true rfl) cs_X11_cannotStand ⟨wm_274, Or.inr (by decide +kernel)⟩ (by decide +kernel) (sn_iret (by decide +kernel) rfl))))))))))))))))
noncomputable def B_X0_read_16 (kc : Nat → en_B) : en_B := (op_const (0 : Int32) (op_istore 3 (op_const (0 : Int32) (op_istore 4 (kc 21)))))
set_option maxRecDepth 20000 in
theorem s_X0_read_16 (G : en_G) (hst : G.2.2.2.2.2 = true) (kc : Nat → en_B) (hk : ∀ t, en_Snd G M_X0_read t (kc t)) : en_Snd G M_X0_read 16 (B_X0_read_16 kc) := (sn_iconst (n := 0) (v := 0) (by decide +kernel) rfl (sn_istore_n (i := 3) (n := 3) (by decide +kernel) rfl (Nat.le_of_ble_eq_true rfl) (sn_iconst (n := 0) (v := 0) (by decide +kernel) rfl (sn_istore (i := 4) (by decide +kernel) (Nat.le_of_ble_eq_true rfl) (hk 21)))))
noncomputable def B_X0_read_0 (kc : Nat → en_B) : en_B := (op_aload 1 (op_geti 8 1 (op_ifeq (op_aload 0 (op_rcv 0 0 (op_callv O_X0_useX 1 (op_aload 0 (op_geti 0 2 op_iret))))) (B_X0_read_16 kc))))
set_option maxRecDepth 20000 in
theorem s_X0_read_0 (G : en_G) (hst : G.2.2.2.2.2 = true) (kc : Nat → en_B) (hk : ∀ t, en_Snd G M_X0_read t (kc t)) : en_Snd G M_X0_read 0 (B_X0_read_0 kc) := (sn_aload_n (i := 1) (n := 1) (by decide +kernel) rfl (sn_geti (ci := 8) (j := 1) en_c8 (by decide +kernel) wm_731 (Nat.le_of_ble_eq_true rfl) rfl (sn_ifne (off := 12) (tgt := 16) (by decide +kernel) rfl (s_X0_read_16 G hst kc hk) (sn_aload_n (i := 0) (n := 0) (by decide +kernel) rfl (sn_callVv (n := 0) (idx := 27) (ci := 0) (i_X0_useX G hst) (Nat.le_of_ble_eq_true rfl) cs_X0_useX ⟨wm_745, wm_746, wm_732⟩ ⟨⟨_, rfl, rfl⟩, (Nat.le_of_ble_eq_true rfl)⟩ (by decide +kernel) (sn_aload_n (i := 0) (n := 0) (by decide +kernel) rfl (sn_geti (ci := 0) (j := 2) en_c0 (by decide +kernel) wm_727 (Nat.le_of_ble_eq_true rfl) rfl (sn_iret (by decide +kernel) rfl))))))))
noncomputable def LK_X0_read : Nat → Nat → en_B
  | 0, _ => en_no
  | n + 1, t => if t = 21 then B_X0_read_21 (LK_X0_read n) else en_no
theorem l_X0_read (G : en_G) (hst : G.2.2.2.2.2 = true) : ∀ n t, en_Snd G M_X0_read t (LK_X0_read n t)
  | 0, _ => sn_no
  | n + 1, t => by
    show en_Snd G M_X0_read t (if t = 21 then B_X0_read_21 (LK_X0_read n) else en_no)
    by_cases h_21 : t = 21
    · rw [if_pos h_21, h_21]; exact s_X0_read_21 G hst _ (l_X0_read G hst n)
    rw [if_neg h_21]
    exact sn_no
noncomputable def T_X0_read_0 (x2 : Int32) (σ : en_M) : en_R := B_X0_read_0 (LK_X0_read en_FU) [.inr (7, 0, 0, 0), .inr (1, 8, 0, 0), .inl x2, en_un, en_un, en_un, en_un] [] en_zz σ
noncomputable def T_X0_read_21 (n : Nat) (x2 : Int32) (x3 : Int32) (x4 : Int32) (u5 : en_V) (u6 : en_V) (σ : en_M) : en_R := LK_X0_read n 21 [.inr (7, 0, 0, 0), .inr (1, 8, 0, 0), .inl x2, .inl x3, .inl x4, u5, u6] [] en_zz σ
set_option maxRecDepth 400000 in
set_option maxHeartbeats 4000000 in
theorem t_X0_read_0 (x2 : Int32) (σ : en_M) : T_X0_read_0 x2 σ = (if (σ 1 1) = 0 then ((O_X0_useX [.inr (7, 0, 0, 0)] σ).bind fun r1 => en_ri (r1 7 2) r1) else (T_X0_read_21 en_FU x2 (0 : Int32) (0 : Int32) (en_un) (en_un) σ)) := rfl
set_option maxRecDepth 400000 in
set_option maxHeartbeats 4000000 in
theorem t_X0_read_21 (n : Nat) (x2 : Int32) (x3 : Int32) (x4 : Int32) (u5 : en_V) (u6 : en_V) (σ : en_M) : T_X0_read_21 (n + 1) x2 x3 x4 u5 u6 σ = (if x4 < (20 : Int32) then ((O_X0_readChange [.inr (7, 0, 0, 0), .inr (1, 8, 0, 0), .inl x3, .inl x2, .inl x4] σ).bind fun r3 => if r3.1 = x3 then ((O_X11_cannotStand [.inl x3] r3.2).bind fun r7 => en_ri r7.1 r7.2) else ((O_X8_at [.inr (1, 8, 0, 0), .inl r3.1, .inl (60 : Int32)] r3.2).bind fun r4 => if r4.1 = (-1 : Int32) then ((O_X0_take [.inr (7, 0, 0, 0), .inl (x4 + (1 : Int32))] r4.2).bind fun r6 => en_ri r6.1 r6.2) else (if r4.1 = (46 : Int32) then (T_X0_read_21 n x2 (r3.1 + (1 : Int32)) (x4 + (1 : Int32)) (.inl r3.1) (.inl r4.1) r4.2) else ((O_X11_cannotStand [.inl r3.1] r4.2).bind fun r5 => en_ri r5.1 r5.2)))) else ((O_X11_cannotStand [.inl x3] σ).bind fun r2 => en_ri r2.1 r2.2)) := rfl
noncomputable def P_X0_read : List en_V → en_M → Option (Int32 × en_M) := fun av σ => match av with
  | [.inr (7, 0, 0, 0), .inr (1, 8, 0, 0), .inl x2] => en_oi (T_X0_read_0 x2 σ)
  | _ => none
theorem ox_X0_read : ∃ f, f = P_X0_read := ⟨_, rfl⟩
noncomputable def O_X0_read : List en_V → en_M → Option (Int32 × en_M) := Classical.choose ox_X0_read
theorem oe_X0_read : O_X0_read = P_X0_read := Classical.choose_spec ox_X0_read
theorem o_X0_read (x2 : Int32) (σ : en_M) : O_X0_read [.inr (7, 0, 0, 0), .inr (1, 8, 0, 0), .inl x2] σ = en_oi (T_X0_read_0 x2 σ) := by rw [oe_X0_read]; rfl
theorem i_X0_read (G : en_G) (hst : G.2.2.2.2.2 = true) : en_I G 3 yX0_read cX0_read 7 (some .int) 0 0 (en_wi (O_X0_read)) := en_of_i (M := M_X0_read) hst (s_X0_read_0 G hst _ (l_X0_read G hst en_FU)) (plainFor_of_name (by decide +kernel)) rfl rfl rfl (Or.inl ⟨rfl, rfl⟩) (fun av σ x σ' h => by
  rw [oe_X0_read] at h; unfold P_X0_read at h
  split at h
  · exact ⟨(Nat.le_of_ble_eq_true rfl), en_oi_some h⟩
  · cases h)
