-- EachMayMissOne$Text.addFour(I)Z
def M_X8_addFour : en_Me := (cX8_addFour, RX8, 3, false, 1, true)
theorem cs_X8_addFour : en_cs yX8_addFour cX8_addFour 3 (some .boolean) 1 := ⟨wm_1068, wm_6, ⟨(by decide +kernel), (by decide +kernel), (by decide +kernel)⟩, (Nat.le_of_ble_eq_true rfl)⟩
def B_X8_addFour_52 (kc : Nat → en_B) : en_B := (op_const (1 : Int32) op_zret)
theorem s_X8_addFour_52 (G : en_G) (hst : G.2.2.2.2.2 = true) (kc : Nat → en_B) (hk : ∀ t, en_Snd G M_X8_addFour t (kc t)) : en_Snd G M_X8_addFour 52 (B_X8_addFour_52 kc) := (sn_iconst (n := 1) (v := 1) (by decide +kernel) rfl (sn_zret (by decide +kernel)))
def B_X8_addFour_16 (kc : Nat → en_B) : en_B := (op_iload 2 (op_iflt (B_X8_addFour_52 kc) (op_aload 0 (op_gets 8 1 (20, 80, 0) (op_aload 0 (op_geti 8 1 (op_iload 1 (op_iload 2 (op_bin en_shr (op_const (255 : Int32) (op_bin (fun (x y : Int32) => x &&& y) (op_ast 20 (fun (x : Int32) => x) (op_aload 0 (op_dup (op_geti 8 1 (op_const (1 : Int32) (op_bin (fun (x y : Int32) => x + y) (op_puti 8 1 (op_iinc 2 (-8 : Int32) (kc 16))))))))))))))))))))
theorem s_X8_addFour_16 (G : en_G) (hst : G.2.2.2.2.2 = true) (kc : Nat → en_B) (hk : ∀ t, en_Snd G M_X8_addFour t (kc t)) : en_Snd G M_X8_addFour 16 (B_X8_addFour_16 kc) := (sn_iload_n (i := 2) (n := 2) (by decide +kernel) rfl (sn_iflt (off := 35) (tgt := 52) (by decide +kernel) rfl (s_X8_addFour_52 G hst kc hk) (sn_aload_n (i := 0) (n := 0) (by decide +kernel) rfl (sn_gets (ci := 8) (j := 0) (off := 1) hst en_c8 of_8_1 (Nat.le_of_ble_eq_true rfl) (by decide +kernel) wm_1067 (Nat.le_of_ble_eq_true rfl) rfl (sn_aload_n (i := 0) (n := 0) (by decide +kernel) rfl (sn_geti (ci := 8) (j := 1) en_c8 (by decide +kernel) wm_1071 (Nat.le_of_ble_eq_true rfl) rfl (sn_iload_n (i := 1) (n := 1) (by decide +kernel) rfl (sn_iload_n (i := 2) (n := 2) (by decide +kernel) rfl (sn_ishr (by decide +kernel) (sn_sipush (n := 255) (v := 255) (by decide +kernel) rfl (sn_iand (by decide +kernel) (sn_iast (by decide +kernel) (sn_aload_n (i := 0) (n := 0) (by decide +kernel) rfl (sn_dup (by decide +kernel) (sn_geti (ci := 8) (j := 1) en_c8 (by decide +kernel) wm_1071 (Nat.le_of_ble_eq_true rfl) rfl (sn_iconst (n := 1) (v := 1) (by decide +kernel) rfl (sn_iadd (by decide +kernel) (sn_puti (ci := 8) (j := 1) en_c8 (by decide +kernel) wm_1071 (Nat.le_of_ble_eq_true rfl) rfl rfl rfl (sn_iinc (i := 2) (n := -8) (v := -8) (by decide +kernel) rfl (sn_goto (off := -33) (tgt := 16) (by decide +kernel) rfl (hk 16)))))))))))))))))))))
def B_X8_addFour_13 (kc : Nat → en_B) : en_B := (op_const (24 : Int32) (op_istore 2 (kc 16)))
theorem s_X8_addFour_13 (G : en_G) (hst : G.2.2.2.2.2 = true) (kc : Nat → en_B) (hk : ∀ t, en_Snd G M_X8_addFour t (kc t)) : en_Snd G M_X8_addFour 13 (B_X8_addFour_13 kc) := (sn_bipush (n := 24) (v := 24) (by decide +kernel) rfl (sn_istore_n (i := 2) (n := 2) (by decide +kernel) rfl (Nat.le_of_ble_eq_true rfl) (hk 16)))
def B_X8_addFour_0 (kc : Nat → en_B) : en_B := (op_aload 0 (op_geti 8 1 (op_const (4 : Int32) (op_bin (fun (x y : Int32) => x + y) (op_const (80 : Int32) (op_icgt (op_const (0 : Int32) op_zret) (B_X8_addFour_13 kc)))))))
theorem s_X8_addFour_0 (G : en_G) (hst : G.2.2.2.2.2 = true) (kc : Nat → en_B) (hk : ∀ t, en_Snd G M_X8_addFour t (kc t)) : en_Snd G M_X8_addFour 0 (B_X8_addFour_0 kc) := (sn_aload_n (i := 0) (n := 0) (by decide +kernel) rfl (sn_geti (ci := 8) (j := 1) en_c8 (by decide +kernel) wm_1071 (Nat.le_of_ble_eq_true rfl) rfl (sn_iconst (n := 4) (v := 4) (by decide +kernel) rfl (sn_iadd (by decide +kernel) (sn_bipush (n := 80) (v := 80) (by decide +kernel) rfl (sn_icle (off := 5) (tgt := 13) (by decide +kernel) rfl (s_X8_addFour_13 G hst kc hk) (sn_iconst (n := 0) (v := 0) (by decide +kernel) rfl (sn_zret (by decide +kernel)))))))))
def LK_X8_addFour : Nat → Nat → en_B
  | 0, _ => en_no
  | n + 1, t => if t = 16 then B_X8_addFour_16 (LK_X8_addFour n) else en_no
theorem l_X8_addFour (G : en_G) (hst : G.2.2.2.2.2 = true) : ∀ n t, en_Snd G M_X8_addFour t (LK_X8_addFour n t)
  | 0, _ => sn_no
  | n + 1, t => by
    show en_Snd G M_X8_addFour t (if t = 16 then B_X8_addFour_16 (LK_X8_addFour n) else en_no)
    by_cases h_16 : t = 16
    · rw [if_pos h_16, h_16]; exact s_X8_addFour_16 G hst _ (l_X8_addFour G hst n)
    rw [if_neg h_16]
    exact sn_no
def T_X8_addFour_0 (x1 : Int32) (σ : en_M) : en_R := B_X8_addFour_0 (LK_X8_addFour en_FU) [.inr (1, 8, 0, 0), .inl x1, en_un] [] en_zz σ
def T_X8_addFour_16 (n : Nat) (x1 : Int32) (x2 : Int32) (σ : en_M) : en_R := LK_X8_addFour n 16 [.inr (1, 8, 0, 0), .inl x1, .inl x2] [] en_zz σ
theorem t_X8_addFour_0 (x1 : Int32) (σ : en_M) : T_X8_addFour_0 x1 σ = (if (80 : Int32) < ((σ 1 1) + (4 : Int32)) then (if (0 : Int32) = 0 ∨ (0 : Int32) = 1 then en_ri (0 : Int32) σ else none) else (T_X8_addFour_16 en_FU x1 (24 : Int32) σ)) := rfl
theorem t_X8_addFour_16 (n : Nat) (x1 : Int32) (x2 : Int32) (σ : en_M) : T_X8_addFour_16 (n + 1) x1 x2 σ = (if x2 < 0 then (if (1 : Int32) = 0 ∨ (1 : Int32) = 1 then en_ri (1 : Int32) σ else none) else ((en_ix (σ 1 1) 80).bind fun j1 => T_X8_addFour_16 n x1 (x2 + (-8 : Int32)) (en_up (en_up σ 2 j1 ((en_shr x1 x2) &&& (255 : Int32))) 1 1 ((σ 1 1) + (1 : Int32))))) := rfl
def O_X8_addFour : List en_V → en_M → Option (Int32 × en_M) := fun av σ => match av with
  | [.inr (1, 8, 0, 0), .inl x1] => en_oi (T_X8_addFour_0 x1 σ)
  | _ => none
theorem i_X8_addFour (G : en_G) (hst : G.2.2.2.2.2 = true) : en_I G 1 yX8_addFour cX8_addFour 3 (some .boolean) 0 0 (en_wi (O_X8_addFour)) := en_of_i (M := M_X8_addFour) hst (s_X8_addFour_0 G hst _ (l_X8_addFour G hst en_FU)) (by decide +kernel) rfl rfl rfl (Or.inr ⟨rfl, rfl⟩) (fun av σ x σ' h => by
  unfold O_X8_addFour at h
  split at h
  · exact ⟨(Nat.le_of_ble_eq_true rfl), en_oi_some h⟩
  · cases h)
-- EachMayMissOne$Text.cutTo(I)Z
def M_X8_cutTo : en_Me := (cX8_cutTo, RX8, 2, false, 1, true)
theorem cs_X8_cutTo : en_cs yX8_cutTo cX8_cutTo 2 (some .boolean) 1 := ⟨wm_1072, wm_6, ⟨(by decide +kernel), (by decide +kernel), (by decide +kernel)⟩, (Nat.le_of_ble_eq_true rfl)⟩
def B_X8_cutTo_14 (kc : Nat → en_B) : en_B := (op_aload 0 (op_iload 1 (op_puti 8 1 (op_const (1 : Int32) op_zret))))
theorem s_X8_cutTo_14 (G : en_G) (hst : G.2.2.2.2.2 = true) (kc : Nat → en_B) (hk : ∀ t, en_Snd G M_X8_cutTo t (kc t)) : en_Snd G M_X8_cutTo 14 (B_X8_cutTo_14 kc) := (sn_aload_n (i := 0) (n := 0) (by decide +kernel) rfl (sn_iload_n (i := 1) (n := 1) (by decide +kernel) rfl (sn_puti (ci := 8) (j := 1) en_c8 (by decide +kernel) wm_1071 (Nat.le_of_ble_eq_true rfl) rfl rfl rfl (sn_iconst (n := 1) (v := 1) (by decide +kernel) rfl (sn_zret (by decide +kernel))))))
def B_X8_cutTo_12 (kc : Nat → en_B) : en_B := (op_const (0 : Int32) op_zret)
theorem s_X8_cutTo_12 (G : en_G) (hst : G.2.2.2.2.2 = true) (kc : Nat → en_B) (hk : ∀ t, en_Snd G M_X8_cutTo t (kc t)) : en_Snd G M_X8_cutTo 12 (B_X8_cutTo_12 kc) := (sn_iconst (n := 0) (v := 0) (by decide +kernel) rfl (sn_zret (by decide +kernel)))
def B_X8_cutTo_0 (kc : Nat → en_B) : en_B := (op_iload 1 (op_iflt (B_X8_cutTo_12 kc) (op_iload 1 (op_aload 0 (op_geti 8 1 (op_icgt (B_X8_cutTo_12 kc) (B_X8_cutTo_14 kc)))))))
theorem s_X8_cutTo_0 (G : en_G) (hst : G.2.2.2.2.2 = true) (kc : Nat → en_B) (hk : ∀ t, en_Snd G M_X8_cutTo t (kc t)) : en_Snd G M_X8_cutTo 0 (B_X8_cutTo_0 kc) := (sn_iload_n (i := 1) (n := 1) (by decide +kernel) rfl (sn_iflt (off := 11) (tgt := 12) (by decide +kernel) rfl (s_X8_cutTo_12 G hst kc hk) (sn_iload_n (i := 1) (n := 1) (by decide +kernel) rfl (sn_aload_n (i := 0) (n := 0) (by decide +kernel) rfl (sn_geti (ci := 8) (j := 1) en_c8 (by decide +kernel) wm_1071 (Nat.le_of_ble_eq_true rfl) rfl (sn_icle (off := 5) (tgt := 14) (by decide +kernel) rfl (s_X8_cutTo_14 G hst kc hk) (s_X8_cutTo_12 G hst kc hk)))))))
def LK_X8_cutTo : Nat → Nat → en_B
  | 0, _ => en_no
  | n + 1, t => en_no
theorem l_X8_cutTo (G : en_G) (hst : G.2.2.2.2.2 = true) : ∀ n t, en_Snd G M_X8_cutTo t (LK_X8_cutTo n t)
  | 0, _ => sn_no
  | n + 1, t => by
    show en_Snd G M_X8_cutTo t (en_no)
    exact sn_no
def T_X8_cutTo_0 (x1 : Int32) (σ : en_M) : en_R := B_X8_cutTo_0 (LK_X8_cutTo en_FU) [.inr (1, 8, 0, 0), .inl x1] [] en_zz σ
theorem t_X8_cutTo_0 (x1 : Int32) (σ : en_M) : T_X8_cutTo_0 x1 σ = (if x1 < 0 then (if (0 : Int32) = 0 ∨ (0 : Int32) = 1 then en_ri (0 : Int32) σ else none) else (if (σ 1 1) < x1 then (if (0 : Int32) = 0 ∨ (0 : Int32) = 1 then en_ri (0 : Int32) σ else none) else (if (1 : Int32) = 0 ∨ (1 : Int32) = 1 then en_ri (1 : Int32) (en_up σ 1 1 x1) else none))) := rfl
def O_X8_cutTo : List en_V → en_M → Option (Int32 × en_M) := fun av σ => match av with
  | [.inr (1, 8, 0, 0), .inl x1] => en_oi (T_X8_cutTo_0 x1 σ)
  | _ => none
theorem i_X8_cutTo (G : en_G) (hst : G.2.2.2.2.2 = true) : en_I G 1 yX8_cutTo cX8_cutTo 2 (some .boolean) 0 0 (en_wi (O_X8_cutTo)) := en_of_i (M := M_X8_cutTo) hst (s_X8_cutTo_0 G hst _ (l_X8_cutTo G hst en_FU)) (by decide +kernel) rfl rfl rfl (Or.inr ⟨rfl, rfl⟩) (fun av σ x σ' h => by
  unfold O_X8_cutTo at h
  split at h
  · exact ⟨(Nat.le_of_ble_eq_true rfl), en_oi_some h⟩
  · cases h)
-- EachMayMissOne$Text.clear()V
def M_X8_clear : en_Me := (cX8_clear, RX8, 1, false, 1, false)
theorem cs_X8_clear : en_cs yX8_clear cX8_clear 1 none 0 := ⟨wm_1075, wm_6, ⟨(by decide +kernel), (by decide +kernel), (by decide +kernel)⟩, (Nat.le_of_ble_eq_true rfl)⟩
def B_X8_clear_0 (kc : Nat → en_B) : en_B := (op_aload 0 (op_const (0 : Int32) (op_puti 8 1 op_vret)))
theorem s_X8_clear_0 (G : en_G) (hst : G.2.2.2.2.2 = true) (kc : Nat → en_B) (hk : ∀ t, en_Snd G M_X8_clear t (kc t)) : en_Snd G M_X8_clear 0 (B_X8_clear_0 kc) := (sn_aload_n (i := 0) (n := 0) (by decide +kernel) rfl (sn_iconst (n := 0) (v := 0) (by decide +kernel) rfl (sn_puti (ci := 8) (j := 1) en_c8 (by decide +kernel) wm_1071 (Nat.le_of_ble_eq_true rfl) rfl rfl rfl (sn_vret (by decide +kernel)))))
def LK_X8_clear : Nat → Nat → en_B
  | 0, _ => en_no
  | n + 1, t => en_no
theorem l_X8_clear (G : en_G) (hst : G.2.2.2.2.2 = true) : ∀ n t, en_Snd G M_X8_clear t (LK_X8_clear n t)
  | 0, _ => sn_no
  | n + 1, t => by
    show en_Snd G M_X8_clear t (en_no)
    exact sn_no
def T_X8_clear_0 (σ : en_M) : en_R := B_X8_clear_0 (LK_X8_clear en_FU) [.inr (1, 8, 0, 0)] [] en_zz σ
theorem t_X8_clear_0 (σ : en_M) : T_X8_clear_0 σ = (en_rv (en_up σ 1 1 (0 : Int32))) := rfl
def O_X8_clear : List en_V → en_M → Option en_M := fun av σ => match av with
  | [.inr (1, 8, 0, 0)] => en_ov (T_X8_clear_0 σ)
  | _ => none
theorem i_X8_clear (G : en_G) (hst : G.2.2.2.2.2 = true) : en_I G 1 yX8_clear cX8_clear 1 none 0 0 (en_wv (O_X8_clear)) := en_of_v (M := M_X8_clear) hst (s_X8_clear_0 G hst _ (l_X8_clear G hst en_FU)) (by decide +kernel) rfl rfl rfl (fun av σ σ' h => by
  unfold O_X8_clear at h
  split at h
  · exact ⟨(Nat.le_of_ble_eq_true rfl), en_ov_some h⟩
  · cases h)
-- EachMayMissOne$Text.at(II)I
def M_X8_at : en_Me := (cX8_at, RX8, 3, false, 1, false)
theorem cs_X8_at : en_cs yX8_at cX8_at 3 (some .int) 2 := ⟨wm_1078, wm_6, ⟨(by decide +kernel), (by decide +kernel), (by decide +kernel)⟩, (Nat.le_of_ble_eq_true rfl)⟩
def B_X8_at_30 (kc : Nat → en_B) : en_B := op_iret
theorem s_X8_at_30 (G : en_G) (hst : G.2.2.2.2.2 = true) (kc : Nat → en_B) (hk : ∀ t, en_Snd G M_X8_at t (kc t)) : en_Snd G M_X8_at 30 (B_X8_at_30 kc) := (sn_iret (by decide +kernel) rfl)
def B_X8_at_28 (kc : Nat → en_B) : en_B := (op_const (-2 : Int32) (B_X8_at_30 kc))
theorem s_X8_at_28 (G : en_G) (hst : G.2.2.2.2.2 = true) (kc : Nat → en_B) (hk : ∀ t, en_Snd G M_X8_at t (kc t)) : en_Snd G M_X8_at 28 (B_X8_at_28 kc) := (sn_bipush (n := -2) (v := -2) (by decide +kernel) rfl (s_X8_at_30 G hst kc hk))
def B_X8_at_14 (kc : Nat → en_B) : en_B := (op_iload 1 (op_iload 2 (op_iclt (op_aload 0 (op_gets 8 1 (20, 80, 0) (op_iload 1 (op_ald 20 (B_X8_at_30 kc))))) (B_X8_at_28 kc))))
theorem s_X8_at_14 (G : en_G) (hst : G.2.2.2.2.2 = true) (kc : Nat → en_B) (hk : ∀ t, en_Snd G M_X8_at t (kc t)) : en_Snd G M_X8_at 14 (B_X8_at_14 kc) := (sn_iload_n (i := 1) (n := 1) (by decide +kernel) rfl (sn_iload_n (i := 2) (n := 2) (by decide +kernel) rfl (sn_icge (off := 12) (tgt := 28) (by decide +kernel) rfl (s_X8_at_28 G hst kc hk) (sn_aload_n (i := 0) (n := 0) (by decide +kernel) rfl (sn_gets (ci := 8) (j := 0) (off := 1) hst en_c8 of_8_1 (Nat.le_of_ble_eq_true rfl) (by decide +kernel) wm_1067 (Nat.le_of_ble_eq_true rfl) rfl (sn_iload_n (i := 1) (n := 1) (by decide +kernel) rfl (sn_iald (by decide +kernel) (sn_goto (off := 5) (tgt := 30) (by decide +kernel) rfl (s_X8_at_30 G hst kc hk)))))))))
def B_X8_at_12 (kc : Nat → en_B) : en_B := (op_const (-1 : Int32) op_iret)
theorem s_X8_at_12 (G : en_G) (hst : G.2.2.2.2.2 = true) (kc : Nat → en_B) (hk : ∀ t, en_Snd G M_X8_at t (kc t)) : en_Snd G M_X8_at 12 (B_X8_at_12 kc) := (sn_iconst (n := -1) (v := -1) (by decide +kernel) rfl (sn_iret (by decide +kernel) rfl))
def B_X8_at_0 (kc : Nat → en_B) : en_B := (op_iload 1 (op_iflt (B_X8_at_12 kc) (op_iload 1 (op_aload 0 (op_geti 8 1 (op_iclt (B_X8_at_14 kc) (B_X8_at_12 kc)))))))
theorem s_X8_at_0 (G : en_G) (hst : G.2.2.2.2.2 = true) (kc : Nat → en_B) (hk : ∀ t, en_Snd G M_X8_at t (kc t)) : en_Snd G M_X8_at 0 (B_X8_at_0 kc) := (sn_iload_n (i := 1) (n := 1) (by decide +kernel) rfl (sn_iflt (off := 11) (tgt := 12) (by decide +kernel) rfl (s_X8_at_12 G hst kc hk) (sn_iload_n (i := 1) (n := 1) (by decide +kernel) rfl (sn_aload_n (i := 0) (n := 0) (by decide +kernel) rfl (sn_geti (ci := 8) (j := 1) en_c8 (by decide +kernel) wm_1071 (Nat.le_of_ble_eq_true rfl) rfl (sn_iclt (off := 5) (tgt := 14) (by decide +kernel) rfl (s_X8_at_14 G hst kc hk) (s_X8_at_12 G hst kc hk)))))))
def LK_X8_at : Nat → Nat → en_B
  | 0, _ => en_no
  | n + 1, t => en_no
theorem l_X8_at (G : en_G) (hst : G.2.2.2.2.2 = true) : ∀ n t, en_Snd G M_X8_at t (LK_X8_at n t)
  | 0, _ => sn_no
  | n + 1, t => by
    show en_Snd G M_X8_at t (en_no)
    exact sn_no
def T_X8_at_0 (x1 : Int32) (x2 : Int32) (σ : en_M) : en_R := B_X8_at_0 (LK_X8_at en_FU) [.inr (1, 8, 0, 0), .inl x1, .inl x2] [] en_zz σ
theorem t_X8_at_0 (x1 : Int32) (x2 : Int32) (σ : en_M) : T_X8_at_0 x1 x2 σ = (if x1 < 0 then (en_ri (-1 : Int32) σ) else (if x1 < (σ 1 1) then (if x1 < x2 then ((en_ix x1 80).bind fun j1 => en_ri (σ 2 j1) σ) else (en_ri (-2 : Int32) σ)) else (en_ri (-1 : Int32) σ))) := rfl
def O_X8_at : List en_V → en_M → Option (Int32 × en_M) := fun av σ => match av with
  | [.inr (1, 8, 0, 0), .inl x1, .inl x2] => en_oi (T_X8_at_0 x1 x2 σ)
  | _ => none
theorem i_X8_at (G : en_G) (hst : G.2.2.2.2.2 = true) : en_I G 1 yX8_at cX8_at 3 (some .int) 0 0 (en_wi (O_X8_at)) := en_of_i (M := M_X8_at) hst (s_X8_at_0 G hst _ (l_X8_at G hst en_FU)) (by decide +kernel) rfl rfl rfl (Or.inl ⟨rfl, rfl⟩) (fun av σ x σ' h => by
  unfold O_X8_at at h
  split at h
  · exact ⟨(Nat.le_of_ble_eq_true rfl), en_oi_some h⟩
  · cases h)
-- EachMayMissOne$Told.begin()V
def M_X9_begin : en_Me := (cX9_begin, RX9, 1, false, 1, false)
theorem cs_X9_begin : en_cs yX9_begin cX9_begin 1 none 0 := ⟨wm_1085, wm_11, ⟨(by decide +kernel), (by decide +kernel), (by decide +kernel)⟩, (Nat.le_of_ble_eq_true rfl)⟩
def B_X9_begin_0 (kc : Nat → en_B) : en_B := (op_aload 0 (op_const (0 : Int32) (op_puti 9 1 op_vret)))
theorem s_X9_begin_0 (G : en_G) (hst : G.2.2.2.2.2 = true) (kc : Nat → en_B) (hk : ∀ t, en_Snd G M_X9_begin t (kc t)) : en_Snd G M_X9_begin 0 (B_X9_begin_0 kc) := (sn_aload_n (i := 0) (n := 0) (by decide +kernel) rfl (sn_iconst (n := 0) (v := 0) (by decide +kernel) rfl (sn_puti (ci := 9) (j := 1) en_c9 (by decide +kernel) wm_1088 (Nat.le_of_ble_eq_true rfl) rfl rfl rfl (sn_vret (by decide +kernel)))))
def LK_X9_begin : Nat → Nat → en_B
  | 0, _ => en_no
  | n + 1, t => en_no
theorem l_X9_begin (G : en_G) (hst : G.2.2.2.2.2 = true) : ∀ n t, en_Snd G M_X9_begin t (LK_X9_begin n t)
  | 0, _ => sn_no
  | n + 1, t => by
    show en_Snd G M_X9_begin t (en_no)
    exact sn_no
def T_X9_begin_0 (σ : en_M) : en_R := B_X9_begin_0 (LK_X9_begin en_FU) [.inr (3, 9, 0, 0)] [] en_zz σ
theorem t_X9_begin_0 (σ : en_M) : T_X9_begin_0 σ = (en_rv (en_up σ 3 1 (0 : Int32))) := rfl
def O_X9_begin : List en_V → en_M → Option en_M := fun av σ => match av with
  | [.inr (3, 9, 0, 0)] => en_ov (T_X9_begin_0 σ)
  | _ => none
theorem i_X9_begin (G : en_G) (hst : G.2.2.2.2.2 = true) : en_I G 1 yX9_begin cX9_begin 1 none 0 0 (en_wv (O_X9_begin)) := en_of_v (M := M_X9_begin) hst (s_X9_begin_0 G hst _ (l_X9_begin G hst en_FU)) (by decide +kernel) rfl rfl rfl (fun av σ σ' h => by
  unfold O_X9_begin at h
  split at h
  · exact ⟨(Nat.le_of_ble_eq_true rfl), en_ov_some h⟩
  · cases h)
-- EachMayMissOne$Told.add(I)V
def M_X9_add : en_Me := (cX9_add, RX9, 2, false, 1, false)
theorem cs_X9_add : en_cs yX9_add cX9_add 2 none 1 := ⟨wm_1089, wm_11, ⟨(by decide +kernel), (by decide +kernel), (by decide +kernel)⟩, (Nat.le_of_ble_eq_true rfl)⟩
def B_X9_add_32 (kc : Nat → en_B) : en_B := op_vret
theorem s_X9_add_32 (G : en_G) (hst : G.2.2.2.2.2 = true) (kc : Nat → en_B) (hk : ∀ t, en_Snd G M_X9_add t (kc t)) : en_Snd G M_X9_add 32 (B_X9_add_32 kc) := (sn_vret (by decide +kernel))
def B_X9_add_0 (kc : Nat → en_B) : en_B := (op_aload 0 (op_geti 9 1 (op_aload 0 (op_gets 9 1 (20, 16, 0) (op_alen (op_iclt (op_aload 0 (op_gets 9 1 (20, 16, 0) (op_aload 0 (op_geti 9 1 (op_iload 1 (op_ast 20 (fun (x : Int32) => x) (op_aload 0 (op_dup (op_geti 9 1 (op_const (1 : Int32) (op_bin (fun (x y : Int32) => x + y) (op_puti 9 1 (B_X9_add_32 kc))))))))))))) (B_X9_add_32 kc)))))))
theorem s_X9_add_0 (G : en_G) (hst : G.2.2.2.2.2 = true) (kc : Nat → en_B) (hk : ∀ t, en_Snd G M_X9_add t (kc t)) : en_Snd G M_X9_add 0 (B_X9_add_0 kc) := (sn_aload_n (i := 0) (n := 0) (by decide +kernel) rfl (sn_geti (ci := 9) (j := 1) en_c9 (by decide +kernel) wm_1088 (Nat.le_of_ble_eq_true rfl) rfl (sn_aload_n (i := 0) (n := 0) (by decide +kernel) rfl (sn_gets (ci := 9) (j := 0) (off := 1) hst en_c9 of_9_1 (Nat.le_of_ble_eq_true rfl) (by decide +kernel) wm_1084 (Nat.le_of_ble_eq_true rfl) rfl (sn_alen (by decide +kernel) (sn_icge (off := 23) (tgt := 32) (by decide +kernel) rfl (s_X9_add_32 G hst kc hk) (sn_aload_n (i := 0) (n := 0) (by decide +kernel) rfl (sn_gets (ci := 9) (j := 0) (off := 1) hst en_c9 of_9_1 (Nat.le_of_ble_eq_true rfl) (by decide +kernel) wm_1084 (Nat.le_of_ble_eq_true rfl) rfl (sn_aload_n (i := 0) (n := 0) (by decide +kernel) rfl (sn_geti (ci := 9) (j := 1) en_c9 (by decide +kernel) wm_1088 (Nat.le_of_ble_eq_true rfl) rfl (sn_iload_n (i := 1) (n := 1) (by decide +kernel) rfl (sn_iast (by decide +kernel) (sn_aload_n (i := 0) (n := 0) (by decide +kernel) rfl (sn_dup (by decide +kernel) (sn_geti (ci := 9) (j := 1) en_c9 (by decide +kernel) wm_1088 (Nat.le_of_ble_eq_true rfl) rfl (sn_iconst (n := 1) (v := 1) (by decide +kernel) rfl (sn_iadd (by decide +kernel) (sn_puti (ci := 9) (j := 1) en_c9 (by decide +kernel) wm_1088 (Nat.le_of_ble_eq_true rfl) rfl rfl rfl (s_X9_add_32 G hst kc hk)))))))))))))))))))
def LK_X9_add : Nat → Nat → en_B
  | 0, _ => en_no
  | n + 1, t => en_no
theorem l_X9_add (G : en_G) (hst : G.2.2.2.2.2 = true) : ∀ n t, en_Snd G M_X9_add t (LK_X9_add n t)
  | 0, _ => sn_no
  | n + 1, t => by
    show en_Snd G M_X9_add t (en_no)
    exact sn_no
def T_X9_add_0 (x1 : Int32) (σ : en_M) : en_R := B_X9_add_0 (LK_X9_add en_FU) [.inr (3, 9, 0, 0), .inl x1] [] en_zz σ
theorem t_X9_add_0 (x1 : Int32) (σ : en_M) : T_X9_add_0 x1 σ = (if (σ 3 1) < (Int32.ofNat 16) then ((en_ix (σ 3 1) 16).bind fun j1 => en_rv (en_up (en_up σ 4 j1 x1) 3 1 ((σ 3 1) + (1 : Int32)))) else (en_rv σ)) := rfl
def O_X9_add : List en_V → en_M → Option en_M := fun av σ => match av with
  | [.inr (3, 9, 0, 0), .inl x1] => en_ov (T_X9_add_0 x1 σ)
  | _ => none
theorem i_X9_add (G : en_G) (hst : G.2.2.2.2.2 = true) : en_I G 1 yX9_add cX9_add 2 none 0 0 (en_wv (O_X9_add)) := en_of_v (M := M_X9_add) hst (s_X9_add_0 G hst _ (l_X9_add G hst en_FU)) (by decide +kernel) rfl rfl rfl (fun av σ σ' h => by
  unfold O_X9_add at h
  split at h
  · exact ⟨(Nat.le_of_ble_eq_true rfl), en_ov_some h⟩
  · cases h)
