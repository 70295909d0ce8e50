-- EachMayMissOne.sheet(IIII)I
def M_X11_sheet : en_Me := (cX11_sheet, RX11, 7, false, 3, false)
theorem cs_X11_sheet : en_cs yX11_sheet cX11_sheet 7 (some .int) 4 := ⟨wm_103, wm_2, ⟨(by decide +kernel), (by decide +kernel), (by decide +kernel)⟩, (Nat.le_of_ble_eq_true rfl)⟩
noncomputable def B_X11_sheet_117 (kc : Nat → en_B) : en_B := op_iret
set_option maxRecDepth 20000 in
theorem s_X11_sheet_117 (G : en_G) (hst : G.2.2.2.2.2 = true) (kc : Nat → en_B) (hk : ∀ t, en_Snd G M_X11_sheet t (kc t)) : en_Snd G M_X11_sheet 117 (B_X11_sheet_117 kc) := (sn_iret (by decide +kernel) rfl)
noncomputable def B_X11_sheet_107 (kc : Nat → en_B) : en_B := (op_aload 0 (op_gets 11 15 (7, 0, 0) (op_gets 7 1 (20, 7, 0) (op_calli O_X11_sum 1 (B_X11_sheet_117 kc)))))
set_option maxRecDepth 20000 in
theorem s_X11_sheet_107 (G : en_G) (hst : G.2.2.2.2.2 = true) (kc : Nat → en_B) (hk : ∀ t, en_Snd G M_X11_sheet t (kc t)) : en_Snd G M_X11_sheet 107 (B_X11_sheet_107 kc) := (sn_aload_n (i := 0) (n := 0) (by decide +kernel) rfl (sn_gets (ci := 11) (j := 3) (off := 15) hst en_c11 of_11_15 (Nat.le_of_ble_eq_true rfl) (by decide +kernel) wm_23 (Nat.le_of_ble_eq_true rfl) rfl (sn_gets (ci := 7) (j := 0) (off := 1) hst en_c7 of_7_1 (Nat.le_of_ble_eq_true rfl) (by decide +kernel) wm_86 (Nat.le_of_ble_eq_true rfl) rfl (sn_callSi (n := 1) (idx := 190) (i_X11_sum G hst) (Nat.le_of_ble_eq_true rfl) cs_X11_sum ⟨wm_272, Or.inl wm_108⟩ (by decide +kernel) (s_X11_sheet_117 G hst kc hk)))))
noncomputable def B_X11_sheet_97 (kc : Nat → en_B) : en_B := (op_iload 1 (op_const (3 : Int32) (op_iceq (op_const (-3 : Int32) (B_X11_sheet_117 kc)) (B_X11_sheet_107 kc))))
set_option maxRecDepth 20000 in
theorem s_X11_sheet_97 (G : en_G) (hst : G.2.2.2.2.2 = true) (kc : Nat → en_B) (hk : ∀ t, en_Snd G M_X11_sheet t (kc t)) : en_Snd G M_X11_sheet 97 (B_X11_sheet_97 kc) := (sn_iload_n (i := 1) (n := 1) (by decide +kernel) rfl (sn_iconst (n := 3) (v := 3) (by decide +kernel) rfl (sn_icne (off := 8) (tgt := 107) (by decide +kernel) rfl (s_X11_sheet_107 G hst kc hk) (sn_bipush (n := -3) (v := -3) (by decide +kernel) rfl (sn_goto (off := 13) (tgt := 117) (by decide +kernel) rfl (s_X11_sheet_117 G hst kc hk))))))
noncomputable def B_X11_sheet_90 (kc : Nat → en_B) : en_B := (op_ast 20 (fun (x : Int32) => x) (op_iinc 6 (1 : Int32) (kc 44)))
set_option maxRecDepth 20000 in
theorem s_X11_sheet_90 (G : en_G) (hst : G.2.2.2.2.2 = true) (kc : Nat → en_B) (hk : ∀ t, en_Snd G M_X11_sheet t (kc t)) : en_Snd G M_X11_sheet 90 (B_X11_sheet_90 kc) := (sn_iast (by decide +kernel) (sn_iinc (i := 6) (n := 1) (v := 1) (by decide +kernel) rfl (sn_goto (off := -50) (tgt := 44) (by decide +kernel) rfl (hk 44))))
noncomputable def B_X11_sheet_89 (kc : Nat → en_B) : en_B := (op_const (0 : Int32) (B_X11_sheet_90 kc))
set_option maxRecDepth 20000 in
theorem s_X11_sheet_89 (G : en_G) (hst : G.2.2.2.2.2 = true) (kc : Nat → en_B) (hk : ∀ t, en_Snd G M_X11_sheet t (kc t)) : en_Snd G M_X11_sheet 89 (B_X11_sheet_89 kc) := (sn_iconst (n := 0) (v := 0) (by decide +kernel) rfl (s_X11_sheet_90 G hst kc hk))
noncomputable def B_X11_sheet_44 (kc : Nat → en_B) : en_B := (op_iload 6 (op_aload 0 (op_gets 11 5 (10, 0, 0) (op_geti 10 3 (op_iclt (op_aload 0 (op_gets 11 15 (7, 0, 0) (op_gets 7 1 (20, 7, 0) (op_iload 6 (op_iload 6 (op_iload 5 (op_iclt (op_iload 1 (op_iload 3 (op_iload 6 (op_iload 4 (op_bin (fun (x y : Int32) => x * y) (op_bin (fun (x y : Int32) => x + y) (op_calli O_X11_narrowed 2 (op_calli O_X11_put 1 (B_X11_sheet_90 kc))))))))) (B_X11_sheet_89 kc)))))))) (B_X11_sheet_97 kc))))))
set_option maxRecDepth 20000 in
theorem s_X11_sheet_44 (G : en_G) (hst : G.2.2.2.2.2 = true) (kc : Nat → en_B) (hk : ∀ t, en_Snd G M_X11_sheet t (kc t)) : en_Snd G M_X11_sheet 44 (B_X11_sheet_44 kc) := (sn_iload (i := 6) (by decide +kernel) (sn_aload_n (i := 0) (n := 0) (by decide +kernel) rfl (sn_gets (ci := 11) (j := 2) (off := 5) hst en_c11 of_11_5 (Nat.le_of_ble_eq_true rfl) (by decide +kernel) wm_18 (Nat.le_of_ble_eq_true rfl) rfl (sn_geti (ci := 10) (j := 3) en_c10 (by decide +kernel) wm_74 (Nat.le_of_ble_eq_true rfl) rfl (sn_icge (off := 44) (tgt := 97) (by decide +kernel) rfl (s_X11_sheet_97 G hst kc hk) (sn_aload_n (i := 0) (n := 0) (by decide +kernel) rfl (sn_gets (ci := 11) (j := 3) (off := 15) hst en_c11 of_11_15 (Nat.le_of_ble_eq_true rfl) (by decide +kernel) wm_23 (Nat.le_of_ble_eq_true rfl) rfl (sn_gets (ci := 7) (j := 0) (off := 1) hst en_c7 of_7_1 (Nat.le_of_ble_eq_true rfl) (by decide +kernel) wm_86 (Nat.le_of_ble_eq_true rfl) rfl (sn_iload (i := 6) (by decide +kernel) (sn_iload (i := 6) (by decide +kernel) (sn_iload (i := 5) (by decide +kernel) (sn_icge (off := 20) (tgt := 89) (by decide +kernel) rfl (s_X11_sheet_89 G hst kc hk) (sn_iload_n (i := 1) (n := 1) (by decide +kernel) rfl (sn_iload_n (i := 3) (n := 3) (by decide +kernel) rfl (sn_iload (i := 6) (by decide +kernel) (sn_iload (i := 4) (by decide +kernel) (sn_imul (by decide +kernel) (sn_iadd (by decide +kernel) (sn_callSi (n := 2) (idx := 183) (i_X11_narrowed G hst) (Nat.le_of_ble_eq_true rfl) cs_X11_narrowed ⟨wm_270, Or.inl wm_106⟩ (by decide +kernel) (sn_callSi (n := 1) (idx := 186) (i_X11_put G hst) (Nat.le_of_ble_eq_true rfl) cs_X11_put ⟨wm_261, Or.inl wm_107⟩ (by decide +kernel) (sn_goto (off := 4) (tgt := 90) (by decide +kernel) rfl (s_X11_sheet_90 G hst kc hk))))))))))))))))))))))
noncomputable def B_X11_sheet_39 (kc : Nat → en_B) : en_B := (op_istore 5 (op_const (0 : Int32) (op_istore 6 (kc 44))))
set_option maxRecDepth 20000 in
theorem s_X11_sheet_39 (G : en_G) (hst : G.2.2.2.2.2 = true) (kc : Nat → en_B) (hk : ∀ t, en_Snd G M_X11_sheet t (kc t)) : en_Snd G M_X11_sheet 39 (B_X11_sheet_39 kc) := (sn_istore (i := 5) (by decide +kernel) (Nat.le_of_ble_eq_true rfl) (sn_iconst (n := 0) (v := 0) (by decide +kernel) rfl (sn_istore (i := 6) (by decide +kernel) (Nat.le_of_ble_eq_true rfl) (hk 44))))
noncomputable def B_X11_sheet_38 (kc : Nat → en_B) : en_B := (op_iload 2 (B_X11_sheet_39 kc))
set_option maxRecDepth 20000 in
theorem s_X11_sheet_38 (G : en_G) (hst : G.2.2.2.2.2 = true) (kc : Nat → en_B) (hk : ∀ t, en_Snd G M_X11_sheet t (kc t)) : en_Snd G M_X11_sheet 38 (B_X11_sheet_38 kc) := (sn_iload_n (i := 2) (n := 2) (by decide +kernel) rfl (s_X11_sheet_39 G hst kc hk))
noncomputable def B_X11_sheet_29 (kc : Nat → en_B) : en_B := (op_iload 1 (op_const (3 : Int32) (op_iceq (op_const (0 : Int32) (B_X11_sheet_39 kc)) (B_X11_sheet_38 kc))))
set_option maxRecDepth 20000 in
theorem s_X11_sheet_29 (G : en_G) (hst : G.2.2.2.2.2 = true) (kc : Nat → en_B) (hk : ∀ t, en_Snd G M_X11_sheet t (kc t)) : en_Snd G M_X11_sheet 29 (B_X11_sheet_29 kc) := (sn_iload_n (i := 1) (n := 1) (by decide +kernel) rfl (sn_iconst (n := 3) (v := 3) (by decide +kernel) rfl (sn_icne (off := 7) (tgt := 38) (by decide +kernel) rfl (s_X11_sheet_38 G hst kc hk) (sn_iconst (n := 0) (v := 0) (by decide +kernel) rfl (sn_goto (off := 4) (tgt := 39) (by decide +kernel) rfl (s_X11_sheet_39 G hst kc hk))))))
noncomputable def B_X11_sheet_17 (kc : Nat → en_B) : en_B := (op_iload 1 (op_const (3 : Int32) (op_iclt (op_iload 2 (op_iflt (op_const (-2 : Int32) op_iret) (B_X11_sheet_29 kc))) (B_X11_sheet_29 kc))))
set_option maxRecDepth 20000 in
theorem s_X11_sheet_17 (G : en_G) (hst : G.2.2.2.2.2 = true) (kc : Nat → en_B) (hk : ∀ t, en_Snd G M_X11_sheet t (kc t)) : en_Snd G M_X11_sheet 17 (B_X11_sheet_17 kc) := (sn_iload_n (i := 1) (n := 1) (by decide +kernel) rfl (sn_iconst (n := 3) (v := 3) (by decide +kernel) rfl (sn_icge (off := 10) (tgt := 29) (by decide +kernel) rfl (s_X11_sheet_29 G hst kc hk) (sn_iload_n (i := 2) (n := 2) (by decide +kernel) rfl (sn_ifge (off := 6) (tgt := 29) (by decide +kernel) rfl (s_X11_sheet_29 G hst kc hk) (sn_bipush (n := -2) (v := -2) (by decide +kernel) rfl (sn_iret (by decide +kernel) rfl)))))))
noncomputable def B_X11_sheet_15 (kc : Nat → en_B) : en_B := (op_const (-1 : Int32) op_iret)
set_option maxRecDepth 20000 in
theorem s_X11_sheet_15 (G : en_G) (hst : G.2.2.2.2.2 = true) (kc : Nat → en_B) (hk : ∀ t, en_Snd G M_X11_sheet t (kc t)) : en_Snd G M_X11_sheet 15 (B_X11_sheet_15 kc) := (sn_iconst (n := -1) (v := -1) (by decide +kernel) rfl (sn_iret (by decide +kernel) rfl))
noncomputable def B_X11_sheet_0 (kc : Nat → en_B) : en_B := (op_iload 1 (op_iflt (B_X11_sheet_15 kc) (op_iload 1 (op_const (3 : Int32) (op_icgt (B_X11_sheet_15 kc) (op_iload 2 (op_const (7 : Int32) (op_icgt (B_X11_sheet_15 kc) (B_X11_sheet_17 kc)))))))))
set_option maxRecDepth 20000 in
theorem s_X11_sheet_0 (G : en_G) (hst : G.2.2.2.2.2 = true) (kc : Nat → en_B) (hk : ∀ t, en_Snd G M_X11_sheet t (kc t)) : en_Snd G M_X11_sheet 0 (B_X11_sheet_0 kc) := (sn_iload_n (i := 1) (n := 1) (by decide +kernel) rfl (sn_iflt (off := 14) (tgt := 15) (by decide +kernel) rfl (s_X11_sheet_15 G hst kc hk) (sn_iload_n (i := 1) (n := 1) (by decide +kernel) rfl (sn_iconst (n := 3) (v := 3) (by decide +kernel) rfl (sn_icgt (off := 9) (tgt := 15) (by decide +kernel) rfl (s_X11_sheet_15 G hst kc hk) (sn_iload_n (i := 2) (n := 2) (by decide +kernel) rfl (sn_bipush (n := 7) (v := 7) (by decide +kernel) rfl (sn_icle (off := 5) (tgt := 17) (by decide +kernel) rfl (s_X11_sheet_17 G hst kc hk) (s_X11_sheet_15 G hst kc hk)))))))))
noncomputable def LK_X11_sheet : Nat → Nat → en_B
  | 0, _ => en_no
  | n + 1, t => if t = 44 then B_X11_sheet_44 (LK_X11_sheet n) else en_no
theorem l_X11_sheet (G : en_G) (hst : G.2.2.2.2.2 = true) : ∀ n t, en_Snd G M_X11_sheet t (LK_X11_sheet n t)
  | 0, _ => sn_no
  | n + 1, t => by
    show en_Snd G M_X11_sheet t (if t = 44 then B_X11_sheet_44 (LK_X11_sheet n) else en_no)
    by_cases h_44 : t = 44
    · rw [if_pos h_44, h_44]; exact s_X11_sheet_44 G hst _ (l_X11_sheet G hst n)
    rw [if_neg h_44]
    exact sn_no
noncomputable def T_X11_sheet_0 (x1 : Int32) (x2 : Int32) (x3 : Int32) (x4 : Int32) (σ : en_M) : en_R := B_X11_sheet_0 (LK_X11_sheet en_FU) [.inr (0, 11, 0, 0), .inl x1, .inl x2, .inl x3, .inl x4, en_un, en_un] [] en_zz σ
noncomputable def T_X11_sheet_44 (n : Nat) (x1 : Int32) (x2 : Int32) (x3 : Int32) (x4 : Int32) (x5 : Int32) (x6 : Int32) (σ : en_M) : en_R := LK_X11_sheet n 44 [.inr (0, 11, 0, 0), .inl x1, .inl x2, .inl x3, .inl x4, .inl x5, .inl x6] [] en_zz σ
set_option maxRecDepth 20000 in
set_option maxHeartbeats 2000000 in
theorem t_X11_sheet_0 (x1 : Int32) (x2 : Int32) (x3 : Int32) (x4 : Int32) (σ : en_M) : T_X11_sheet_0 x1 x2 x3 x4 σ = (if x1 < 0 then (en_ri (-1 : Int32) σ) else (if (3 : Int32) < x1 then (en_ri (-1 : Int32) σ) else (if (7 : Int32) < x2 then (en_ri (-1 : Int32) σ) else (if x1 < (3 : Int32) then (if x2 < 0 then (en_ri (-2 : Int32) σ) else (if x1 = (3 : Int32) then (T_X11_sheet_44 en_FU x1 x2 x3 x4 (0 : Int32) (0 : Int32) σ) else (T_X11_sheet_44 en_FU x1 x2 x3 x4 x2 (0 : Int32) σ))) else (if x1 = (3 : Int32) then (T_X11_sheet_44 en_FU x1 x2 x3 x4 (0 : Int32) (0 : Int32) σ) else (T_X11_sheet_44 en_FU x1 x2 x3 x4 x2 (0 : Int32) σ)))))) := rfl
set_option maxRecDepth 20000 in
set_option maxHeartbeats 2000000 in
theorem t_X11_sheet_44 (n : Nat) (x1 : Int32) (x2 : Int32) (x3 : Int32) (x4 : Int32) (x5 : Int32) (x6 : Int32) (σ : en_M) : T_X11_sheet_44 (n + 1) x1 x2 x3 x4 x5 x6 σ = (if x6 < (σ 5 3) then (if x6 < x5 then ((O_X11_narrowed [.inl x1, .inl (x3 + (x6 * x4))] σ).bind fun r3 => (O_X11_put [.inl r3.1] r3.2).bind fun r4 => (en_ix x6 7).bind fun j5 => T_X11_sheet_44 n x1 x2 x3 x4 x5 (x6 + (1 : Int32)) (en_up r4.2 16 j5 r4.1)) else ((en_ix x6 7).bind fun j2 => T_X11_sheet_44 n x1 x2 x3 x4 x5 (x6 + (1 : Int32)) (en_up σ 16 j2 (0 : Int32)))) else (if x1 = (3 : Int32) then (en_ri (-3 : Int32) σ) else ((O_X11_sum [.inr (16, 20, 7, 0)] σ).bind fun r1 => en_ri r1.1 r1.2))) := rfl
noncomputable def P_X11_sheet : List en_V → en_M → Option (Int32 × en_M) := fun av σ => match av with
  | [.inr (0, 11, 0, 0), .inl x1, .inl x2, .inl x3, .inl x4] => en_oi (T_X11_sheet_0 x1 x2 x3 x4 σ)
  | _ => none
theorem ox_X11_sheet : ∃ f, f = P_X11_sheet := ⟨_, rfl⟩
noncomputable def O_X11_sheet : List en_V → en_M → Option (Int32 × en_M) := Classical.choose ox_X11_sheet
theorem oe_X11_sheet : O_X11_sheet = P_X11_sheet := Classical.choose_spec ox_X11_sheet
theorem o_X11_sheet (x1 : Int32) (x2 : Int32) (x3 : Int32) (x4 : Int32) (σ : en_M) : O_X11_sheet [.inr (0, 11, 0, 0), .inl x1, .inl x2, .inl x3, .inl x4] σ = en_oi (T_X11_sheet_0 x1 x2 x3 x4 σ) := by rw [oe_X11_sheet]; rfl
theorem i_X11_sheet (G : en_G) (hst : G.2.2.2.2.2 = true) : en_I G 3 yX11_sheet cX11_sheet 7 (some .int) 0 0 (en_wi (O_X11_sheet)) := en_of_i (M := M_X11_sheet) hst (s_X11_sheet_0 G hst _ (l_X11_sheet G hst en_FU)) (plainFor_of_name (by decide +kernel)) rfl rfl rfl (Or.inl ⟨rfl, rfl⟩) (fun av σ x σ' h => by
  rw [oe_X11_sheet] at h; unfold P_X11_sheet at h
  split at h
  · exact ⟨(Nat.le_of_ble_eq_true rfl), en_oi_some h⟩
  · cases h)
-- EachMayMissOne.round(I)I
def M_X11_round : en_Me := (cX11_round, RX11, 3, false, 5, false)
theorem cs_X11_round : en_cs yX11_round cX11_round 3 (some .int) 1 := ⟨wm_109, wm_2, ⟨(by decide +kernel), (by decide +kernel), (by decide +kernel)⟩, (Nat.le_of_ble_eq_true rfl)⟩
noncomputable def B_X11_round_26 (kc : Nat → en_B) : en_B := (op_aload 0 (op_gets 11 25 (4, 0, 0) (op_aload 0 (op_gets 11 15 (7, 0, 0) (op_rcv 4 1 (op_callv O_X4_push 2 (op_aload 0 (op_gets 11 5 (10, 0, 0) (op_aload 0 (op_gets 11 15 (7, 0, 0) (op_iload 1 (op_rcv 10 2 (op_calli O_X10_ring 3 (op_istore 2 (op_aload 0 (op_gets 11 3 (9, 0, 0) (op_rcv 9 0 (op_callv O_X9_begin 1 (op_aload 0 (op_gets 11 3 (9, 0, 0) (op_aload 0 (op_gets 11 15 (7, 0, 0) (op_geti 7 8 (op_rcv 9 1 (op_callv O_X9_add 2 (op_aload 0 (op_gets 11 3 (9, 0, 0) (op_aload 0 (op_gets 11 15 (7, 0, 0) (op_geti 7 9 (op_rcv 9 1 (op_callv O_X9_add 2 (op_iload 2 op_iret)))))))))))))))))))))))))))))))))
set_option maxRecDepth 20000 in
theorem s_X11_round_26 (G : en_G) (hst : G.2.2.2.2.2 = true) (kc : Nat → en_B) (hk : ∀ t, en_Snd G M_X11_round t (kc t)) : en_Snd G M_X11_round 26 (B_X11_round_26 kc) := (sn_aload_n (i := 0) (n := 0) (by decide +kernel) rfl (sn_gets (ci := 11) (j := 5) (off := 25) hst en_c11 of_11_25 (Nat.le_of_ble_eq_true rfl) (by decide +kernel) wm_29 (Nat.le_of_ble_eq_true rfl) rfl (sn_aload_n (i := 0) (n := 0) (by decide +kernel) rfl (sn_gets (ci := 11) (j := 3) (off := 15) hst en_c11 of_11_15 (Nat.le_of_ble_eq_true rfl) (by decide +kernel) wm_23 (Nat.le_of_ble_eq_true rfl) rfl (sn_callVv (n := 1) (idx := 197) (ci := 4) (i_X4_push G hst) (Nat.le_of_ble_eq_true rfl) cs_X4_push ⟨wm_857, wm_858, wm_113⟩ ⟨⟨_, rfl, rfl⟩, (Nat.le_of_ble_eq_true rfl)⟩ (by decide +kernel) (sn_aload_n (i := 0) (n := 0) (by decide +kernel) rfl (sn_gets (ci := 11) (j := 2) (off := 5) hst en_c11 of_11_5 (Nat.le_of_ble_eq_true rfl) (by decide +kernel) wm_18 (Nat.le_of_ble_eq_true rfl) rfl (sn_aload_n (i := 0) (n := 0) (by decide +kernel) rfl (sn_gets (ci := 11) (j := 3) (off := 15) hst en_c11 of_11_15 (Nat.le_of_ble_eq_true rfl) (by decide +kernel) wm_23 (Nat.le_of_ble_eq_true rfl) rfl (sn_iload_n (i := 1) (n := 1) (by decide +kernel) rfl (sn_callVi (n := 2) (idx := 201) (ci := 10) (i_X10_ring G hst) (Nat.le_of_ble_eq_true rfl) cs_X10_ring ⟨wm_1142, wm_1143, wm_114⟩ ⟨⟨_, rfl, rfl⟩, (Nat.le_of_ble_eq_true rfl)⟩ (by decide +kernel) (sn_istore_n (i := 2) (n := 2) (by decide +kernel) rfl (Nat.le_of_ble_eq_true rfl) (sn_aload_n (i := 0) (n := 0) (by decide +kernel) rfl (sn_gets (ci := 11) (j := 1) (off := 3) hst en_c11 of_11_3 (Nat.le_of_ble_eq_true rfl) (by decide +kernel) wm_13 (Nat.le_of_ble_eq_true rfl) rfl (sn_callVv (n := 0) (idx := 205) (ci := 9) (i_X9_begin G hst) (Nat.le_of_ble_eq_true rfl) cs_X9_begin ⟨wm_1086, wm_1087, wm_115⟩ ⟨⟨_, rfl, rfl⟩, (Nat.le_of_ble_eq_true rfl)⟩ (by decide +kernel) (sn_aload_n (i := 0) (n := 0) (by decide +kernel) rfl (sn_gets (ci := 11) (j := 1) (off := 3) hst en_c11 of_11_3 (Nat.le_of_ble_eq_true rfl) (by decide +kernel) wm_13 (Nat.le_of_ble_eq_true rfl) rfl (sn_aload_n (i := 0) (n := 0) (by decide +kernel) rfl (sn_gets (ci := 11) (j := 3) (off := 15) hst en_c11 of_11_15 (Nat.le_of_ble_eq_true rfl) (by decide +kernel) wm_23 (Nat.le_of_ble_eq_true rfl) rfl (sn_geti (ci := 7) (j := 8) en_c7 (by decide +kernel) wm_116 (Nat.le_of_ble_eq_true rfl) rfl (sn_callVv (n := 1) (idx := 209) (ci := 9) (i_X9_add G hst) (Nat.le_of_ble_eq_true rfl) cs_X9_add ⟨wm_1090, wm_1091, wm_117⟩ ⟨⟨_, rfl, rfl⟩, (Nat.le_of_ble_eq_true rfl)⟩ (by decide +kernel) (sn_aload_n (i := 0) (n := 0) (by decide +kernel) rfl (sn_gets (ci := 11) (j := 1) (off := 3) hst en_c11 of_11_3 (Nat.le_of_ble_eq_true rfl) (by decide +kernel) wm_13 (Nat.le_of_ble_eq_true rfl) rfl (sn_aload_n (i := 0) (n := 0) (by decide +kernel) rfl (sn_gets (ci := 11) (j := 3) (off := 15) hst en_c11 of_11_15 (Nat.le_of_ble_eq_true rfl) (by decide +kernel) wm_23 (Nat.le_of_ble_eq_true rfl) rfl (sn_geti (ci := 7) (j := 9) en_c7 (by decide +kernel) wm_118 (Nat.le_of_ble_eq_true rfl) rfl (sn_callVv (n := 1) (idx := 209) (ci := 9) (i_X9_add G hst) (Nat.le_of_ble_eq_true rfl) cs_X9_add ⟨wm_1090, wm_1091, wm_117⟩ ⟨⟨_, rfl, rfl⟩, (Nat.le_of_ble_eq_true rfl)⟩ (by decide +kernel) (sn_iload_n (i := 2) (n := 2) (by decide +kernel) rfl (sn_iret (by decide +kernel) rfl)))))))))))))))))))))))))))))
noncomputable def B_X11_round_13 (kc : Nat → en_B) : en_B := (op_aload 0 (op_gets 11 5 (10, 0, 0) (op_iload 1 (op_rcv 10 1 (op_calli O_X10_hasAll 2 (op_ifeq (op_const (-1 : Int32) op_iret) (B_X11_round_26 kc)))))))
set_option maxRecDepth 20000 in
theorem s_X11_round_13 (G : en_G) (hst : G.2.2.2.2.2 = true) (kc : Nat → en_B) (hk : ∀ t, en_Snd G M_X11_round t (kc t)) : en_Snd G M_X11_round 13 (B_X11_round_13 kc) := (sn_aload_n (i := 0) (n := 0) (by decide +kernel) rfl (sn_gets (ci := 11) (j := 2) (off := 5) hst en_c11 of_11_5 (Nat.le_of_ble_eq_true rfl) (by decide +kernel) wm_18 (Nat.le_of_ble_eq_true rfl) rfl (sn_iload_n (i := 1) (n := 1) (by decide +kernel) rfl (sn_callVi (n := 1) (idx := 194) (ci := 10) (i_X10_hasAll G hst) (Nat.le_of_ble_eq_true rfl) cs_X10_hasAll ⟨wm_1122, wm_1123, wm_112⟩ ⟨⟨_, rfl, rfl⟩, (Nat.le_of_ble_eq_true rfl)⟩ (by decide +kernel) (sn_ifne (off := 5) (tgt := 26) (by decide +kernel) rfl (s_X11_round_26 G hst kc hk) (sn_iconst (n := -1) (v := -1) (by decide +kernel) rfl (sn_iret (by decide +kernel) rfl)))))))
noncomputable def B_X11_round_0 (kc : Nat → en_B) : en_B := (op_aload 0 (op_gets 11 5 (10, 0, 0) (op_geti 10 3 (op_ifeq (op_const (-2 : Int32) op_iret) (B_X11_round_13 kc)))))
set_option maxRecDepth 20000 in
theorem s_X11_round_0 (G : en_G) (hst : G.2.2.2.2.2 = true) (kc : Nat → en_B) (hk : ∀ t, en_Snd G M_X11_round t (kc t)) : en_Snd G M_X11_round 0 (B_X11_round_0 kc) := (sn_aload_n (i := 0) (n := 0) (by decide +kernel) rfl (sn_gets (ci := 11) (j := 2) (off := 5) hst en_c11 of_11_5 (Nat.le_of_ble_eq_true rfl) (by decide +kernel) wm_18 (Nat.le_of_ble_eq_true rfl) rfl (sn_geti (ci := 10) (j := 3) en_c10 (by decide +kernel) wm_74 (Nat.le_of_ble_eq_true rfl) rfl (sn_ifne (off := 6) (tgt := 13) (by decide +kernel) rfl (s_X11_round_13 G hst kc hk) (sn_bipush (n := -2) (v := -2) (by decide +kernel) rfl (sn_iret (by decide +kernel) rfl))))))
noncomputable def LK_X11_round : Nat → Nat → en_B
  | 0, _ => en_no
  | n + 1, t => en_no
theorem l_X11_round (G : en_G) (hst : G.2.2.2.2.2 = true) : ∀ n t, en_Snd G M_X11_round t (LK_X11_round n t)
  | 0, _ => sn_no
  | n + 1, t => by
    show en_Snd G M_X11_round t (en_no)
    exact sn_no
noncomputable def T_X11_round_0 (x1 : Int32) (σ : en_M) : en_R := B_X11_round_0 (LK_X11_round en_FU) [.inr (0, 11, 0, 0), .inl x1, en_un] [] en_zz σ
set_option maxRecDepth 20000 in
set_option maxHeartbeats 2000000 in
theorem t_X11_round_0 (x1 : Int32) (σ : en_M) : T_X11_round_0 x1 σ = (if (σ 5 3) = 0 then (en_ri (-2 : Int32) σ) else ((O_X10_hasAll [.inr (5, 10, 0, 0), .inl x1] σ).bind fun r1 => if r1.1 = 0 then (en_ri (-1 : Int32) r1.2) else ((O_X4_push [.inr (25, 4, 0, 0), .inr (15, 7, 0, 0)] r1.2).bind fun r2 => (O_X10_ring [.inr (5, 10, 0, 0), .inr (15, 7, 0, 0), .inl x1] r2).bind fun r3 => (O_X9_begin [.inr (3, 9, 0, 0)] r3.2).bind fun r4 => (O_X9_add [.inr (3, 9, 0, 0), .inl (r4 15 8)] r4).bind fun r5 => (O_X9_add [.inr (3, 9, 0, 0), .inl (r5 15 9)] r5).bind fun r6 => en_ri r3.1 r6))) := rfl
noncomputable def P_X11_round : List en_V → en_M → Option (Int32 × en_M) := fun av σ => match av with
  | [.inr (0, 11, 0, 0), .inl x1] => en_oi (T_X11_round_0 x1 σ)
  | _ => none
theorem ox_X11_round : ∃ f, f = P_X11_round := ⟨_, rfl⟩
noncomputable def O_X11_round : List en_V → en_M → Option (Int32 × en_M) := Classical.choose ox_X11_round
theorem oe_X11_round : O_X11_round = P_X11_round := Classical.choose_spec ox_X11_round
theorem o_X11_round (x1 : Int32) (σ : en_M) : O_X11_round [.inr (0, 11, 0, 0), .inl x1] σ = en_oi (T_X11_round_0 x1 σ) := by rw [oe_X11_round]; rfl
theorem i_X11_round (G : en_G) (hst : G.2.2.2.2.2 = true) : en_I G 5 yX11_round cX11_round 3 (some .int) 0 0 (en_wi (O_X11_round)) := en_of_i (M := M_X11_round) hst (s_X11_round_0 G hst _ (l_X11_round G hst en_FU)) (plainFor_of_name (by decide +kernel)) rfl rfl rfl (Or.inl ⟨rfl, rfl⟩) (fun av σ x σ' h => by
  rw [oe_X11_round] at h; unfold P_X11_round at h
  split at h
  · exact ⟨(Nat.le_of_ble_eq_true rfl), en_oi_some h⟩
  · cases h)
-- EachMayMissOne.ringAll(LEachMayMissOne$State;I)I
def M_X11_ringAll : en_Me := (cX11_ringAll, RX11, 5, false, 5, false)
theorem cs_X11_ringAll : en_cs yX11_ringAll cX11_ringAll 5 (some .int) 2 := ⟨wm_304, wm_2, ⟨(by decide +kernel), (by decide +kernel), (by decide +kernel)⟩, (Nat.le_of_ble_eq_true rfl)⟩
noncomputable def B_X11_ringAll_34 (kc : Nat → en_B) : en_B := (op_iload 3 op_iret)
set_option maxRecDepth 20000 in
theorem s_X11_ringAll_34 (G : en_G) (hst : G.2.2.2.2.2 = true) (kc : Nat → en_B) (hk : ∀ t, en_Snd G M_X11_ringAll t (kc t)) : en_Snd G M_X11_ringAll 34 (B_X11_ringAll_34 kc) := (sn_iload_n (i := 3) (n := 3) (by decide +kernel) rfl (sn_iret (by decide +kernel) rfl))
noncomputable def B_X11_ringAll_5 (kc : Nat → en_B) : en_B := (op_iload 4 (op_iload 2 (op_iclt (op_aload 0 (op_gets 11 5 (10, 0, 0) (op_aload 1 (op_const (0 : Int32) (op_rcv 10 2 (op_calli O_X10_ring 3 (op_pop (op_iload 3 (op_aload 1 (op_geti 7 9 (op_bin (fun (x y : Int32) => x ||| y) (op_istore 3 (op_iinc 4 (1 : Int32) (kc 5)))))))))))))) (B_X11_ringAll_34 kc))))
set_option maxRecDepth 20000 in
theorem s_X11_ringAll_5 (G : en_G) (hst : G.2.2.2.2.2 = true) (kc : Nat → en_B) (hk : ∀ t, en_Snd G M_X11_ringAll t (kc t)) : en_Snd G M_X11_ringAll 5 (B_X11_ringAll_5 kc) := (sn_iload (i := 4) (by decide +kernel) (sn_iload_n (i := 2) (n := 2) (by decide +kernel) rfl (sn_icge (off := 26) (tgt := 34) (by decide +kernel) rfl (s_X11_ringAll_34 G hst kc hk) (sn_aload_n (i := 0) (n := 0) (by decide +kernel) rfl (sn_gets (ci := 11) (j := 2) (off := 5) hst en_c11 of_11_5 (Nat.le_of_ble_eq_true rfl) (by decide +kernel) wm_18 (Nat.le_of_ble_eq_true rfl) rfl (sn_aload_n (i := 1) (n := 1) (by decide +kernel) rfl (sn_iconst (n := 0) (v := 0) (by decide +kernel) rfl (sn_callVi (n := 2) (idx := 201) (ci := 10) (i_X10_ring G hst) (Nat.le_of_ble_eq_true rfl) cs_X10_ring ⟨wm_1142, wm_1143, wm_114⟩ ⟨⟨_, rfl, rfl⟩, (Nat.le_of_ble_eq_true rfl)⟩ (by decide +kernel) (sn_pop (by decide +kernel) (sn_iload_n (i := 3) (n := 3) (by decide +kernel) rfl (sn_aload_n (i := 1) (n := 1) (by decide +kernel) rfl (sn_geti (ci := 7) (j := 9) en_c7 (by decide +kernel) wm_118 (Nat.le_of_ble_eq_true rfl) rfl (sn_ior (by decide +kernel) (sn_istore_n (i := 3) (n := 3) (by decide +kernel) rfl (Nat.le_of_ble_eq_true rfl) (sn_iinc (i := 4) (n := 1) (v := 1) (by decide +kernel) rfl (sn_goto (off := -26) (tgt := 5) (by decide +kernel) rfl (hk 5)))))))))))))))))
noncomputable def B_X11_ringAll_0 (kc : Nat → en_B) : en_B := (op_const (0 : Int32) (op_istore 3 (op_const (0 : Int32) (op_istore 4 (kc 5)))))
set_option maxRecDepth 20000 in
theorem s_X11_ringAll_0 (G : en_G) (hst : G.2.2.2.2.2 = true) (kc : Nat → en_B) (hk : ∀ t, en_Snd G M_X11_ringAll t (kc t)) : en_Snd G M_X11_ringAll 0 (B_X11_ringAll_0 kc) := (sn_iconst (n := 0) (v := 0) (by decide +kernel) rfl (sn_istore_n (i := 3) (n := 3) (by decide +kernel) rfl (Nat.le_of_ble_eq_true rfl) (sn_iconst (n := 0) (v := 0) (by decide +kernel) rfl (sn_istore (i := 4) (by decide +kernel) (Nat.le_of_ble_eq_true rfl) (hk 5)))))
noncomputable def LK_X11_ringAll : Nat → Nat → en_B
  | 0, _ => en_no
  | n + 1, t => if t = 5 then B_X11_ringAll_5 (LK_X11_ringAll n) else en_no
theorem l_X11_ringAll (G : en_G) (hst : G.2.2.2.2.2 = true) : ∀ n t, en_Snd G M_X11_ringAll t (LK_X11_ringAll n t)
  | 0, _ => sn_no
  | n + 1, t => by
    show en_Snd G M_X11_ringAll t (if t = 5 then B_X11_ringAll_5 (LK_X11_ringAll n) else en_no)
    by_cases h_5 : t = 5
    · rw [if_pos h_5, h_5]; exact s_X11_ringAll_5 G hst _ (l_X11_ringAll G hst n)
    rw [if_neg h_5]
    exact sn_no
noncomputable def T_X11_ringAll_0 (k1 : Nat) (x2 : Int32) (σ : en_M) : en_R := B_X11_ringAll_0 (LK_X11_ringAll en_FU) [.inr (0, 11, 0, 0), .inr (k1, 7, 0, 0), .inl x2, en_un, en_un] [] en_zz σ
noncomputable def T_X11_ringAll_5 (n : Nat) (k1 : Nat) (x2 : Int32) (x3 : Int32) (x4 : Int32) (σ : en_M) : en_R := LK_X11_ringAll n 5 [.inr (0, 11, 0, 0), .inr (k1, 7, 0, 0), .inl x2, .inl x3, .inl x4] [] en_zz σ
set_option maxRecDepth 20000 in
set_option maxHeartbeats 2000000 in
theorem t_X11_ringAll_0 (k1 : Nat) (x2 : Int32) (σ : en_M) : T_X11_ringAll_0 k1 x2 σ = (T_X11_ringAll_5 en_FU k1 x2 (0 : Int32) (0 : Int32) σ) := rfl
set_option maxRecDepth 20000 in
set_option maxHeartbeats 2000000 in
theorem t_X11_ringAll_5 (n : Nat) (k1 : Nat) (x2 : Int32) (x3 : Int32) (x4 : Int32) (σ : en_M) : T_X11_ringAll_5 (n + 1) k1 x2 x3 x4 σ = (if x4 < x2 then ((O_X10_ring [.inr (5, 10, 0, 0), .inr (k1, 7, 0, 0), .inl (0 : Int32)] σ).bind fun r1 => T_X11_ringAll_5 n k1 x2 (x3 ||| (r1.2 k1 9)) (x4 + (1 : Int32)) r1.2) else (en_ri x3 σ)) := rfl
noncomputable def P_X11_ringAll : List en_V → en_M → Option (Int32 × en_M) := fun av σ => match av with
  | [.inr (0, 11, 0, 0), .inr (k1, 7, 0, 0), .inl x2] => en_oi (T_X11_ringAll_0 k1 x2 σ)
  | _ => none
theorem ox_X11_ringAll : ∃ f, f = P_X11_ringAll := ⟨_, rfl⟩
noncomputable def O_X11_ringAll : List en_V → en_M → Option (Int32 × en_M) := Classical.choose ox_X11_ringAll
theorem oe_X11_ringAll : O_X11_ringAll = P_X11_ringAll := Classical.choose_spec ox_X11_ringAll
theorem o_X11_ringAll (k1 : Nat) (x2 : Int32) (σ : en_M) : O_X11_ringAll [.inr (0, 11, 0, 0), .inr (k1, 7, 0, 0), .inl x2] σ = en_oi (T_X11_ringAll_0 k1 x2 σ) := by rw [oe_X11_ringAll]; rfl
theorem i_X11_ringAll (G : en_G) (hst : G.2.2.2.2.2 = true) : en_I G 5 yX11_ringAll cX11_ringAll 5 (some .int) 0 0 (en_wi (O_X11_ringAll)) := en_of_i (M := M_X11_ringAll) hst (s_X11_ringAll_0 G hst _ (l_X11_ringAll G hst en_FU)) (plainFor_of_name (by decide +kernel)) rfl rfl rfl (Or.inl ⟨rfl, rfl⟩) (fun av σ x σ' h => by
  rw [oe_X11_ringAll] at h; unfold P_X11_ringAll at h
  split at h
  · exact ⟨(Nat.le_of_ble_eq_true rfl), en_oi_some h⟩
  · cases h)
-- EachMayMissOne.rounds(I)I
def M_X11_rounds : en_Me := (cX11_rounds, RX11, 4, false, 6, false)
theorem cs_X11_rounds : en_cs yX11_rounds cX11_rounds 4 (some .int) 1 := ⟨wm_119, wm_2, ⟨(by decide +kernel), (by decide +kernel), (by decide +kernel)⟩, (Nat.le_of_ble_eq_true rfl)⟩
noncomputable def B_X11_rounds_40 (kc : Nat → en_B) : en_B := (op_aload 0 (op_gets 11 15 (7, 0, 0) (op_gets 7 3 (20, 7, 0) (op_calli O_X11_sum 1 (op_istore 2 (op_aload 0 (op_aload 0 (op_gets 11 15 (7, 0, 0) (op_iload 1 (op_rcv 11 2 (op_calli O_X11_ringAll 3 (op_istore 3 (op_aload 0 (op_gets 11 3 (9, 0, 0) (op_rcv 9 0 (op_callv O_X9_begin 1 (op_aload 0 (op_gets 11 3 (9, 0, 0) (op_iload 3 (op_rcv 9 1 (op_callv O_X9_add 2 (op_aload 0 (op_gets 11 3 (9, 0, 0) (op_aload 0 (op_gets 11 15 (7, 0, 0) (op_geti 7 5 (op_rcv 9 1 (op_callv O_X9_add 2 (op_aload 0 (op_gets 11 15 (7, 0, 0) (op_gets 7 3 (20, 7, 0) (op_calli O_X11_sum 1 (op_iload 2 (op_bin (fun (x y : Int32) => x - y) op_iret))))))))))))))))))))))))))))))))))
set_option maxRecDepth 20000 in
theorem s_X11_rounds_40 (G : en_G) (hst : G.2.2.2.2.2 = true) (kc : Nat → en_B) (hk : ∀ t, en_Snd G M_X11_rounds t (kc t)) : en_Snd G M_X11_rounds 40 (B_X11_rounds_40 kc) := (sn_aload_n (i := 0) (n := 0) (by decide +kernel) rfl (sn_gets (ci := 11) (j := 3) (off := 15) hst en_c11 of_11_15 (Nat.le_of_ble_eq_true rfl) (by decide +kernel) wm_23 (Nat.le_of_ble_eq_true rfl) rfl (sn_gets (ci := 7) (j := 2) (off := 3) hst en_c7 of_7_3 (Nat.le_of_ble_eq_true rfl) (by decide +kernel) wm_88 (Nat.le_of_ble_eq_true rfl) rfl (sn_callSi (n := 1) (idx := 190) (i_X11_sum G hst) (Nat.le_of_ble_eq_true rfl) cs_X11_sum ⟨wm_272, Or.inl wm_108⟩ (by decide +kernel) (sn_istore_n (i := 2) (n := 2) (by decide +kernel) rfl (Nat.le_of_ble_eq_true rfl) (sn_aload_n (i := 0) (n := 0) (by decide +kernel) rfl (sn_aload_n (i := 0) (n := 0) (by decide +kernel) rfl (sn_gets (ci := 11) (j := 3) (off := 15) hst en_c11 of_11_15 (Nat.le_of_ble_eq_true rfl) (by decide +kernel) wm_23 (Nat.le_of_ble_eq_true rfl) rfl (sn_iload_n (i := 1) (n := 1) (by decide +kernel) rfl (sn_callVi (n := 2) (idx := 216) (ci := 11) (i_X11_ringAll G hst) (Nat.le_of_ble_eq_true rfl) cs_X11_ringAll ⟨wm_305, wm_306, wm_122⟩ ⟨⟨_, rfl, rfl⟩, (Nat.le_of_ble_eq_true rfl)⟩ (by decide +kernel) (sn_istore_n (i := 3) (n := 3) (by decide +kernel) rfl (Nat.le_of_ble_eq_true rfl) (sn_aload_n (i := 0) (n := 0) (by decide +kernel) rfl (sn_gets (ci := 11) (j := 1) (off := 3) hst en_c11 of_11_3 (Nat.le_of_ble_eq_true rfl) (by decide +kernel) wm_13 (Nat.le_of_ble_eq_true rfl) rfl (sn_callVv (n := 0) (idx := 205) (ci := 9) (i_X9_begin G hst) (Nat.le_of_ble_eq_true rfl) cs_X9_begin ⟨wm_1086, wm_1087, wm_115⟩ ⟨⟨_, rfl, rfl⟩, (Nat.le_of_ble_eq_true rfl)⟩ (by decide +kernel) (sn_aload_n (i := 0) (n := 0) (by decide +kernel) rfl (sn_gets (ci := 11) (j := 1) (off := 3) hst en_c11 of_11_3 (Nat.le_of_ble_eq_true rfl) (by decide +kernel) wm_13 (Nat.le_of_ble_eq_true rfl) rfl (sn_iload_n (i := 3) (n := 3) (by decide +kernel) rfl (sn_callVv (n := 1) (idx := 209) (ci := 9) (i_X9_add G hst) (Nat.le_of_ble_eq_true rfl) cs_X9_add ⟨wm_1090, wm_1091, wm_117⟩ ⟨⟨_, rfl, rfl⟩, (Nat.le_of_ble_eq_true rfl)⟩ (by decide +kernel) (sn_aload_n (i := 0) (n := 0) (by decide +kernel) rfl (sn_gets (ci := 11) (j := 1) (off := 3) hst en_c11 of_11_3 (Nat.le_of_ble_eq_true rfl) (by decide +kernel) wm_13 (Nat.le_of_ble_eq_true rfl) rfl (sn_aload_n (i := 0) (n := 0) (by decide +kernel) rfl (sn_gets (ci := 11) (j := 3) (off := 15) hst en_c11 of_11_15 (Nat.le_of_ble_eq_true rfl) (by decide +kernel) wm_23 (Nat.le_of_ble_eq_true rfl) rfl (sn_geti (ci := 7) (j := 5) en_c7 (by decide +kernel) wm_123 (Nat.le_of_ble_eq_true rfl) rfl (sn_callVv (n := 1) (idx := 209) (ci := 9) (i_X9_add G hst) (Nat.le_of_ble_eq_true rfl) cs_X9_add ⟨wm_1090, wm_1091, wm_117⟩ ⟨⟨_, rfl, rfl⟩, (Nat.le_of_ble_eq_true rfl)⟩ (by decide +kernel) (sn_aload_n (i := 0) (n := 0) (by decide +kernel) rfl (sn_gets (ci := 11) (j := 3) (off := 15) hst en_c11 of_11_15 (Nat.le_of_ble_eq_true rfl) (by decide +kernel) wm_23 (Nat.le_of_ble_eq_true rfl) rfl (sn_gets (ci := 7) (j := 2) (off := 3) hst en_c7 of_7_3 (Nat.le_of_ble_eq_true rfl) (by decide +kernel) wm_88 (Nat.le_of_ble_eq_true rfl) rfl (sn_callSi (n := 1) (idx := 190) (i_X11_sum G hst) (Nat.le_of_ble_eq_true rfl) cs_X11_sum ⟨wm_272, Or.inl wm_108⟩ (by decide +kernel) (sn_iload_n (i := 2) (n := 2) (by decide +kernel) rfl (sn_isub (by decide +kernel) (sn_iret (by decide +kernel) rfl)))))))))))))))))))))))))))))))
noncomputable def B_X11_rounds_25 (kc : Nat → en_B) : en_B := (op_iload 1 (op_ifgt (op_aload 0 (op_gets 11 25 (4, 0, 0) (op_aload 0 (op_gets 11 15 (7, 0, 0) (op_rcv 4 1 (op_callv O_X4_push 2 (B_X11_rounds_40 kc))))))) (B_X11_rounds_40 kc)))
set_option maxRecDepth 20000 in
theorem s_X11_rounds_25 (G : en_G) (hst : G.2.2.2.2.2 = true) (kc : Nat → en_B) (hk : ∀ t, en_Snd G M_X11_rounds t (kc t)) : en_Snd G M_X11_rounds 25 (B_X11_rounds_25 kc) := (sn_iload_n (i := 1) (n := 1) (by decide +kernel) rfl (sn_ifle (off := 14) (tgt := 40) (by decide +kernel) rfl (s_X11_rounds_40 G hst kc hk) (sn_aload_n (i := 0) (n := 0) (by decide +kernel) rfl (sn_gets (ci := 11) (j := 5) (off := 25) hst en_c11 of_11_25 (Nat.le_of_ble_eq_true rfl) (by decide +kernel) wm_29 (Nat.le_of_ble_eq_true rfl) rfl (sn_aload_n (i := 0) (n := 0) (by decide +kernel) rfl (sn_gets (ci := 11) (j := 3) (off := 15) hst en_c11 of_11_15 (Nat.le_of_ble_eq_true rfl) (by decide +kernel) wm_23 (Nat.le_of_ble_eq_true rfl) rfl (sn_callVv (n := 1) (idx := 197) (ci := 4) (i_X4_push G hst) (Nat.le_of_ble_eq_true rfl) cs_X4_push ⟨wm_857, wm_858, wm_113⟩ ⟨⟨_, rfl, rfl⟩, (Nat.le_of_ble_eq_true rfl)⟩ (by decide +kernel) (s_X11_rounds_40 G hst kc hk))))))))
noncomputable def B_X11_rounds_23 (kc : Nat → en_B) : en_B := (op_const (-1 : Int32) op_iret)
set_option maxRecDepth 20000 in
theorem s_X11_rounds_23 (G : en_G) (hst : G.2.2.2.2.2 = true) (kc : Nat → en_B) (hk : ∀ t, en_Snd G M_X11_rounds t (kc t)) : en_Snd G M_X11_rounds 23 (B_X11_rounds_23 kc) := (sn_iconst (n := -1) (v := -1) (by decide +kernel) rfl (sn_iret (by decide +kernel) rfl))
noncomputable def B_X11_rounds_13 (kc : Nat → en_B) : en_B := (op_iload 1 (op_iflt (B_X11_rounds_23 kc) (op_iload 1 (op_const (60 : Int32) (op_icgt (B_X11_rounds_23 kc) (B_X11_rounds_25 kc))))))
set_option maxRecDepth 20000 in
theorem s_X11_rounds_13 (G : en_G) (hst : G.2.2.2.2.2 = true) (kc : Nat → en_B) (hk : ∀ t, en_Snd G M_X11_rounds t (kc t)) : en_Snd G M_X11_rounds 13 (B_X11_rounds_13 kc) := (sn_iload_n (i := 1) (n := 1) (by decide +kernel) rfl (sn_iflt (off := 9) (tgt := 23) (by decide +kernel) rfl (s_X11_rounds_23 G hst kc hk) (sn_iload_n (i := 1) (n := 1) (by decide +kernel) rfl (sn_bipush (n := 60) (v := 60) (by decide +kernel) rfl (sn_icle (off := 5) (tgt := 25) (by decide +kernel) rfl (s_X11_rounds_25 G hst kc hk) (s_X11_rounds_23 G hst kc hk))))))
noncomputable def B_X11_rounds_0 (kc : Nat → en_B) : en_B := (op_aload 0 (op_gets 11 5 (10, 0, 0) (op_geti 10 3 (op_ifeq (op_const (-2 : Int32) op_iret) (B_X11_rounds_13 kc)))))
set_option maxRecDepth 20000 in
theorem s_X11_rounds_0 (G : en_G) (hst : G.2.2.2.2.2 = true) (kc : Nat → en_B) (hk : ∀ t, en_Snd G M_X11_rounds t (kc t)) : en_Snd G M_X11_rounds 0 (B_X11_rounds_0 kc) := (sn_aload_n (i := 0) (n := 0) (by decide +kernel) rfl (sn_gets (ci := 11) (j := 2) (off := 5) hst en_c11 of_11_5 (Nat.le_of_ble_eq_true rfl) (by decide +kernel) wm_18 (Nat.le_of_ble_eq_true rfl) rfl (sn_geti (ci := 10) (j := 3) en_c10 (by decide +kernel) wm_74 (Nat.le_of_ble_eq_true rfl) rfl (sn_ifne (off := 6) (tgt := 13) (by decide +kernel) rfl (s_X11_rounds_13 G hst kc hk) (sn_bipush (n := -2) (v := -2) (by decide +kernel) rfl (sn_iret (by decide +kernel) rfl))))))
noncomputable def LK_X11_rounds : Nat → Nat → en_B
  | 0, _ => en_no
  | n + 1, t => en_no
theorem l_X11_rounds (G : en_G) (hst : G.2.2.2.2.2 = true) : ∀ n t, en_Snd G M_X11_rounds t (LK_X11_rounds n t)
  | 0, _ => sn_no
  | n + 1, t => by
    show en_Snd G M_X11_rounds t (en_no)
    exact sn_no
noncomputable def T_X11_rounds_0 (x1 : Int32) (σ : en_M) : en_R := B_X11_rounds_0 (LK_X11_rounds en_FU) [.inr (0, 11, 0, 0), .inl x1, en_un, en_un] [] en_zz σ
set_option maxRecDepth 20000 in
set_option maxHeartbeats 2000000 in
theorem t_X11_rounds_0 (x1 : Int32) (σ : en_M) : T_X11_rounds_0 x1 σ = (if (σ 5 3) = 0 then (en_ri (-2 : Int32) σ) else (if x1 < 0 then (en_ri (-1 : Int32) σ) else (if (60 : Int32) < x1 then (en_ri (-1 : Int32) σ) else (if 0 < x1 then ((O_X4_push [.inr (25, 4, 0, 0), .inr (15, 7, 0, 0)] σ).bind fun r7 => (O_X11_sum [.inr (18, 20, 7, 0)] r7).bind fun r8 => (O_X11_ringAll [.inr (0, 11, 0, 0), .inr (15, 7, 0, 0), .inl x1] r8.2).bind fun r9 => (O_X9_begin [.inr (3, 9, 0, 0)] r9.2).bind fun r10 => (O_X9_add [.inr (3, 9, 0, 0), .inl r9.1] r10).bind fun r11 => (O_X9_add [.inr (3, 9, 0, 0), .inl (r11 15 5)] r11).bind fun r12 => (O_X11_sum [.inr (18, 20, 7, 0)] r12).bind fun r13 => en_ri (r13.1 - r8.1) r13.2) else ((O_X11_sum [.inr (18, 20, 7, 0)] σ).bind fun r1 => (O_X11_ringAll [.inr (0, 11, 0, 0), .inr (15, 7, 0, 0), .inl x1] r1.2).bind fun r2 => (O_X9_begin [.inr (3, 9, 0, 0)] r2.2).bind fun r3 => (O_X9_add [.inr (3, 9, 0, 0), .inl r2.1] r3).bind fun r4 => (O_X9_add [.inr (3, 9, 0, 0), .inl (r4 15 5)] r4).bind fun r5 => (O_X11_sum [.inr (18, 20, 7, 0)] r5).bind fun r6 => en_ri (r6.1 - r1.1) r6.2))))) := rfl
noncomputable def P_X11_rounds : List en_V → en_M → Option (Int32 × en_M) := fun av σ => match av with
  | [.inr (0, 11, 0, 0), .inl x1] => en_oi (T_X11_rounds_0 x1 σ)
  | _ => none
theorem ox_X11_rounds : ∃ f, f = P_X11_rounds := ⟨_, rfl⟩
noncomputable def O_X11_rounds : List en_V → en_M → Option (Int32 × en_M) := Classical.choose ox_X11_rounds
theorem oe_X11_rounds : O_X11_rounds = P_X11_rounds := Classical.choose_spec ox_X11_rounds
theorem o_X11_rounds (x1 : Int32) (σ : en_M) : O_X11_rounds [.inr (0, 11, 0, 0), .inl x1] σ = en_oi (T_X11_rounds_0 x1 σ) := by rw [oe_X11_rounds]; rfl
theorem i_X11_rounds (G : en_G) (hst : G.2.2.2.2.2 = true) : en_I G 6 yX11_rounds cX11_rounds 4 (some .int) 0 0 (en_wi (O_X11_rounds)) := en_of_i (M := M_X11_rounds) hst (s_X11_rounds_0 G hst _ (l_X11_rounds G hst en_FU)) (plainFor_of_name (by decide +kernel)) rfl rfl rfl (Or.inl ⟨rfl, rfl⟩) (fun av σ x σ' h => by
  rw [oe_X11_rounds] at h; unfold P_X11_rounds at h
  split at h
  · exact ⟨(Nat.le_of_ble_eq_true rfl), en_oi_some h⟩
  · cases h)
-- EachMayMissOne.beer(I)I
def M_X11_beer : en_Me := (cX11_beer, RX11, 2, false, 3, false)
theorem cs_X11_beer : en_cs yX11_beer cX11_beer 2 (some .int) 1 := ⟨wm_124, wm_2, ⟨(by decide +kernel), (by decide +kernel), (by decide +kernel)⟩, (Nat.le_of_ble_eq_true rfl)⟩
noncomputable def B_X11_beer_13 (kc : Nat → en_B) : en_B := (op_aload 0 (op_gets 11 25 (4, 0, 0) (op_aload 0 (op_gets 11 15 (7, 0, 0) (op_rcv 4 1 (op_callv O_X4_push 2 (op_aload 0 (op_gets 11 15 (7, 0, 0) (op_iload 1 (op_rcv 7 1 (op_callv O_X7_drink 2 (op_aload 0 (op_gets 11 15 (7, 0, 0) (op_gets 7 1 (20, 7, 0) (op_iload 1 (op_ald 20 op_iret))))))))))))))))
set_option maxRecDepth 20000 in
theorem s_X11_beer_13 (G : en_G) (hst : G.2.2.2.2.2 = true) (kc : Nat → en_B) (hk : ∀ t, en_Snd G M_X11_beer t (kc t)) : en_Snd G M_X11_beer 13 (B_X11_beer_13 kc) := (sn_aload_n (i := 0) (n := 0) (by decide +kernel) rfl (sn_gets (ci := 11) (j := 5) (off := 25) hst en_c11 of_11_25 (Nat.le_of_ble_eq_true rfl) (by decide +kernel) wm_29 (Nat.le_of_ble_eq_true rfl) rfl (sn_aload_n (i := 0) (n := 0) (by decide +kernel) rfl (sn_gets (ci := 11) (j := 3) (off := 15) hst en_c11 of_11_15 (Nat.le_of_ble_eq_true rfl) (by decide +kernel) wm_23 (Nat.le_of_ble_eq_true rfl) rfl (sn_callVv (n := 1) (idx := 197) (ci := 4) (i_X4_push G hst) (Nat.le_of_ble_eq_true rfl) cs_X4_push ⟨wm_857, wm_858, wm_113⟩ ⟨⟨_, rfl, rfl⟩, (Nat.le_of_ble_eq_true rfl)⟩ (by decide +kernel) (sn_aload_n (i := 0) (n := 0) (by decide +kernel) rfl (sn_gets (ci := 11) (j := 3) (off := 15) hst en_c11 of_11_15 (Nat.le_of_ble_eq_true rfl) (by decide +kernel) wm_23 (Nat.le_of_ble_eq_true rfl) rfl (sn_iload_n (i := 1) (n := 1) (by decide +kernel) rfl (sn_callVv (n := 1) (idx := 222) (ci := 7) (i_X7_drink G hst) (Nat.le_of_ble_eq_true rfl) cs_X7_drink ⟨wm_1046, wm_1047, wm_127⟩ ⟨⟨_, rfl, rfl⟩, (Nat.le_of_ble_eq_true rfl)⟩ (by decide +kernel) (sn_aload_n (i := 0) (n := 0) (by decide +kernel) rfl (sn_gets (ci := 11) (j := 3) (off := 15) hst en_c11 of_11_15 (Nat.le_of_ble_eq_true rfl) (by decide +kernel) wm_23 (Nat.le_of_ble_eq_true rfl) rfl (sn_gets (ci := 7) (j := 0) (off := 1) hst en_c7 of_7_1 (Nat.le_of_ble_eq_true rfl) (by decide +kernel) wm_86 (Nat.le_of_ble_eq_true rfl) rfl (sn_iload_n (i := 1) (n := 1) (by decide +kernel) rfl (sn_iald (by decide +kernel) (sn_iret (by decide +kernel) rfl)))))))))))))))
noncomputable def B_X11_beer_0 (kc : Nat → en_B) : en_B := (op_aload 0 (op_gets 11 5 (10, 0, 0) (op_iload 1 (op_rcv 10 1 (op_calli O_X10_hasRinger 2 (op_ifeq (op_const (-1 : Int32) op_iret) (B_X11_beer_13 kc)))))))
set_option maxRecDepth 20000 in
theorem s_X11_beer_0 (G : en_G) (hst : G.2.2.2.2.2 = true) (kc : Nat → en_B) (hk : ∀ t, en_Snd G M_X11_beer t (kc t)) : en_Snd G M_X11_beer 0 (B_X11_beer_0 kc) := (sn_aload_n (i := 0) (n := 0) (by decide +kernel) rfl (sn_gets (ci := 11) (j := 2) (off := 5) hst en_c11 of_11_5 (Nat.le_of_ble_eq_true rfl) (by decide +kernel) wm_18 (Nat.le_of_ble_eq_true rfl) rfl (sn_iload_n (i := 1) (n := 1) (by decide +kernel) rfl (sn_callVi (n := 1) (idx := 131) (ci := 10) (i_X10_hasRinger G hst) (Nat.le_of_ble_eq_true rfl) cs_X10_hasRinger ⟨wm_1115, wm_1116, wm_84⟩ ⟨⟨_, rfl, rfl⟩, (Nat.le_of_ble_eq_true rfl)⟩ (by decide +kernel) (sn_ifne (off := 5) (tgt := 13) (by decide +kernel) rfl (s_X11_beer_13 G hst kc hk) (sn_iconst (n := -1) (v := -1) (by decide +kernel) rfl (sn_iret (by decide +kernel) rfl)))))))
noncomputable def LK_X11_beer : Nat → Nat → en_B
  | 0, _ => en_no
  | n + 1, t => en_no
theorem l_X11_beer (G : en_G) (hst : G.2.2.2.2.2 = true) : ∀ n t, en_Snd G M_X11_beer t (LK_X11_beer n t)
  | 0, _ => sn_no
  | n + 1, t => by
    show en_Snd G M_X11_beer t (en_no)
    exact sn_no
noncomputable def T_X11_beer_0 (x1 : Int32) (σ : en_M) : en_R := B_X11_beer_0 (LK_X11_beer en_FU) [.inr (0, 11, 0, 0), .inl x1] [] en_zz σ
set_option maxRecDepth 20000 in
set_option maxHeartbeats 2000000 in
theorem t_X11_beer_0 (x1 : Int32) (σ : en_M) : T_X11_beer_0 x1 σ = ((O_X10_hasRinger [.inr (5, 10, 0, 0), .inl x1] σ).bind fun r1 => if r1.1 = 0 then (en_ri (-1 : Int32) r1.2) else ((O_X4_push [.inr (25, 4, 0, 0), .inr (15, 7, 0, 0)] r1.2).bind fun r2 => (O_X7_drink [.inr (15, 7, 0, 0), .inl x1] r2).bind fun r3 => (en_ix x1 7).bind fun j4 => en_ri (r3 16 j4) r3)) := rfl
noncomputable def P_X11_beer : List en_V → en_M → Option (Int32 × en_M) := fun av σ => match av with
  | [.inr (0, 11, 0, 0), .inl x1] => en_oi (T_X11_beer_0 x1 σ)
  | _ => none
theorem ox_X11_beer : ∃ f, f = P_X11_beer := ⟨_, rfl⟩
noncomputable def O_X11_beer : List en_V → en_M → Option (Int32 × en_M) := Classical.choose ox_X11_beer
theorem oe_X11_beer : O_X11_beer = P_X11_beer := Classical.choose_spec ox_X11_beer
theorem o_X11_beer (x1 : Int32) (σ : en_M) : O_X11_beer [.inr (0, 11, 0, 0), .inl x1] σ = en_oi (T_X11_beer_0 x1 σ) := by rw [oe_X11_beer]; rfl
theorem i_X11_beer (G : en_G) (hst : G.2.2.2.2.2 = true) : en_I G 3 yX11_beer cX11_beer 2 (some .int) 0 0 (en_wi (O_X11_beer)) := en_of_i (M := M_X11_beer) hst (s_X11_beer_0 G hst _ (l_X11_beer G hst en_FU)) (plainFor_of_name (by decide +kernel)) rfl rfl rfl (Or.inl ⟨rfl, rfl⟩) (fun av σ x σ' h => by
  rw [oe_X11_beer] at h; unfold P_X11_beer at h
  split at h
  · exact ⟨(Nat.le_of_ble_eq_true rfl), en_oi_some h⟩
  · cases h)
-- EachMayMissOne.canBeDone(I)Z
def M_X11_canBeDone : en_Me := (cX11_canBeDone, RX11, 3, false, 2, true)
theorem cs_X11_canBeDone : en_cs yX11_canBeDone cX11_canBeDone 3 (some .boolean) 1 := ⟨wm_307, wm_2, ⟨(by decide +kernel), (by decide +kernel), (by decide +kernel)⟩, (Nat.le_of_ble_eq_true rfl)⟩
noncomputable def B_X11_canBeDone_90 (kc : Nat → en_B) : en_B := op_zret
set_option maxRecDepth 20000 in
theorem s_X11_canBeDone_90 (G : en_G) (hst : G.2.2.2.2.2 = true) (kc : Nat → en_B) (hk : ∀ t, en_Snd G M_X11_canBeDone t (kc t)) : en_Snd G M_X11_canBeDone 90 (B_X11_canBeDone_90 kc) := (sn_zret (by decide +kernel))
noncomputable def B_X11_canBeDone_82 (kc : Nat → en_B) : en_B := (op_aload 0 (op_gets 11 5 (10, 0, 0) (op_iload 2 (op_rcv 10 1 (op_calli O_X10_hasAll 2 (B_X11_canBeDone_90 kc))))))
set_option maxRecDepth 20000 in
theorem s_X11_canBeDone_82 (G : en_G) (hst : G.2.2.2.2.2 = true) (kc : Nat → en_B) (hk : ∀ t, en_Snd G M_X11_canBeDone t (kc t)) : en_Snd G M_X11_canBeDone 82 (B_X11_canBeDone_82 kc) := (sn_aload_n (i := 0) (n := 0) (by decide +kernel) rfl (sn_gets (ci := 11) (j := 2) (off := 5) hst en_c11 of_11_5 (Nat.le_of_ble_eq_true rfl) (by decide +kernel) wm_18 (Nat.le_of_ble_eq_true rfl) rfl (sn_iload_n (i := 2) (n := 2) (by decide +kernel) rfl (sn_callVi (n := 1) (idx := 194) (ci := 10) (i_X10_hasAll G hst) (Nat.le_of_ble_eq_true rfl) cs_X10_hasAll ⟨wm_1122, wm_1123, wm_112⟩ ⟨⟨_, rfl, rfl⟩, (Nat.le_of_ble_eq_true rfl)⟩ (by decide +kernel) (s_X11_canBeDone_90 G hst kc hk)))))
noncomputable def B_X11_canBeDone_58 (kc : Nat → en_B) : en_B := (op_aload 0 (op_gets 11 100 (2, 0, 0) (op_gets 2 1 (20, 30, 0) (op_iload 1 (op_ald 20 (op_const (2 : Int32) (op_iceq (op_aload 0 (op_gets 11 5 (10, 0, 0) (op_iload 2 (op_rcv 10 1 (op_calli O_X10_hasRinger 2 (B_X11_canBeDone_90 kc)))))) (B_X11_canBeDone_82 kc))))))))
set_option maxRecDepth 20000 in
theorem s_X11_canBeDone_58 (G : en_G) (hst : G.2.2.2.2.2 = true) (kc : Nat → en_B) (hk : ∀ t, en_Snd G M_X11_canBeDone t (kc t)) : en_Snd G M_X11_canBeDone 58 (B_X11_canBeDone_58 kc) := (sn_aload_n (i := 0) (n := 0) (by decide +kernel) rfl (sn_gets (ci := 11) (j := 7) (off := 100) hst en_c11 of_11_100 (Nat.le_of_ble_eq_true rfl) (by decide +kernel) wm_39 (Nat.le_of_ble_eq_true rfl) rfl (sn_gets (ci := 2) (j := 0) (off := 1) hst en_c2 of_2_1 (Nat.le_of_ble_eq_true rfl) (by decide +kernel) wm_312 (Nat.le_of_ble_eq_true rfl) rfl (sn_iload_n (i := 1) (n := 1) (by decide +kernel) rfl (sn_iald (by decide +kernel) (sn_iconst (n := 2) (v := 2) (by decide +kernel) rfl (sn_icne (off := 14) (tgt := 82) (by decide +kernel) rfl (s_X11_canBeDone_82 G hst kc hk) (sn_aload_n (i := 0) (n := 0) (by decide +kernel) rfl (sn_gets (ci := 11) (j := 2) (off := 5) hst en_c11 of_11_5 (Nat.le_of_ble_eq_true rfl) (by decide +kernel) wm_18 (Nat.le_of_ble_eq_true rfl) rfl (sn_iload_n (i := 2) (n := 2) (by decide +kernel) rfl (sn_callVi (n := 1) (idx := 131) (ci := 10) (i_X10_hasRinger G hst) (Nat.le_of_ble_eq_true rfl) cs_X10_hasRinger ⟨wm_1115, wm_1116, wm_84⟩ ⟨⟨_, rfl, rfl⟩, (Nat.le_of_ble_eq_true rfl)⟩ (by decide +kernel) (sn_goto (off := 11) (tgt := 90) (by decide +kernel) rfl (s_X11_canBeDone_90 G hst kc hk)))))))))))))
noncomputable def B_X11_canBeDone_57 (kc : Nat → en_B) : en_B := op_zret
set_option maxRecDepth 20000 in
theorem s_X11_canBeDone_57 (G : en_G) (hst : G.2.2.2.2.2 = true) (kc : Nat → en_B) (hk : ∀ t, en_Snd G M_X11_canBeDone t (kc t)) : en_Snd G M_X11_canBeDone 57 (B_X11_canBeDone_57 kc) := (sn_zret (by decide +kernel))
noncomputable def B_X11_canBeDone_56 (kc : Nat → en_B) : en_B := (op_const (0 : Int32) (B_X11_canBeDone_57 kc))
set_option maxRecDepth 20000 in
theorem s_X11_canBeDone_56 (G : en_G) (hst : G.2.2.2.2.2 = true) (kc : Nat → en_B) (hk : ∀ t, en_Snd G M_X11_canBeDone t (kc t)) : en_Snd G M_X11_canBeDone 56 (B_X11_canBeDone_56 kc) := (sn_iconst (n := 0) (v := 0) (by decide +kernel) rfl (s_X11_canBeDone_57 G hst kc hk))
noncomputable def B_X11_canBeDone_23 (kc : Nat → en_B) : en_B := (op_aload 0 (op_gets 11 100 (2, 0, 0) (op_gets 2 2 (20, 30, 0) (op_iload 1 (op_ald 20 (op_istore 2 (op_aload 0 (op_gets 11 100 (2, 0, 0) (op_gets 2 1 (20, 30, 0) (op_iload 1 (op_ald 20 (op_const (1 : Int32) (op_iceq (op_iload 2 (op_const (60 : Int32) (op_icgt (B_X11_canBeDone_56 kc) (op_const (1 : Int32) (B_X11_canBeDone_57 kc))))) (B_X11_canBeDone_58 kc))))))))))))))
set_option maxRecDepth 20000 in
theorem s_X11_canBeDone_23 (G : en_G) (hst : G.2.2.2.2.2 = true) (kc : Nat → en_B) (hk : ∀ t, en_Snd G M_X11_canBeDone t (kc t)) : en_Snd G M_X11_canBeDone 23 (B_X11_canBeDone_23 kc) := (sn_aload_n (i := 0) (n := 0) (by decide +kernel) rfl (sn_gets (ci := 11) (j := 7) (off := 100) hst en_c11 of_11_100 (Nat.le_of_ble_eq_true rfl) (by decide +kernel) wm_39 (Nat.le_of_ble_eq_true rfl) rfl (sn_gets (ci := 2) (j := 1) (off := 2) hst en_c2 of_2_2 (Nat.le_of_ble_eq_true rfl) (by decide +kernel) wm_311 (Nat.le_of_ble_eq_true rfl) rfl (sn_iload_n (i := 1) (n := 1) (by decide +kernel) rfl (sn_iald (by decide +kernel) (sn_istore_n (i := 2) (n := 2) (by decide +kernel) rfl (Nat.le_of_ble_eq_true rfl) (sn_aload_n (i := 0) (n := 0) (by decide +kernel) rfl (sn_gets (ci := 11) (j := 7) (off := 100) hst en_c11 of_11_100 (Nat.le_of_ble_eq_true rfl) (by decide +kernel) wm_39 (Nat.le_of_ble_eq_true rfl) rfl (sn_gets (ci := 2) (j := 0) (off := 1) hst en_c2 of_2_1 (Nat.le_of_ble_eq_true rfl) (by decide +kernel) wm_312 (Nat.le_of_ble_eq_true rfl) rfl (sn_iload_n (i := 1) (n := 1) (by decide +kernel) rfl (sn_iald (by decide +kernel) (sn_iconst (n := 1) (v := 1) (by decide +kernel) rfl (sn_icne (off := 15) (tgt := 58) (by decide +kernel) rfl (s_X11_canBeDone_58 G hst kc hk) (sn_iload_n (i := 2) (n := 2) (by decide +kernel) rfl (sn_bipush (n := 60) (v := 60) (by decide +kernel) rfl (sn_icgt (off := 7) (tgt := 56) (by decide +kernel) rfl (s_X11_canBeDone_56 G hst kc hk) (sn_iconst (n := 1) (v := 1) (by decide +kernel) rfl (sn_goto (off := 4) (tgt := 57) (by decide +kernel) rfl (s_X11_canBeDone_57 G hst kc hk)))))))))))))))))))
noncomputable def B_X11_canBeDone_21 (kc : Nat → en_B) : en_B := (op_const (0 : Int32) op_zret)
set_option maxRecDepth 20000 in
theorem s_X11_canBeDone_21 (G : en_G) (hst : G.2.2.2.2.2 = true) (kc : Nat → en_B) (hk : ∀ t, en_Snd G M_X11_canBeDone t (kc t)) : en_Snd G M_X11_canBeDone 21 (B_X11_canBeDone_21 kc) := (sn_iconst (n := 0) (v := 0) (by decide +kernel) rfl (sn_zret (by decide +kernel)))
noncomputable def B_X11_canBeDone_0 (kc : Nat → en_B) : en_B := (op_aload 0 (op_gets 11 5 (10, 0, 0) (op_geti 10 3 (op_ifeq (B_X11_canBeDone_21 kc) (op_iload 1 (op_aload 0 (op_gets 11 100 (2, 0, 0) (op_geti 2 2 (op_iclt (B_X11_canBeDone_23 kc) (B_X11_canBeDone_21 kc))))))))))
set_option maxRecDepth 20000 in
theorem s_X11_canBeDone_0 (G : en_G) (hst : G.2.2.2.2.2 = true) (kc : Nat → en_B) (hk : ∀ t, en_Snd G M_X11_canBeDone t (kc t)) : en_Snd G M_X11_canBeDone 0 (B_X11_canBeDone_0 kc) := (sn_aload_n (i := 0) (n := 0) (by decide +kernel) rfl (sn_gets (ci := 11) (j := 2) (off := 5) hst en_c11 of_11_5 (Nat.le_of_ble_eq_true rfl) (by decide +kernel) wm_18 (Nat.le_of_ble_eq_true rfl) rfl (sn_geti (ci := 10) (j := 3) en_c10 (by decide +kernel) wm_74 (Nat.le_of_ble_eq_true rfl) rfl (sn_ifeq (off := 14) (tgt := 21) (by decide +kernel) rfl (s_X11_canBeDone_21 G hst kc hk) (sn_iload_n (i := 1) (n := 1) (by decide +kernel) rfl (sn_aload_n (i := 0) (n := 0) (by decide +kernel) rfl (sn_gets (ci := 11) (j := 7) (off := 100) hst en_c11 of_11_100 (Nat.le_of_ble_eq_true rfl) (by decide +kernel) wm_39 (Nat.le_of_ble_eq_true rfl) rfl (sn_geti (ci := 2) (j := 2) en_c2 (by decide +kernel) wm_310 (Nat.le_of_ble_eq_true rfl) rfl (sn_iclt (off := 5) (tgt := 23) (by decide +kernel) rfl (s_X11_canBeDone_23 G hst kc hk) (s_X11_canBeDone_21 G hst kc hk))))))))))
noncomputable def LK_X11_canBeDone : Nat → Nat → en_B
  | 0, _ => en_no
  | n + 1, t => en_no
theorem l_X11_canBeDone (G : en_G) (hst : G.2.2.2.2.2 = true) : ∀ n t, en_Snd G M_X11_canBeDone t (LK_X11_canBeDone n t)
  | 0, _ => sn_no
  | n + 1, t => by
    show en_Snd G M_X11_canBeDone t (en_no)
    exact sn_no
noncomputable def T_X11_canBeDone_0 (x1 : Int32) (σ : en_M) : en_R := B_X11_canBeDone_0 (LK_X11_canBeDone en_FU) [.inr (0, 11, 0, 0), .inl x1, en_un] [] en_zz σ
set_option maxRecDepth 20000 in
set_option maxHeartbeats 2000000 in
theorem t_X11_canBeDone_0 (x1 : Int32) (σ : en_M) : T_X11_canBeDone_0 x1 σ = (if (σ 5 3) = 0 then (if (0 : Int32) = 0 ∨ (0 : Int32) = 1 then en_ri (0 : Int32) σ else none) else (if x1 < (σ 100 2) then ((en_ix x1 30).bind fun j1 => (en_ix x1 30).bind fun j2 => if (σ 101 j2) = (1 : Int32) then (if (60 : Int32) < (σ 102 j1) then (if (0 : Int32) = 0 ∨ (0 : Int32) = 1 then en_ri (0 : Int32) σ else none) else (if (1 : Int32) = 0 ∨ (1 : Int32) = 1 then en_ri (1 : Int32) σ else none)) else ((en_ix x1 30).bind fun j3 => if (σ 101 j3) = (2 : Int32) then ((O_X10_hasRinger [.inr (5, 10, 0, 0), .inl (σ 102 j1)] σ).bind fun r5 => if r5.1 = 0 ∨ r5.1 = 1 then en_ri r5.1 r5.2 else none) else ((O_X10_hasAll [.inr (5, 10, 0, 0), .inl (σ 102 j1)] σ).bind fun r4 => if r4.1 = 0 ∨ r4.1 = 1 then en_ri r4.1 r4.2 else none))) else (if (0 : Int32) = 0 ∨ (0 : Int32) = 1 then en_ri (0 : Int32) σ else none))) := rfl
noncomputable def P_X11_canBeDone : List en_V → en_M → Option (Int32 × en_M) := fun av σ => match av with
  | [.inr (0, 11, 0, 0), .inl x1] => en_oi (T_X11_canBeDone_0 x1 σ)
  | _ => none
theorem ox_X11_canBeDone : ∃ f, f = P_X11_canBeDone := ⟨_, rfl⟩
noncomputable def O_X11_canBeDone : List en_V → en_M → Option (Int32 × en_M) := Classical.choose ox_X11_canBeDone
theorem oe_X11_canBeDone : O_X11_canBeDone = P_X11_canBeDone := Classical.choose_spec ox_X11_canBeDone
theorem o_X11_canBeDone (x1 : Int32) (σ : en_M) : O_X11_canBeDone [.inr (0, 11, 0, 0), .inl x1] σ = en_oi (T_X11_canBeDone_0 x1 σ) := by rw [oe_X11_canBeDone]; rfl
theorem i_X11_canBeDone (G : en_G) (hst : G.2.2.2.2.2 = true) : en_I G 2 yX11_canBeDone cX11_canBeDone 3 (some .boolean) 0 0 (en_wi (O_X11_canBeDone)) := en_of_i (M := M_X11_canBeDone) hst (s_X11_canBeDone_0 G hst _ (l_X11_canBeDone G hst en_FU)) (plainFor_of_name (by decide +kernel)) rfl rfl rfl (Or.inr ⟨rfl, rfl⟩) (fun av σ x σ' h => by
  rw [oe_X11_canBeDone] at h; unfold P_X11_canBeDone at h
  split at h
  · exact ⟨(Nat.le_of_ble_eq_true rfl), en_oi_some h⟩
  · cases h)
-- EachMayMissOne.doAct(I)V
def M_X11_doAct : en_Me := (cX11_doAct, RX11, 3, false, 6, false)
theorem cs_X11_doAct : en_cs yX11_doAct cX11_doAct 3 none 1 := ⟨wm_313, wm_2, ⟨(by decide +kernel), (by decide +kernel), (by decide +kernel)⟩, (Nat.le_of_ble_eq_true rfl)⟩
noncomputable def B_X11_doAct_73 (kc : Nat → en_B) : en_B := op_vret
set_option maxRecDepth 20000 in
theorem s_X11_doAct_73 (G : en_G) (hst : G.2.2.2.2.2 = true) (kc : Nat → en_B) (hk : ∀ t, en_Snd G M_X11_doAct t (kc t)) : en_Snd G M_X11_doAct 73 (B_X11_doAct_73 kc) := (sn_vret (by decide +kernel))
noncomputable def B_X11_doAct_60 (kc : Nat → en_B) : en_B := (op_aload 0 (op_gets 11 5 (10, 0, 0) (op_aload 0 (op_gets 11 15 (7, 0, 0) (op_iload 2 (op_rcv 10 2 (op_calli O_X10_ring 3 (op_pop (B_X11_doAct_73 kc)))))))))
set_option maxRecDepth 20000 in
theorem s_X11_doAct_60 (G : en_G) (hst : G.2.2.2.2.2 = true) (kc : Nat → en_B) (hk : ∀ t, en_Snd G M_X11_doAct t (kc t)) : en_Snd G M_X11_doAct 60 (B_X11_doAct_60 kc) := (sn_aload_n (i := 0) (n := 0) (by decide +kernel) rfl (sn_gets (ci := 11) (j := 2) (off := 5) hst en_c11 of_11_5 (Nat.le_of_ble_eq_true rfl) (by decide +kernel) wm_18 (Nat.le_of_ble_eq_true rfl) rfl (sn_aload_n (i := 0) (n := 0) (by decide +kernel) rfl (sn_gets (ci := 11) (j := 3) (off := 15) hst en_c11 of_11_15 (Nat.le_of_ble_eq_true rfl) (by decide +kernel) wm_23 (Nat.le_of_ble_eq_true rfl) rfl (sn_iload_n (i := 2) (n := 2) (by decide +kernel) rfl (sn_callVi (n := 2) (idx := 201) (ci := 10) (i_X10_ring G hst) (Nat.le_of_ble_eq_true rfl) cs_X10_ring ⟨wm_1142, wm_1143, wm_114⟩ ⟨⟨_, rfl, rfl⟩, (Nat.le_of_ble_eq_true rfl)⟩ (by decide +kernel) (sn_pop (by decide +kernel) (s_X11_doAct_73 G hst kc hk))))))))
noncomputable def B_X11_doAct_36 (kc : Nat → en_B) : en_B := (op_aload 0 (op_gets 11 100 (2, 0, 0) (op_gets 2 1 (20, 30, 0) (op_iload 1 (op_ald 20 (op_const (2 : Int32) (op_iceq (op_aload 0 (op_gets 11 15 (7, 0, 0) (op_iload 2 (op_rcv 7 1 (op_callv O_X7_drink 2 (B_X11_doAct_73 kc)))))) (B_X11_doAct_60 kc))))))))
set_option maxRecDepth 20000 in
theorem s_X11_doAct_36 (G : en_G) (hst : G.2.2.2.2.2 = true) (kc : Nat → en_B) (hk : ∀ t, en_Snd G M_X11_doAct t (kc t)) : en_Snd G M_X11_doAct 36 (B_X11_doAct_36 kc) := (sn_aload_n (i := 0) (n := 0) (by decide +kernel) rfl (sn_gets (ci := 11) (j := 7) (off := 100) hst en_c11 of_11_100 (Nat.le_of_ble_eq_true rfl) (by decide +kernel) wm_39 (Nat.le_of_ble_eq_true rfl) rfl (sn_gets (ci := 2) (j := 0) (off := 1) hst en_c2 of_2_1 (Nat.le_of_ble_eq_true rfl) (by decide +kernel) wm_312 (Nat.le_of_ble_eq_true rfl) rfl (sn_iload_n (i := 1) (n := 1) (by decide +kernel) rfl (sn_iald (by decide +kernel) (sn_iconst (n := 2) (v := 2) (by decide +kernel) rfl (sn_icne (off := 14) (tgt := 60) (by decide +kernel) rfl (s_X11_doAct_60 G hst kc hk) (sn_aload_n (i := 0) (n := 0) (by decide +kernel) rfl (sn_gets (ci := 11) (j := 3) (off := 15) hst en_c11 of_11_15 (Nat.le_of_ble_eq_true rfl) (by decide +kernel) wm_23 (Nat.le_of_ble_eq_true rfl) rfl (sn_iload_n (i := 2) (n := 2) (by decide +kernel) rfl (sn_callVv (n := 1) (idx := 222) (ci := 7) (i_X7_drink G hst) (Nat.le_of_ble_eq_true rfl) cs_X7_drink ⟨wm_1046, wm_1047, wm_127⟩ ⟨⟨_, rfl, rfl⟩, (Nat.le_of_ble_eq_true rfl)⟩ (by decide +kernel) (sn_goto (off := 16) (tgt := 73) (by decide +kernel) rfl (s_X11_doAct_73 G hst kc hk)))))))))))))
noncomputable def B_X11_doAct_0 (kc : Nat → en_B) : en_B := (op_aload 0 (op_gets 11 100 (2, 0, 0) (op_gets 2 2 (20, 30, 0) (op_iload 1 (op_ald 20 (op_istore 2 (op_aload 0 (op_gets 11 100 (2, 0, 0) (op_gets 2 1 (20, 30, 0) (op_iload 1 (op_ald 20 (op_const (1 : Int32) (op_iceq (op_aload 0 (op_aload 0 (op_gets 11 15 (7, 0, 0) (op_iload 2 (op_rcv 11 2 (op_calli O_X11_ringAll 3 (op_pop (B_X11_doAct_73 kc)))))))) (B_X11_doAct_36 kc))))))))))))))
set_option maxRecDepth 20000 in
theorem s_X11_doAct_0 (G : en_G) (hst : G.2.2.2.2.2 = true) (kc : Nat → en_B) (hk : ∀ t, en_Snd G M_X11_doAct t (kc t)) : en_Snd G M_X11_doAct 0 (B_X11_doAct_0 kc) := (sn_aload_n (i := 0) (n := 0) (by decide +kernel) rfl (sn_gets (ci := 11) (j := 7) (off := 100) hst en_c11 of_11_100 (Nat.le_of_ble_eq_true rfl) (by decide +kernel) wm_39 (Nat.le_of_ble_eq_true rfl) rfl (sn_gets (ci := 2) (j := 1) (off := 2) hst en_c2 of_2_2 (Nat.le_of_ble_eq_true rfl) (by decide +kernel) wm_311 (Nat.le_of_ble_eq_true rfl) rfl (sn_iload_n (i := 1) (n := 1) (by decide +kernel) rfl (sn_iald (by decide +kernel) (sn_istore_n (i := 2) (n := 2) (by decide +kernel) rfl (Nat.le_of_ble_eq_true rfl) (sn_aload_n (i := 0) (n := 0) (by decide +kernel) rfl (sn_gets (ci := 11) (j := 7) (off := 100) hst en_c11 of_11_100 (Nat.le_of_ble_eq_true rfl) (by decide +kernel) wm_39 (Nat.le_of_ble_eq_true rfl) rfl (sn_gets (ci := 2) (j := 0) (off := 1) hst en_c2 of_2_1 (Nat.le_of_ble_eq_true rfl) (by decide +kernel) wm_312 (Nat.le_of_ble_eq_true rfl) rfl (sn_iload_n (i := 1) (n := 1) (by decide +kernel) rfl (sn_iald (by decide +kernel) (sn_iconst (n := 1) (v := 1) (by decide +kernel) rfl (sn_icne (off := 16) (tgt := 36) (by decide +kernel) rfl (s_X11_doAct_36 G hst kc hk) (sn_aload_n (i := 0) (n := 0) (by decide +kernel) rfl (sn_aload_n (i := 0) (n := 0) (by decide +kernel) rfl (sn_gets (ci := 11) (j := 3) (off := 15) hst en_c11 of_11_15 (Nat.le_of_ble_eq_true rfl) (by decide +kernel) wm_23 (Nat.le_of_ble_eq_true rfl) rfl (sn_iload_n (i := 2) (n := 2) (by decide +kernel) rfl (sn_callVi (n := 2) (idx := 216) (ci := 11) (i_X11_ringAll G hst) (Nat.le_of_ble_eq_true rfl) cs_X11_ringAll ⟨wm_305, wm_306, wm_122⟩ ⟨⟨_, rfl, rfl⟩, (Nat.le_of_ble_eq_true rfl)⟩ (by decide +kernel) (sn_pop (by decide +kernel) (sn_goto (off := 40) (tgt := 73) (by decide +kernel) rfl (s_X11_doAct_73 G hst kc hk)))))))))))))))))))))
noncomputable def LK_X11_doAct : Nat → Nat → en_B
  | 0, _ => en_no
  | n + 1, t => en_no
theorem l_X11_doAct (G : en_G) (hst : G.2.2.2.2.2 = true) : ∀ n t, en_Snd G M_X11_doAct t (LK_X11_doAct n t)
  | 0, _ => sn_no
  | n + 1, t => by
    show en_Snd G M_X11_doAct t (en_no)
    exact sn_no
noncomputable def T_X11_doAct_0 (x1 : Int32) (σ : en_M) : en_R := B_X11_doAct_0 (LK_X11_doAct en_FU) [.inr (0, 11, 0, 0), .inl x1, en_un] [] en_zz σ
set_option maxRecDepth 20000 in
set_option maxHeartbeats 2000000 in
theorem t_X11_doAct_0 (x1 : Int32) (σ : en_M) : T_X11_doAct_0 x1 σ = ((en_ix x1 30).bind fun j1 => (en_ix x1 30).bind fun j2 => if (σ 101 j2) = (1 : Int32) then ((O_X11_ringAll [.inr (0, 11, 0, 0), .inr (15, 7, 0, 0), .inl (σ 102 j1)] σ).bind fun r6 => en_rv r6.2) else ((en_ix x1 30).bind fun j3 => if (σ 101 j3) = (2 : Int32) then ((O_X7_drink [.inr (15, 7, 0, 0), .inl (σ 102 j1)] σ).bind fun r5 => en_rv r5) else ((O_X10_ring [.inr (5, 10, 0, 0), .inr (15, 7, 0, 0), .inl (σ 102 j1)] σ).bind fun r4 => en_rv r4.2))) := rfl
noncomputable def P_X11_doAct : List en_V → en_M → Option en_M := fun av σ => match av with
  | [.inr (0, 11, 0, 0), .inl x1] => en_ov (T_X11_doAct_0 x1 σ)
  | _ => none
theorem ox_X11_doAct : ∃ f, f = P_X11_doAct := ⟨_, rfl⟩
noncomputable def O_X11_doAct : List en_V → en_M → Option en_M := Classical.choose ox_X11_doAct
theorem oe_X11_doAct : O_X11_doAct = P_X11_doAct := Classical.choose_spec ox_X11_doAct
theorem o_X11_doAct (x1 : Int32) (σ : en_M) : O_X11_doAct [.inr (0, 11, 0, 0), .inl x1] σ = en_ov (T_X11_doAct_0 x1 σ) := by rw [oe_X11_doAct]; rfl
theorem i_X11_doAct (G : en_G) (hst : G.2.2.2.2.2 = true) : en_I G 6 yX11_doAct cX11_doAct 3 none 0 0 (en_wv (O_X11_doAct)) := en_of_v (M := M_X11_doAct) hst (s_X11_doAct_0 G hst _ (l_X11_doAct G hst en_FU)) (plainFor_of_name (by decide +kernel)) rfl rfl rfl (fun av σ σ' h => by
  rw [oe_X11_doAct] at h; unfold P_X11_doAct at h
  split at h
  · exact ⟨(Nat.le_of_ble_eq_true rfl), en_ov_some h⟩
  · cases h)
