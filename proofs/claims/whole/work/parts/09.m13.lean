-- EachMayMissOne.course(III)I
def M_X11_course : en_Me := (cX11_course, RX11, 8, false, 5, false)
theorem cs_X11_course : en_cs yX11_course cX11_course 8 (some .int) 3 := ⟨wm_159, wm_2, ⟨(by decide +kernel), (by decide +kernel), (by decide +kernel)⟩, (Nat.le_of_ble_eq_true rfl)⟩
noncomputable def B_X11_course_107 (kc : Nat → en_B) : en_B := (op_aload 0 (op_gets 11 3 (9, 0, 0) (op_rcv 9 0 (op_callv O_X9_begin 1 (op_aload 0 (op_gets 11 3 (9, 0, 0) (op_iload 4 (op_rcv 9 1 (op_callv O_X9_add 2 (op_iload 5 op_iret))))))))))
set_option maxRecDepth 20000 in
theorem s_X11_course_107 (G : en_G) (hst : G.2.2.2.2.2 = true) (kc : Nat → en_B) (hk : ∀ t, en_Snd G M_X11_course t (kc t)) : en_Snd G M_X11_course 107 (B_X11_course_107 kc) := (sn_aload_n (i := 0) (n := 0) (by decide +kernel) rfl (sn_gets (ci := 11) (j := 1) (off := 3) hst en_c11 of_11_3 (Nat.le_of_ble_eq_true rfl) (by decide +kernel) wm_13 (Nat.le_of_ble_eq_true rfl) rfl (sn_callVv (n := 0) (idx := 205) (ci := 9) (i_X9_begin G hst) (Nat.le_of_ble_eq_true rfl) cs_X9_begin ⟨wm_1086, wm_1087, wm_115⟩ ⟨⟨_, rfl, rfl⟩, (Nat.le_of_ble_eq_true rfl)⟩ (by decide +kernel) (sn_aload_n (i := 0) (n := 0) (by decide +kernel) rfl (sn_gets (ci := 11) (j := 1) (off := 3) hst en_c11 of_11_3 (Nat.le_of_ble_eq_true rfl) (by decide +kernel) wm_13 (Nat.le_of_ble_eq_true rfl) rfl (sn_iload (i := 4) (by decide +kernel) (sn_callVv (n := 1) (idx := 209) (ci := 9) (i_X9_add G hst) (Nat.le_of_ble_eq_true rfl) cs_X9_add ⟨wm_1090, wm_1091, wm_117⟩ ⟨⟨_, rfl, rfl⟩, (Nat.le_of_ble_eq_true rfl)⟩ (by decide +kernel) (sn_iload (i := 5) (by decide +kernel) (sn_iret (by decide +kernel) rfl)))))))))
noncomputable def B_X11_course_101 (kc : Nat → en_B) : en_B := (op_iinc 6 (1 : Int32) (kc 40))
set_option maxRecDepth 20000 in
theorem s_X11_course_101 (G : en_G) (hst : G.2.2.2.2.2 = true) (kc : Nat → en_B) (hk : ∀ t, en_Snd G M_X11_course t (kc t)) : en_Snd G M_X11_course 101 (B_X11_course_101 kc) := (sn_iinc (i := 6) (n := 1) (v := 1) (by decide +kernel) rfl (sn_goto (off := -64) (tgt := 40) (by decide +kernel) rfl (hk 40)))
noncomputable def B_X11_course_96 (kc : Nat → en_B) : en_B := (op_istore 4 (op_iinc 5 (1 : Int32) (B_X11_course_101 kc)))
set_option maxRecDepth 20000 in
theorem s_X11_course_96 (G : en_G) (hst : G.2.2.2.2.2 = true) (kc : Nat → en_B) (hk : ∀ t, en_Snd G M_X11_course t (kc t)) : en_Snd G M_X11_course 96 (B_X11_course_96 kc) := (sn_istore (i := 4) (by decide +kernel) (Nat.le_of_ble_eq_true rfl) (sn_iinc (i := 5) (n := 1) (v := 1) (by decide +kernel) rfl (s_X11_course_101 G hst kc hk)))
noncomputable def B_X11_course_94 (kc : Nat → en_B) : en_B := (op_iload 4 (B_X11_course_96 kc))
set_option maxRecDepth 20000 in
theorem s_X11_course_94 (G : en_G) (hst : G.2.2.2.2.2 = true) (kc : Nat → en_B) (hk : ∀ t, en_Snd G M_X11_course t (kc t)) : en_Snd G M_X11_course 94 (B_X11_course_94 kc) := (sn_iload (i := 4) (by decide +kernel) (s_X11_course_96 G hst kc hk))
noncomputable def B_X11_course_83 (kc : Nat → en_B) : en_B := (op_iload 4 (op_const (-1 : Int32) (op_iceq (op_iload 6 (B_X11_course_96 kc)) (B_X11_course_94 kc))))
set_option maxRecDepth 20000 in
theorem s_X11_course_83 (G : en_G) (hst : G.2.2.2.2.2 = true) (kc : Nat → en_B) (hk : ∀ t, en_Snd G M_X11_course t (kc t)) : en_Snd G M_X11_course 83 (B_X11_course_83 kc) := (sn_iload (i := 4) (by decide +kernel) (sn_iconst (n := -1) (v := -1) (by decide +kernel) rfl (sn_icne (off := 8) (tgt := 94) (by decide +kernel) rfl (s_X11_course_94 G hst kc hk) (sn_iload (i := 6) (by decide +kernel) (sn_goto (off := 5) (tgt := 96) (by decide +kernel) rfl (s_X11_course_96 G hst kc hk))))))
noncomputable def B_X11_course_40 (kc : Nat → en_B) : en_B := (op_iload 6 (op_iload 3 (op_iclt (op_aload 0 (op_gets 11 182 (20, 201, 0) (op_iload 6 (op_ald 20 (op_iload 1 (op_calli O_X11_placeOf 2 (op_aload 0 (op_gets 11 182 (20, 201, 0) (op_iload 6 (op_ald 20 (op_iload 2 (op_calli O_X11_placeOf 2 (op_bin (fun (x y : Int32) => x - y) (op_istore 7 (op_iload 7 (op_const (1 : Int32) (op_iceq (B_X11_course_83 kc) (op_iload 7 (op_const (-1 : Int32) (op_iceq (B_X11_course_83 kc) (B_X11_course_101 kc))))))))))))))))))))) (B_X11_course_107 kc))))
set_option maxRecDepth 20000 in
theorem s_X11_course_40 (G : en_G) (hst : G.2.2.2.2.2 = true) (kc : Nat → en_B) (hk : ∀ t, en_Snd G M_X11_course t (kc t)) : en_Snd G M_X11_course 40 (B_X11_course_40 kc) := (sn_iload (i := 6) (by decide +kernel) (sn_iload_n (i := 3) (n := 3) (by decide +kernel) rfl (sn_icge (off := 64) (tgt := 107) (by decide +kernel) rfl (s_X11_course_107 G hst kc hk) (sn_aload_n (i := 0) (n := 0) (by decide +kernel) rfl (sn_gets (ci := 11) (j := 10) (off := 182) hst en_c11 of_11_182 (Nat.le_of_ble_eq_true rfl) (by decide +kernel) wm_50 (Nat.le_of_ble_eq_true rfl) rfl (sn_iload (i := 6) (by decide +kernel) (sn_iald (by decide +kernel) (sn_iload_n (i := 1) (n := 1) (by decide +kernel) rfl (sn_callSi (n := 2) (idx := 156) (i_X11_placeOf G hst) (Nat.le_of_ble_eq_true rfl) cs_X11_placeOf ⟨wm_280, Or.inl wm_90⟩ (by decide +kernel) (sn_aload_n (i := 0) (n := 0) (by decide +kernel) rfl (sn_gets (ci := 11) (j := 10) (off := 182) hst en_c11 of_11_182 (Nat.le_of_ble_eq_true rfl) (by decide +kernel) wm_50 (Nat.le_of_ble_eq_true rfl) rfl (sn_iload (i := 6) (by decide +kernel) (sn_iald (by decide +kernel) (sn_iload_n (i := 2) (n := 2) (by decide +kernel) rfl (sn_callSi (n := 2) (idx := 156) (i_X11_placeOf G hst) (Nat.le_of_ble_eq_true rfl) cs_X11_placeOf ⟨wm_280, Or.inl wm_90⟩ (by decide +kernel) (sn_isub (by decide +kernel) (sn_istore (i := 7) (by decide +kernel) (Nat.le_of_ble_eq_true rfl) (sn_iload (i := 7) (by decide +kernel) (sn_iconst (n := 1) (v := 1) (by decide +kernel) rfl (sn_iceq (off := 9) (tgt := 83) (by decide +kernel) rfl (s_X11_course_83 G hst kc hk) (sn_iload (i := 7) (by decide +kernel) (sn_iconst (n := -1) (v := -1) (by decide +kernel) rfl (sn_icne (off := 21) (tgt := 101) (by decide +kernel) rfl (s_X11_course_101 G hst kc hk) (s_X11_course_83 G hst kc hk))))))))))))))))))))))))
noncomputable def B_X11_course_26 (kc : Nat → en_B) : en_B := (op_aload 0 (op_iload 3 (op_rcv 11 1 (op_callv O_X11_lookAhead 2 (op_const (-1 : Int32) (op_istore 4 (op_const (0 : Int32) (op_istore 5 (op_const (0 : Int32) (op_istore 6 (kc 40)))))))))))
set_option maxRecDepth 20000 in
theorem s_X11_course_26 (G : en_G) (hst : G.2.2.2.2.2 = true) (kc : Nat → en_B) (hk : ∀ t, en_Snd G M_X11_course t (kc t)) : en_Snd G M_X11_course 26 (B_X11_course_26 kc) := (sn_aload_n (i := 0) (n := 0) (by decide +kernel) rfl (sn_iload_n (i := 3) (n := 3) (by decide +kernel) rfl (sn_callVv (n := 1) (idx := 242) (ci := 11) (i_X11_lookAhead G hst) (Nat.le_of_ble_eq_true rfl) cs_X11_lookAhead ⟨wm_287, wm_288, wm_143⟩ ⟨⟨_, rfl, rfl⟩, (Nat.le_of_ble_eq_true rfl)⟩ (by decide +kernel) (sn_iconst (n := -1) (v := -1) (by decide +kernel) rfl (sn_istore (i := 4) (by decide +kernel) (Nat.le_of_ble_eq_true rfl) (sn_iconst (n := 0) (v := 0) (by decide +kernel) rfl (sn_istore (i := 5) (by decide +kernel) (Nat.le_of_ble_eq_true rfl) (sn_iconst (n := 0) (v := 0) (by decide +kernel) rfl (sn_istore (i := 6) (by decide +kernel) (Nat.le_of_ble_eq_true rfl) (hk 40))))))))))
noncomputable def B_X11_course_24 (kc : Nat → en_B) : en_B := (op_const (-1 : Int32) op_iret)
set_option maxRecDepth 20000 in
theorem s_X11_course_24 (G : en_G) (hst : G.2.2.2.2.2 = true) (kc : Nat → en_B) (hk : ∀ t, en_Snd G M_X11_course t (kc t)) : en_Snd G M_X11_course 24 (B_X11_course_24 kc) := (sn_iconst (n := -1) (v := -1) (by decide +kernel) rfl (sn_iret (by decide +kernel) rfl))
noncomputable def B_X11_course_0 (kc : Nat → en_B) : en_B := (op_aload 0 (op_gets 11 5 (10, 0, 0) (op_iload 1 (op_iload 2 (op_rcv 10 2 (op_calli O_X10_hasTwo 3 (op_ifeq (B_X11_course_24 kc) (op_iload 3 (op_const (1 : Int32) (op_iclt (B_X11_course_24 kc) (op_iload 3 (op_const (200 : Int32) (op_icgt (B_X11_course_24 kc) (B_X11_course_26 kc))))))))))))))
set_option maxRecDepth 20000 in
theorem s_X11_course_0 (G : en_G) (hst : G.2.2.2.2.2 = true) (kc : Nat → en_B) (hk : ∀ t, en_Snd G M_X11_course t (kc t)) : en_Snd G M_X11_course 0 (B_X11_course_0 kc) := (sn_aload_n (i := 0) (n := 0) (by decide +kernel) rfl (sn_gets (ci := 11) (j := 2) (off := 5) hst en_c11 of_11_5 (Nat.le_of_ble_eq_true rfl) (by decide +kernel) wm_18 (Nat.le_of_ble_eq_true rfl) rfl (sn_iload_n (i := 1) (n := 1) (by decide +kernel) rfl (sn_iload_n (i := 2) (n := 2) (by decide +kernel) rfl (sn_callVi (n := 2) (idx := 256) (ci := 10) (i_X10_hasTwo G hst) (Nat.le_of_ble_eq_true rfl) cs_X10_hasTwo ⟨wm_1118, wm_1119, wm_162⟩ ⟨⟨_, rfl, rfl⟩, (Nat.le_of_ble_eq_true rfl)⟩ (by decide +kernel) (sn_ifeq (off := 15) (tgt := 24) (by decide +kernel) rfl (s_X11_course_24 G hst kc hk) (sn_iload_n (i := 3) (n := 3) (by decide +kernel) rfl (sn_iconst (n := 1) (v := 1) (by decide +kernel) rfl (sn_iclt (off := 10) (tgt := 24) (by decide +kernel) rfl (s_X11_course_24 G hst kc hk) (sn_iload_n (i := 3) (n := 3) (by decide +kernel) rfl (sn_sipush (n := 200) (v := 200) (by decide +kernel) rfl (sn_icle (off := 5) (tgt := 26) (by decide +kernel) rfl (s_X11_course_26 G hst kc hk) (s_X11_course_24 G hst kc hk)))))))))))))
noncomputable def LK_X11_course : Nat → Nat → en_B
  | 0, _ => en_no
  | n + 1, t => if t = 40 then B_X11_course_40 (LK_X11_course n) else en_no
theorem l_X11_course (G : en_G) (hst : G.2.2.2.2.2 = true) : ∀ n t, en_Snd G M_X11_course t (LK_X11_course n t)
  | 0, _ => sn_no
  | n + 1, t => by
    show en_Snd G M_X11_course t (if t = 40 then B_X11_course_40 (LK_X11_course n) else en_no)
    by_cases h_40 : t = 40
    · rw [if_pos h_40, h_40]; exact s_X11_course_40 G hst _ (l_X11_course G hst n)
    rw [if_neg h_40]
    exact sn_no
noncomputable def T_X11_course_0 (x1 : Int32) (x2 : Int32) (x3 : Int32) (σ : en_M) : en_R := B_X11_course_0 (LK_X11_course en_FU) [.inr (0, 11, 0, 0), .inl x1, .inl x2, .inl x3, en_un, en_un, en_un, en_un] [] en_zz σ
noncomputable def T_X11_course_40 (n : Nat) (x1 : Int32) (x2 : Int32) (x3 : Int32) (x4 : Int32) (x5 : Int32) (x6 : Int32) (u7 : en_V) (σ : en_M) : en_R := LK_X11_course n 40 [.inr (0, 11, 0, 0), .inl x1, .inl x2, .inl x3, .inl x4, .inl x5, .inl x6, u7] [] en_zz σ
set_option maxRecDepth 400000 in
set_option maxHeartbeats 4000000 in
theorem t_X11_course_0 (x1 : Int32) (x2 : Int32) (x3 : Int32) (σ : en_M) : T_X11_course_0 x1 x2 x3 σ = ((O_X10_hasTwo [.inr (5, 10, 0, 0), .inl x1, .inl x2] σ).bind fun r1 => if r1.1 = 0 then (en_ri (-1 : Int32) r1.2) else (if x3 < (1 : Int32) then (en_ri (-1 : Int32) r1.2) else (if (200 : Int32) < x3 then (en_ri (-1 : Int32) r1.2) else ((O_X11_lookAhead [.inr (0, 11, 0, 0), .inl x3] r1.2).bind fun r2 => T_X11_course_40 en_FU x1 x2 x3 (-1 : Int32) (0 : Int32) (0 : Int32) (en_un) r2)))) := rfl
set_option maxRecDepth 400000 in
set_option maxHeartbeats 4000000 in
theorem t_X11_course_40 (n : Nat) (x1 : Int32) (x2 : Int32) (x3 : Int32) (x4 : Int32) (x5 : Int32) (x6 : Int32) (u7 : en_V) (σ : en_M) : T_X11_course_40 (n + 1) x1 x2 x3 x4 x5 x6 u7 σ = (if x6 < x3 then ((en_ix x6 201).bind fun j5 => (O_X11_placeOf [.inl (σ 182 j5), .inl x1] σ).bind fun r6 => (en_ix x6 201).bind fun j7 => (O_X11_placeOf [.inl (r6.2 182 j7), .inl x2] r6.2).bind fun r8 => if (r6.1 - r8.1) = (1 : Int32) then (if x4 = (-1 : Int32) then (T_X11_course_40 n x1 x2 x3 x6 (x5 + (1 : Int32)) (x6 + (1 : Int32)) (.inl (r6.1 - r8.1)) r8.2) else (T_X11_course_40 n x1 x2 x3 x4 (x5 + (1 : Int32)) (x6 + (1 : Int32)) (.inl (r6.1 - r8.1)) r8.2)) else (if (r6.1 - r8.1) = (-1 : Int32) then (if x4 = (-1 : Int32) then (T_X11_course_40 n x1 x2 x3 x6 (x5 + (1 : Int32)) (x6 + (1 : Int32)) (.inl (r6.1 - r8.1)) r8.2) else (T_X11_course_40 n x1 x2 x3 x4 (x5 + (1 : Int32)) (x6 + (1 : Int32)) (.inl (r6.1 - r8.1)) r8.2)) else (T_X11_course_40 n x1 x2 x3 x4 x5 (x6 + (1 : Int32)) (.inl (r6.1 - r8.1)) r8.2))) else ((O_X9_begin [.inr (3, 9, 0, 0)] σ).bind fun r3 => (O_X9_add [.inr (3, 9, 0, 0), .inl x4] r3).bind fun r4 => en_ri x5 r4)) := rfl
noncomputable def P_X11_course : List en_V → en_M → Option (Int32 × en_M) := fun av σ => match av with
  | [.inr (0, 11, 0, 0), .inl x1, .inl x2, .inl x3] => en_oi (T_X11_course_0 x1 x2 x3 σ)
  | _ => none
theorem ox_X11_course : ∃ f, f = P_X11_course := ⟨_, rfl⟩
noncomputable def O_X11_course : List en_V → en_M → Option (Int32 × en_M) := Classical.choose ox_X11_course
theorem oe_X11_course : O_X11_course = P_X11_course := Classical.choose_spec ox_X11_course
theorem o_X11_course (x1 : Int32) (x2 : Int32) (x3 : Int32) (σ : en_M) : O_X11_course [.inr (0, 11, 0, 0), .inl x1, .inl x2, .inl x3] σ = en_oi (T_X11_course_0 x1 x2 x3 σ) := by rw [oe_X11_course]; rfl
theorem i_X11_course (G : en_G) (hst : G.2.2.2.2.2 = true) : en_I G 5 yX11_course cX11_course 8 (some .int) 0 0 (en_wi (O_X11_course)) := en_of_i (M := M_X11_course) hst (s_X11_course_0 G hst _ (l_X11_course G hst en_FU)) (plainFor_of_name (by decide +kernel)) rfl rfl rfl (Or.inl ⟨rfl, rfl⟩) (fun av σ x σ' h => by
  rw [oe_X11_course] at h; unfold P_X11_course at h
  split at h
  · exact ⟨(Nat.le_of_ble_eq_true rfl), en_oi_some h⟩
  · cases h)
-- EachMayMissOne.brokenNow(I)I
def M_X11_brokenNow : en_Me := (cX11_brokenNow, RX11, 2, false, 4, false)
theorem cs_X11_brokenNow : en_cs yX11_brokenNow cX11_brokenNow 2 (some .int) 1 := ⟨wm_293, wm_2, ⟨(by decide +kernel), (by decide +kernel), (by decide +kernel)⟩, (Nat.le_of_ble_eq_true rfl)⟩
noncomputable def B_X11_brokenNow_0 (kc : Nat → en_B) : en_B := (op_aload 0 (op_gets 11 5 (10, 0, 0) (op_aload 0 (op_gets 11 15 (7, 0, 0) (op_geti 7 4 (op_aload 0 (op_gets 11 15 (7, 0, 0) (op_geti 7 5 (op_iload 1 (op_aload 0 (op_gets 11 15 (7, 0, 0) (op_geti 7 7 (op_aload 0 (op_gets 11 15 (7, 0, 0) (op_geti 7 8 (op_rcv 10 5 (op_calli O_X10_breach 6 op_iret)))))))))))))))))
set_option maxRecDepth 20000 in
theorem s_X11_brokenNow_0 (G : en_G) (hst : G.2.2.2.2.2 = true) (kc : Nat → en_B) (hk : ∀ t, en_Snd G M_X11_brokenNow t (kc t)) : en_Snd G M_X11_brokenNow 0 (B_X11_brokenNow_0 kc) := (sn_aload_n (i := 0) (n := 0) (by decide +kernel) rfl (sn_gets (ci := 11) (j := 2) (off := 5) hst en_c11 of_11_5 (Nat.le_of_ble_eq_true rfl) (by decide +kernel) wm_18 (Nat.le_of_ble_eq_true rfl) rfl (sn_aload_n (i := 0) (n := 0) (by decide +kernel) rfl (sn_gets (ci := 11) (j := 3) (off := 15) hst en_c11 of_11_15 (Nat.le_of_ble_eq_true rfl) (by decide +kernel) wm_23 (Nat.le_of_ble_eq_true rfl) rfl (sn_geti (ci := 7) (j := 4) en_c7 (by decide +kernel) wm_89 (Nat.le_of_ble_eq_true rfl) rfl (sn_aload_n (i := 0) (n := 0) (by decide +kernel) rfl (sn_gets (ci := 11) (j := 3) (off := 15) hst en_c11 of_11_15 (Nat.le_of_ble_eq_true rfl) (by decide +kernel) wm_23 (Nat.le_of_ble_eq_true rfl) rfl (sn_geti (ci := 7) (j := 5) en_c7 (by decide +kernel) wm_123 (Nat.le_of_ble_eq_true rfl) rfl (sn_iload_n (i := 1) (n := 1) (by decide +kernel) rfl (sn_aload_n (i := 0) (n := 0) (by decide +kernel) rfl (sn_gets (ci := 11) (j := 3) (off := 15) hst en_c11 of_11_15 (Nat.le_of_ble_eq_true rfl) (by decide +kernel) wm_23 (Nat.le_of_ble_eq_true rfl) rfl (sn_geti (ci := 7) (j := 7) en_c7 (by decide +kernel) wm_91 (Nat.le_of_ble_eq_true rfl) rfl (sn_aload_n (i := 0) (n := 0) (by decide +kernel) rfl (sn_gets (ci := 11) (j := 3) (off := 15) hst en_c11 of_11_15 (Nat.le_of_ble_eq_true rfl) (by decide +kernel) wm_23 (Nat.le_of_ble_eq_true rfl) rfl (sn_geti (ci := 7) (j := 8) en_c7 (by decide +kernel) wm_116 (Nat.le_of_ble_eq_true rfl) rfl (sn_callVi (n := 5) (idx := 357) (ci := 10) (i_X10_breach G hst) (Nat.le_of_ble_eq_true rfl) cs_X10_breach ⟨wm_1125, wm_1126, wm_296⟩ ⟨⟨_, rfl, rfl⟩, (Nat.le_of_ble_eq_true rfl)⟩ (by decide +kernel) (sn_iret (by decide +kernel) rfl)))))))))))))))))
noncomputable def LK_X11_brokenNow : Nat → Nat → en_B
  | 0, _ => en_no
  | n + 1, t => en_no
theorem l_X11_brokenNow (G : en_G) (hst : G.2.2.2.2.2 = true) : ∀ n t, en_Snd G M_X11_brokenNow t (LK_X11_brokenNow n t)
  | 0, _ => sn_no
  | n + 1, t => by
    show en_Snd G M_X11_brokenNow t (en_no)
    exact sn_no
noncomputable def T_X11_brokenNow_0 (x1 : Int32) (σ : en_M) : en_R := B_X11_brokenNow_0 (LK_X11_brokenNow en_FU) [.inr (0, 11, 0, 0), .inl x1] [] en_zz σ
set_option maxRecDepth 400000 in
set_option maxHeartbeats 4000000 in
theorem t_X11_brokenNow_0 (x1 : Int32) (σ : en_M) : T_X11_brokenNow_0 x1 σ = ((O_X10_breach [.inr (5, 10, 0, 0), .inl (σ 15 4), .inl (σ 15 5), .inl x1, .inl (σ 15 7), .inl (σ 15 8)] σ).bind fun r1 => en_ri r1.1 r1.2) := rfl
noncomputable def P_X11_brokenNow : List en_V → en_M → Option (Int32 × en_M) := fun av σ => match av with
  | [.inr (0, 11, 0, 0), .inl x1] => en_oi (T_X11_brokenNow_0 x1 σ)
  | _ => none
theorem ox_X11_brokenNow : ∃ f, f = P_X11_brokenNow := ⟨_, rfl⟩
noncomputable def O_X11_brokenNow : List en_V → en_M → Option (Int32 × en_M) := Classical.choose ox_X11_brokenNow
theorem oe_X11_brokenNow : O_X11_brokenNow = P_X11_brokenNow := Classical.choose_spec ox_X11_brokenNow
theorem o_X11_brokenNow (x1 : Int32) (σ : en_M) : O_X11_brokenNow [.inr (0, 11, 0, 0), .inl x1] σ = en_oi (T_X11_brokenNow_0 x1 σ) := by rw [oe_X11_brokenNow]; rfl
theorem i_X11_brokenNow (G : en_G) (hst : G.2.2.2.2.2 = true) : en_I G 4 yX11_brokenNow cX11_brokenNow 2 (some .int) 0 0 (en_wi (O_X11_brokenNow)) := en_of_i (M := M_X11_brokenNow) hst (s_X11_brokenNow_0 G hst _ (l_X11_brokenNow G hst en_FU)) (plainFor_of_name (by decide +kernel)) rfl rfl rfl (Or.inl ⟨rfl, rfl⟩) (fun av σ x σ' h => by
  rw [oe_X11_brokenNow] at h; unfold P_X11_brokenNow at h
  split at h
  · exact ⟨(Nat.le_of_ble_eq_true rfl), en_oi_some h⟩
  · cases h)
-- EachMayMissOne.may(I)I
def M_X11_may : en_Me := (cX11_may, RX11, 2, false, 5, false)
theorem cs_X11_may : en_cs yX11_may cX11_may 2 (some .int) 1 := ⟨wm_163, wm_2, ⟨(by decide +kernel), (by decide +kernel), (by decide +kernel)⟩, (Nat.le_of_ble_eq_true rfl)⟩
noncomputable def B_X11_may_33 (kc : Nat → en_B) : en_B := op_iret
set_option maxRecDepth 20000 in
theorem s_X11_may_33 (G : en_G) (hst : G.2.2.2.2.2 = true) (kc : Nat → en_B) (hk : ∀ t, en_Snd G M_X11_may t (kc t)) : en_Snd G M_X11_may 33 (B_X11_may_33 kc) := (sn_iret (by decide +kernel) rfl)
noncomputable def B_X11_may_32 (kc : Nat → en_B) : en_B := (op_const (-1 : Int32) (B_X11_may_33 kc))
set_option maxRecDepth 20000 in
theorem s_X11_may_32 (G : en_G) (hst : G.2.2.2.2.2 = true) (kc : Nat → en_B) (hk : ∀ t, en_Snd G M_X11_may t (kc t)) : en_Snd G M_X11_may 32 (B_X11_may_32 kc) := (sn_iconst (n := -1) (v := -1) (by decide +kernel) rfl (s_X11_may_33 G hst kc hk))
noncomputable def B_X11_may_13 (kc : Nat → en_B) : en_B := (op_aload 0 (op_gets 11 5 (10, 0, 0) (op_iload 1 (op_rcv 10 1 (op_calli O_X10_hasAll 2 (op_ifeq (B_X11_may_32 kc) (op_aload 0 (op_iload 1 (op_rcv 11 1 (op_calli O_X11_brokenNow 2 (B_X11_may_33 kc)))))))))))
set_option maxRecDepth 20000 in
theorem s_X11_may_13 (G : en_G) (hst : G.2.2.2.2.2 = true) (kc : Nat → en_B) (hk : ∀ t, en_Snd G M_X11_may t (kc t)) : en_Snd G M_X11_may 13 (B_X11_may_13 kc) := (sn_aload_n (i := 0) (n := 0) (by decide +kernel) rfl (sn_gets (ci := 11) (j := 2) (off := 5) hst en_c11 of_11_5 (Nat.le_of_ble_eq_true rfl) (by decide +kernel) wm_18 (Nat.le_of_ble_eq_true rfl) rfl (sn_iload_n (i := 1) (n := 1) (by decide +kernel) rfl (sn_callVi (n := 1) (idx := 194) (ci := 10) (i_X10_hasAll G hst) (Nat.le_of_ble_eq_true rfl) cs_X10_hasAll ⟨wm_1122, wm_1123, wm_112⟩ ⟨⟨_, rfl, rfl⟩, (Nat.le_of_ble_eq_true rfl)⟩ (by decide +kernel) (sn_ifeq (off := 11) (tgt := 32) (by decide +kernel) rfl (s_X11_may_32 G hst kc hk) (sn_aload_n (i := 0) (n := 0) (by decide +kernel) rfl (sn_iload_n (i := 1) (n := 1) (by decide +kernel) rfl (sn_callVi (n := 1) (idx := 259) (ci := 11) (i_X11_brokenNow G hst) (Nat.le_of_ble_eq_true rfl) cs_X11_brokenNow ⟨wm_294, wm_295, wm_166⟩ ⟨⟨_, rfl, rfl⟩, (Nat.le_of_ble_eq_true rfl)⟩ (by decide +kernel) (sn_goto (off := 4) (tgt := 33) (by decide +kernel) rfl (s_X11_may_33 G hst kc hk))))))))))
noncomputable def B_X11_may_0 (kc : Nat → en_B) : en_B := (op_aload 0 (op_gets 11 5 (10, 0, 0) (op_geti 10 3 (op_ifeq (op_const (-2 : Int32) op_iret) (B_X11_may_13 kc)))))
set_option maxRecDepth 20000 in
theorem s_X11_may_0 (G : en_G) (hst : G.2.2.2.2.2 = true) (kc : Nat → en_B) (hk : ∀ t, en_Snd G M_X11_may t (kc t)) : en_Snd G M_X11_may 0 (B_X11_may_0 kc) := (sn_aload_n (i := 0) (n := 0) (by decide +kernel) rfl (sn_gets (ci := 11) (j := 2) (off := 5) hst en_c11 of_11_5 (Nat.le_of_ble_eq_true rfl) (by decide +kernel) wm_18 (Nat.le_of_ble_eq_true rfl) rfl (sn_geti (ci := 10) (j := 3) en_c10 (by decide +kernel) wm_74 (Nat.le_of_ble_eq_true rfl) rfl (sn_ifne (off := 6) (tgt := 13) (by decide +kernel) rfl (s_X11_may_13 G hst kc hk) (sn_bipush (n := -2) (v := -2) (by decide +kernel) rfl (sn_iret (by decide +kernel) rfl))))))
noncomputable def LK_X11_may : Nat → Nat → en_B
  | 0, _ => en_no
  | n + 1, t => en_no
theorem l_X11_may (G : en_G) (hst : G.2.2.2.2.2 = true) : ∀ n t, en_Snd G M_X11_may t (LK_X11_may n t)
  | 0, _ => sn_no
  | n + 1, t => by
    show en_Snd G M_X11_may t (en_no)
    exact sn_no
noncomputable def T_X11_may_0 (x1 : Int32) (σ : en_M) : en_R := B_X11_may_0 (LK_X11_may en_FU) [.inr (0, 11, 0, 0), .inl x1] [] en_zz σ
set_option maxRecDepth 400000 in
set_option maxHeartbeats 4000000 in
theorem t_X11_may_0 (x1 : Int32) (σ : en_M) : T_X11_may_0 x1 σ = (if (σ 5 3) = 0 then (en_ri (-2 : Int32) σ) else ((O_X10_hasAll [.inr (5, 10, 0, 0), .inl x1] σ).bind fun r1 => if r1.1 = 0 then (en_ri (-1 : Int32) r1.2) else ((O_X11_brokenNow [.inr (0, 11, 0, 0), .inl x1] r1.2).bind fun r2 => en_ri r2.1 r2.2))) := rfl
noncomputable def P_X11_may : List en_V → en_M → Option (Int32 × en_M) := fun av σ => match av with
  | [.inr (0, 11, 0, 0), .inl x1] => en_oi (T_X11_may_0 x1 σ)
  | _ => none
theorem ox_X11_may : ∃ f, f = P_X11_may := ⟨_, rfl⟩
noncomputable def O_X11_may : List en_V → en_M → Option (Int32 × en_M) := Classical.choose ox_X11_may
theorem oe_X11_may : O_X11_may = P_X11_may := Classical.choose_spec ox_X11_may
theorem o_X11_may (x1 : Int32) (σ : en_M) : O_X11_may [.inr (0, 11, 0, 0), .inl x1] σ = en_oi (T_X11_may_0 x1 σ) := by rw [oe_X11_may]; rfl
theorem i_X11_may (G : en_G) (hst : G.2.2.2.2.2 = true) : en_I G 5 yX11_may cX11_may 2 (some .int) 0 0 (en_wi (O_X11_may)) := en_of_i (M := M_X11_may) hst (s_X11_may_0 G hst _ (l_X11_may G hst en_FU)) (plainFor_of_name (by decide +kernel)) rfl rfl rfl (Or.inl ⟨rfl, rfl⟩) (fun av σ x σ' h => by
  rw [oe_X11_may] at h; unfold P_X11_may at h
  split at h
  · exact ⟨(Nat.le_of_ble_eq_true rfl), en_oi_some h⟩
  · cases h)
-- EachMayMissOne.lawful()I
def M_X11_lawful : en_Me := (cX11_lawful, RX11, 5, false, 5, false)
theorem cs_X11_lawful : en_cs yX11_lawful cX11_lawful 5 (some .int) 0 := ⟨wm_167, wm_2, ⟨(by decide +kernel), (by decide +kernel), (by decide +kernel)⟩, (Nat.le_of_ble_eq_true rfl)⟩
noncomputable def B_X11_lawful_86 (kc : Nat → en_B) : en_B := (op_aload 0 (op_gets 11 3 (9, 0, 0) (op_rcv 9 0 (op_callv O_X9_begin 1 (op_aload 0 (op_gets 11 3 (9, 0, 0) (op_iload 2 (op_rcv 9 1 (op_callv O_X9_add 2 (op_aload 0 (op_gets 11 3 (9, 0, 0) (op_iload 3 (op_rcv 9 1 (op_callv O_X9_add 2 (op_iload 1 op_iret)))))))))))))))
set_option maxRecDepth 20000 in
theorem s_X11_lawful_86 (G : en_G) (hst : G.2.2.2.2.2 = true) (kc : Nat → en_B) (hk : ∀ t, en_Snd G M_X11_lawful t (kc t)) : en_Snd G M_X11_lawful 86 (B_X11_lawful_86 kc) := (sn_aload_n (i := 0) (n := 0) (by decide +kernel) rfl (sn_gets (ci := 11) (j := 1) (off := 3) hst en_c11 of_11_3 (Nat.le_of_ble_eq_true rfl) (by decide +kernel) wm_13 (Nat.le_of_ble_eq_true rfl) rfl (sn_callVv (n := 0) (idx := 205) (ci := 9) (i_X9_begin G hst) (Nat.le_of_ble_eq_true rfl) cs_X9_begin ⟨wm_1086, wm_1087, wm_115⟩ ⟨⟨_, rfl, rfl⟩, (Nat.le_of_ble_eq_true rfl)⟩ (by decide +kernel) (sn_aload_n (i := 0) (n := 0) (by decide +kernel) rfl (sn_gets (ci := 11) (j := 1) (off := 3) hst en_c11 of_11_3 (Nat.le_of_ble_eq_true rfl) (by decide +kernel) wm_13 (Nat.le_of_ble_eq_true rfl) rfl (sn_iload_n (i := 2) (n := 2) (by decide +kernel) rfl (sn_callVv (n := 1) (idx := 209) (ci := 9) (i_X9_add G hst) (Nat.le_of_ble_eq_true rfl) cs_X9_add ⟨wm_1090, wm_1091, wm_117⟩ ⟨⟨_, rfl, rfl⟩, (Nat.le_of_ble_eq_true rfl)⟩ (by decide +kernel) (sn_aload_n (i := 0) (n := 0) (by decide +kernel) rfl (sn_gets (ci := 11) (j := 1) (off := 3) hst en_c11 of_11_3 (Nat.le_of_ble_eq_true rfl) (by decide +kernel) wm_13 (Nat.le_of_ble_eq_true rfl) rfl (sn_iload_n (i := 3) (n := 3) (by decide +kernel) rfl (sn_callVv (n := 1) (idx := 209) (ci := 9) (i_X9_add G hst) (Nat.le_of_ble_eq_true rfl) cs_X9_add ⟨wm_1090, wm_1091, wm_117⟩ ⟨⟨_, rfl, rfl⟩, (Nat.le_of_ble_eq_true rfl)⟩ (by decide +kernel) (sn_iload_n (i := 1) (n := 1) (by decide +kernel) rfl (sn_iret (by decide +kernel) rfl)))))))))))))
noncomputable def B_X11_lawful_80 (kc : Nat → en_B) : en_B := (op_iinc 4 (1 : Int32) (kc 22))
set_option maxRecDepth 20000 in
theorem s_X11_lawful_80 (G : en_G) (hst : G.2.2.2.2.2 = true) (kc : Nat → en_B) (hk : ∀ t, en_Snd G M_X11_lawful t (kc t)) : en_Snd G M_X11_lawful 80 (B_X11_lawful_80 kc) := (sn_iinc (i := 4) (n := 1) (v := 1) (by decide +kernel) rfl (sn_goto (off := -61) (tgt := 22) (by decide +kernel) rfl (hk 22)))
noncomputable def B_X11_lawful_79 (kc : Nat → en_B) : en_B := (op_istore 2 (B_X11_lawful_80 kc))
set_option maxRecDepth 20000 in
theorem s_X11_lawful_79 (G : en_G) (hst : G.2.2.2.2.2 = true) (kc : Nat → en_B) (hk : ∀ t, en_Snd G M_X11_lawful t (kc t)) : en_Snd G M_X11_lawful 79 (B_X11_lawful_79 kc) := (sn_istore_n (i := 2) (n := 2) (by decide +kernel) rfl (Nat.le_of_ble_eq_true rfl) (s_X11_lawful_80 G hst kc hk))
noncomputable def B_X11_lawful_78 (kc : Nat → en_B) : en_B := (op_iload 2 (B_X11_lawful_79 kc))
set_option maxRecDepth 20000 in
theorem s_X11_lawful_78 (G : en_G) (hst : G.2.2.2.2.2 = true) (kc : Nat → en_B) (hk : ∀ t, en_Snd G M_X11_lawful t (kc t)) : en_Snd G M_X11_lawful 78 (B_X11_lawful_78 kc) := (sn_iload_n (i := 2) (n := 2) (by decide +kernel) rfl (s_X11_lawful_79 G hst kc hk))
noncomputable def B_X11_lawful_22 (kc : Nat → en_B) : en_B := (op_iload 4 (op_const (1 : Int32) (op_aload 0 (op_gets 11 5 (10, 0, 0) (op_geti 10 3 (op_bin en_shl (op_iclt (op_aload 0 (op_iload 4 (op_rcv 11 1 (op_calli O_X11_brokenNow 2 (op_ifeq (op_iinc 1 (1 : Int32) (op_iload 3 (op_iload 4 (op_bin (fun (x y : Int32) => x ||| y) (op_istore 3 (op_aload 0 (op_gets 11 15 (7, 0, 0) (op_iload 4 (op_rcv 7 1 (op_calli O_X7_tiredOf 2 (op_aload 0 (op_gets 11 15 (7, 0, 0) (op_iload 2 (op_rcv 7 1 (op_calli O_X7_tiredOf 2 (op_icgt (op_iload 4 (B_X11_lawful_79 kc)) (B_X11_lawful_78 kc))))))))))))))))) (B_X11_lawful_80 kc)))))) (B_X11_lawful_86 kc))))))))
set_option maxRecDepth 20000 in
theorem s_X11_lawful_22 (G : en_G) (hst : G.2.2.2.2.2 = true) (kc : Nat → en_B) (hk : ∀ t, en_Snd G M_X11_lawful t (kc t)) : en_Snd G M_X11_lawful 22 (B_X11_lawful_22 kc) := (sn_iload (i := 4) (by decide +kernel) (sn_iconst (n := 1) (v := 1) (by decide +kernel) rfl (sn_aload_n (i := 0) (n := 0) (by decide +kernel) rfl (sn_gets (ci := 11) (j := 2) (off := 5) hst en_c11 of_11_5 (Nat.le_of_ble_eq_true rfl) (by decide +kernel) wm_18 (Nat.le_of_ble_eq_true rfl) rfl (sn_geti (ci := 10) (j := 3) en_c10 (by decide +kernel) wm_74 (Nat.le_of_ble_eq_true rfl) rfl (sn_ishl (by decide +kernel) (sn_icge (off := 53) (tgt := 86) (by decide +kernel) rfl (s_X11_lawful_86 G hst kc hk) (sn_aload_n (i := 0) (n := 0) (by decide +kernel) rfl (sn_iload (i := 4) (by decide +kernel) (sn_callVi (n := 1) (idx := 259) (ci := 11) (i_X11_brokenNow G hst) (Nat.le_of_ble_eq_true rfl) cs_X11_brokenNow ⟨wm_294, wm_295, wm_166⟩ ⟨⟨_, rfl, rfl⟩, (Nat.le_of_ble_eq_true rfl)⟩ (by decide +kernel) (sn_ifne (off := 38) (tgt := 80) (by decide +kernel) rfl (s_X11_lawful_80 G hst kc hk) (sn_iinc (i := 1) (n := 1) (v := 1) (by decide +kernel) rfl (sn_iload_n (i := 3) (n := 3) (by decide +kernel) rfl (sn_iload (i := 4) (by decide +kernel) (sn_ior (by decide +kernel) (sn_istore_n (i := 3) (n := 3) (by decide +kernel) rfl (Nat.le_of_ble_eq_true rfl) (sn_aload_n (i := 0) (n := 0) (by decide +kernel) rfl (sn_gets (ci := 11) (j := 3) (off := 15) hst en_c11 of_11_15 (Nat.le_of_ble_eq_true rfl) (by decide +kernel) wm_23 (Nat.le_of_ble_eq_true rfl) rfl (sn_iload (i := 4) (by decide +kernel) (sn_callVi (n := 1) (idx := 262) (ci := 7) (i_X7_tiredOf G hst) (Nat.le_of_ble_eq_true rfl) cs_X7_tiredOf ⟨wm_1050, wm_1051, wm_170⟩ ⟨⟨_, rfl, rfl⟩, (Nat.le_of_ble_eq_true rfl)⟩ (by decide +kernel) (sn_aload_n (i := 0) (n := 0) (by decide +kernel) rfl (sn_gets (ci := 11) (j := 3) (off := 15) hst en_c11 of_11_15 (Nat.le_of_ble_eq_true rfl) (by decide +kernel) wm_23 (Nat.le_of_ble_eq_true rfl) rfl (sn_iload_n (i := 2) (n := 2) (by decide +kernel) rfl (sn_callVi (n := 1) (idx := 262) (ci := 7) (i_X7_tiredOf G hst) (Nat.le_of_ble_eq_true rfl) cs_X7_tiredOf ⟨wm_1050, wm_1051, wm_170⟩ ⟨⟨_, rfl, rfl⟩, (Nat.le_of_ble_eq_true rfl)⟩ (by decide +kernel) (sn_icle (off := 8) (tgt := 78) (by decide +kernel) rfl (s_X11_lawful_78 G hst kc hk) (sn_iload (i := 4) (by decide +kernel) (sn_goto (off := 4) (tgt := 79) (by decide +kernel) rfl (s_X11_lawful_79 G hst kc hk))))))))))))))))))))))))))))
noncomputable def B_X11_lawful_13 (kc : Nat → en_B) : en_B := (op_const (0 : Int32) (op_istore 1 (op_const (0 : Int32) (op_istore 2 (op_const (0 : Int32) (op_istore 3 (op_const (0 : Int32) (op_istore 4 (kc 22)))))))))
set_option maxRecDepth 20000 in
theorem s_X11_lawful_13 (G : en_G) (hst : G.2.2.2.2.2 = true) (kc : Nat → en_B) (hk : ∀ t, en_Snd G M_X11_lawful t (kc t)) : en_Snd G M_X11_lawful 13 (B_X11_lawful_13 kc) := (sn_iconst (n := 0) (v := 0) (by decide +kernel) rfl (sn_istore_n (i := 1) (n := 1) (by decide +kernel) rfl (Nat.le_of_ble_eq_true rfl) (sn_iconst (n := 0) (v := 0) (by decide +kernel) rfl (sn_istore_n (i := 2) (n := 2) (by decide +kernel) rfl (Nat.le_of_ble_eq_true rfl) (sn_iconst (n := 0) (v := 0) (by decide +kernel) rfl (sn_istore_n (i := 3) (n := 3) (by decide +kernel) rfl (Nat.le_of_ble_eq_true rfl) (sn_iconst (n := 0) (v := 0) (by decide +kernel) rfl (sn_istore (i := 4) (by decide +kernel) (Nat.le_of_ble_eq_true rfl) (hk 22)))))))))
noncomputable def B_X11_lawful_0 (kc : Nat → en_B) : en_B := (op_aload 0 (op_gets 11 5 (10, 0, 0) (op_geti 10 3 (op_ifeq (op_const (-2 : Int32) op_iret) (B_X11_lawful_13 kc)))))
set_option maxRecDepth 20000 in
theorem s_X11_lawful_0 (G : en_G) (hst : G.2.2.2.2.2 = true) (kc : Nat → en_B) (hk : ∀ t, en_Snd G M_X11_lawful t (kc t)) : en_Snd G M_X11_lawful 0 (B_X11_lawful_0 kc) := (sn_aload_n (i := 0) (n := 0) (by decide +kernel) rfl (sn_gets (ci := 11) (j := 2) (off := 5) hst en_c11 of_11_5 (Nat.le_of_ble_eq_true rfl) (by decide +kernel) wm_18 (Nat.le_of_ble_eq_true rfl) rfl (sn_geti (ci := 10) (j := 3) en_c10 (by decide +kernel) wm_74 (Nat.le_of_ble_eq_true rfl) rfl (sn_ifne (off := 6) (tgt := 13) (by decide +kernel) rfl (s_X11_lawful_13 G hst kc hk) (sn_bipush (n := -2) (v := -2) (by decide +kernel) rfl (sn_iret (by decide +kernel) rfl))))))
noncomputable def LK_X11_lawful : Nat → Nat → en_B
  | 0, _ => en_no
  | n + 1, t => if t = 22 then B_X11_lawful_22 (LK_X11_lawful n) else en_no
theorem l_X11_lawful (G : en_G) (hst : G.2.2.2.2.2 = true) : ∀ n t, en_Snd G M_X11_lawful t (LK_X11_lawful n t)
  | 0, _ => sn_no
  | n + 1, t => by
    show en_Snd G M_X11_lawful t (if t = 22 then B_X11_lawful_22 (LK_X11_lawful n) else en_no)
    by_cases h_22 : t = 22
    · rw [if_pos h_22, h_22]; exact s_X11_lawful_22 G hst _ (l_X11_lawful G hst n)
    rw [if_neg h_22]
    exact sn_no
noncomputable def T_X11_lawful_0 (σ : en_M) : en_R := B_X11_lawful_0 (LK_X11_lawful en_FU) [.inr (0, 11, 0, 0), en_un, en_un, en_un, en_un] [] en_zz σ
noncomputable def T_X11_lawful_22 (n : Nat) (x1 : Int32) (x2 : Int32) (x3 : Int32) (x4 : Int32) (σ : en_M) : en_R := LK_X11_lawful n 22 [.inr (0, 11, 0, 0), .inl x1, .inl x2, .inl x3, .inl x4] [] en_zz σ
set_option maxRecDepth 400000 in
set_option maxHeartbeats 4000000 in
theorem t_X11_lawful_0 (σ : en_M) : T_X11_lawful_0 σ = (if (σ 5 3) = 0 then (en_ri (-2 : Int32) σ) else (T_X11_lawful_22 en_FU (0 : Int32) (0 : Int32) (0 : Int32) (0 : Int32) σ)) := rfl
set_option maxRecDepth 400000 in
set_option maxHeartbeats 4000000 in
theorem t_X11_lawful_22 (n : Nat) (x1 : Int32) (x2 : Int32) (x3 : Int32) (x4 : Int32) (σ : en_M) : T_X11_lawful_22 (n + 1) x1 x2 x3 x4 σ = (if x4 < (en_shl (1 : Int32) (σ 5 3)) then ((O_X11_brokenNow [.inr (0, 11, 0, 0), .inl x4] σ).bind fun r4 => if r4.1 = 0 then ((O_X7_tiredOf [.inr (15, 7, 0, 0), .inl x4] r4.2).bind fun r5 => (O_X7_tiredOf [.inr (15, 7, 0, 0), .inl x2] r5.2).bind fun r6 => if r6.1 < r5.1 then (T_X11_lawful_22 n (x1 + (1 : Int32)) x4 (x3 ||| x4) (x4 + (1 : Int32)) r6.2) else (T_X11_lawful_22 n (x1 + (1 : Int32)) x2 (x3 ||| x4) (x4 + (1 : Int32)) r6.2)) else (T_X11_lawful_22 n x1 x2 x3 (x4 + (1 : Int32)) r4.2)) else ((O_X9_begin [.inr (3, 9, 0, 0)] σ).bind fun r1 => (O_X9_add [.inr (3, 9, 0, 0), .inl x2] r1).bind fun r2 => (O_X9_add [.inr (3, 9, 0, 0), .inl x3] r2).bind fun r3 => en_ri x1 r3)) := rfl
noncomputable def P_X11_lawful : List en_V → en_M → Option (Int32 × en_M) := fun av σ => match av with
  | [.inr (0, 11, 0, 0)] => en_oi (T_X11_lawful_0 σ)
  | _ => none
theorem ox_X11_lawful : ∃ f, f = P_X11_lawful := ⟨_, rfl⟩
noncomputable def O_X11_lawful : List en_V → en_M → Option (Int32 × en_M) := Classical.choose ox_X11_lawful
theorem oe_X11_lawful : O_X11_lawful = P_X11_lawful := Classical.choose_spec ox_X11_lawful
theorem o_X11_lawful (σ : en_M) : O_X11_lawful [.inr (0, 11, 0, 0)] σ = en_oi (T_X11_lawful_0 σ) := by rw [oe_X11_lawful]; rfl
theorem i_X11_lawful (G : en_G) (hst : G.2.2.2.2.2 = true) : en_I G 5 yX11_lawful cX11_lawful 5 (some .int) 0 0 (en_wi (O_X11_lawful)) := en_of_i (M := M_X11_lawful) hst (s_X11_lawful_0 G hst _ (l_X11_lawful G hst en_FU)) (plainFor_of_name (by decide +kernel)) rfl rfl rfl (Or.inl ⟨rfl, rfl⟩) (fun av σ x σ' h => by
  rw [oe_X11_lawful] at h; unfold P_X11_lawful at h
  split at h
  · exact ⟨(Nat.le_of_ble_eq_true rfl), en_oi_some h⟩
  · cases h)
-- EachMayMissOne.covers(I)I
def M_X11_covers : en_Me := (cX11_covers, RX11, 7, false, 5, false)
theorem cs_X11_covers : en_cs yX11_covers cX11_covers 7 (some .int) 1 := ⟨wm_171, wm_2, ⟨(by decide +kernel), (by decide +kernel), (by decide +kernel)⟩, (Nat.le_of_ble_eq_true rfl)⟩
noncomputable def B_X11_covers_102 (kc : Nat → en_B) : en_B := (op_aload 0 (op_gets 11 3 (9, 0, 0) (op_rcv 9 0 (op_callv O_X9_begin 1 (op_aload 0 (op_gets 11 3 (9, 0, 0) (op_iload 4 (op_iload 3 (op_const (-1 : Int32) (op_bin (fun (x y : Int32) => x ^^^ y) (op_bin (fun (x y : Int32) => x &&& y) (op_rcv 9 1 (op_callv O_X9_add 2 (op_iload 3 op_iret))))))))))))))
set_option maxRecDepth 20000 in
theorem s_X11_covers_102 (G : en_G) (hst : G.2.2.2.2.2 = true) (kc : Nat → en_B) (hk : ∀ t, en_Snd G M_X11_covers t (kc t)) : en_Snd G M_X11_covers 102 (B_X11_covers_102 kc) := (sn_aload_n (i := 0) (n := 0) (by decide +kernel) rfl (sn_gets (ci := 11) (j := 1) (off := 3) hst en_c11 of_11_3 (Nat.le_of_ble_eq_true rfl) (by decide +kernel) wm_13 (Nat.le_of_ble_eq_true rfl) rfl (sn_callVv (n := 0) (idx := 205) (ci := 9) (i_X9_begin G hst) (Nat.le_of_ble_eq_true rfl) cs_X9_begin ⟨wm_1086, wm_1087, wm_115⟩ ⟨⟨_, rfl, rfl⟩, (Nat.le_of_ble_eq_true rfl)⟩ (by decide +kernel) (sn_aload_n (i := 0) (n := 0) (by decide +kernel) rfl (sn_gets (ci := 11) (j := 1) (off := 3) hst en_c11 of_11_3 (Nat.le_of_ble_eq_true rfl) (by decide +kernel) wm_13 (Nat.le_of_ble_eq_true rfl) rfl (sn_iload (i := 4) (by decide +kernel) (sn_iload_n (i := 3) (n := 3) (by decide +kernel) rfl (sn_iconst (n := -1) (v := -1) (by decide +kernel) rfl (sn_ixor (by decide +kernel) (sn_iand (by decide +kernel) (sn_callVv (n := 1) (idx := 209) (ci := 9) (i_X9_add G hst) (Nat.le_of_ble_eq_true rfl) cs_X9_add ⟨wm_1090, wm_1091, wm_117⟩ ⟨⟨_, rfl, rfl⟩, (Nat.le_of_ble_eq_true rfl)⟩ (by decide +kernel) (sn_iload_n (i := 3) (n := 3) (by decide +kernel) rfl (sn_iret (by decide +kernel) rfl)))))))))))))
noncomputable def B_X11_covers_96 (kc : Nat → en_B) : en_B := (op_iinc 5 (1 : Int32) (kc 36))
set_option maxRecDepth 20000 in
theorem s_X11_covers_96 (G : en_G) (hst : G.2.2.2.2.2 = true) (kc : Nat → en_B) (hk : ∀ t, en_Snd G M_X11_covers t (kc t)) : en_Snd G M_X11_covers 96 (B_X11_covers_96 kc) := (sn_iinc (i := 5) (n := 1) (v := 1) (by decide +kernel) rfl (sn_goto (off := -63) (tgt := 36) (by decide +kernel) rfl (hk 36)))
noncomputable def B_X11_covers_87 (kc : Nat → en_B) : en_B := (op_bin (fun (x y : Int32) => x ||| y) (op_istore 3 (op_iload 4 (op_iload 6 (op_bin (fun (x y : Int32) => x ||| y) (op_istore 4 (B_X11_covers_96 kc)))))))
set_option maxRecDepth 20000 in
theorem s_X11_covers_87 (G : en_G) (hst : G.2.2.2.2.2 = true) (kc : Nat → en_B) (hk : ∀ t, en_Snd G M_X11_covers t (kc t)) : en_Snd G M_X11_covers 87 (B_X11_covers_87 kc) := (sn_ior (by decide +kernel) (sn_istore_n (i := 3) (n := 3) (by decide +kernel) rfl (Nat.le_of_ble_eq_true rfl) (sn_iload (i := 4) (by decide +kernel) (sn_iload (i := 6) (by decide +kernel) (sn_ior (by decide +kernel) (sn_istore (i := 4) (by decide +kernel) (Nat.le_of_ble_eq_true rfl) (s_X11_covers_96 G hst kc hk)))))))
noncomputable def B_X11_covers_86 (kc : Nat → en_B) : en_B := (op_const (0 : Int32) (B_X11_covers_87 kc))
set_option maxRecDepth 20000 in
theorem s_X11_covers_86 (G : en_G) (hst : G.2.2.2.2.2 = true) (kc : Nat → en_B) (hk : ∀ t, en_Snd G M_X11_covers t (kc t)) : en_Snd G M_X11_covers 86 (B_X11_covers_86 kc) := (sn_iconst (n := 0) (v := 0) (by decide +kernel) rfl (s_X11_covers_87 G hst kc hk))
noncomputable def B_X11_covers_36 (kc : Nat → en_B) : en_B := (op_iload 5 (op_aload 0 (op_gets 11 5 (10, 0, 0) (op_geti 10 3 (op_iclt (op_const (1 : Int32) (op_iload 5 (op_bin en_shl (op_istore 6 (op_iload 5 (op_iload 1 (op_iceq (B_X11_covers_96 kc) (op_aload 0 (op_iload 6 (op_rcv 11 1 (op_calli O_X11_brokenNow 2 (op_ifeq (op_iload 3 (op_aload 0 (op_iload 2 (op_iload 6 (op_bin (fun (x y : Int32) => x ||| y) (op_rcv 11 1 (op_calli O_X11_brokenNow 2 (op_ifeq (op_iload 6 (B_X11_covers_87 kc)) (B_X11_covers_86 kc))))))))) (B_X11_covers_96 kc))))))))))))) (B_X11_covers_102 kc))))))
set_option maxRecDepth 20000 in
theorem s_X11_covers_36 (G : en_G) (hst : G.2.2.2.2.2 = true) (kc : Nat → en_B) (hk : ∀ t, en_Snd G M_X11_covers t (kc t)) : en_Snd G M_X11_covers 36 (B_X11_covers_36 kc) := (sn_iload (i := 5) (by decide +kernel) (sn_aload_n (i := 0) (n := 0) (by decide +kernel) rfl (sn_gets (ci := 11) (j := 2) (off := 5) hst en_c11 of_11_5 (Nat.le_of_ble_eq_true rfl) (by decide +kernel) wm_18 (Nat.le_of_ble_eq_true rfl) rfl (sn_geti (ci := 10) (j := 3) en_c10 (by decide +kernel) wm_74 (Nat.le_of_ble_eq_true rfl) rfl (sn_icge (off := 57) (tgt := 102) (by decide +kernel) rfl (s_X11_covers_102 G hst kc hk) (sn_iconst (n := 1) (v := 1) (by decide +kernel) rfl (sn_iload (i := 5) (by decide +kernel) (sn_ishl (by decide +kernel) (sn_istore (i := 6) (by decide +kernel) (Nat.le_of_ble_eq_true rfl) (sn_iload (i := 5) (by decide +kernel) (sn_iload_n (i := 1) (n := 1) (by decide +kernel) rfl (sn_iceq (off := 39) (tgt := 96) (by decide +kernel) rfl (s_X11_covers_96 G hst kc hk) (sn_aload_n (i := 0) (n := 0) (by decide +kernel) rfl (sn_iload (i := 6) (by decide +kernel) (sn_callVi (n := 1) (idx := 259) (ci := 11) (i_X11_brokenNow G hst) (Nat.le_of_ble_eq_true rfl) cs_X11_brokenNow ⟨wm_294, wm_295, wm_166⟩ ⟨⟨_, rfl, rfl⟩, (Nat.le_of_ble_eq_true rfl)⟩ (by decide +kernel) (sn_ifne (off := 30) (tgt := 96) (by decide +kernel) rfl (s_X11_covers_96 G hst kc hk) (sn_iload_n (i := 3) (n := 3) (by decide +kernel) rfl (sn_aload_n (i := 0) (n := 0) (by decide +kernel) rfl (sn_iload_n (i := 2) (n := 2) (by decide +kernel) rfl (sn_iload (i := 6) (by decide +kernel) (sn_ior (by decide +kernel) (sn_callVi (n := 1) (idx := 259) (ci := 11) (i_X11_brokenNow G hst) (Nat.le_of_ble_eq_true rfl) cs_X11_brokenNow ⟨wm_294, wm_295, wm_166⟩ ⟨⟨_, rfl, rfl⟩, (Nat.le_of_ble_eq_true rfl)⟩ (by decide +kernel) (sn_ifne (off := 8) (tgt := 86) (by decide +kernel) rfl (s_X11_covers_86 G hst kc hk) (sn_iload (i := 6) (by decide +kernel) (sn_goto (off := 4) (tgt := 87) (by decide +kernel) rfl (s_X11_covers_87 G hst kc hk))))))))))))))))))))))))))
noncomputable def B_X11_covers_28 (kc : Nat → en_B) : en_B := (op_const (0 : Int32) (op_istore 3 (op_const (0 : Int32) (op_istore 4 (op_const (0 : Int32) (op_istore 5 (kc 36)))))))
set_option maxRecDepth 20000 in
theorem s_X11_covers_28 (G : en_G) (hst : G.2.2.2.2.2 = true) (kc : Nat → en_B) (hk : ∀ t, en_Snd G M_X11_covers t (kc t)) : en_Snd G M_X11_covers 28 (B_X11_covers_28 kc) := (sn_iconst (n := 0) (v := 0) (by decide +kernel) rfl (sn_istore_n (i := 3) (n := 3) (by decide +kernel) rfl (Nat.le_of_ble_eq_true rfl) (sn_iconst (n := 0) (v := 0) (by decide +kernel) rfl (sn_istore (i := 4) (by decide +kernel) (Nat.le_of_ble_eq_true rfl) (sn_iconst (n := 0) (v := 0) (by decide +kernel) rfl (sn_istore (i := 5) (by decide +kernel) (Nat.le_of_ble_eq_true rfl) (hk 36)))))))
noncomputable def B_X11_covers_13 (kc : Nat → en_B) : en_B := (op_const (1 : Int32) (op_iload 1 (op_bin en_shl (op_istore 2 (op_aload 0 (op_iload 2 (op_rcv 11 1 (op_calli O_X11_brokenNow 2 (op_ifeq (B_X11_covers_28 kc) (op_const (-2 : Int32) op_iret))))))))))
set_option maxRecDepth 20000 in
theorem s_X11_covers_13 (G : en_G) (hst : G.2.2.2.2.2 = true) (kc : Nat → en_B) (hk : ∀ t, en_Snd G M_X11_covers t (kc t)) : en_Snd G M_X11_covers 13 (B_X11_covers_13 kc) := (sn_iconst (n := 1) (v := 1) (by decide +kernel) rfl (sn_iload_n (i := 1) (n := 1) (by decide +kernel) rfl (sn_ishl (by decide +kernel) (sn_istore_n (i := 2) (n := 2) (by decide +kernel) rfl (Nat.le_of_ble_eq_true rfl) (sn_aload_n (i := 0) (n := 0) (by decide +kernel) rfl (sn_iload_n (i := 2) (n := 2) (by decide +kernel) rfl (sn_callVi (n := 1) (idx := 259) (ci := 11) (i_X11_brokenNow G hst) (Nat.le_of_ble_eq_true rfl) cs_X11_brokenNow ⟨wm_294, wm_295, wm_166⟩ ⟨⟨_, rfl, rfl⟩, (Nat.le_of_ble_eq_true rfl)⟩ (by decide +kernel) (sn_ifeq (off := 6) (tgt := 28) (by decide +kernel) rfl (s_X11_covers_28 G hst kc hk) (sn_bipush (n := -2) (v := -2) (by decide +kernel) rfl (sn_iret (by decide +kernel) rfl))))))))))
noncomputable def B_X11_covers_0 (kc : Nat → en_B) : en_B := (op_aload 0 (op_gets 11 5 (10, 0, 0) (op_iload 1 (op_rcv 10 1 (op_calli O_X10_hasRinger 2 (op_ifeq (op_const (-1 : Int32) op_iret) (B_X11_covers_13 kc)))))))
set_option maxRecDepth 20000 in
theorem s_X11_covers_0 (G : en_G) (hst : G.2.2.2.2.2 = true) (kc : Nat → en_B) (hk : ∀ t, en_Snd G M_X11_covers t (kc t)) : en_Snd G M_X11_covers 0 (B_X11_covers_0 kc) := (sn_aload_n (i := 0) (n := 0) (by decide +kernel) rfl (sn_gets (ci := 11) (j := 2) (off := 5) hst en_c11 of_11_5 (Nat.le_of_ble_eq_true rfl) (by decide +kernel) wm_18 (Nat.le_of_ble_eq_true rfl) rfl (sn_iload_n (i := 1) (n := 1) (by decide +kernel) rfl (sn_callVi (n := 1) (idx := 131) (ci := 10) (i_X10_hasRinger G hst) (Nat.le_of_ble_eq_true rfl) cs_X10_hasRinger ⟨wm_1115, wm_1116, wm_84⟩ ⟨⟨_, rfl, rfl⟩, (Nat.le_of_ble_eq_true rfl)⟩ (by decide +kernel) (sn_ifne (off := 5) (tgt := 13) (by decide +kernel) rfl (s_X11_covers_13 G hst kc hk) (sn_iconst (n := -1) (v := -1) (by decide +kernel) rfl (sn_iret (by decide +kernel) rfl)))))))
noncomputable def LK_X11_covers : Nat → Nat → en_B
  | 0, _ => en_no
  | n + 1, t => if t = 36 then B_X11_covers_36 (LK_X11_covers n) else en_no
theorem l_X11_covers (G : en_G) (hst : G.2.2.2.2.2 = true) : ∀ n t, en_Snd G M_X11_covers t (LK_X11_covers n t)
  | 0, _ => sn_no
  | n + 1, t => by
    show en_Snd G M_X11_covers t (if t = 36 then B_X11_covers_36 (LK_X11_covers n) else en_no)
    by_cases h_36 : t = 36
    · rw [if_pos h_36, h_36]; exact s_X11_covers_36 G hst _ (l_X11_covers G hst n)
    rw [if_neg h_36]
    exact sn_no
noncomputable def T_X11_covers_0 (x1 : Int32) (σ : en_M) : en_R := B_X11_covers_0 (LK_X11_covers en_FU) [.inr (0, 11, 0, 0), .inl x1, en_un, en_un, en_un, en_un, en_un] [] en_zz σ
noncomputable def T_X11_covers_36 (n : Nat) (x1 : Int32) (x2 : Int32) (x3 : Int32) (x4 : Int32) (x5 : Int32) (u6 : en_V) (σ : en_M) : en_R := LK_X11_covers n 36 [.inr (0, 11, 0, 0), .inl x1, .inl x2, .inl x3, .inl x4, .inl x5, u6] [] en_zz σ
set_option maxRecDepth 400000 in
set_option maxHeartbeats 4000000 in
theorem t_X11_covers_0 (x1 : Int32) (σ : en_M) : T_X11_covers_0 x1 σ = ((O_X10_hasRinger [.inr (5, 10, 0, 0), .inl x1] σ).bind fun r1 => if r1.1 = 0 then (en_ri (-1 : Int32) r1.2) else ((O_X11_brokenNow [.inr (0, 11, 0, 0), .inl (en_shl (1 : Int32) x1)] r1.2).bind fun r2 => if r2.1 = 0 then (T_X11_covers_36 en_FU x1 (en_shl (1 : Int32) x1) (0 : Int32) (0 : Int32) (0 : Int32) (en_un) r2.2) else (en_ri (-2 : Int32) r2.2))) := rfl
set_option maxRecDepth 400000 in
set_option maxHeartbeats 4000000 in
theorem t_X11_covers_36 (n : Nat) (x1 : Int32) (x2 : Int32) (x3 : Int32) (x4 : Int32) (x5 : Int32) (u6 : en_V) (σ : en_M) : T_X11_covers_36 (n + 1) x1 x2 x3 x4 x5 u6 σ = (if x5 < (σ 5 3) then (if x5 = x1 then (T_X11_covers_36 n x1 x2 x3 x4 (x5 + (1 : Int32)) (.inl (en_shl (1 : Int32) x5)) σ) else ((O_X11_brokenNow [.inr (0, 11, 0, 0), .inl (en_shl (1 : Int32) x5)] σ).bind fun r5 => if r5.1 = 0 then ((O_X11_brokenNow [.inr (0, 11, 0, 0), .inl (x2 ||| (en_shl (1 : Int32) x5))] r5.2).bind fun r6 => if r6.1 = 0 then (T_X11_covers_36 n x1 x2 (x3 ||| (en_shl (1 : Int32) x5)) (x4 ||| (en_shl (1 : Int32) x5)) (x5 + (1 : Int32)) (.inl (en_shl (1 : Int32) x5)) r6.2) else (T_X11_covers_36 n x1 x2 (x3 ||| (0 : Int32)) (x4 ||| (en_shl (1 : Int32) x5)) (x5 + (1 : Int32)) (.inl (en_shl (1 : Int32) x5)) r6.2)) else (T_X11_covers_36 n x1 x2 x3 x4 (x5 + (1 : Int32)) (.inl (en_shl (1 : Int32) x5)) r5.2))) else ((O_X9_begin [.inr (3, 9, 0, 0)] σ).bind fun r3 => (O_X9_add [.inr (3, 9, 0, 0), .inl (x4 &&& (x3 ^^^ (-1 : Int32)))] r3).bind fun r4 => en_ri x3 r4)) := rfl
noncomputable def P_X11_covers : List en_V → en_M → Option (Int32 × en_M) := fun av σ => match av with
  | [.inr (0, 11, 0, 0), .inl x1] => en_oi (T_X11_covers_0 x1 σ)
  | _ => none
theorem ox_X11_covers : ∃ f, f = P_X11_covers := ⟨_, rfl⟩
noncomputable def O_X11_covers : List en_V → en_M → Option (Int32 × en_M) := Classical.choose ox_X11_covers
theorem oe_X11_covers : O_X11_covers = P_X11_covers := Classical.choose_spec ox_X11_covers
theorem o_X11_covers (x1 : Int32) (σ : en_M) : O_X11_covers [.inr (0, 11, 0, 0), .inl x1] σ = en_oi (T_X11_covers_0 x1 σ) := by rw [oe_X11_covers]; rfl
theorem i_X11_covers (G : en_G) (hst : G.2.2.2.2.2 = true) : en_I G 5 yX11_covers cX11_covers 7 (some .int) 0 0 (en_wi (O_X11_covers)) := en_of_i (M := M_X11_covers) hst (s_X11_covers_0 G hst _ (l_X11_covers G hst en_FU)) (plainFor_of_name (by decide +kernel)) rfl rfl rfl (Or.inl ⟨rfl, rfl⟩) (fun av σ x σ' h => by
  rw [oe_X11_covers] at h; unfold P_X11_covers at h
  split at h
  · exact ⟨(Nat.le_of_ble_eq_true rfl), en_oi_some h⟩
  · cases h)
-- EachMayMissOne.lawfulRounds(I)I
def M_X11_lawfulRounds : en_Me := (cX11_lawfulRounds, RX11, 5, false, 4, false)
theorem cs_X11_lawfulRounds : en_cs yX11_lawfulRounds cX11_lawfulRounds 5 (some .int) 1 := ⟨wm_297, wm_2, ⟨(by decide +kernel), (by decide +kernel), (by decide +kernel)⟩, (Nat.le_of_ble_eq_true rfl)⟩
noncomputable def B_X11_lawfulRounds_110 (kc : Nat → en_B) : en_B := (op_iload 1 op_iret)
set_option maxRecDepth 20000 in
theorem s_X11_lawfulRounds_110 (G : en_G) (hst : G.2.2.2.2.2 = true) (kc : Nat → en_B) (hk : ∀ t, en_Snd G M_X11_lawfulRounds t (kc t)) : en_Snd G M_X11_lawfulRounds 110 (B_X11_lawfulRounds_110 kc) := (sn_iload_n (i := 1) (n := 1) (by decide +kernel) rfl (sn_iret (by decide +kernel) rfl))
noncomputable def B_X11_lawfulRounds_84 (kc : Nat → en_B) : en_B := (op_aload 0 (op_gets 11 183 (20, 60, 0) (op_iload 4 (op_ald 20 (op_istore 2 (op_aload 0 (op_gets 11 182 (20, 201, 0) (op_iload 4 (op_ald 20 (op_iload 2 (op_calli O_X11_placesOf 2 (op_istore 3 (op_iinc 4 (1 : Int32) (kc 24))))))))))))))
set_option maxRecDepth 20000 in
theorem s_X11_lawfulRounds_84 (G : en_G) (hst : G.2.2.2.2.2 = true) (kc : Nat → en_B) (hk : ∀ t, en_Snd G M_X11_lawfulRounds t (kc t)) : en_Snd G M_X11_lawfulRounds 84 (B_X11_lawfulRounds_84 kc) := (sn_aload_n (i := 0) (n := 0) (by decide +kernel) rfl (sn_gets (ci := 11) (j := 11) (off := 183) hst en_c11 of_11_183 (Nat.le_of_ble_eq_true rfl) (by decide +kernel) wm_51 (Nat.le_of_ble_eq_true rfl) rfl (sn_iload (i := 4) (by decide +kernel) (sn_iald (by decide +kernel) (sn_istore_n (i := 2) (n := 2) (by decide +kernel) rfl (Nat.le_of_ble_eq_true rfl) (sn_aload_n (i := 0) (n := 0) (by decide +kernel) rfl (sn_gets (ci := 11) (j := 10) (off := 182) hst en_c11 of_11_182 (Nat.le_of_ble_eq_true rfl) (by decide +kernel) wm_50 (Nat.le_of_ble_eq_true rfl) rfl (sn_iload (i := 4) (by decide +kernel) (sn_iald (by decide +kernel) (sn_iload_n (i := 2) (n := 2) (by decide +kernel) rfl (sn_callSi (n := 2) (idx := 361) (i_X11_placesOf G hst) (Nat.le_of_ble_eq_true rfl) cs_X11_placesOf ⟨wm_285, Or.inl wm_300⟩ (by decide +kernel) (sn_istore_n (i := 3) (n := 3) (by decide +kernel) rfl (Nat.le_of_ble_eq_true rfl) (sn_iinc (i := 4) (n := 1) (v := 1) (by decide +kernel) rfl (sn_goto (off := -83) (tgt := 24) (by decide +kernel) rfl (hk 24)))))))))))))))
noncomputable def B_X11_lawfulRounds_24 (kc : Nat → en_B) : en_B := (op_iload 4 (op_iload 1 (op_iclt (op_iload 4 (op_const (60 : Int32) (op_iclt (op_aload 0 (op_aload 0 (op_gets 11 5 (10, 0, 0) (op_aload 0 (op_gets 11 182 (20, 201, 0) (op_iload 4 (op_ald 20 (op_aload 0 (op_gets 11 15 (7, 0, 0) (op_geti 7 5 (op_iload 4 (op_bin (fun (x y : Int32) => x + y) (op_aload 0 (op_gets 11 183 (20, 60, 0) (op_iload 4 (op_ald 20 (op_iload 2 (op_iload 3 (op_rcv 10 5 (op_calli O_X10_breach 6 (op_puti 11 13 (op_aload 0 (op_geti 11 13 (op_ifeq (B_X11_lawfulRounds_84 kc) (op_iload 4 op_iret))))))))))))))))))))))))) (B_X11_lawfulRounds_110 kc)))) (B_X11_lawfulRounds_110 kc))))
set_option maxRecDepth 20000 in
theorem s_X11_lawfulRounds_24 (G : en_G) (hst : G.2.2.2.2.2 = true) (kc : Nat → en_B) (hk : ∀ t, en_Snd G M_X11_lawfulRounds t (kc t)) : en_Snd G M_X11_lawfulRounds 24 (B_X11_lawfulRounds_24 kc) := (sn_iload (i := 4) (by decide +kernel) (sn_iload_n (i := 1) (n := 1) (by decide +kernel) rfl (sn_icge (off := 83) (tgt := 110) (by decide +kernel) rfl (s_X11_lawfulRounds_110 G hst kc hk) (sn_iload (i := 4) (by decide +kernel) (sn_bipush (n := 60) (v := 60) (by decide +kernel) rfl (sn_icge (off := 76) (tgt := 110) (by decide +kernel) rfl (s_X11_lawfulRounds_110 G hst kc hk) (sn_aload_n (i := 0) (n := 0) (by decide +kernel) rfl (sn_aload_n (i := 0) (n := 0) (by decide +kernel) rfl (sn_gets (ci := 11) (j := 2) (off := 5) hst en_c11 of_11_5 (Nat.le_of_ble_eq_true rfl) (by decide +kernel) wm_18 (Nat.le_of_ble_eq_true rfl) rfl (sn_aload_n (i := 0) (n := 0) (by decide +kernel) rfl (sn_gets (ci := 11) (j := 10) (off := 182) hst en_c11 of_11_182 (Nat.le_of_ble_eq_true rfl) (by decide +kernel) wm_50 (Nat.le_of_ble_eq_true rfl) rfl (sn_iload (i := 4) (by decide +kernel) (sn_iald (by decide +kernel) (sn_aload_n (i := 0) (n := 0) (by decide +kernel) rfl (sn_gets (ci := 11) (j := 3) (off := 15) hst en_c11 of_11_15 (Nat.le_of_ble_eq_true rfl) (by decide +kernel) wm_23 (Nat.le_of_ble_eq_true rfl) rfl (sn_geti (ci := 7) (j := 5) en_c7 (by decide +kernel) wm_123 (Nat.le_of_ble_eq_true rfl) rfl (sn_iload (i := 4) (by decide +kernel) (sn_iadd (by decide +kernel) (sn_aload_n (i := 0) (n := 0) (by decide +kernel) rfl (sn_gets (ci := 11) (j := 11) (off := 183) hst en_c11 of_11_183 (Nat.le_of_ble_eq_true rfl) (by decide +kernel) wm_51 (Nat.le_of_ble_eq_true rfl) rfl (sn_iload (i := 4) (by decide +kernel) (sn_iald (by decide +kernel) (sn_iload_n (i := 2) (n := 2) (by decide +kernel) rfl (sn_iload_n (i := 3) (n := 3) (by decide +kernel) rfl (sn_callVi (n := 5) (idx := 357) (ci := 10) (i_X10_breach G hst) (Nat.le_of_ble_eq_true rfl) cs_X10_breach ⟨wm_1125, wm_1126, wm_296⟩ ⟨⟨_, rfl, rfl⟩, (Nat.le_of_ble_eq_true rfl)⟩ (by decide +kernel) (sn_puti (ci := 11) (j := 13) en_c11 (by decide +kernel) wm_178 (Nat.le_of_ble_eq_true rfl) rfl rfl rfl (sn_aload_n (i := 0) (n := 0) (by decide +kernel) rfl (sn_geti (ci := 11) (j := 13) en_c11 (by decide +kernel) wm_178 (Nat.le_of_ble_eq_true rfl) rfl (sn_ifeq (off := 6) (tgt := 84) (by decide +kernel) rfl (s_X11_lawfulRounds_84 G hst kc hk) (sn_iload (i := 4) (by decide +kernel) (sn_iret (by decide +kernel) rfl)))))))))))))))))))))))))))))))
noncomputable def B_X11_lawfulRounds_0 (kc : Nat → en_B) : en_B := (op_aload 0 (op_gets 11 15 (7, 0, 0) (op_geti 7 7 (op_istore 2 (op_aload 0 (op_gets 11 15 (7, 0, 0) (op_geti 7 8 (op_istore 3 (op_aload 0 (op_const (0 : Int32) (op_puti 11 13 (op_const (0 : Int32) (op_istore 4 (kc 24))))))))))))))
set_option maxRecDepth 20000 in
theorem s_X11_lawfulRounds_0 (G : en_G) (hst : G.2.2.2.2.2 = true) (kc : Nat → en_B) (hk : ∀ t, en_Snd G M_X11_lawfulRounds t (kc t)) : en_Snd G M_X11_lawfulRounds 0 (B_X11_lawfulRounds_0 kc) := (sn_aload_n (i := 0) (n := 0) (by decide +kernel) rfl (sn_gets (ci := 11) (j := 3) (off := 15) hst en_c11 of_11_15 (Nat.le_of_ble_eq_true rfl) (by decide +kernel) wm_23 (Nat.le_of_ble_eq_true rfl) rfl (sn_geti (ci := 7) (j := 7) en_c7 (by decide +kernel) wm_91 (Nat.le_of_ble_eq_true rfl) rfl (sn_istore_n (i := 2) (n := 2) (by decide +kernel) rfl (Nat.le_of_ble_eq_true rfl) (sn_aload_n (i := 0) (n := 0) (by decide +kernel) rfl (sn_gets (ci := 11) (j := 3) (off := 15) hst en_c11 of_11_15 (Nat.le_of_ble_eq_true rfl) (by decide +kernel) wm_23 (Nat.le_of_ble_eq_true rfl) rfl (sn_geti (ci := 7) (j := 8) en_c7 (by decide +kernel) wm_116 (Nat.le_of_ble_eq_true rfl) rfl (sn_istore_n (i := 3) (n := 3) (by decide +kernel) rfl (Nat.le_of_ble_eq_true rfl) (sn_aload_n (i := 0) (n := 0) (by decide +kernel) rfl (sn_iconst (n := 0) (v := 0) (by decide +kernel) rfl (sn_puti (ci := 11) (j := 13) en_c11 (by decide +kernel) wm_178 (Nat.le_of_ble_eq_true rfl) rfl rfl rfl (sn_iconst (n := 0) (v := 0) (by decide +kernel) rfl (sn_istore (i := 4) (by decide +kernel) (Nat.le_of_ble_eq_true rfl) (hk 24))))))))))))))
noncomputable def LK_X11_lawfulRounds : Nat → Nat → en_B
  | 0, _ => en_no
  | n + 1, t => if t = 24 then B_X11_lawfulRounds_24 (LK_X11_lawfulRounds n) else en_no
theorem l_X11_lawfulRounds (G : en_G) (hst : G.2.2.2.2.2 = true) : ∀ n t, en_Snd G M_X11_lawfulRounds t (LK_X11_lawfulRounds n t)
  | 0, _ => sn_no
  | n + 1, t => by
    show en_Snd G M_X11_lawfulRounds t (if t = 24 then B_X11_lawfulRounds_24 (LK_X11_lawfulRounds n) else en_no)
    by_cases h_24 : t = 24
    · rw [if_pos h_24, h_24]; exact s_X11_lawfulRounds_24 G hst _ (l_X11_lawfulRounds G hst n)
    rw [if_neg h_24]
    exact sn_no
noncomputable def T_X11_lawfulRounds_0 (x1 : Int32) (σ : en_M) : en_R := B_X11_lawfulRounds_0 (LK_X11_lawfulRounds en_FU) [.inr (0, 11, 0, 0), .inl x1, en_un, en_un, en_un] [] en_zz σ
noncomputable def T_X11_lawfulRounds_24 (n : Nat) (x1 : Int32) (x2 : Int32) (x3 : Int32) (x4 : Int32) (σ : en_M) : en_R := LK_X11_lawfulRounds n 24 [.inr (0, 11, 0, 0), .inl x1, .inl x2, .inl x3, .inl x4] [] en_zz σ
set_option maxRecDepth 400000 in
set_option maxHeartbeats 4000000 in
theorem t_X11_lawfulRounds_0 (x1 : Int32) (σ : en_M) : T_X11_lawfulRounds_0 x1 σ = (T_X11_lawfulRounds_24 en_FU x1 (σ 15 7) (σ 15 8) (0 : Int32) (en_up σ 0 13 (0 : Int32))) := rfl
set_option maxRecDepth 400000 in
set_option maxHeartbeats 4000000 in
theorem t_X11_lawfulRounds_24 (n : Nat) (x1 : Int32) (x2 : Int32) (x3 : Int32) (x4 : Int32) (σ : en_M) : T_X11_lawfulRounds_24 (n + 1) x1 x2 x3 x4 σ = (if x4 < x1 then (if x4 < (60 : Int32) then ((en_ix x4 201).bind fun j1 => (en_ix x4 60).bind fun j2 => (O_X10_breach [.inr (5, 10, 0, 0), .inl (σ 182 j1), .inl ((σ 15 5) + x4), .inl (σ 183 j2), .inl x2, .inl x3] σ).bind fun r3 => if r3.1 = 0 then ((en_ix x4 60).bind fun j4 => (en_ix x4 201).bind fun j5 => (O_X11_placesOf [.inl (r3.2 182 j5), .inl (r3.2 183 j4)] (en_up r3.2 0 13 r3.1)).bind fun r6 => T_X11_lawfulRounds_24 n x1 (r3.2 183 j4) r6.1 (x4 + (1 : Int32)) r6.2) else (en_ri x4 (en_up r3.2 0 13 r3.1))) else (en_ri x1 σ)) else (en_ri x1 σ)) := rfl
noncomputable def P_X11_lawfulRounds : List en_V → en_M → Option (Int32 × en_M) := fun av σ => match av with
  | [.inr (0, 11, 0, 0), .inl x1] => en_oi (T_X11_lawfulRounds_0 x1 σ)
  | _ => none
theorem ox_X11_lawfulRounds : ∃ f, f = P_X11_lawfulRounds := ⟨_, rfl⟩
noncomputable def O_X11_lawfulRounds : List en_V → en_M → Option (Int32 × en_M) := Classical.choose ox_X11_lawfulRounds
theorem oe_X11_lawfulRounds : O_X11_lawfulRounds = P_X11_lawfulRounds := Classical.choose_spec ox_X11_lawfulRounds
theorem o_X11_lawfulRounds (x1 : Int32) (σ : en_M) : O_X11_lawfulRounds [.inr (0, 11, 0, 0), .inl x1] σ = en_oi (T_X11_lawfulRounds_0 x1 σ) := by rw [oe_X11_lawfulRounds]; rfl
theorem i_X11_lawfulRounds (G : en_G) (hst : G.2.2.2.2.2 = true) : en_I G 4 yX11_lawfulRounds cX11_lawfulRounds 5 (some .int) 0 0 (en_wi (O_X11_lawfulRounds)) := en_of_i (M := M_X11_lawfulRounds) hst (s_X11_lawfulRounds_0 G hst _ (l_X11_lawfulRounds G hst en_FU)) (plainFor_of_name (by decide +kernel)) rfl rfl rfl (Or.inl ⟨rfl, rfl⟩) (fun av σ x σ' h => by
  rw [oe_X11_lawfulRounds] at h; unfold P_X11_lawfulRounds at h
  split at h
  · exact ⟨(Nat.le_of_ble_eq_true rfl), en_oi_some h⟩
  · cases h)
-- EachMayMissOne.roundsInTurn(III)I
def M_X11_roundsInTurn : en_Me := (cX11_roundsInTurn, RX11, 5, false, 5, false)
theorem cs_X11_roundsInTurn : en_cs yX11_roundsInTurn cX11_roundsInTurn 5 (some .int) 3 := ⟨wm_301, wm_2, ⟨(by decide +kernel), (by decide +kernel), (by decide +kernel)⟩, (Nat.le_of_ble_eq_true rfl)⟩
noncomputable def B_X11_roundsInTurn_43 (kc : Nat → en_B) : en_B := (op_aload 0 (op_iload 3 (op_rcv 11 1 (op_calli O_X11_lawfulRounds 2 op_iret))))
set_option maxRecDepth 20000 in
theorem s_X11_roundsInTurn_43 (G : en_G) (hst : G.2.2.2.2.2 = true) (kc : Nat → en_B) (hk : ∀ t, en_Snd G M_X11_roundsInTurn t (kc t)) : en_Snd G M_X11_roundsInTurn 43 (B_X11_roundsInTurn_43 kc) := (sn_aload_n (i := 0) (n := 0) (by decide +kernel) rfl (sn_iload_n (i := 3) (n := 3) (by decide +kernel) rfl (sn_callVi (n := 1) (idx := 308) (ci := 11) (i_X11_lawfulRounds G hst) (Nat.le_of_ble_eq_true rfl) cs_X11_lawfulRounds ⟨wm_298, wm_299, wm_211⟩ ⟨⟨_, rfl, rfl⟩, (Nat.le_of_ble_eq_true rfl)⟩ (by decide +kernel) (sn_iret (by decide +kernel) rfl))))
noncomputable def B_X11_roundsInTurn_35 (kc : Nat → en_B) : en_B := (op_bin en_shl (op_ast 20 (fun (x : Int32) => x) (op_iinc 4 (1 : Int32) (kc 3))))
set_option maxRecDepth 20000 in
theorem s_X11_roundsInTurn_35 (G : en_G) (hst : G.2.2.2.2.2 = true) (kc : Nat → en_B) (hk : ∀ t, en_Snd G M_X11_roundsInTurn t (kc t)) : en_Snd G M_X11_roundsInTurn 35 (B_X11_roundsInTurn_35 kc) := (sn_ishl (by decide +kernel) (sn_iast (by decide +kernel) (sn_iinc (i := 4) (n := 1) (v := 1) (by decide +kernel) rfl (sn_goto (off := -37) (tgt := 3) (by decide +kernel) rfl (hk 3)))))
noncomputable def B_X11_roundsInTurn_34 (kc : Nat → en_B) : en_B := (op_iload 2 (B_X11_roundsInTurn_35 kc))
set_option maxRecDepth 20000 in
theorem s_X11_roundsInTurn_34 (G : en_G) (hst : G.2.2.2.2.2 = true) (kc : Nat → en_B) (hk : ∀ t, en_Snd G M_X11_roundsInTurn t (kc t)) : en_Snd G M_X11_roundsInTurn 34 (B_X11_roundsInTurn_34 kc) := (sn_iload_n (i := 2) (n := 2) (by decide +kernel) rfl (s_X11_roundsInTurn_35 G hst kc hk))
noncomputable def B_X11_roundsInTurn_3 (kc : Nat → en_B) : en_B := (op_iload 4 (op_iload 3 (op_iclt (op_iload 4 (op_const (60 : Int32) (op_iclt (op_aload 0 (op_gets 11 183 (20, 60, 0) (op_iload 4 (op_const (1 : Int32) (op_iload 4 (op_const (2 : Int32) (op_div (fun (x y : Int32) => x - x / y * y) (op_ifeq (op_iload 1 (B_X11_roundsInTurn_35 kc)) (B_X11_roundsInTurn_34 kc))))))))) (B_X11_roundsInTurn_43 kc)))) (B_X11_roundsInTurn_43 kc))))
set_option maxRecDepth 20000 in
theorem s_X11_roundsInTurn_3 (G : en_G) (hst : G.2.2.2.2.2 = true) (kc : Nat → en_B) (hk : ∀ t, en_Snd G M_X11_roundsInTurn t (kc t)) : en_Snd G M_X11_roundsInTurn 3 (B_X11_roundsInTurn_3 kc) := (sn_iload (i := 4) (by decide +kernel) (sn_iload_n (i := 3) (n := 3) (by decide +kernel) rfl (sn_icge (off := 37) (tgt := 43) (by decide +kernel) rfl (s_X11_roundsInTurn_43 G hst kc hk) (sn_iload (i := 4) (by decide +kernel) (sn_bipush (n := 60) (v := 60) (by decide +kernel) rfl (sn_icge (off := 30) (tgt := 43) (by decide +kernel) rfl (s_X11_roundsInTurn_43 G hst kc hk) (sn_aload_n (i := 0) (n := 0) (by decide +kernel) rfl (sn_gets (ci := 11) (j := 11) (off := 183) hst en_c11 of_11_183 (Nat.le_of_ble_eq_true rfl) (by decide +kernel) wm_51 (Nat.le_of_ble_eq_true rfl) rfl (sn_iload (i := 4) (by decide +kernel) (sn_iconst (n := 1) (v := 1) (by decide +kernel) rfl (sn_iload (i := 4) (by decide +kernel) (sn_iconst (n := 2) (v := 2) (by decide +kernel) rfl (sn_irem (by decide +kernel) (sn_ifne (off := 7) (tgt := 34) (by decide +kernel) rfl (s_X11_roundsInTurn_34 G hst kc hk) (sn_iload_n (i := 1) (n := 1) (by decide +kernel) rfl (sn_goto (off := 4) (tgt := 35) (by decide +kernel) rfl (s_X11_roundsInTurn_35 G hst kc hk)))))))))))))))))
noncomputable def B_X11_roundsInTurn_0 (kc : Nat → en_B) : en_B := (op_const (0 : Int32) (op_istore 4 (kc 3)))
set_option maxRecDepth 20000 in
theorem s_X11_roundsInTurn_0 (G : en_G) (hst : G.2.2.2.2.2 = true) (kc : Nat → en_B) (hk : ∀ t, en_Snd G M_X11_roundsInTurn t (kc t)) : en_Snd G M_X11_roundsInTurn 0 (B_X11_roundsInTurn_0 kc) := (sn_iconst (n := 0) (v := 0) (by decide +kernel) rfl (sn_istore (i := 4) (by decide +kernel) (Nat.le_of_ble_eq_true rfl) (hk 3)))
noncomputable def LK_X11_roundsInTurn : Nat → Nat → en_B
  | 0, _ => en_no
  | n + 1, t => if t = 3 then B_X11_roundsInTurn_3 (LK_X11_roundsInTurn n) else en_no
theorem l_X11_roundsInTurn (G : en_G) (hst : G.2.2.2.2.2 = true) : ∀ n t, en_Snd G M_X11_roundsInTurn t (LK_X11_roundsInTurn n t)
  | 0, _ => sn_no
  | n + 1, t => by
    show en_Snd G M_X11_roundsInTurn t (if t = 3 then B_X11_roundsInTurn_3 (LK_X11_roundsInTurn n) else en_no)
    by_cases h_3 : t = 3
    · rw [if_pos h_3, h_3]; exact s_X11_roundsInTurn_3 G hst _ (l_X11_roundsInTurn G hst n)
    rw [if_neg h_3]
    exact sn_no
noncomputable def T_X11_roundsInTurn_0 (x1 : Int32) (x2 : Int32) (x3 : Int32) (σ : en_M) : en_R := B_X11_roundsInTurn_0 (LK_X11_roundsInTurn en_FU) [.inr (0, 11, 0, 0), .inl x1, .inl x2, .inl x3, en_un] [] en_zz σ
noncomputable def T_X11_roundsInTurn_3 (n : Nat) (x1 : Int32) (x2 : Int32) (x3 : Int32) (x4 : Int32) (σ : en_M) : en_R := LK_X11_roundsInTurn n 3 [.inr (0, 11, 0, 0), .inl x1, .inl x2, .inl x3, .inl x4] [] en_zz σ
set_option maxRecDepth 400000 in
set_option maxHeartbeats 4000000 in
theorem t_X11_roundsInTurn_0 (x1 : Int32) (x2 : Int32) (x3 : Int32) (σ : en_M) : T_X11_roundsInTurn_0 x1 x2 x3 σ = (T_X11_roundsInTurn_3 en_FU x1 x2 x3 (0 : Int32) σ) := rfl
set_option maxRecDepth 400000 in
set_option maxHeartbeats 4000000 in
theorem t_X11_roundsInTurn_3 (n : Nat) (x1 : Int32) (x2 : Int32) (x3 : Int32) (x4 : Int32) (σ : en_M) : T_X11_roundsInTurn_3 (n + 1) x1 x2 x3 x4 σ = (if x4 < x3 then (if x4 < (60 : Int32) then (if (2 : Int32) = 0 then none else (if (x4 - x4 / (2 : Int32) * (2 : Int32)) = 0 then ((en_ix x4 60).bind fun j4 => T_X11_roundsInTurn_3 n x1 x2 x3 (x4 + (1 : Int32)) (en_up σ 183 j4 (en_shl (1 : Int32) x1))) else ((en_ix x4 60).bind fun j3 => T_X11_roundsInTurn_3 n x1 x2 x3 (x4 + (1 : Int32)) (en_up σ 183 j3 (en_shl (1 : Int32) x2))))) else ((O_X11_lawfulRounds [.inr (0, 11, 0, 0), .inl x3] σ).bind fun r2 => en_ri r2.1 r2.2)) else ((O_X11_lawfulRounds [.inr (0, 11, 0, 0), .inl x3] σ).bind fun r1 => en_ri r1.1 r1.2)) := rfl
noncomputable def P_X11_roundsInTurn : List en_V → en_M → Option (Int32 × en_M) := fun av σ => match av with
  | [.inr (0, 11, 0, 0), .inl x1, .inl x2, .inl x3] => en_oi (T_X11_roundsInTurn_0 x1 x2 x3 σ)
  | _ => none
theorem ox_X11_roundsInTurn : ∃ f, f = P_X11_roundsInTurn := ⟨_, rfl⟩
noncomputable def O_X11_roundsInTurn : List en_V → en_M → Option (Int32 × en_M) := Classical.choose ox_X11_roundsInTurn
theorem oe_X11_roundsInTurn : O_X11_roundsInTurn = P_X11_roundsInTurn := Classical.choose_spec ox_X11_roundsInTurn
theorem o_X11_roundsInTurn (x1 : Int32) (x2 : Int32) (x3 : Int32) (σ : en_M) : O_X11_roundsInTurn [.inr (0, 11, 0, 0), .inl x1, .inl x2, .inl x3] σ = en_oi (T_X11_roundsInTurn_0 x1 x2 x3 σ) := by rw [oe_X11_roundsInTurn]; rfl
theorem i_X11_roundsInTurn (G : en_G) (hst : G.2.2.2.2.2 = true) : en_I G 5 yX11_roundsInTurn cX11_roundsInTurn 5 (some .int) 0 0 (en_wi (O_X11_roundsInTurn)) := en_of_i (M := M_X11_roundsInTurn) hst (s_X11_roundsInTurn_0 G hst _ (l_X11_roundsInTurn G hst en_FU)) (plainFor_of_name (by decide +kernel)) rfl rfl rfl (Or.inl ⟨rfl, rfl⟩) (fun av σ x σ' h => by
  rw [oe_X11_roundsInTurn] at h; unfold P_X11_roundsInTurn at h
  split at h
  · exact ⟨(Nat.le_of_ble_eq_true rfl), en_oi_some h⟩
  · cases h)
