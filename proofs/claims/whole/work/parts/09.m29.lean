-- EachMayMissOneModel.says(II)I
def M_X12_says : en_Me := (cX12_says, RX12, 6, false, 257, false)
theorem cs_X12_says : en_cs yX12_says cX12_says 6 (some .int) 2 := ⟨wm_670, wm_337, ⟨(by decide +kernel), (by decide +kernel), (by decide +kernel)⟩, (Nat.le_of_ble_eq_true rfl)⟩
noncomputable def B_X12_says_176 (kc : Nat → en_B) : en_B := (op_const (1 : Int32) op_iret)
set_option maxRecDepth 20000 in
theorem s_X12_says_176 (G : en_G) (hst : G.2.2.2.2.2 = true) (kc : Nat → en_B) (hk : ∀ t, en_Snd G M_X12_says t (kc t)) : en_Snd G M_X12_says 176 (B_X12_says_176 kc) := (sn_iconst (n := 1) (v := 1) (by decide +kernel) rfl (sn_iret (by decide +kernel) rfl))
noncomputable def B_X12_says_153 (kc : Nat → en_B) : en_B := (op_iload 4 (op_iload 2 (op_iclt (op_aload 0 (op_aload 0 (op_gets 12 20 (20, 9, 0) (op_iload 4 (op_ald 20 (op_rcv 12 1 (op_callv O_X12_tell 2 (op_iinc 4 (1 : Int32) (kc 153))))))))) (B_X12_says_176 kc))))
set_option maxRecDepth 20000 in
theorem s_X12_says_153 (G : en_G) (hst : G.2.2.2.2.2 = true) (kc : Nat → en_B) (hk : ∀ t, en_Snd G M_X12_says t (kc t)) : en_Snd G M_X12_says 153 (B_X12_says_153 kc) := (sn_iload (i := 4) (by decide +kernel) (sn_iload_n (i := 2) (n := 2) (by decide +kernel) rfl (sn_icge (off := 20) (tgt := 176) (by decide +kernel) rfl (s_X12_says_176 G hst kc hk) (sn_aload_n (i := 0) (n := 0) (by decide +kernel) rfl (sn_aload_n (i := 0) (n := 0) (by decide +kernel) rfl (sn_gets (ci := 12) (j := 40) (off := 20) hst en_c12 of_12_20 (Nat.le_of_ble_eq_true rfl) (by decide +kernel) wm_361 (Nat.le_of_ble_eq_true rfl) rfl (sn_iload (i := 4) (by decide +kernel) (sn_iald (by decide +kernel) (sn_callVv (n := 1) (idx := 251) (ci := 12) (i_X12_tell G hst) (Nat.le_of_ble_eq_true rfl) cs_X12_tell ⟨wm_377, wm_378, wm_536⟩ ⟨⟨_, rfl, rfl⟩, (Nat.le_of_ble_eq_true rfl)⟩ (by decide +kernel) (sn_iinc (i := 4) (n := 1) (v := 1) (by decide +kernel) rfl (sn_goto (off := -20) (tgt := 153) (by decide +kernel) rfl (hk 153))))))))))))
noncomputable def B_X12_says_145 (kc : Nat → en_B) : en_B := (op_aload 0 (op_const (0 : Int32) (op_puti 12 10 (op_const (0 : Int32) (op_istore 4 (kc 153))))))
set_option maxRecDepth 20000 in
theorem s_X12_says_145 (G : en_G) (hst : G.2.2.2.2.2 = true) (kc : Nat → en_B) (hk : ∀ t, en_Snd G M_X12_says t (kc t)) : en_Snd G M_X12_says 145 (B_X12_says_145 kc) := (sn_aload_n (i := 0) (n := 0) (by decide +kernel) rfl (sn_iconst (n := 0) (v := 0) (by decide +kernel) rfl (sn_puti (ci := 12) (j := 10) en_c12 (by decide +kernel) wm_379 (Nat.le_of_ble_eq_true rfl) rfl rfl rfl (sn_iconst (n := 0) (v := 0) (by decide +kernel) rfl (sn_istore (i := 4) (by decide +kernel) (Nat.le_of_ble_eq_true rfl) (hk 153))))))
noncomputable def B_X12_says_139 (kc : Nat → en_B) : en_B := (op_iinc 4 (1 : Int32) (kc 109))
set_option maxRecDepth 20000 in
theorem s_X12_says_139 (G : en_G) (hst : G.2.2.2.2.2 = true) (kc : Nat → en_B) (hk : ∀ t, en_Snd G M_X12_says t (kc t)) : en_Snd G M_X12_says 139 (B_X12_says_139 kc) := (sn_iinc (i := 4) (n := 1) (v := 1) (by decide +kernel) rfl (sn_goto (off := -33) (tgt := 109) (by decide +kernel) rfl (hk 109)))
noncomputable def B_X12_says_109 (kc : Nat → en_B) : en_B := (op_iload 4 (op_iload 2 (op_iclt (op_aload 0 (op_aload 0 (op_gets 12 13 (20, 53, 0) (op_aload 0 (op_gets 12 20 (20, 9, 0) (op_iload 4 (op_ald 20 (op_rcv 12 2 (op_callv O_X12_goRound 3 (op_aload 0 (op_geti 12 25 (op_ifeq (B_X12_says_139 kc) (op_const (0 : Int32) op_iret))))))))))))) (B_X12_says_145 kc))))
set_option maxRecDepth 20000 in
theorem s_X12_says_109 (G : en_G) (hst : G.2.2.2.2.2 = true) (kc : Nat → en_B) (hk : ∀ t, en_Snd G M_X12_says t (kc t)) : en_Snd G M_X12_says 109 (B_X12_says_109 kc) := (sn_iload (i := 4) (by decide +kernel) (sn_iload_n (i := 2) (n := 2) (by decide +kernel) rfl (sn_icge (off := 33) (tgt := 145) (by decide +kernel) rfl (s_X12_says_145 G hst kc hk) (sn_aload_n (i := 0) (n := 0) (by decide +kernel) rfl (sn_aload_n (i := 0) (n := 0) (by decide +kernel) rfl (sn_gets (ci := 12) (j := 31) (off := 13) hst en_c12 of_12_13 (Nat.le_of_ble_eq_true rfl) (by decide +kernel) wm_354 (Nat.le_of_ble_eq_true rfl) rfl (sn_aload_n (i := 0) (n := 0) (by decide +kernel) rfl (sn_gets (ci := 12) (j := 40) (off := 20) hst en_c12 of_12_20 (Nat.le_of_ble_eq_true rfl) (by decide +kernel) wm_361 (Nat.le_of_ble_eq_true rfl) rfl (sn_iload (i := 4) (by decide +kernel) (sn_iald (by decide +kernel) (sn_callVv (n := 2) (idx := 247) (ci := 12) (i_X12_goRound G hst) (Nat.le_of_ble_eq_true rfl) cs_X12_goRound ⟨wm_524, wm_525, wm_535⟩ ⟨⟨_, rfl, rfl⟩, (Nat.le_of_ble_eq_true rfl)⟩ (by decide +kernel) (sn_aload_n (i := 0) (n := 0) (by decide +kernel) rfl (sn_geti (ci := 12) (j := 25) en_c12 (by decide +kernel) wm_527 (Nat.le_of_ble_eq_true rfl) rfl (sn_ifeq (off := 5) (tgt := 139) (by decide +kernel) rfl (s_X12_says_139 G hst kc hk) (sn_iconst (n := 0) (v := 0) (by decide +kernel) rfl (sn_iret (by decide +kernel) rfl))))))))))))))))
noncomputable def B_X12_says_94 (kc : Nat → en_B) : en_B := (op_aload 0 (op_gets 12 1 (20, 53, 0) (op_aload 0 (op_gets 12 13 (20, 53, 0) (op_const (0 : Int32) (op_callv O_X12_lay 3 (op_const (0 : Int32) (op_istore 4 (kc 109)))))))))
set_option maxRecDepth 20000 in
theorem s_X12_says_94 (G : en_G) (hst : G.2.2.2.2.2 = true) (kc : Nat → en_B) (hk : ∀ t, en_Snd G M_X12_says t (kc t)) : en_Snd G M_X12_says 94 (B_X12_says_94 kc) := (sn_aload_n (i := 0) (n := 0) (by decide +kernel) rfl (sn_gets (ci := 12) (j := 0) (off := 1) hst en_c12 of_12_1 (Nat.le_of_ble_eq_true rfl) (by decide +kernel) wm_339 (Nat.le_of_ble_eq_true rfl) rfl (sn_aload_n (i := 0) (n := 0) (by decide +kernel) rfl (sn_gets (ci := 12) (j := 31) (off := 13) hst en_c12 of_12_13 (Nat.le_of_ble_eq_true rfl) (by decide +kernel) wm_354 (Nat.le_of_ble_eq_true rfl) rfl (sn_iconst (n := 0) (v := 0) (by decide +kernel) rfl (sn_callSv (n := 3) (idx := 209) (i_X12_lay G hst) (Nat.le_of_ble_eq_true rfl) cs_X12_lay ⟨wm_502, Or.inl wm_506⟩ (by decide +kernel) (sn_iconst (n := 0) (v := 0) (by decide +kernel) rfl (sn_istore (i := 4) (by decide +kernel) (Nat.le_of_ble_eq_true rfl) (hk 109)))))))))
noncomputable def B_X12_says_87 (kc : Nat → en_B) : en_B := (op_iload 3 (op_ifgt (op_const (-2 : Int32) op_iret) (B_X12_says_94 kc)))
set_option maxRecDepth 20000 in
theorem s_X12_says_87 (G : en_G) (hst : G.2.2.2.2.2 = true) (kc : Nat → en_B) (hk : ∀ t, en_Snd G M_X12_says t (kc t)) : en_Snd G M_X12_says 87 (B_X12_says_87 kc) := (sn_iload_n (i := 3) (n := 3) (by decide +kernel) rfl (sn_ifle (off := 6) (tgt := 94) (by decide +kernel) rfl (s_X12_says_94 G hst kc hk) (sn_bipush (n := -2) (v := -2) (by decide +kernel) rfl (sn_iret (by decide +kernel) rfl))))
noncomputable def B_X12_says_71 (kc : Nat → en_B) : en_B := (op_ast 20 (fun (x : Int32) => x) (op_iload 3 (op_aload 0 (op_geti 12 1 (op_const (1 : Int32) (op_bin (fun (x y : Int32) => x + y) (op_div (fun (x y : Int32) => x / y) (op_istore 3 (op_iinc 4 (-1 : Int32) (kc 35))))))))))
set_option maxRecDepth 20000 in
theorem s_X12_says_71 (G : en_G) (hst : G.2.2.2.2.2 = true) (kc : Nat → en_B) (hk : ∀ t, en_Snd G M_X12_says t (kc t)) : en_Snd G M_X12_says 71 (B_X12_says_71 kc) := (sn_iast (by decide +kernel) (sn_iload_n (i := 3) (n := 3) (by decide +kernel) rfl (sn_aload_n (i := 0) (n := 0) (by decide +kernel) rfl (sn_geti (ci := 12) (j := 1) en_c12 (by decide +kernel) wm_383 (Nat.le_of_ble_eq_true rfl) rfl (sn_iconst (n := 1) (v := 1) (by decide +kernel) rfl (sn_iadd (by decide +kernel) (sn_idiv (by decide +kernel) (sn_istore_n (i := 3) (n := 3) (by decide +kernel) rfl (Nat.le_of_ble_eq_true rfl) (sn_iinc (i := 4) (n := -1) (v := -1) (by decide +kernel) rfl (sn_goto (off := -49) (tgt := 35) (by decide +kernel) rfl (hk 35)))))))))))
noncomputable def B_X12_says_65 (kc : Nat → en_B) : en_B := (op_const (1 : Int32) (op_iload 5 (op_const (1 : Int32) (op_bin (fun (x y : Int32) => x - y) (op_bin en_shl (B_X12_says_71 kc))))))
set_option maxRecDepth 20000 in
theorem s_X12_says_65 (G : en_G) (hst : G.2.2.2.2.2 = true) (kc : Nat → en_B) (hk : ∀ t, en_Snd G M_X12_says t (kc t)) : en_Snd G M_X12_says 65 (B_X12_says_65 kc) := (sn_iconst (n := 1) (v := 1) (by decide +kernel) rfl (sn_iload (i := 5) (by decide +kernel) (sn_iconst (n := 1) (v := 1) (by decide +kernel) rfl (sn_isub (by decide +kernel) (sn_ishl (by decide +kernel) (s_X12_says_71 G hst kc hk))))))
noncomputable def B_X12_says_35 (kc : Nat → en_B) : en_B := (op_iload 4 (op_iflt (B_X12_says_87 kc) (op_iload 3 (op_aload 0 (op_geti 12 1 (op_const (1 : Int32) (op_bin (fun (x y : Int32) => x + y) (op_div (fun (x y : Int32) => x - x / y * y) (op_istore 5 (op_aload 0 (op_gets 12 20 (20, 9, 0) (op_iload 4 (op_iload 5 (op_ifeq (op_const (0 : Int32) (B_X12_says_71 kc)) (B_X12_says_65 kc)))))))))))))))
set_option maxRecDepth 20000 in
theorem s_X12_says_35 (G : en_G) (hst : G.2.2.2.2.2 = true) (kc : Nat → en_B) (hk : ∀ t, en_Snd G M_X12_says t (kc t)) : en_Snd G M_X12_says 35 (B_X12_says_35 kc) := (sn_iload (i := 4) (by decide +kernel) (sn_iflt (off := 50) (tgt := 87) (by decide +kernel) rfl (s_X12_says_87 G hst kc hk) (sn_iload_n (i := 3) (n := 3) (by decide +kernel) rfl (sn_aload_n (i := 0) (n := 0) (by decide +kernel) rfl (sn_geti (ci := 12) (j := 1) en_c12 (by decide +kernel) wm_383 (Nat.le_of_ble_eq_true rfl) rfl (sn_iconst (n := 1) (v := 1) (by decide +kernel) rfl (sn_iadd (by decide +kernel) (sn_irem (by decide +kernel) (sn_istore (i := 5) (by decide +kernel) (Nat.le_of_ble_eq_true rfl) (sn_aload_n (i := 0) (n := 0) (by decide +kernel) rfl (sn_gets (ci := 12) (j := 40) (off := 20) hst en_c12 of_12_20 (Nat.le_of_ble_eq_true rfl) (by decide +kernel) wm_361 (Nat.le_of_ble_eq_true rfl) rfl (sn_iload (i := 4) (by decide +kernel) (sn_iload (i := 5) (by decide +kernel) (sn_ifne (off := 7) (tgt := 65) (by decide +kernel) rfl (s_X12_says_65 G hst kc hk) (sn_iconst (n := 0) (v := 0) (by decide +kernel) rfl (sn_goto (off := 9) (tgt := 71) (by decide +kernel) rfl (s_X12_says_71 G hst kc hk)))))))))))))))))
noncomputable def B_X12_says_28 (kc : Nat → en_B) : en_B := (op_iload 1 (op_istore 3 (op_iload 2 (op_const (1 : Int32) (op_bin (fun (x y : Int32) => x - y) (op_istore 4 (kc 35)))))))
set_option maxRecDepth 20000 in
theorem s_X12_says_28 (G : en_G) (hst : G.2.2.2.2.2 = true) (kc : Nat → en_B) (hk : ∀ t, en_Snd G M_X12_says t (kc t)) : en_Snd G M_X12_says 28 (B_X12_says_28 kc) := (sn_iload_n (i := 1) (n := 1) (by decide +kernel) rfl (sn_istore_n (i := 3) (n := 3) (by decide +kernel) rfl (Nat.le_of_ble_eq_true rfl) (sn_iload_n (i := 2) (n := 2) (by decide +kernel) rfl (sn_iconst (n := 1) (v := 1) (by decide +kernel) rfl (sn_isub (by decide +kernel) (sn_istore (i := 4) (by decide +kernel) (Nat.le_of_ble_eq_true rfl) (hk 35)))))))
noncomputable def B_X12_says_26 (kc : Nat → en_B) : en_B := (op_const (-1 : Int32) op_iret)
set_option maxRecDepth 20000 in
theorem s_X12_says_26 (G : en_G) (hst : G.2.2.2.2.2 = true) (kc : Nat → en_B) (hk : ∀ t, en_Snd G M_X12_says t (kc t)) : en_Snd G M_X12_says 26 (B_X12_says_26 kc) := (sn_iconst (n := -1) (v := -1) (by decide +kernel) rfl (sn_iret (by decide +kernel) rfl))
noncomputable def B_X12_says_0 (kc : Nat → en_B) : en_B := (op_aload 0 (op_const (0 : Int32) (op_puti 12 11 (op_iload 2 (op_const (1 : Int32) (op_const (9 : Int32) (op_calli O_X12_in 3 (op_ifeq (B_X12_says_26 kc) (op_iload 1 (op_iflt (B_X12_says_26 kc) (op_aload 0 (op_geti 12 1 (op_ifeq (B_X12_says_26 kc) (B_X12_says_28 kc))))))))))))))
set_option maxRecDepth 20000 in
theorem s_X12_says_0 (G : en_G) (hst : G.2.2.2.2.2 = true) (kc : Nat → en_B) (hk : ∀ t, en_Snd G M_X12_says t (kc t)) : en_Snd G M_X12_says 0 (B_X12_says_0 kc) := (sn_aload_n (i := 0) (n := 0) (by decide +kernel) rfl (sn_iconst (n := 0) (v := 0) (by decide +kernel) rfl (sn_puti (ci := 12) (j := 11) en_c12 (by decide +kernel) wm_368 (Nat.le_of_ble_eq_true rfl) rfl rfl rfl (sn_iload_n (i := 2) (n := 2) (by decide +kernel) rfl (sn_iconst (n := 1) (v := 1) (by decide +kernel) rfl (sn_bipush (n := 9) (v := 9) (by decide +kernel) rfl (sn_callSi (n := 3) (idx := 100) (i_X12_in G hst) (Nat.le_of_ble_eq_true rfl) cs_X12_in ⟨wm_370, Or.inl wm_384⟩ (by decide +kernel) (sn_ifeq (off := 14) (tgt := 26) (by decide +kernel) rfl (s_X12_says_26 G hst kc hk) (sn_iload_n (i := 1) (n := 1) (by decide +kernel) rfl (sn_iflt (off := 10) (tgt := 26) (by decide +kernel) rfl (s_X12_says_26 G hst kc hk) (sn_aload_n (i := 0) (n := 0) (by decide +kernel) rfl (sn_geti (ci := 12) (j := 1) en_c12 (by decide +kernel) wm_383 (Nat.le_of_ble_eq_true rfl) rfl (sn_ifne (off := 5) (tgt := 28) (by decide +kernel) rfl (s_X12_says_28 G hst kc hk) (s_X12_says_26 G hst kc hk))))))))))))))
noncomputable def LK_X12_says : Nat → Nat → en_B
  | 0, _ => en_no
  | n + 1, t => if t = 35 then B_X12_says_35 (LK_X12_says n) else if t = 109 then B_X12_says_109 (LK_X12_says n) else if t = 153 then B_X12_says_153 (LK_X12_says n) else en_no
theorem l_X12_says (G : en_G) (hst : G.2.2.2.2.2 = true) : ∀ n t, en_Snd G M_X12_says t (LK_X12_says n t)
  | 0, _ => sn_no
  | n + 1, t => by
    show en_Snd G M_X12_says t (if t = 35 then B_X12_says_35 (LK_X12_says n) else if t = 109 then B_X12_says_109 (LK_X12_says n) else if t = 153 then B_X12_says_153 (LK_X12_says n) else en_no)
    by_cases h_35 : t = 35
    · rw [if_pos h_35, h_35]; exact s_X12_says_35 G hst _ (l_X12_says G hst n)
    rw [if_neg h_35]
    by_cases h_109 : t = 109
    · rw [if_pos h_109, h_109]; exact s_X12_says_109 G hst _ (l_X12_says G hst n)
    rw [if_neg h_109]
    by_cases h_153 : t = 153
    · rw [if_pos h_153, h_153]; exact s_X12_says_153 G hst _ (l_X12_says G hst n)
    rw [if_neg h_153]
    exact sn_no
noncomputable def T_X12_says_0 (x1 : Int32) (x2 : Int32) (σ : en_M) : en_R := B_X12_says_0 (LK_X12_says en_FU) [.inr (185, 12, 0, 0), .inl x1, .inl x2, en_un, en_un, en_un] [] en_zz σ
noncomputable def T_X12_says_35 (n : Nat) (x1 : Int32) (x2 : Int32) (x3 : Int32) (x4 : Int32) (u5 : en_V) (σ : en_M) : en_R := LK_X12_says n 35 [.inr (185, 12, 0, 0), .inl x1, .inl x2, .inl x3, .inl x4, u5] [] en_zz σ
noncomputable def T_X12_says_109 (n : Nat) (x1 : Int32) (x2 : Int32) (x3 : Int32) (x4 : Int32) (u5 : en_V) (σ : en_M) : en_R := LK_X12_says n 109 [.inr (185, 12, 0, 0), .inl x1, .inl x2, .inl x3, .inl x4, u5] [] en_zz σ
noncomputable def T_X12_says_153 (n : Nat) (x1 : Int32) (x2 : Int32) (x3 : Int32) (x4 : Int32) (u5 : en_V) (σ : en_M) : en_R := LK_X12_says n 153 [.inr (185, 12, 0, 0), .inl x1, .inl x2, .inl x3, .inl x4, u5] [] en_zz σ
set_option maxRecDepth 400000 in
set_option maxHeartbeats 4000000 in
theorem t_X12_says_0 (x1 : Int32) (x2 : Int32) (σ : en_M) : T_X12_says_0 x1 x2 σ = ((O_X12_in [.inl x2, .inl (1 : Int32), .inl (9 : Int32)] (en_up σ 185 11 (0 : Int32))).bind fun r1 => if r1.1 = 0 then (en_ri (-1 : Int32) r1.2) else (if x1 < 0 then (en_ri (-1 : Int32) r1.2) else (if (r1.2 185 1) = 0 then (en_ri (-1 : Int32) r1.2) else (T_X12_says_35 en_FU x1 x2 x1 (x2 - (1 : Int32)) (en_un) r1.2)))) := rfl
set_option maxRecDepth 400000 in
set_option maxHeartbeats 4000000 in
theorem t_X12_says_35 (n : Nat) (x1 : Int32) (x2 : Int32) (x3 : Int32) (x4 : Int32) (u5 : en_V) (σ : en_M) : T_X12_says_35 (n + 1) x1 x2 x3 x4 u5 σ = (if x4 < 0 then (if 0 < x3 then (en_ri (-2 : Int32) σ) else ((O_X12_lay [.inr (186, 20, 53, 0), .inr (198, 20, 53, 0), .inl (0 : Int32)] σ).bind fun r2 => T_X12_says_109 n x1 x2 x3 (0 : Int32) (u5) r2)) else (if ((σ 185 1) + (1 : Int32)) = 0 then none else (if (x3 - x3 / ((σ 185 1) + (1 : Int32)) * ((σ 185 1) + (1 : Int32))) = 0 then ((en_ix x4 9).bind fun j4 => if ((σ 185 1) + (1 : Int32)) = 0 then none else (T_X12_says_35 n x1 x2 (x3 / ((σ 185 1) + (1 : Int32))) (x4 + (-1 : Int32)) (.inl (x3 - x3 / ((σ 185 1) + (1 : Int32)) * ((σ 185 1) + (1 : Int32)))) (en_up σ 205 j4 (0 : Int32)))) else ((en_ix x4 9).bind fun j3 => if ((σ 185 1) + (1 : Int32)) = 0 then none else (T_X12_says_35 n x1 x2 (x3 / ((σ 185 1) + (1 : Int32))) (x4 + (-1 : Int32)) (.inl (x3 - x3 / ((σ 185 1) + (1 : Int32)) * ((σ 185 1) + (1 : Int32)))) (en_up σ 205 j3 (en_shl (1 : Int32) ((x3 - x3 / ((σ 185 1) + (1 : Int32)) * ((σ 185 1) + (1 : Int32))) - (1 : Int32))))))))) := rfl
set_option maxRecDepth 400000 in
set_option maxHeartbeats 4000000 in
theorem t_X12_says_109 (n : Nat) (x1 : Int32) (x2 : Int32) (x3 : Int32) (x4 : Int32) (u5 : en_V) (σ : en_M) : T_X12_says_109 (n + 1) x1 x2 x3 x4 u5 σ = (if x4 < x2 then ((en_ix x4 9).bind fun j5 => (O_X12_goRound [.inr (185, 12, 0, 0), .inr (198, 20, 53, 0), .inl (σ 205 j5)] σ).bind fun r6 => if (r6 185 25) = 0 then (T_X12_says_109 n x1 x2 x3 (x4 + (1 : Int32)) (u5) r6) else (en_ri (0 : Int32) r6)) else (T_X12_says_153 n x1 x2 x3 (0 : Int32) (u5) (en_up σ 185 10 (0 : Int32)))) := rfl
set_option maxRecDepth 400000 in
set_option maxHeartbeats 4000000 in
theorem t_X12_says_153 (n : Nat) (x1 : Int32) (x2 : Int32) (x3 : Int32) (x4 : Int32) (u5 : en_V) (σ : en_M) : T_X12_says_153 (n + 1) x1 x2 x3 x4 u5 σ = (if x4 < x2 then ((en_ix x4 9).bind fun j7 => (O_X12_tell [.inr (185, 12, 0, 0), .inl (σ 205 j7)] σ).bind fun r8 => T_X12_says_153 n x1 x2 x3 (x4 + (1 : Int32)) (u5) r8) else (en_ri (1 : Int32) σ)) := rfl
noncomputable def P_X12_says : List en_V → en_M → Option (Int32 × en_M) := fun av σ => match av with
  | [.inr (185, 12, 0, 0), .inl x1, .inl x2] => en_oi (T_X12_says_0 x1 x2 σ)
  | _ => none
theorem ox_X12_says : ∃ f, f = P_X12_says := ⟨_, rfl⟩
noncomputable def O_X12_says : List en_V → en_M → Option (Int32 × en_M) := Classical.choose ox_X12_says
theorem oe_X12_says : O_X12_says = P_X12_says := Classical.choose_spec ox_X12_says
theorem o_X12_says (x1 : Int32) (x2 : Int32) (σ : en_M) : O_X12_says [.inr (185, 12, 0, 0), .inl x1, .inl x2] σ = en_oi (T_X12_says_0 x1 x2 σ) := by rw [oe_X12_says]; rfl
theorem i_X12_says (G : en_G) (hst : G.2.2.2.2.2 = true) : en_I G 257 yX12_says cX12_says 6 (some .int) 0 0 (en_wi (O_X12_says)) := en_of_i (M := M_X12_says) hst (s_X12_says_0 G hst _ (l_X12_says G hst en_FU)) (plainFor_of_name (by decide +kernel)) rfl rfl rfl (Or.inl ⟨rfl, rfl⟩) (fun av σ x σ' h => by
  rw [oe_X12_says] at h; unfold P_X12_says at h
  split at h
  · exact ⟨(Nat.le_of_ble_eq_true rfl), en_oi_some h⟩
  · cases h)
-- EachMayMissOneModel.mostTired([I)I
def M_X12_mostTired : en_Me := (cX12_mostTired, RX12, 4, false, 4, false)
theorem cs_X12_mostTired : en_cs yX12_mostTired cX12_mostTired 4 (some .int) 1 := ⟨wm_673, wm_337, ⟨(by decide +kernel), (by decide +kernel), (by decide +kernel)⟩, (Nat.le_of_ble_eq_true rfl)⟩
noncomputable def B_X12_mostTired_63 (kc : Nat → en_B) : en_B := op_iret
set_option maxRecDepth 20000 in
theorem s_X12_mostTired_63 (G : en_G) (hst : G.2.2.2.2.2 = true) (kc : Nat → en_B) (hk : ∀ t, en_Snd G M_X12_mostTired t (kc t)) : en_Snd G M_X12_mostTired 63 (B_X12_mostTired_63 kc) := (sn_iret (by decide +kernel) rfl)
noncomputable def B_X12_mostTired_60 (kc : Nat → en_B) : en_B := (op_const (1 : Int32) (op_iload 2 (op_bin en_shl (B_X12_mostTired_63 kc))))
set_option maxRecDepth 20000 in
theorem s_X12_mostTired_60 (G : en_G) (hst : G.2.2.2.2.2 = true) (kc : Nat → en_B) (hk : ∀ t, en_Snd G M_X12_mostTired t (kc t)) : en_Snd G M_X12_mostTired 60 (B_X12_mostTired_60 kc) := (sn_iconst (n := 1) (v := 1) (by decide +kernel) rfl (sn_iload_n (i := 2) (n := 2) (by decide +kernel) rfl (sn_ishl (by decide +kernel) (s_X12_mostTired_63 G hst kc hk))))
noncomputable def B_X12_mostTired_51 (kc : Nat → en_B) : en_B := (op_iload 2 (op_const (-1 : Int32) (op_iceq (op_const (0 : Int32) (B_X12_mostTired_63 kc)) (B_X12_mostTired_60 kc))))
set_option maxRecDepth 20000 in
theorem s_X12_mostTired_51 (G : en_G) (hst : G.2.2.2.2.2 = true) (kc : Nat → en_B) (hk : ∀ t, en_Snd G M_X12_mostTired t (kc t)) : en_Snd G M_X12_mostTired 51 (B_X12_mostTired_51 kc) := (sn_iload_n (i := 2) (n := 2) (by decide +kernel) rfl (sn_iconst (n := -1) (v := -1) (by decide +kernel) rfl (sn_icne (off := 7) (tgt := 60) (by decide +kernel) rfl (s_X12_mostTired_60 G hst kc hk) (sn_iconst (n := 0) (v := 0) (by decide +kernel) rfl (sn_goto (off := 6) (tgt := 63) (by decide +kernel) rfl (s_X12_mostTired_63 G hst kc hk))))))
noncomputable def B_X12_mostTired_45 (kc : Nat → en_B) : en_B := (op_iinc 3 (1 : Int32) (kc 4))
set_option maxRecDepth 20000 in
theorem s_X12_mostTired_45 (G : en_G) (hst : G.2.2.2.2.2 = true) (kc : Nat → en_B) (hk : ∀ t, en_Snd G M_X12_mostTired t (kc t)) : en_Snd G M_X12_mostTired 45 (B_X12_mostTired_45 kc) := (sn_iinc (i := 3) (n := 1) (v := 1) (by decide +kernel) rfl (sn_goto (off := -44) (tgt := 4) (by decide +kernel) rfl (hk 4)))
noncomputable def B_X12_mostTired_43 (kc : Nat → en_B) : en_B := (op_iload 3 (op_istore 2 (B_X12_mostTired_45 kc)))
set_option maxRecDepth 20000 in
theorem s_X12_mostTired_43 (G : en_G) (hst : G.2.2.2.2.2 = true) (kc : Nat → en_B) (hk : ∀ t, en_Snd G M_X12_mostTired t (kc t)) : en_Snd G M_X12_mostTired 43 (B_X12_mostTired_43 kc) := (sn_iload_n (i := 3) (n := 3) (by decide +kernel) rfl (sn_istore_n (i := 2) (n := 2) (by decide +kernel) rfl (Nat.le_of_ble_eq_true rfl) (s_X12_mostTired_45 G hst kc hk)))
noncomputable def B_X12_mostTired_4 (kc : Nat → en_B) : en_B := (op_iload 3 (op_aload 0 (op_geti 12 1 (op_iclt (op_aload 0 (op_aload 1 (op_const (1 : Int32) (op_iload 3 (op_bin en_shl (op_rcv 12 2 (op_calli O_X12_broken 3 (op_ifeq (op_iload 2 (op_const (-1 : Int32) (op_iceq (B_X12_mostTired_43 kc) (op_aload 1 (op_const (7 : Int32) (op_iload 3 (op_bin (fun (x y : Int32) => x + y) (op_ald 20 (op_aload 1 (op_const (7 : Int32) (op_iload 2 (op_bin (fun (x y : Int32) => x + y) (op_ald 20 (op_icgt (B_X12_mostTired_43 kc) (B_X12_mostTired_45 kc))))))))))))))) (B_X12_mostTired_45 kc))))))))) (B_X12_mostTired_51 kc)))))
set_option maxRecDepth 20000 in
theorem s_X12_mostTired_4 (G : en_G) (hst : G.2.2.2.2.2 = true) (kc : Nat → en_B) (hk : ∀ t, en_Snd G M_X12_mostTired t (kc t)) : en_Snd G M_X12_mostTired 4 (B_X12_mostTired_4 kc) := (sn_iload_n (i := 3) (n := 3) (by decide +kernel) rfl (sn_aload_n (i := 0) (n := 0) (by decide +kernel) rfl (sn_geti (ci := 12) (j := 1) en_c12 (by decide +kernel) wm_383 (Nat.le_of_ble_eq_true rfl) rfl (sn_icge (off := 42) (tgt := 51) (by decide +kernel) rfl (s_X12_mostTired_51 G hst kc hk) (sn_aload_n (i := 0) (n := 0) (by decide +kernel) rfl (sn_aload_n (i := 1) (n := 1) (by decide +kernel) rfl (sn_iconst (n := 1) (v := 1) (by decide +kernel) rfl (sn_iload_n (i := 3) (n := 3) (by decide +kernel) rfl (sn_ishl (by decide +kernel) (sn_callVi (n := 2) (idx := 228) (ci := 12) (i_X12_broken G hst) (Nat.le_of_ble_eq_true rfl) cs_X12_broken ⟨wm_516, wm_517, wm_526⟩ ⟨⟨_, rfl, rfl⟩, (Nat.le_of_ble_eq_true rfl)⟩ (by decide +kernel) (sn_ifne (off := 25) (tgt := 45) (by decide +kernel) rfl (s_X12_mostTired_45 G hst kc hk) (sn_iload_n (i := 2) (n := 2) (by decide +kernel) rfl (sn_iconst (n := -1) (v := -1) (by decide +kernel) rfl (sn_iceq (off := 18) (tgt := 43) (by decide +kernel) rfl (s_X12_mostTired_43 G hst kc hk) (sn_aload_n (i := 1) (n := 1) (by decide +kernel) rfl (sn_bipush (n := 7) (v := 7) (by decide +kernel) rfl (sn_iload_n (i := 3) (n := 3) (by decide +kernel) rfl (sn_iadd (by decide +kernel) (sn_iald (by decide +kernel) (sn_aload_n (i := 1) (n := 1) (by decide +kernel) rfl (sn_bipush (n := 7) (v := 7) (by decide +kernel) rfl (sn_iload_n (i := 2) (n := 2) (by decide +kernel) rfl (sn_iadd (by decide +kernel) (sn_iald (by decide +kernel) (sn_icle (off := 5) (tgt := 45) (by decide +kernel) rfl (s_X12_mostTired_45 G hst kc hk) (s_X12_mostTired_43 G hst kc hk))))))))))))))))))))))))))
noncomputable def B_X12_mostTired_0 (kc : Nat → en_B) : en_B := (op_const (-1 : Int32) (op_istore 2 (op_const (0 : Int32) (op_istore 3 (kc 4)))))
set_option maxRecDepth 20000 in
theorem s_X12_mostTired_0 (G : en_G) (hst : G.2.2.2.2.2 = true) (kc : Nat → en_B) (hk : ∀ t, en_Snd G M_X12_mostTired t (kc t)) : en_Snd G M_X12_mostTired 0 (B_X12_mostTired_0 kc) := (sn_iconst (n := -1) (v := -1) (by decide +kernel) rfl (sn_istore_n (i := 2) (n := 2) (by decide +kernel) rfl (Nat.le_of_ble_eq_true rfl) (sn_iconst (n := 0) (v := 0) (by decide +kernel) rfl (sn_istore_n (i := 3) (n := 3) (by decide +kernel) rfl (Nat.le_of_ble_eq_true rfl) (hk 4)))))
noncomputable def LK_X12_mostTired : Nat → Nat → en_B
  | 0, _ => en_no
  | n + 1, t => if t = 4 then B_X12_mostTired_4 (LK_X12_mostTired n) else en_no
theorem l_X12_mostTired (G : en_G) (hst : G.2.2.2.2.2 = true) : ∀ n t, en_Snd G M_X12_mostTired t (LK_X12_mostTired n t)
  | 0, _ => sn_no
  | n + 1, t => by
    show en_Snd G M_X12_mostTired t (if t = 4 then B_X12_mostTired_4 (LK_X12_mostTired n) else en_no)
    by_cases h_4 : t = 4
    · rw [if_pos h_4, h_4]; exact s_X12_mostTired_4 G hst _ (l_X12_mostTired G hst n)
    rw [if_neg h_4]
    exact sn_no
noncomputable def T_X12_mostTired_0 (k1 : Nat) (σ : en_M) : en_R := B_X12_mostTired_0 (LK_X12_mostTired en_FU) [.inr (185, 12, 0, 0), .inr (k1, 20, 53, 0), en_un, en_un] [] en_zz σ
noncomputable def T_X12_mostTired_4 (n : Nat) (k1 : Nat) (x2 : Int32) (x3 : Int32) (σ : en_M) : en_R := LK_X12_mostTired n 4 [.inr (185, 12, 0, 0), .inr (k1, 20, 53, 0), .inl x2, .inl x3] [] en_zz σ
set_option maxRecDepth 400000 in
set_option maxHeartbeats 4000000 in
theorem t_X12_mostTired_0 (k1 : Nat) (σ : en_M) : T_X12_mostTired_0 k1 σ = (T_X12_mostTired_4 en_FU k1 (-1 : Int32) (0 : Int32) σ) := rfl
set_option maxRecDepth 400000 in
set_option maxHeartbeats 4000000 in
theorem t_X12_mostTired_4 (n : Nat) (k1 : Nat) (x2 : Int32) (x3 : Int32) (σ : en_M) : T_X12_mostTired_4 (n + 1) k1 x2 x3 σ = (if x3 < (σ 185 1) then ((O_X12_broken [.inr (185, 12, 0, 0), .inr (k1, 20, 53, 0), .inl (en_shl (1 : Int32) x3)] σ).bind fun r1 => if r1.1 = 0 then (if x2 = (-1 : Int32) then (T_X12_mostTired_4 n k1 x3 (x3 + (1 : Int32)) r1.2) else ((en_ix ((7 : Int32) + x3) 53).bind fun j2 => (en_ix ((7 : Int32) + x2) 53).bind fun j3 => if (r1.2 k1 j3) < (r1.2 k1 j2) then (T_X12_mostTired_4 n k1 x3 (x3 + (1 : Int32)) r1.2) else (T_X12_mostTired_4 n k1 x2 (x3 + (1 : Int32)) r1.2))) else (T_X12_mostTired_4 n k1 x2 (x3 + (1 : Int32)) r1.2)) else (if x2 = (-1 : Int32) then (en_ri (0 : Int32) σ) else (en_ri (en_shl (1 : Int32) x2) σ))) := rfl
noncomputable def P_X12_mostTired : List en_V → en_M → Option (Int32 × en_M) := fun av σ => match av with
  | [.inr (185, 12, 0, 0), .inr (k1, 20, 53, 0)] => en_oi (T_X12_mostTired_0 k1 σ)
  | _ => none
theorem ox_X12_mostTired : ∃ f, f = P_X12_mostTired := ⟨_, rfl⟩
noncomputable def O_X12_mostTired : List en_V → en_M → Option (Int32 × en_M) := Classical.choose ox_X12_mostTired
theorem oe_X12_mostTired : O_X12_mostTired = P_X12_mostTired := Classical.choose_spec ox_X12_mostTired
theorem o_X12_mostTired (k1 : Nat) (σ : en_M) : O_X12_mostTired [.inr (185, 12, 0, 0), .inr (k1, 20, 53, 0)] σ = en_oi (T_X12_mostTired_0 k1 σ) := by rw [oe_X12_mostTired]; rfl
theorem i_X12_mostTired (G : en_G) (hst : G.2.2.2.2.2 = true) : en_I G 4 yX12_mostTired cX12_mostTired 4 (some .int) 0 0 (en_wi (O_X12_mostTired)) := en_of_i (M := M_X12_mostTired) hst (s_X12_mostTired_0 G hst _ (l_X12_mostTired G hst en_FU)) (plainFor_of_name (by decide +kernel)) rfl rfl rfl (Or.inl ⟨rfl, rfl⟩) (fun av σ x σ' h => by
  rw [oe_X12_mostTired] at h; unfold P_X12_mostTired at h
  split at h
  · exact ⟨(Nat.le_of_ble_eq_true rfl), en_oi_some h⟩
  · cases h)
-- EachMayMissOneModel.failsBy(Z)I
def M_X12_failsBy : en_Me := (cX12_failsBy, RX12, 3, false, 257, false)
theorem cs_X12_failsBy : en_cs yX12_failsBy cX12_failsBy 3 (some .int) 1 := ⟨wm_676, wm_337, ⟨(by decide +kernel), (by decide +kernel), (by decide +kernel)⟩, (Nat.le_of_ble_eq_true rfl)⟩
noncomputable def B_X12_failsBy_86 (kc : Nat → en_B) : en_B := (op_const (-2 : Int32) op_iret)
set_option maxRecDepth 20000 in
theorem s_X12_failsBy_86 (G : en_G) (hst : G.2.2.2.2.2 = true) (kc : Nat → en_B) (hk : ∀ t, en_Snd G M_X12_failsBy t (kc t)) : en_Snd G M_X12_failsBy 86 (B_X12_failsBy_86 kc) := (sn_bipush (n := -2) (v := -2) (by decide +kernel) rfl (sn_iret (by decide +kernel) rfl))
noncomputable def B_X12_failsBy_80 (kc : Nat → en_B) : en_B := (op_iinc 2 (1 : Int32) (kc 24))
set_option maxRecDepth 20000 in
theorem s_X12_failsBy_80 (G : en_G) (hst : G.2.2.2.2.2 = true) (kc : Nat → en_B) (hk : ∀ t, en_Snd G M_X12_failsBy t (kc t)) : en_Snd G M_X12_failsBy 80 (B_X12_failsBy_80 kc) := (sn_iinc (i := 2) (n := 1) (v := 1) (by decide +kernel) rfl (sn_goto (off := -59) (tgt := 24) (by decide +kernel) rfl (hk 24)))
noncomputable def B_X12_failsBy_65 (kc : Nat → en_B) : en_B := (op_aload 0 (op_const (0 : Int32) (op_puti 12 10 (op_aload 0 (op_aload 0 (op_geti 12 26 (op_rcv 12 1 (op_callv O_X12_tell 2 (op_iload 2 op_iret)))))))))
set_option maxRecDepth 20000 in
theorem s_X12_failsBy_65 (G : en_G) (hst : G.2.2.2.2.2 = true) (kc : Nat → en_B) (hk : ∀ t, en_Snd G M_X12_failsBy t (kc t)) : en_Snd G M_X12_failsBy 65 (B_X12_failsBy_65 kc) := (sn_aload_n (i := 0) (n := 0) (by decide +kernel) rfl (sn_iconst (n := 0) (v := 0) (by decide +kernel) rfl (sn_puti (ci := 12) (j := 10) en_c12 (by decide +kernel) wm_379 (Nat.le_of_ble_eq_true rfl) rfl rfl rfl (sn_aload_n (i := 0) (n := 0) (by decide +kernel) rfl (sn_aload_n (i := 0) (n := 0) (by decide +kernel) rfl (sn_geti (ci := 12) (j := 26) en_c12 (by decide +kernel) wm_528 (Nat.le_of_ble_eq_true rfl) rfl (sn_callVv (n := 1) (idx := 251) (ci := 12) (i_X12_tell G hst) (Nat.le_of_ble_eq_true rfl) cs_X12_tell ⟨wm_377, wm_378, wm_536⟩ ⟨⟨_, rfl, rfl⟩, (Nat.le_of_ble_eq_true rfl)⟩ (by decide +kernel) (sn_iload_n (i := 2) (n := 2) (by decide +kernel) rfl (sn_iret (by decide +kernel) rfl)))))))))
noncomputable def B_X12_failsBy_52 (kc : Nat → en_B) : en_B := (op_rcv 12 2 (op_callv O_X12_goRound 3 (op_aload 0 (op_geti 12 26 (op_ifeq (B_X12_failsBy_80 kc) (B_X12_failsBy_65 kc))))))
set_option maxRecDepth 20000 in
theorem s_X12_failsBy_52 (G : en_G) (hst : G.2.2.2.2.2 = true) (kc : Nat → en_B) (hk : ∀ t, en_Snd G M_X12_failsBy t (kc t)) : en_Snd G M_X12_failsBy 52 (B_X12_failsBy_52 kc) := (sn_callVv (n := 2) (idx := 247) (ci := 12) (i_X12_goRound G hst) (Nat.le_of_ble_eq_true rfl) cs_X12_goRound ⟨wm_524, wm_525, wm_535⟩ ⟨⟨_, rfl, rfl⟩, (Nat.le_of_ble_eq_true rfl)⟩ (by decide +kernel) (sn_aload_n (i := 0) (n := 0) (by decide +kernel) rfl (sn_geti (ci := 12) (j := 26) en_c12 (by decide +kernel) wm_528 (Nat.le_of_ble_eq_true rfl) rfl (sn_ifne (off := 6) (tgt := 65) (by decide +kernel) rfl (s_X12_failsBy_65 G hst kc hk) (sn_goto (off := 18) (tgt := 80) (by decide +kernel) rfl (s_X12_failsBy_80 G hst kc hk))))))
noncomputable def B_X12_failsBy_51 (kc : Nat → en_B) : en_B := (op_const (0 : Int32) (B_X12_failsBy_52 kc))
set_option maxRecDepth 20000 in
theorem s_X12_failsBy_51 (G : en_G) (hst : G.2.2.2.2.2 = true) (kc : Nat → en_B) (hk : ∀ t, en_Snd G M_X12_failsBy t (kc t)) : en_Snd G M_X12_failsBy 51 (B_X12_failsBy_51 kc) := (sn_iconst (n := 0) (v := 0) (by decide +kernel) rfl (s_X12_failsBy_52 G hst kc hk))
noncomputable def B_X12_failsBy_24 (kc : Nat → en_B) : en_B := (op_iload 2 (op_const (200 : Int32) (op_icgt (B_X12_failsBy_86 kc) (op_aload 0 (op_aload 0 (op_gets 12 13 (20, 53, 0) (op_iload 1 (op_ifeq (B_X12_failsBy_51 kc) (op_aload 0 (op_aload 0 (op_gets 12 13 (20, 53, 0) (op_rcv 12 1 (op_calli O_X12_mostTired 2 (B_X12_failsBy_52 kc))))))))))))))
set_option maxRecDepth 20000 in
theorem s_X12_failsBy_24 (G : en_G) (hst : G.2.2.2.2.2 = true) (kc : Nat → en_B) (hk : ∀ t, en_Snd G M_X12_failsBy t (kc t)) : en_Snd G M_X12_failsBy 24 (B_X12_failsBy_24 kc) := (sn_iload_n (i := 2) (n := 2) (by decide +kernel) rfl (sn_sipush (n := 200) (v := 200) (by decide +kernel) rfl (sn_icgt (off := 58) (tgt := 86) (by decide +kernel) rfl (s_X12_failsBy_86 G hst kc hk) (sn_aload_n (i := 0) (n := 0) (by decide +kernel) rfl (sn_aload_n (i := 0) (n := 0) (by decide +kernel) rfl (sn_gets (ci := 12) (j := 31) (off := 13) hst en_c12 of_12_13 (Nat.le_of_ble_eq_true rfl) (by decide +kernel) wm_354 (Nat.le_of_ble_eq_true rfl) rfl (sn_iload_n (i := 1) (n := 1) (by decide +kernel) rfl (sn_ifeq (off := 14) (tgt := 51) (by decide +kernel) rfl (s_X12_failsBy_51 G hst kc hk) (sn_aload_n (i := 0) (n := 0) (by decide +kernel) rfl (sn_aload_n (i := 0) (n := 0) (by decide +kernel) rfl (sn_gets (ci := 12) (j := 31) (off := 13) hst en_c12 of_12_13 (Nat.le_of_ble_eq_true rfl) (by decide +kernel) wm_354 (Nat.le_of_ble_eq_true rfl) rfl (sn_callVi (n := 1) (idx := 320) (ci := 12) (i_X12_mostTired G hst) (Nat.le_of_ble_eq_true rfl) cs_X12_mostTired ⟨wm_674, wm_675, wm_679⟩ ⟨⟨_, rfl, rfl⟩, (Nat.le_of_ble_eq_true rfl)⟩ (by decide +kernel) (sn_goto (off := 4) (tgt := 52) (by decide +kernel) rfl (s_X12_failsBy_52 G hst kc hk))))))))))))))
noncomputable def B_X12_failsBy_10 (kc : Nat → en_B) : en_B := (op_aload 0 (op_gets 12 1 (20, 53, 0) (op_aload 0 (op_gets 12 13 (20, 53, 0) (op_const (0 : Int32) (op_callv O_X12_lay 3 (op_const (1 : Int32) (op_istore 2 (kc 24)))))))))
set_option maxRecDepth 20000 in
theorem s_X12_failsBy_10 (G : en_G) (hst : G.2.2.2.2.2 = true) (kc : Nat → en_B) (hk : ∀ t, en_Snd G M_X12_failsBy t (kc t)) : en_Snd G M_X12_failsBy 10 (B_X12_failsBy_10 kc) := (sn_aload_n (i := 0) (n := 0) (by decide +kernel) rfl (sn_gets (ci := 12) (j := 0) (off := 1) hst en_c12 of_12_1 (Nat.le_of_ble_eq_true rfl) (by decide +kernel) wm_339 (Nat.le_of_ble_eq_true rfl) rfl (sn_aload_n (i := 0) (n := 0) (by decide +kernel) rfl (sn_gets (ci := 12) (j := 31) (off := 13) hst en_c12 of_12_13 (Nat.le_of_ble_eq_true rfl) (by decide +kernel) wm_354 (Nat.le_of_ble_eq_true rfl) rfl (sn_iconst (n := 0) (v := 0) (by decide +kernel) rfl (sn_callSv (n := 3) (idx := 209) (i_X12_lay G hst) (Nat.le_of_ble_eq_true rfl) cs_X12_lay ⟨wm_502, Or.inl wm_506⟩ (by decide +kernel) (sn_iconst (n := 1) (v := 1) (by decide +kernel) rfl (sn_istore_n (i := 2) (n := 2) (by decide +kernel) rfl (Nat.le_of_ble_eq_true rfl) (hk 24)))))))))
noncomputable def B_X12_failsBy_0 (kc : Nat → en_B) : en_B := (op_aload 0 (op_geti 12 1 (op_ifeq (op_const (-2 : Int32) op_iret) (B_X12_failsBy_10 kc))))
set_option maxRecDepth 20000 in
theorem s_X12_failsBy_0 (G : en_G) (hst : G.2.2.2.2.2 = true) (kc : Nat → en_B) (hk : ∀ t, en_Snd G M_X12_failsBy t (kc t)) : en_Snd G M_X12_failsBy 0 (B_X12_failsBy_0 kc) := (sn_aload_n (i := 0) (n := 0) (by decide +kernel) rfl (sn_geti (ci := 12) (j := 1) en_c12 (by decide +kernel) wm_383 (Nat.le_of_ble_eq_true rfl) rfl (sn_ifne (off := 6) (tgt := 10) (by decide +kernel) rfl (s_X12_failsBy_10 G hst kc hk) (sn_bipush (n := -2) (v := -2) (by decide +kernel) rfl (sn_iret (by decide +kernel) rfl)))))
noncomputable def LK_X12_failsBy : Nat → Nat → en_B
  | 0, _ => en_no
  | n + 1, t => if t = 24 then B_X12_failsBy_24 (LK_X12_failsBy n) else en_no
theorem l_X12_failsBy (G : en_G) (hst : G.2.2.2.2.2 = true) : ∀ n t, en_Snd G M_X12_failsBy t (LK_X12_failsBy n t)
  | 0, _ => sn_no
  | n + 1, t => by
    show en_Snd G M_X12_failsBy t (if t = 24 then B_X12_failsBy_24 (LK_X12_failsBy n) else en_no)
    by_cases h_24 : t = 24
    · rw [if_pos h_24, h_24]; exact s_X12_failsBy_24 G hst _ (l_X12_failsBy G hst n)
    rw [if_neg h_24]
    exact sn_no
noncomputable def T_X12_failsBy_0 (x1 : Int32) (σ : en_M) : en_R := B_X12_failsBy_0 (LK_X12_failsBy en_FU) [.inr (185, 12, 0, 0), .inl x1, en_un] [] en_zz σ
noncomputable def T_X12_failsBy_24 (n : Nat) (x1 : Int32) (x2 : Int32) (σ : en_M) : en_R := LK_X12_failsBy n 24 [.inr (185, 12, 0, 0), .inl x1, .inl x2] [] en_zz σ
set_option maxRecDepth 400000 in
set_option maxHeartbeats 4000000 in
theorem t_X12_failsBy_0 (x1 : Int32) (σ : en_M) : T_X12_failsBy_0 x1 σ = (if (σ 185 1) = 0 then (en_ri (-2 : Int32) σ) else ((O_X12_lay [.inr (186, 20, 53, 0), .inr (198, 20, 53, 0), .inl (0 : Int32)] σ).bind fun r1 => T_X12_failsBy_24 en_FU x1 (1 : Int32) r1)) := rfl
set_option maxRecDepth 400000 in
set_option maxHeartbeats 4000000 in
theorem t_X12_failsBy_24 (n : Nat) (x1 : Int32) (x2 : Int32) (σ : en_M) : T_X12_failsBy_24 (n + 1) x1 x2 σ = (if (200 : Int32) < x2 then (en_ri (-2 : Int32) σ) else (if x1 = 0 then ((O_X12_goRound [.inr (185, 12, 0, 0), .inr (198, 20, 53, 0), .inl (0 : Int32)] σ).bind fun r2 => if (r2 185 26) = 0 then (T_X12_failsBy_24 n x1 (x2 + (1 : Int32)) r2) else ((O_X12_tell [.inr (185, 12, 0, 0), .inl (r2 185 26)] (en_up r2 185 10 (0 : Int32))).bind fun r3 => en_ri x2 r3)) else ((O_X12_mostTired [.inr (185, 12, 0, 0), .inr (198, 20, 53, 0)] σ).bind fun r4 => (O_X12_goRound [.inr (185, 12, 0, 0), .inr (198, 20, 53, 0), .inl r4.1] r4.2).bind fun r5 => if (r5 185 26) = 0 then (T_X12_failsBy_24 n x1 (x2 + (1 : Int32)) r5) else ((O_X12_tell [.inr (185, 12, 0, 0), .inl (r5 185 26)] (en_up r5 185 10 (0 : Int32))).bind fun r6 => en_ri x2 r6)))) := rfl
noncomputable def P_X12_failsBy : List en_V → en_M → Option (Int32 × en_M) := fun av σ => match av with
  | [.inr (185, 12, 0, 0), .inl x1] => en_oi (T_X12_failsBy_0 x1 σ)
  | _ => none
theorem ox_X12_failsBy : ∃ f, f = P_X12_failsBy := ⟨_, rfl⟩
noncomputable def O_X12_failsBy : List en_V → en_M → Option (Int32 × en_M) := Classical.choose ox_X12_failsBy
theorem oe_X12_failsBy : O_X12_failsBy = P_X12_failsBy := Classical.choose_spec ox_X12_failsBy
theorem o_X12_failsBy (x1 : Int32) (σ : en_M) : O_X12_failsBy [.inr (185, 12, 0, 0), .inl x1] σ = en_oi (T_X12_failsBy_0 x1 σ) := by rw [oe_X12_failsBy]; rfl
theorem i_X12_failsBy (G : en_G) (hst : G.2.2.2.2.2 = true) : en_I G 257 yX12_failsBy cX12_failsBy 3 (some .int) 0 0 (en_wi (O_X12_failsBy)) := en_of_i (M := M_X12_failsBy) hst (s_X12_failsBy_0 G hst _ (l_X12_failsBy G hst en_FU)) (plainFor_of_name (by decide +kernel)) rfl rfl rfl (Or.inl ⟨rfl, rfl⟩) (fun av σ x σ' h => by
  rw [oe_X12_failsBy] at h; unfold P_X12_failsBy at h
  split at h
  · exact ⟨(Nat.le_of_ble_eq_true rfl), en_oi_some h⟩
  · cases h)
-- EachMayMissOneModel.fails()I
def M_X12_fails : en_Me := (cX12_fails, RX12, 1, false, 258, false)
theorem cs_X12_fails : en_cs yX12_fails cX12_fails 1 (some .int) 0 := ⟨wm_680, wm_337, ⟨(by decide +kernel), (by decide +kernel), (by decide +kernel)⟩, (Nat.le_of_ble_eq_true rfl)⟩
noncomputable def B_X12_fails_0 (kc : Nat → en_B) : en_B := (op_aload 0 (op_const (0 : Int32) (op_puti 12 11 (op_aload 0 (op_const (0 : Int32) (op_rcv 12 1 (op_calli O_X12_failsBy 2 op_iret)))))))
set_option maxRecDepth 20000 in
theorem s_X12_fails_0 (G : en_G) (hst : G.2.2.2.2.2 = true) (kc : Nat → en_B) (hk : ∀ t, en_Snd G M_X12_fails t (kc t)) : en_Snd G M_X12_fails 0 (B_X12_fails_0 kc) := (sn_aload_n (i := 0) (n := 0) (by decide +kernel) rfl (sn_iconst (n := 0) (v := 0) (by decide +kernel) rfl (sn_puti (ci := 12) (j := 11) en_c12 (by decide +kernel) wm_368 (Nat.le_of_ble_eq_true rfl) rfl rfl rfl (sn_aload_n (i := 0) (n := 0) (by decide +kernel) rfl (sn_iconst (n := 0) (v := 0) (by decide +kernel) rfl (sn_callVi (n := 1) (idx := 324) (ci := 12) (i_X12_failsBy G hst) (Nat.le_of_ble_eq_true rfl) cs_X12_failsBy ⟨wm_677, wm_678, wm_683⟩ ⟨⟨_, rfl, rfl⟩, (Nat.le_of_ble_eq_true rfl)⟩ (by decide +kernel) (sn_iret (by decide +kernel) rfl)))))))
noncomputable def LK_X12_fails : Nat → Nat → en_B
  | 0, _ => en_no
  | n + 1, t => en_no
theorem l_X12_fails (G : en_G) (hst : G.2.2.2.2.2 = true) : ∀ n t, en_Snd G M_X12_fails t (LK_X12_fails n t)
  | 0, _ => sn_no
  | n + 1, t => by
    show en_Snd G M_X12_fails t (en_no)
    exact sn_no
noncomputable def T_X12_fails_0 (σ : en_M) : en_R := B_X12_fails_0 (LK_X12_fails en_FU) [.inr (185, 12, 0, 0)] [] en_zz σ
set_option maxRecDepth 400000 in
set_option maxHeartbeats 4000000 in
theorem t_X12_fails_0 (σ : en_M) : T_X12_fails_0 σ = ((O_X12_failsBy [.inr (185, 12, 0, 0), .inl (0 : Int32)] (en_up σ 185 11 (0 : Int32))).bind fun r1 => en_ri r1.1 r1.2) := rfl
noncomputable def P_X12_fails : List en_V → en_M → Option (Int32 × en_M) := fun av σ => match av with
  | [.inr (185, 12, 0, 0)] => en_oi (T_X12_fails_0 σ)
  | _ => none
theorem ox_X12_fails : ∃ f, f = P_X12_fails := ⟨_, rfl⟩
noncomputable def O_X12_fails : List en_V → en_M → Option (Int32 × en_M) := Classical.choose ox_X12_fails
theorem oe_X12_fails : O_X12_fails = P_X12_fails := Classical.choose_spec ox_X12_fails
theorem o_X12_fails (σ : en_M) : O_X12_fails [.inr (185, 12, 0, 0)] σ = en_oi (T_X12_fails_0 σ) := by rw [oe_X12_fails]; rfl
theorem i_X12_fails (G : en_G) (hst : G.2.2.2.2.2 = true) : en_I G 258 yX12_fails cX12_fails 1 (some .int) 0 0 (en_wi (O_X12_fails)) := en_of_i (M := M_X12_fails) hst (s_X12_fails_0 G hst _ (l_X12_fails G hst en_FU)) (plainFor_of_name (by decide +kernel)) rfl rfl rfl (Or.inl ⟨rfl, rfl⟩) (fun av σ x σ' h => by
  rw [oe_X12_fails] at h; unfold P_X12_fails at h
  split at h
  · exact ⟨(Nat.le_of_ble_eq_true rfl), en_oi_some h⟩
  · cases h)
-- EachMayMissOneModel.lasts()I
def M_X12_lasts : en_Me := (cX12_lasts, RX12, 1, false, 258, false)
theorem cs_X12_lasts : en_cs yX12_lasts cX12_lasts 1 (some .int) 0 := ⟨wm_684, wm_337, ⟨(by decide +kernel), (by decide +kernel), (by decide +kernel)⟩, (Nat.le_of_ble_eq_true rfl)⟩
noncomputable def B_X12_lasts_0 (kc : Nat → en_B) : en_B := (op_aload 0 (op_const (0 : Int32) (op_puti 12 11 (op_aload 0 (op_const (1 : Int32) (op_rcv 12 1 (op_calli O_X12_failsBy 2 op_iret)))))))
set_option maxRecDepth 20000 in
theorem s_X12_lasts_0 (G : en_G) (hst : G.2.2.2.2.2 = true) (kc : Nat → en_B) (hk : ∀ t, en_Snd G M_X12_lasts t (kc t)) : en_Snd G M_X12_lasts 0 (B_X12_lasts_0 kc) := (sn_aload_n (i := 0) (n := 0) (by decide +kernel) rfl (sn_iconst (n := 0) (v := 0) (by decide +kernel) rfl (sn_puti (ci := 12) (j := 11) en_c12 (by decide +kernel) wm_368 (Nat.le_of_ble_eq_true rfl) rfl rfl rfl (sn_aload_n (i := 0) (n := 0) (by decide +kernel) rfl (sn_iconst (n := 1) (v := 1) (by decide +kernel) rfl (sn_callVi (n := 1) (idx := 324) (ci := 12) (i_X12_failsBy G hst) (Nat.le_of_ble_eq_true rfl) cs_X12_failsBy ⟨wm_677, wm_678, wm_683⟩ ⟨⟨_, rfl, rfl⟩, (Nat.le_of_ble_eq_true rfl)⟩ (by decide +kernel) (sn_iret (by decide +kernel) rfl)))))))
noncomputable def LK_X12_lasts : Nat → Nat → en_B
  | 0, _ => en_no
  | n + 1, t => en_no
theorem l_X12_lasts (G : en_G) (hst : G.2.2.2.2.2 = true) : ∀ n t, en_Snd G M_X12_lasts t (LK_X12_lasts n t)
  | 0, _ => sn_no
  | n + 1, t => by
    show en_Snd G M_X12_lasts t (en_no)
    exact sn_no
noncomputable def T_X12_lasts_0 (σ : en_M) : en_R := B_X12_lasts_0 (LK_X12_lasts en_FU) [.inr (185, 12, 0, 0)] [] en_zz σ
set_option maxRecDepth 400000 in
set_option maxHeartbeats 4000000 in
theorem t_X12_lasts_0 (σ : en_M) : T_X12_lasts_0 σ = ((O_X12_failsBy [.inr (185, 12, 0, 0), .inl (1 : Int32)] (en_up σ 185 11 (0 : Int32))).bind fun r1 => en_ri r1.1 r1.2) := rfl
noncomputable def P_X12_lasts : List en_V → en_M → Option (Int32 × en_M) := fun av σ => match av with
  | [.inr (185, 12, 0, 0)] => en_oi (T_X12_lasts_0 σ)
  | _ => none
theorem ox_X12_lasts : ∃ f, f = P_X12_lasts := ⟨_, rfl⟩
noncomputable def O_X12_lasts : List en_V → en_M → Option (Int32 × en_M) := Classical.choose ox_X12_lasts
theorem oe_X12_lasts : O_X12_lasts = P_X12_lasts := Classical.choose_spec ox_X12_lasts
theorem o_X12_lasts (σ : en_M) : O_X12_lasts [.inr (185, 12, 0, 0)] σ = en_oi (T_X12_lasts_0 σ) := by rw [oe_X12_lasts]; rfl
theorem i_X12_lasts (G : en_G) (hst : G.2.2.2.2.2 = true) : en_I G 258 yX12_lasts cX12_lasts 1 (some .int) 0 0 (en_wi (O_X12_lasts)) := en_of_i (M := M_X12_lasts) hst (s_X12_lasts_0 G hst _ (l_X12_lasts G hst en_FU)) (plainFor_of_name (by decide +kernel)) rfl rfl rfl (Or.inl ⟨rfl, rfl⟩) (fun av σ x σ' h => by
  rw [oe_X12_lasts] at h; unfold P_X12_lasts at h
  split at h
  · exact ⟨(Nat.le_of_ble_eq_true rfl), en_oi_some h⟩
  · cases h)
-- EachMayMissOneModel.serves(III)Z
def M_X12_serves : en_Me := (cX12_serves, RX12, 5, false, 257, true)
theorem cs_X12_serves : en_cs yX12_serves cX12_serves 5 (some .boolean) 3 := ⟨wm_687, wm_337, ⟨(by decide +kernel), (by decide +kernel), (by decide +kernel)⟩, (Nat.le_of_ble_eq_true rfl)⟩
noncomputable def B_X12_serves_73 (kc : Nat → en_B) : en_B := (op_const (1 : Int32) op_zret)
set_option maxRecDepth 20000 in
theorem s_X12_serves_73 (G : en_G) (hst : G.2.2.2.2.2 = true) (kc : Nat → en_B) (hk : ∀ t, en_Snd G M_X12_serves t (kc t)) : en_Snd G M_X12_serves 73 (B_X12_serves_73 kc) := (sn_iconst (n := 1) (v := 1) (by decide +kernel) rfl (sn_zret (by decide +kernel)))
noncomputable def B_X12_serves_67 (kc : Nat → en_B) : en_B := (op_iinc 4 (1 : Int32) (kc 39))
set_option maxRecDepth 20000 in
theorem s_X12_serves_67 (G : en_G) (hst : G.2.2.2.2.2 = true) (kc : Nat → en_B) (hk : ∀ t, en_Snd G M_X12_serves t (kc t)) : en_Snd G M_X12_serves 67 (B_X12_serves_67 kc) := (sn_iinc (i := 4) (n := 1) (v := 1) (by decide +kernel) rfl (sn_goto (off := -31) (tgt := 39) (by decide +kernel) rfl (hk 39)))
noncomputable def B_X12_serves_39 (kc : Nat → en_B) : en_B := (op_iload 4 (op_iload 2 (op_iclt (op_aload 0 (op_aload 0 (op_gets 12 13 (20, 53, 0) (op_const (0 : Int32) (op_rcv 12 2 (op_callv O_X12_goRound 3 (op_aload 0 (op_geti 12 26 (op_iload 1 (op_calli O_X12_has 2 (op_ifeq (B_X12_serves_67 kc) (op_const (0 : Int32) op_zret)))))))))))) (B_X12_serves_73 kc))))
set_option maxRecDepth 20000 in
theorem s_X12_serves_39 (G : en_G) (hst : G.2.2.2.2.2 = true) (kc : Nat → en_B) (hk : ∀ t, en_Snd G M_X12_serves t (kc t)) : en_Snd G M_X12_serves 39 (B_X12_serves_39 kc) := (sn_iload (i := 4) (by decide +kernel) (sn_iload_n (i := 2) (n := 2) (by decide +kernel) rfl (sn_icge (off := 31) (tgt := 73) (by decide +kernel) rfl (s_X12_serves_73 G hst kc hk) (sn_aload_n (i := 0) (n := 0) (by decide +kernel) rfl (sn_aload_n (i := 0) (n := 0) (by decide +kernel) rfl (sn_gets (ci := 12) (j := 31) (off := 13) hst en_c12 of_12_13 (Nat.le_of_ble_eq_true rfl) (by decide +kernel) wm_354 (Nat.le_of_ble_eq_true rfl) rfl (sn_iconst (n := 0) (v := 0) (by decide +kernel) rfl (sn_callVv (n := 2) (idx := 247) (ci := 12) (i_X12_goRound G hst) (Nat.le_of_ble_eq_true rfl) cs_X12_goRound ⟨wm_524, wm_525, wm_535⟩ ⟨⟨_, rfl, rfl⟩, (Nat.le_of_ble_eq_true rfl)⟩ (by decide +kernel) (sn_aload_n (i := 0) (n := 0) (by decide +kernel) rfl (sn_geti (ci := 12) (j := 26) en_c12 (by decide +kernel) wm_528 (Nat.le_of_ble_eq_true rfl) rfl (sn_iload_n (i := 1) (n := 1) (by decide +kernel) rfl (sn_callSi (n := 2) (idx := 198) (i_X12_has G hst) (Nat.le_of_ble_eq_true rfl) cs_X12_has ⟨wm_372, Or.inl wm_483⟩ (by decide +kernel) (sn_ifeq (off := 5) (tgt := 67) (by decide +kernel) rfl (s_X12_serves_67 G hst kc hk) (sn_iconst (n := 0) (v := 0) (by decide +kernel) rfl (sn_zret (by decide +kernel))))))))))))))))
noncomputable def B_X12_serves_36 (kc : Nat → en_B) : en_B := (op_const (0 : Int32) (op_istore 4 (kc 39)))
set_option maxRecDepth 20000 in
theorem s_X12_serves_36 (G : en_G) (hst : G.2.2.2.2.2 = true) (kc : Nat → en_B) (hk : ∀ t, en_Snd G M_X12_serves t (kc t)) : en_Snd G M_X12_serves 36 (B_X12_serves_36 kc) := (sn_iconst (n := 0) (v := 0) (by decide +kernel) rfl (sn_istore (i := 4) (by decide +kernel) (Nat.le_of_ble_eq_true rfl) (hk 39)))
noncomputable def B_X12_serves_15 (kc : Nat → en_B) : en_B := (op_iload 4 (op_iload 3 (op_iclt (op_aload 0 (op_gets 12 13 (20, 53, 0) (op_iload 1 (op_calli O_X12_drink 2 (op_pop (op_iinc 4 (1 : Int32) (kc 15))))))) (B_X12_serves_36 kc))))
set_option maxRecDepth 20000 in
theorem s_X12_serves_15 (G : en_G) (hst : G.2.2.2.2.2 = true) (kc : Nat → en_B) (hk : ∀ t, en_Snd G M_X12_serves t (kc t)) : en_Snd G M_X12_serves 15 (B_X12_serves_15 kc) := (sn_iload (i := 4) (by decide +kernel) (sn_iload_n (i := 3) (n := 3) (by decide +kernel) rfl (sn_icge (off := 18) (tgt := 36) (by decide +kernel) rfl (s_X12_serves_36 G hst kc hk) (sn_aload_n (i := 0) (n := 0) (by decide +kernel) rfl (sn_gets (ci := 12) (j := 31) (off := 13) hst en_c12 of_12_13 (Nat.le_of_ble_eq_true rfl) (by decide +kernel) wm_354 (Nat.le_of_ble_eq_true rfl) rfl (sn_iload_n (i := 1) (n := 1) (by decide +kernel) rfl (sn_callSi (n := 2) (idx := 263) (i_X12_drink G hst) (Nat.le_of_ble_eq_true rfl) cs_X12_drink ⟨wm_547, Or.inl wm_551⟩ (by decide +kernel) (sn_pop (by decide +kernel) (sn_iinc (i := 4) (n := 1) (v := 1) (by decide +kernel) rfl (sn_goto (off := -18) (tgt := 15) (by decide +kernel) rfl (hk 15)))))))))))
noncomputable def B_X12_serves_0 (kc : Nat → en_B) : en_B := (op_aload 0 (op_gets 12 1 (20, 53, 0) (op_aload 0 (op_gets 12 13 (20, 53, 0) (op_const (0 : Int32) (op_callv O_X12_lay 3 (op_const (0 : Int32) (op_istore 4 (kc 15)))))))))
set_option maxRecDepth 20000 in
theorem s_X12_serves_0 (G : en_G) (hst : G.2.2.2.2.2 = true) (kc : Nat → en_B) (hk : ∀ t, en_Snd G M_X12_serves t (kc t)) : en_Snd G M_X12_serves 0 (B_X12_serves_0 kc) := (sn_aload_n (i := 0) (n := 0) (by decide +kernel) rfl (sn_gets (ci := 12) (j := 0) (off := 1) hst en_c12 of_12_1 (Nat.le_of_ble_eq_true rfl) (by decide +kernel) wm_339 (Nat.le_of_ble_eq_true rfl) rfl (sn_aload_n (i := 0) (n := 0) (by decide +kernel) rfl (sn_gets (ci := 12) (j := 31) (off := 13) hst en_c12 of_12_13 (Nat.le_of_ble_eq_true rfl) (by decide +kernel) wm_354 (Nat.le_of_ble_eq_true rfl) rfl (sn_iconst (n := 0) (v := 0) (by decide +kernel) rfl (sn_callSv (n := 3) (idx := 209) (i_X12_lay G hst) (Nat.le_of_ble_eq_true rfl) cs_X12_lay ⟨wm_502, Or.inl wm_506⟩ (by decide +kernel) (sn_iconst (n := 0) (v := 0) (by decide +kernel) rfl (sn_istore (i := 4) (by decide +kernel) (Nat.le_of_ble_eq_true rfl) (hk 15)))))))))
noncomputable def LK_X12_serves : Nat → Nat → en_B
  | 0, _ => en_no
  | n + 1, t => if t = 15 then B_X12_serves_15 (LK_X12_serves n) else if t = 39 then B_X12_serves_39 (LK_X12_serves n) else en_no
theorem l_X12_serves (G : en_G) (hst : G.2.2.2.2.2 = true) : ∀ n t, en_Snd G M_X12_serves t (LK_X12_serves n t)
  | 0, _ => sn_no
  | n + 1, t => by
    show en_Snd G M_X12_serves t (if t = 15 then B_X12_serves_15 (LK_X12_serves n) else if t = 39 then B_X12_serves_39 (LK_X12_serves n) else en_no)
    by_cases h_15 : t = 15
    · rw [if_pos h_15, h_15]; exact s_X12_serves_15 G hst _ (l_X12_serves G hst n)
    rw [if_neg h_15]
    by_cases h_39 : t = 39
    · rw [if_pos h_39, h_39]; exact s_X12_serves_39 G hst _ (l_X12_serves G hst n)
    rw [if_neg h_39]
    exact sn_no
noncomputable def T_X12_serves_0 (x1 : Int32) (x2 : Int32) (x3 : Int32) (σ : en_M) : en_R := B_X12_serves_0 (LK_X12_serves en_FU) [.inr (185, 12, 0, 0), .inl x1, .inl x2, .inl x3, en_un] [] en_zz σ
noncomputable def T_X12_serves_15 (n : Nat) (x1 : Int32) (x2 : Int32) (x3 : Int32) (x4 : Int32) (σ : en_M) : en_R := LK_X12_serves n 15 [.inr (185, 12, 0, 0), .inl x1, .inl x2, .inl x3, .inl x4] [] en_zz σ
noncomputable def T_X12_serves_39 (n : Nat) (x1 : Int32) (x2 : Int32) (x3 : Int32) (x4 : Int32) (σ : en_M) : en_R := LK_X12_serves n 39 [.inr (185, 12, 0, 0), .inl x1, .inl x2, .inl x3, .inl x4] [] en_zz σ
set_option maxRecDepth 400000 in
set_option maxHeartbeats 4000000 in
theorem t_X12_serves_0 (x1 : Int32) (x2 : Int32) (x3 : Int32) (σ : en_M) : T_X12_serves_0 x1 x2 x3 σ = ((O_X12_lay [.inr (186, 20, 53, 0), .inr (198, 20, 53, 0), .inl (0 : Int32)] σ).bind fun r1 => T_X12_serves_15 en_FU x1 x2 x3 (0 : Int32) r1) := rfl
set_option maxRecDepth 400000 in
set_option maxHeartbeats 4000000 in
theorem t_X12_serves_15 (n : Nat) (x1 : Int32) (x2 : Int32) (x3 : Int32) (x4 : Int32) (σ : en_M) : T_X12_serves_15 (n + 1) x1 x2 x3 x4 σ = (if x4 < x3 then ((O_X12_drink [.inr (198, 20, 53, 0), .inl x1] σ).bind fun r2 => T_X12_serves_15 n x1 x2 x3 (x4 + (1 : Int32)) r2.2) else (T_X12_serves_39 n x1 x2 x3 (0 : Int32) σ)) := rfl
set_option maxRecDepth 400000 in
set_option maxHeartbeats 4000000 in
theorem t_X12_serves_39 (n : Nat) (x1 : Int32) (x2 : Int32) (x3 : Int32) (x4 : Int32) (σ : en_M) : T_X12_serves_39 (n + 1) x1 x2 x3 x4 σ = (if x4 < x2 then ((O_X12_goRound [.inr (185, 12, 0, 0), .inr (198, 20, 53, 0), .inl (0 : Int32)] σ).bind fun r3 => (O_X12_has [.inl (r3 185 26), .inl x1] r3).bind fun r4 => if r4.1 = 0 then (T_X12_serves_39 n x1 x2 x3 (x4 + (1 : Int32)) r4.2) else (if (0 : Int32) = 0 ∨ (0 : Int32) = 1 then en_ri (0 : Int32) r4.2 else none)) else (if (1 : Int32) = 0 ∨ (1 : Int32) = 1 then en_ri (1 : Int32) σ else none)) := rfl
noncomputable def P_X12_serves : List en_V → en_M → Option (Int32 × en_M) := fun av σ => match av with
  | [.inr (185, 12, 0, 0), .inl x1, .inl x2, .inl x3] => en_oi (T_X12_serves_0 x1 x2 x3 σ)
  | _ => none
theorem ox_X12_serves : ∃ f, f = P_X12_serves := ⟨_, rfl⟩
noncomputable def O_X12_serves : List en_V → en_M → Option (Int32 × en_M) := Classical.choose ox_X12_serves
theorem oe_X12_serves : O_X12_serves = P_X12_serves := Classical.choose_spec ox_X12_serves
theorem o_X12_serves (x1 : Int32) (x2 : Int32) (x3 : Int32) (σ : en_M) : O_X12_serves [.inr (185, 12, 0, 0), .inl x1, .inl x2, .inl x3] σ = en_oi (T_X12_serves_0 x1 x2 x3 σ) := by rw [oe_X12_serves]; rfl
theorem i_X12_serves (G : en_G) (hst : G.2.2.2.2.2 = true) : en_I G 257 yX12_serves cX12_serves 5 (some .boolean) 0 0 (en_wi (O_X12_serves)) := en_of_i (M := M_X12_serves) hst (s_X12_serves_0 G hst _ (l_X12_serves G hst en_FU)) (plainFor_of_name (by decide +kernel)) rfl rfl rfl (Or.inr ⟨Or.inl rfl, rfl⟩) (fun av σ x σ' h => by
  rw [oe_X12_serves] at h; unfold P_X12_serves at h
  split at h
  · exact ⟨(Nat.le_of_ble_eq_true rfl), en_oi_some h⟩
  · cases h)
-- EachMayMissOneModel.stout(I)I
def M_X12_stout : en_Me := (cX12_stout, RX12, 5, false, 258, false)
theorem cs_X12_stout : en_cs yX12_stout cX12_stout 5 (some .int) 1 := ⟨wm_690, wm_337, ⟨(by decide +kernel), (by decide +kernel), (by decide +kernel)⟩, (Nat.le_of_ble_eq_true rfl)⟩
noncomputable def B_X12_stout_123 (kc : Nat → en_B) : en_B := (op_iload 2 op_iret)
set_option maxRecDepth 20000 in
theorem s_X12_stout_123 (G : en_G) (hst : G.2.2.2.2.2 = true) (kc : Nat → en_B) (hk : ∀ t, en_Snd G M_X12_stout t (kc t)) : en_Snd G M_X12_stout 123 (B_X12_stout_123 kc) := (sn_iload_n (i := 2) (n := 2) (by decide +kernel) rfl (sn_iret (by decide +kernel) rfl))
noncomputable def B_X12_stout_99 (kc : Nat → en_B) : en_B := (op_iload 3 (op_aload 0 (op_geti 12 1 (op_iclt (op_aload 0 (op_aload 0 (op_gets 12 21 (20, 7, 0) (op_iload 3 (op_ald 20 (op_rcv 12 1 (op_callv O_X12_tell 2 (op_iinc 3 (1 : Int32) (kc 99))))))))) (B_X12_stout_123 kc)))))
set_option maxRecDepth 20000 in
theorem s_X12_stout_99 (G : en_G) (hst : G.2.2.2.2.2 = true) (kc : Nat → en_B) (hk : ∀ t, en_Snd G M_X12_stout t (kc t)) : en_Snd G M_X12_stout 99 (B_X12_stout_99 kc) := (sn_iload_n (i := 3) (n := 3) (by decide +kernel) rfl (sn_aload_n (i := 0) (n := 0) (by decide +kernel) rfl (sn_geti (ci := 12) (j := 1) en_c12 (by decide +kernel) wm_383 (Nat.le_of_ble_eq_true rfl) rfl (sn_icge (off := 19) (tgt := 123) (by decide +kernel) rfl (s_X12_stout_123 G hst kc hk) (sn_aload_n (i := 0) (n := 0) (by decide +kernel) rfl (sn_aload_n (i := 0) (n := 0) (by decide +kernel) rfl (sn_gets (ci := 12) (j := 41) (off := 21) hst en_c12 of_12_21 (Nat.le_of_ble_eq_true rfl) (by decide +kernel) wm_362 (Nat.le_of_ble_eq_true rfl) rfl (sn_iload_n (i := 3) (n := 3) (by decide +kernel) rfl (sn_iald (by decide +kernel) (sn_callVv (n := 1) (idx := 251) (ci := 12) (i_X12_tell G hst) (Nat.le_of_ble_eq_true rfl) cs_X12_tell ⟨wm_377, wm_378, wm_536⟩ ⟨⟨_, rfl, rfl⟩, (Nat.le_of_ble_eq_true rfl)⟩ (by decide +kernel) (sn_iinc (i := 3) (n := 1) (v := 1) (by decide +kernel) rfl (sn_goto (off := -21) (tgt := 99) (by decide +kernel) rfl (hk 99)))))))))))))
noncomputable def B_X12_stout_92 (kc : Nat → en_B) : en_B := (op_aload 0 (op_const (0 : Int32) (op_puti 12 10 (op_const (0 : Int32) (op_istore 3 (kc 99))))))
set_option maxRecDepth 20000 in
theorem s_X12_stout_92 (G : en_G) (hst : G.2.2.2.2.2 = true) (kc : Nat → en_B) (hk : ∀ t, en_Snd G M_X12_stout t (kc t)) : en_Snd G M_X12_stout 92 (B_X12_stout_92 kc) := (sn_aload_n (i := 0) (n := 0) (by decide +kernel) rfl (sn_iconst (n := 0) (v := 0) (by decide +kernel) rfl (sn_puti (ci := 12) (j := 10) en_c12 (by decide +kernel) wm_379 (Nat.le_of_ble_eq_true rfl) rfl rfl rfl (sn_iconst (n := 0) (v := 0) (by decide +kernel) rfl (sn_istore_n (i := 3) (n := 3) (by decide +kernel) rfl (Nat.le_of_ble_eq_true rfl) (hk 99))))))
noncomputable def B_X12_stout_73 (kc : Nat → en_B) : en_B := (op_aload 0 (op_gets 12 21 (20, 7, 0) (op_iload 3 (op_iload 4 (op_ast 20 (fun (x : Int32) => x) (op_iload 2 (op_iload 4 (op_bin (fun (x y : Int32) => x + y) (op_istore 2 (op_iinc 3 (1 : Int32) (kc 28)))))))))))
set_option maxRecDepth 20000 in
theorem s_X12_stout_73 (G : en_G) (hst : G.2.2.2.2.2 = true) (kc : Nat → en_B) (hk : ∀ t, en_Snd G M_X12_stout t (kc t)) : en_Snd G M_X12_stout 73 (B_X12_stout_73 kc) := (sn_aload_n (i := 0) (n := 0) (by decide +kernel) rfl (sn_gets (ci := 12) (j := 41) (off := 21) hst en_c12 of_12_21 (Nat.le_of_ble_eq_true rfl) (by decide +kernel) wm_362 (Nat.le_of_ble_eq_true rfl) rfl (sn_iload_n (i := 3) (n := 3) (by decide +kernel) rfl (sn_iload (i := 4) (by decide +kernel) (sn_iast (by decide +kernel) (sn_iload_n (i := 2) (n := 2) (by decide +kernel) rfl (sn_iload (i := 4) (by decide +kernel) (sn_iadd (by decide +kernel) (sn_istore_n (i := 2) (n := 2) (by decide +kernel) rfl (Nat.le_of_ble_eq_true rfl) (sn_iinc (i := 3) (n := 1) (v := 1) (by decide +kernel) rfl (sn_goto (off := -61) (tgt := 28) (by decide +kernel) rfl (hk 28))))))))))))
noncomputable def B_X12_stout_63 (kc : Nat → en_B) : en_B := (op_iload 4 (op_const (10 : Int32) (op_icgt (op_const (-2 : Int32) op_iret) (B_X12_stout_73 kc))))
set_option maxRecDepth 20000 in
theorem s_X12_stout_63 (G : en_G) (hst : G.2.2.2.2.2 = true) (kc : Nat → en_B) (hk : ∀ t, en_Snd G M_X12_stout t (kc t)) : en_Snd G M_X12_stout 63 (B_X12_stout_63 kc) := (sn_iload (i := 4) (by decide +kernel) (sn_bipush (n := 10) (v := 10) (by decide +kernel) rfl (sn_icle (off := 6) (tgt := 73) (by decide +kernel) rfl (s_X12_stout_73 G hst kc hk) (sn_bipush (n := -2) (v := -2) (by decide +kernel) rfl (sn_iret (by decide +kernel) rfl)))))
noncomputable def B_X12_stout_39 (kc : Nat → en_B) : en_B := (op_iload 4 (op_const (10 : Int32) (op_icgt (B_X12_stout_63 kc) (op_aload 0 (op_iload 3 (op_iload 1 (op_iload 4 (op_rcv 12 3 (op_calli O_X12_serves 4 (op_ifeq (op_iinc 4 (1 : Int32) (kc 39)) (B_X12_stout_63 kc)))))))))))
set_option maxRecDepth 20000 in
theorem s_X12_stout_39 (G : en_G) (hst : G.2.2.2.2.2 = true) (kc : Nat → en_B) (hk : ∀ t, en_Snd G M_X12_stout t (kc t)) : en_Snd G M_X12_stout 39 (B_X12_stout_39 kc) := (sn_iload (i := 4) (by decide +kernel) (sn_bipush (n := 10) (v := 10) (by decide +kernel) rfl (sn_icgt (off := 20) (tgt := 63) (by decide +kernel) rfl (s_X12_stout_63 G hst kc hk) (sn_aload_n (i := 0) (n := 0) (by decide +kernel) rfl (sn_iload_n (i := 3) (n := 3) (by decide +kernel) rfl (sn_iload_n (i := 1) (n := 1) (by decide +kernel) rfl (sn_iload (i := 4) (by decide +kernel) (sn_callVi (n := 3) (idx := 328) (ci := 12) (i_X12_serves G hst) (Nat.le_of_ble_eq_true rfl) cs_X12_serves ⟨wm_688, wm_689, wm_693⟩ ⟨⟨_, rfl, rfl⟩, (Nat.le_of_ble_eq_true rfl)⟩ (by decide +kernel) (sn_ifne (off := 9) (tgt := 63) (by decide +kernel) rfl (s_X12_stout_63 G hst kc hk) (sn_iinc (i := 4) (n := 1) (v := 1) (by decide +kernel) rfl (sn_goto (off := -21) (tgt := 39) (by decide +kernel) rfl (hk 39))))))))))))
noncomputable def B_X12_stout_28 (kc : Nat → en_B) : en_B := (op_iload 3 (op_aload 0 (op_geti 12 1 (op_iclt (op_const (0 : Int32) (op_istore 4 (kc 39))) (B_X12_stout_92 kc)))))
set_option maxRecDepth 20000 in
theorem s_X12_stout_28 (G : en_G) (hst : G.2.2.2.2.2 = true) (kc : Nat → en_B) (hk : ∀ t, en_Snd G M_X12_stout t (kc t)) : en_Snd G M_X12_stout 28 (B_X12_stout_28 kc) := (sn_iload_n (i := 3) (n := 3) (by decide +kernel) rfl (sn_aload_n (i := 0) (n := 0) (by decide +kernel) rfl (sn_geti (ci := 12) (j := 1) en_c12 (by decide +kernel) wm_383 (Nat.le_of_ble_eq_true rfl) rfl (sn_icge (off := 59) (tgt := 92) (by decide +kernel) rfl (s_X12_stout_92 G hst kc hk) (sn_iconst (n := 0) (v := 0) (by decide +kernel) rfl (sn_istore (i := 4) (by decide +kernel) (Nat.le_of_ble_eq_true rfl) (hk 39)))))))
noncomputable def B_X12_stout_24 (kc : Nat → en_B) : en_B := (op_const (0 : Int32) (op_istore 2 (op_const (0 : Int32) (op_istore 3 (kc 28)))))
set_option maxRecDepth 20000 in
theorem s_X12_stout_24 (G : en_G) (hst : G.2.2.2.2.2 = true) (kc : Nat → en_B) (hk : ∀ t, en_Snd G M_X12_stout t (kc t)) : en_Snd G M_X12_stout 24 (B_X12_stout_24 kc) := (sn_iconst (n := 0) (v := 0) (by decide +kernel) rfl (sn_istore_n (i := 2) (n := 2) (by decide +kernel) rfl (Nat.le_of_ble_eq_true rfl) (sn_iconst (n := 0) (v := 0) (by decide +kernel) rfl (sn_istore_n (i := 3) (n := 3) (by decide +kernel) rfl (Nat.le_of_ble_eq_true rfl) (hk 28)))))
noncomputable def B_X12_stout_22 (kc : Nat → en_B) : en_B := (op_const (-1 : Int32) op_iret)
set_option maxRecDepth 20000 in
theorem s_X12_stout_22 (G : en_G) (hst : G.2.2.2.2.2 = true) (kc : Nat → en_B) (hk : ∀ t, en_Snd G M_X12_stout t (kc t)) : en_Snd G M_X12_stout 22 (B_X12_stout_22 kc) := (sn_iconst (n := -1) (v := -1) (by decide +kernel) rfl (sn_iret (by decide +kernel) rfl))
noncomputable def B_X12_stout_0 (kc : Nat → en_B) : en_B := (op_aload 0 (op_const (0 : Int32) (op_puti 12 11 (op_iload 1 (op_const (1 : Int32) (op_const (60 : Int32) (op_calli O_X12_in 3 (op_ifeq (B_X12_stout_22 kc) (op_aload 0 (op_geti 12 1 (op_ifeq (B_X12_stout_22 kc) (B_X12_stout_24 kc))))))))))))
set_option maxRecDepth 20000 in
theorem s_X12_stout_0 (G : en_G) (hst : G.2.2.2.2.2 = true) (kc : Nat → en_B) (hk : ∀ t, en_Snd G M_X12_stout t (kc t)) : en_Snd G M_X12_stout 0 (B_X12_stout_0 kc) := (sn_aload_n (i := 0) (n := 0) (by decide +kernel) rfl (sn_iconst (n := 0) (v := 0) (by decide +kernel) rfl (sn_puti (ci := 12) (j := 11) en_c12 (by decide +kernel) wm_368 (Nat.le_of_ble_eq_true rfl) rfl rfl rfl (sn_iload_n (i := 1) (n := 1) (by decide +kernel) rfl (sn_iconst (n := 1) (v := 1) (by decide +kernel) rfl (sn_bipush (n := 60) (v := 60) (by decide +kernel) rfl (sn_callSi (n := 3) (idx := 100) (i_X12_in G hst) (Nat.le_of_ble_eq_true rfl) cs_X12_in ⟨wm_370, Or.inl wm_384⟩ (by decide +kernel) (sn_ifeq (off := 10) (tgt := 22) (by decide +kernel) rfl (s_X12_stout_22 G hst kc hk) (sn_aload_n (i := 0) (n := 0) (by decide +kernel) rfl (sn_geti (ci := 12) (j := 1) en_c12 (by decide +kernel) wm_383 (Nat.le_of_ble_eq_true rfl) rfl (sn_ifne (off := 5) (tgt := 24) (by decide +kernel) rfl (s_X12_stout_24 G hst kc hk) (s_X12_stout_22 G hst kc hk))))))))))))
noncomputable def LK_X12_stout : Nat → Nat → en_B
  | 0, _ => en_no
  | n + 1, t => if t = 28 then B_X12_stout_28 (LK_X12_stout n) else if t = 39 then B_X12_stout_39 (LK_X12_stout n) else if t = 99 then B_X12_stout_99 (LK_X12_stout n) else en_no
theorem l_X12_stout (G : en_G) (hst : G.2.2.2.2.2 = true) : ∀ n t, en_Snd G M_X12_stout t (LK_X12_stout n t)
  | 0, _ => sn_no
  | n + 1, t => by
    show en_Snd G M_X12_stout t (if t = 28 then B_X12_stout_28 (LK_X12_stout n) else if t = 39 then B_X12_stout_39 (LK_X12_stout n) else if t = 99 then B_X12_stout_99 (LK_X12_stout n) else en_no)
    by_cases h_28 : t = 28
    · rw [if_pos h_28, h_28]; exact s_X12_stout_28 G hst _ (l_X12_stout G hst n)
    rw [if_neg h_28]
    by_cases h_39 : t = 39
    · rw [if_pos h_39, h_39]; exact s_X12_stout_39 G hst _ (l_X12_stout G hst n)
    rw [if_neg h_39]
    by_cases h_99 : t = 99
    · rw [if_pos h_99, h_99]; exact s_X12_stout_99 G hst _ (l_X12_stout G hst n)
    rw [if_neg h_99]
    exact sn_no
noncomputable def T_X12_stout_0 (x1 : Int32) (σ : en_M) : en_R := B_X12_stout_0 (LK_X12_stout en_FU) [.inr (185, 12, 0, 0), .inl x1, en_un, en_un, en_un] [] en_zz σ
noncomputable def T_X12_stout_28 (n : Nat) (x1 : Int32) (x2 : Int32) (x3 : Int32) (u4 : en_V) (σ : en_M) : en_R := LK_X12_stout n 28 [.inr (185, 12, 0, 0), .inl x1, .inl x2, .inl x3, u4] [] en_zz σ
noncomputable def T_X12_stout_39 (n : Nat) (x1 : Int32) (x2 : Int32) (x3 : Int32) (x4 : Int32) (σ : en_M) : en_R := LK_X12_stout n 39 [.inr (185, 12, 0, 0), .inl x1, .inl x2, .inl x3, .inl x4] [] en_zz σ
noncomputable def T_X12_stout_99 (n : Nat) (x1 : Int32) (x2 : Int32) (x3 : Int32) (u4 : en_V) (σ : en_M) : en_R := LK_X12_stout n 99 [.inr (185, 12, 0, 0), .inl x1, .inl x2, .inl x3, u4] [] en_zz σ
set_option maxRecDepth 400000 in
set_option maxHeartbeats 4000000 in
theorem t_X12_stout_0 (x1 : Int32) (σ : en_M) : T_X12_stout_0 x1 σ = ((O_X12_in [.inl x1, .inl (1 : Int32), .inl (60 : Int32)] (en_up σ 185 11 (0 : Int32))).bind fun r1 => if r1.1 = 0 then (en_ri (-1 : Int32) r1.2) else (if (r1.2 185 1) = 0 then (en_ri (-1 : Int32) r1.2) else (T_X12_stout_28 en_FU x1 (0 : Int32) (0 : Int32) (en_un) r1.2))) := rfl
set_option maxRecDepth 400000 in
set_option maxHeartbeats 4000000 in
theorem t_X12_stout_28 (n : Nat) (x1 : Int32) (x2 : Int32) (x3 : Int32) (u4 : en_V) (σ : en_M) : T_X12_stout_28 (n + 1) x1 x2 x3 u4 σ = (if x3 < (σ 185 1) then (T_X12_stout_39 n x1 x2 x3 (0 : Int32) σ) else (T_X12_stout_99 n x1 x2 (0 : Int32) (u4) (en_up σ 185 10 (0 : Int32)))) := rfl
set_option maxRecDepth 400000 in
set_option maxHeartbeats 4000000 in
theorem t_X12_stout_39 (n : Nat) (x1 : Int32) (x2 : Int32) (x3 : Int32) (x4 : Int32) (σ : en_M) : T_X12_stout_39 (n + 1) x1 x2 x3 x4 σ = (if (10 : Int32) < x4 then (if (10 : Int32) < x4 then (en_ri (-2 : Int32) σ) else ((en_ix x3 7).bind fun j2 => T_X12_stout_28 n x1 (x2 + x4) (x3 + (1 : Int32)) (.inl x4) (en_up σ 206 j2 x4))) else ((O_X12_serves [.inr (185, 12, 0, 0), .inl x3, .inl x1, .inl x4] σ).bind fun r3 => if r3.1 = 0 then (T_X12_stout_39 n x1 x2 x3 (x4 + (1 : Int32)) r3.2) else (if (10 : Int32) < x4 then (en_ri (-2 : Int32) r3.2) else ((en_ix x3 7).bind fun j4 => T_X12_stout_28 n x1 (x2 + x4) (x3 + (1 : Int32)) (.inl x4) (en_up r3.2 206 j4 x4))))) := rfl
set_option maxRecDepth 400000 in
set_option maxHeartbeats 4000000 in
theorem t_X12_stout_99 (n : Nat) (x1 : Int32) (x2 : Int32) (x3 : Int32) (u4 : en_V) (σ : en_M) : T_X12_stout_99 (n + 1) x1 x2 x3 u4 σ = (if x3 < (σ 185 1) then ((en_ix x3 7).bind fun j5 => (O_X12_tell [.inr (185, 12, 0, 0), .inl (σ 206 j5)] σ).bind fun r6 => T_X12_stout_99 n x1 x2 (x3 + (1 : Int32)) (u4) r6) else (en_ri x2 σ)) := rfl
noncomputable def P_X12_stout : List en_V → en_M → Option (Int32 × en_M) := fun av σ => match av with
  | [.inr (185, 12, 0, 0), .inl x1] => en_oi (T_X12_stout_0 x1 σ)
  | _ => none
theorem ox_X12_stout : ∃ f, f = P_X12_stout := ⟨_, rfl⟩
noncomputable def O_X12_stout : List en_V → en_M → Option (Int32 × en_M) := Classical.choose ox_X12_stout
theorem oe_X12_stout : O_X12_stout = P_X12_stout := Classical.choose_spec ox_X12_stout
theorem o_X12_stout (x1 : Int32) (σ : en_M) : O_X12_stout [.inr (185, 12, 0, 0), .inl x1] σ = en_oi (T_X12_stout_0 x1 σ) := by rw [oe_X12_stout]; rfl
theorem i_X12_stout (G : en_G) (hst : G.2.2.2.2.2 = true) : en_I G 258 yX12_stout cX12_stout 5 (some .int) 0 0 (en_wi (O_X12_stout)) := en_of_i (M := M_X12_stout) hst (s_X12_stout_0 G hst _ (l_X12_stout G hst en_FU)) (plainFor_of_name (by decide +kernel)) rfl rfl rfl (Or.inl ⟨rfl, rfl⟩) (fun av σ x σ' h => by
  rw [oe_X12_stout] at h; unfold P_X12_stout at h
  split at h
  · exact ⟨(Nat.le_of_ble_eq_true rfl), en_oi_some h⟩
  · cases h)
