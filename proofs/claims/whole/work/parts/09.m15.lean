-- EachMayMissOne.coughs(III)I
def M_X11_coughs : en_Me := (cX11_coughs, RX11, 10, false, 5, false)
theorem cs_X11_coughs : en_cs yX11_coughs cX11_coughs 10 (some .int) 3 := ⟨wm_234, wm_2, ⟨(by decide +kernel), (by decide +kernel), (by decide +kernel)⟩, (Nat.le_of_ble_eq_true rfl)⟩
noncomputable def B_X11_coughs_193 (kc : Nat → en_B) : en_B := (op_aload 0 (op_gets 11 3 (9, 0, 0) (op_rcv 9 0 (op_callv O_X9_begin 1 (op_aload 0 (op_gets 11 3 (9, 0, 0) (op_aload 0 (op_gets 11 20 (7, 0, 0) (op_gets 7 3 (20, 7, 0) (op_calli O_X11_sum 1 (op_aload 0 (op_gets 11 15 (7, 0, 0) (op_gets 7 3 (20, 7, 0) (op_calli O_X11_sum 1 (op_bin (fun (x y : Int32) => x - y) (op_rcv 9 1 (op_callv O_X9_add 2 (op_aload 0 (op_gets 11 3 (9, 0, 0) (op_iload 6 (op_rcv 9 1 (op_callv O_X9_add 2 (op_aload 0 (op_gets 11 3 (9, 0, 0) (op_iload 7 (op_rcv 9 1 (op_callv O_X9_add 2 (op_aload 0 (op_gets 11 20 (7, 0, 0) (op_geti 7 6 (op_aload 0 (op_gets 11 15 (7, 0, 0) (op_geti 7 6 (op_bin (fun (x y : Int32) => x - y) op_iret))))))))))))))))))))))))))))))))))
set_option maxRecDepth 20000 in
theorem s_X11_coughs_193 (G : en_G) (hst : G.2.2.2.2.2 = true) (kc : Nat → en_B) (hk : ∀ t, en_Snd G M_X11_coughs t (kc t)) : en_Snd G M_X11_coughs 193 (B_X11_coughs_193 kc) := (sn_aload_n (i := 0) (n := 0) (by decide +kernel) rfl (sn_gets (ci := 11) (j := 1) (off := 3) hst en_c11 of_11_3 (Nat.le_of_ble_eq_true rfl) (by decide +kernel) wm_13 (Nat.le_of_ble_eq_true rfl) rfl (sn_callVv (n := 0) (idx := 205) (ci := 9) (i_X9_begin G hst) (Nat.le_of_ble_eq_true rfl) cs_X9_begin ⟨wm_1086, wm_1087, wm_115⟩ ⟨⟨_, rfl, rfl⟩, (Nat.le_of_ble_eq_true rfl)⟩ (by decide +kernel) (sn_aload_n (i := 0) (n := 0) (by decide +kernel) rfl (sn_gets (ci := 11) (j := 1) (off := 3) hst en_c11 of_11_3 (Nat.le_of_ble_eq_true rfl) (by decide +kernel) wm_13 (Nat.le_of_ble_eq_true rfl) rfl (sn_aload_n (i := 0) (n := 0) (by decide +kernel) rfl (sn_gets (ci := 11) (j := 4) (off := 20) hst en_c11 of_11_20 (Nat.le_of_ble_eq_true rfl) (by decide +kernel) wm_24 (Nat.le_of_ble_eq_true rfl) rfl (sn_gets (ci := 7) (j := 2) (off := 3) hst en_c7 of_7_3 (Nat.le_of_ble_eq_true rfl) (by decide +kernel) wm_88 (Nat.le_of_ble_eq_true rfl) rfl (sn_callSi (n := 1) (idx := 190) (i_X11_sum G hst) (Nat.le_of_ble_eq_true rfl) cs_X11_sum ⟨wm_272, Or.inl wm_108⟩ (by decide +kernel) (sn_aload_n (i := 0) (n := 0) (by decide +kernel) rfl (sn_gets (ci := 11) (j := 3) (off := 15) hst en_c11 of_11_15 (Nat.le_of_ble_eq_true rfl) (by decide +kernel) wm_23 (Nat.le_of_ble_eq_true rfl) rfl (sn_gets (ci := 7) (j := 2) (off := 3) hst en_c7 of_7_3 (Nat.le_of_ble_eq_true rfl) (by decide +kernel) wm_88 (Nat.le_of_ble_eq_true rfl) rfl (sn_callSi (n := 1) (idx := 190) (i_X11_sum G hst) (Nat.le_of_ble_eq_true rfl) cs_X11_sum ⟨wm_272, Or.inl wm_108⟩ (by decide +kernel) (sn_isub (by decide +kernel) (sn_callVv (n := 1) (idx := 209) (ci := 9) (i_X9_add G hst) (Nat.le_of_ble_eq_true rfl) cs_X9_add ⟨wm_1090, wm_1091, wm_117⟩ ⟨⟨_, rfl, rfl⟩, (Nat.le_of_ble_eq_true rfl)⟩ (by decide +kernel) (sn_aload_n (i := 0) (n := 0) (by decide +kernel) rfl (sn_gets (ci := 11) (j := 1) (off := 3) hst en_c11 of_11_3 (Nat.le_of_ble_eq_true rfl) (by decide +kernel) wm_13 (Nat.le_of_ble_eq_true rfl) rfl (sn_iload (i := 6) (by decide +kernel) (sn_callVv (n := 1) (idx := 209) (ci := 9) (i_X9_add G hst) (Nat.le_of_ble_eq_true rfl) cs_X9_add ⟨wm_1090, wm_1091, wm_117⟩ ⟨⟨_, rfl, rfl⟩, (Nat.le_of_ble_eq_true rfl)⟩ (by decide +kernel) (sn_aload_n (i := 0) (n := 0) (by decide +kernel) rfl (sn_gets (ci := 11) (j := 1) (off := 3) hst en_c11 of_11_3 (Nat.le_of_ble_eq_true rfl) (by decide +kernel) wm_13 (Nat.le_of_ble_eq_true rfl) rfl (sn_iload (i := 7) (by decide +kernel) (sn_callVv (n := 1) (idx := 209) (ci := 9) (i_X9_add G hst) (Nat.le_of_ble_eq_true rfl) cs_X9_add ⟨wm_1090, wm_1091, wm_117⟩ ⟨⟨_, rfl, rfl⟩, (Nat.le_of_ble_eq_true rfl)⟩ (by decide +kernel) (sn_aload_n (i := 0) (n := 0) (by decide +kernel) rfl (sn_gets (ci := 11) (j := 4) (off := 20) hst en_c11 of_11_20 (Nat.le_of_ble_eq_true rfl) (by decide +kernel) wm_24 (Nat.le_of_ble_eq_true rfl) rfl (sn_geti (ci := 7) (j := 6) en_c7 (by decide +kernel) wm_133 (Nat.le_of_ble_eq_true rfl) rfl (sn_aload_n (i := 0) (n := 0) (by decide +kernel) rfl (sn_gets (ci := 11) (j := 3) (off := 15) hst en_c11 of_11_15 (Nat.le_of_ble_eq_true rfl) (by decide +kernel) wm_23 (Nat.le_of_ble_eq_true rfl) rfl (sn_geti (ci := 7) (j := 6) en_c7 (by decide +kernel) wm_133 (Nat.le_of_ble_eq_true rfl) rfl (sn_isub (by decide +kernel) (sn_iret (by decide +kernel) rfl)))))))))))))))))))))))))))))))
noncomputable def B_X11_coughs_187 (kc : Nat → en_B) : en_B := (op_iinc 8 (1 : Int32) (kc 137))
set_option maxRecDepth 20000 in
theorem s_X11_coughs_187 (G : en_G) (hst : G.2.2.2.2.2 = true) (kc : Nat → en_B) (hk : ∀ t, en_Snd G M_X11_coughs t (kc t)) : en_Snd G M_X11_coughs 187 (B_X11_coughs_187 kc) := (sn_iinc (i := 8) (n := 1) (v := 1) (by decide +kernel) rfl (sn_goto (off := -53) (tgt := 137) (by decide +kernel) rfl (hk 137)))
noncomputable def B_X11_coughs_137 (kc : Nat → en_B) : en_B := (op_iload 8 (op_aload 0 (op_gets 11 5 (10, 0, 0) (op_geti 10 3 (op_iclt (op_aload 0 (op_gets 11 20 (7, 0, 0) (op_gets 7 2 (20, 7, 0) (op_iload 8 (op_ald 20 (op_aload 0 (op_gets 11 15 (7, 0, 0) (op_gets 7 2 (20, 7, 0) (op_iload 8 (op_ald 20 (op_bin (fun (x y : Int32) => x - y) (op_istore 9 (op_iload 9 (op_iload 7 (op_icgt (op_iload 8 (op_istore 6 (op_iload 9 (op_istore 7 (B_X11_coughs_187 kc))))) (B_X11_coughs_187 kc)))))))))))))))) (B_X11_coughs_193 kc))))))
set_option maxRecDepth 20000 in
theorem s_X11_coughs_137 (G : en_G) (hst : G.2.2.2.2.2 = true) (kc : Nat → en_B) (hk : ∀ t, en_Snd G M_X11_coughs t (kc t)) : en_Snd G M_X11_coughs 137 (B_X11_coughs_137 kc) := (sn_iload (i := 8) (by decide +kernel) (sn_aload_n (i := 0) (n := 0) (by decide +kernel) rfl (sn_gets (ci := 11) (j := 2) (off := 5) hst en_c11 of_11_5 (Nat.le_of_ble_eq_true rfl) (by decide +kernel) wm_18 (Nat.le_of_ble_eq_true rfl) rfl (sn_geti (ci := 10) (j := 3) en_c10 (by decide +kernel) wm_74 (Nat.le_of_ble_eq_true rfl) rfl (sn_icge (off := 47) (tgt := 193) (by decide +kernel) rfl (s_X11_coughs_193 G hst kc hk) (sn_aload_n (i := 0) (n := 0) (by decide +kernel) rfl (sn_gets (ci := 11) (j := 4) (off := 20) hst en_c11 of_11_20 (Nat.le_of_ble_eq_true rfl) (by decide +kernel) wm_24 (Nat.le_of_ble_eq_true rfl) rfl (sn_gets (ci := 7) (j := 1) (off := 2) hst en_c7 of_7_2 (Nat.le_of_ble_eq_true rfl) (by decide +kernel) wm_87 (Nat.le_of_ble_eq_true rfl) rfl (sn_iload (i := 8) (by decide +kernel) (sn_iald (by decide +kernel) (sn_aload_n (i := 0) (n := 0) (by decide +kernel) rfl (sn_gets (ci := 11) (j := 3) (off := 15) hst en_c11 of_11_15 (Nat.le_of_ble_eq_true rfl) (by decide +kernel) wm_23 (Nat.le_of_ble_eq_true rfl) rfl (sn_gets (ci := 7) (j := 1) (off := 2) hst en_c7 of_7_2 (Nat.le_of_ble_eq_true rfl) (by decide +kernel) wm_87 (Nat.le_of_ble_eq_true rfl) rfl (sn_iload (i := 8) (by decide +kernel) (sn_iald (by decide +kernel) (sn_isub (by decide +kernel) (sn_istore (i := 9) (by decide +kernel) (Nat.le_of_ble_eq_true rfl) (sn_iload (i := 9) (by decide +kernel) (sn_iload (i := 7) (by decide +kernel) (sn_icle (off := 11) (tgt := 187) (by decide +kernel) rfl (s_X11_coughs_187 G hst kc hk) (sn_iload (i := 8) (by decide +kernel) (sn_istore (i := 6) (by decide +kernel) (Nat.le_of_ble_eq_true rfl) (sn_iload (i := 9) (by decide +kernel) (sn_istore (i := 7) (by decide +kernel) (Nat.le_of_ble_eq_true rfl) (s_X11_coughs_187 G hst kc hk)))))))))))))))))))))))))
noncomputable def B_X11_coughs_128 (kc : Nat → en_B) : en_B := (op_const (-1 : Int32) (op_istore 6 (op_const (0 : Int32) (op_istore 7 (op_const (0 : Int32) (op_istore 8 (kc 137)))))))
set_option maxRecDepth 20000 in
theorem s_X11_coughs_128 (G : en_G) (hst : G.2.2.2.2.2 = true) (kc : Nat → en_B) (hk : ∀ t, en_Snd G M_X11_coughs t (kc t)) : en_Snd G M_X11_coughs 128 (B_X11_coughs_128 kc) := (sn_iconst (n := -1) (v := -1) (by decide +kernel) rfl (sn_istore (i := 6) (by decide +kernel) (Nat.le_of_ble_eq_true rfl) (sn_iconst (n := 0) (v := 0) (by decide +kernel) rfl (sn_istore (i := 7) (by decide +kernel) (Nat.le_of_ble_eq_true rfl) (sn_iconst (n := 0) (v := 0) (by decide +kernel) rfl (sn_istore (i := 8) (by decide +kernel) (Nat.le_of_ble_eq_true rfl) (hk 137)))))))
noncomputable def B_X11_coughs_118 (kc : Nat → en_B) : en_B := (op_rcv 10 2 (op_calli O_X10_ring 3 (op_pop (op_iinc 6 (1 : Int32) (kc 62)))))
set_option maxRecDepth 20000 in
theorem s_X11_coughs_118 (G : en_G) (hst : G.2.2.2.2.2 = true) (kc : Nat → en_B) (hk : ∀ t, en_Snd G M_X11_coughs t (kc t)) : en_Snd G M_X11_coughs 118 (B_X11_coughs_118 kc) := (sn_callVi (n := 2) (idx := 201) (ci := 10) (i_X10_ring G hst) (Nat.le_of_ble_eq_true rfl) cs_X10_ring ⟨wm_1142, wm_1143, wm_114⟩ ⟨⟨_, rfl, rfl⟩, (Nat.le_of_ble_eq_true rfl)⟩ (by decide +kernel) (sn_pop (by decide +kernel) (sn_iinc (i := 6) (n := 1) (v := 1) (by decide +kernel) rfl (sn_goto (off := -63) (tgt := 62) (by decide +kernel) rfl (hk 62)))))
noncomputable def B_X11_coughs_117 (kc : Nat → en_B) : en_B := (op_const (0 : Int32) (B_X11_coughs_118 kc))
set_option maxRecDepth 20000 in
theorem s_X11_coughs_117 (G : en_G) (hst : G.2.2.2.2.2 = true) (kc : Nat → en_B) (hk : ∀ t, en_Snd G M_X11_coughs t (kc t)) : en_Snd G M_X11_coughs 117 (B_X11_coughs_117 kc) := (sn_iconst (n := 0) (v := 0) (by decide +kernel) rfl (s_X11_coughs_118 G hst kc hk))
noncomputable def B_X11_coughs_62 (kc : Nat → en_B) : en_B := (op_iload 6 (op_iload 2 (op_iclt (op_iload 4 (op_const (1103515245 : Int32) (op_bin (fun (x y : Int32) => x * y) (op_const (12345 : Int32) (op_bin (fun (x y : Int32) => x + y) (op_istore 4 (op_iload 4 (op_const (16 : Int32) (op_bin en_ush (op_iload 5 (op_div (fun (x y : Int32) => x - x / y * y) (op_istore 7 (op_aload 0 (op_gets 11 5 (10, 0, 0) (op_aload 0 (op_gets 11 20 (7, 0, 0) (op_aload 0 (op_gets 11 5 (10, 0, 0) (op_iload 7 (op_rcv 10 1 (op_calli O_X10_hasRinger 2 (op_ifeq (B_X11_coughs_117 kc) (op_const (1 : Int32) (op_iload 7 (op_bin en_shl (B_X11_coughs_118 kc)))))))))))))))))))))))))) (B_X11_coughs_128 kc))))
set_option maxRecDepth 20000 in
theorem s_X11_coughs_62 (G : en_G) (hst : G.2.2.2.2.2 = true) (kc : Nat → en_B) (hk : ∀ t, en_Snd G M_X11_coughs t (kc t)) : en_Snd G M_X11_coughs 62 (B_X11_coughs_62 kc) := (sn_iload (i := 6) (by decide +kernel) (sn_iload_n (i := 2) (n := 2) (by decide +kernel) rfl (sn_icge (off := 63) (tgt := 128) (by decide +kernel) rfl (s_X11_coughs_128 G hst kc hk) (sn_iload (i := 4) (by decide +kernel) (sn_ldcw (n := 324) (v := 1103515245) wm_237 (by decide +kernel) (sn_imul (by decide +kernel) (sn_sipush (n := 12345) (v := 12345) (by decide +kernel) rfl (sn_iadd (by decide +kernel) (sn_istore (i := 4) (by decide +kernel) (Nat.le_of_ble_eq_true rfl) (sn_iload (i := 4) (by decide +kernel) (sn_bipush (n := 16) (v := 16) (by decide +kernel) rfl (sn_iushr (by decide +kernel) (sn_iload (i := 5) (by decide +kernel) (sn_irem (by decide +kernel) (sn_istore (i := 7) (by decide +kernel) (Nat.le_of_ble_eq_true rfl) (sn_aload_n (i := 0) (n := 0) (by decide +kernel) rfl (sn_gets (ci := 11) (j := 2) (off := 5) hst en_c11 of_11_5 (Nat.le_of_ble_eq_true rfl) (by decide +kernel) wm_18 (Nat.le_of_ble_eq_true rfl) rfl (sn_aload_n (i := 0) (n := 0) (by decide +kernel) rfl (sn_gets (ci := 11) (j := 4) (off := 20) hst en_c11 of_11_20 (Nat.le_of_ble_eq_true rfl) (by decide +kernel) wm_24 (Nat.le_of_ble_eq_true rfl) rfl (sn_aload_n (i := 0) (n := 0) (by decide +kernel) rfl (sn_gets (ci := 11) (j := 2) (off := 5) hst en_c11 of_11_5 (Nat.le_of_ble_eq_true rfl) (by decide +kernel) wm_18 (Nat.le_of_ble_eq_true rfl) rfl (sn_iload (i := 7) (by decide +kernel) (sn_callVi (n := 1) (idx := 131) (ci := 10) (i_X10_hasRinger G hst) (Nat.le_of_ble_eq_true rfl) cs_X10_hasRinger ⟨wm_1115, wm_1116, wm_84⟩ ⟨⟨_, rfl, rfl⟩, (Nat.le_of_ble_eq_true rfl)⟩ (by decide +kernel) (sn_ifeq (off := 10) (tgt := 117) (by decide +kernel) rfl (s_X11_coughs_117 G hst kc hk) (sn_iconst (n := 1) (v := 1) (by decide +kernel) rfl (sn_iload (i := 7) (by decide +kernel) (sn_ishl (by decide +kernel) (sn_goto (off := 4) (tgt := 118) (by decide +kernel) rfl (s_X11_coughs_118 G hst kc hk)))))))))))))))))))))))))))))
noncomputable def B_X11_coughs_34 (kc : Nat → en_B) : en_B := (op_aload 0 (op_gets 11 20 (7, 0, 0) (op_aload 0 (op_gets 11 15 (7, 0, 0) (op_rcv 7 1 (op_callv O_X7_copy 2 (op_iload 1 (op_istore 4 (op_aload 0 (op_gets 11 5 (10, 0, 0) (op_geti 10 3 (op_iload 3 (op_bin (fun (x y : Int32) => x + y) (op_istore 5 (op_const (0 : Int32) (op_istore 6 (kc 62)))))))))))))))))
set_option maxRecDepth 20000 in
theorem s_X11_coughs_34 (G : en_G) (hst : G.2.2.2.2.2 = true) (kc : Nat → en_B) (hk : ∀ t, en_Snd G M_X11_coughs t (kc t)) : en_Snd G M_X11_coughs 34 (B_X11_coughs_34 kc) := (sn_aload_n (i := 0) (n := 0) (by decide +kernel) rfl (sn_gets (ci := 11) (j := 4) (off := 20) hst en_c11 of_11_20 (Nat.le_of_ble_eq_true rfl) (by decide +kernel) wm_24 (Nat.le_of_ble_eq_true rfl) rfl (sn_aload_n (i := 0) (n := 0) (by decide +kernel) rfl (sn_gets (ci := 11) (j := 3) (off := 15) hst en_c11 of_11_15 (Nat.le_of_ble_eq_true rfl) (by decide +kernel) wm_23 (Nat.le_of_ble_eq_true rfl) rfl (sn_callVv (n := 1) (idx := 318) (ci := 7) (i_X7_copy G hst) (Nat.le_of_ble_eq_true rfl) cs_X7_copy ⟨wm_1042, wm_1043, wm_232⟩ ⟨⟨_, rfl, rfl⟩, (Nat.le_of_ble_eq_true rfl)⟩ (by decide +kernel) (sn_iload_n (i := 1) (n := 1) (by decide +kernel) rfl (sn_istore (i := 4) (by decide +kernel) (Nat.le_of_ble_eq_true rfl) (sn_aload_n (i := 0) (n := 0) (by decide +kernel) rfl (sn_gets (ci := 11) (j := 2) (off := 5) hst en_c11 of_11_5 (Nat.le_of_ble_eq_true rfl) (by decide +kernel) wm_18 (Nat.le_of_ble_eq_true rfl) rfl (sn_geti (ci := 10) (j := 3) en_c10 (by decide +kernel) wm_74 (Nat.le_of_ble_eq_true rfl) rfl (sn_iload_n (i := 3) (n := 3) (by decide +kernel) rfl (sn_iadd (by decide +kernel) (sn_istore (i := 5) (by decide +kernel) (Nat.le_of_ble_eq_true rfl) (sn_iconst (n := 0) (v := 0) (by decide +kernel) rfl (sn_istore (i := 6) (by decide +kernel) (Nat.le_of_ble_eq_true rfl) (hk 62))))))))))))))))
noncomputable def B_X11_coughs_32 (kc : Nat → en_B) : en_B := (op_const (-1 : Int32) op_iret)
set_option maxRecDepth 20000 in
theorem s_X11_coughs_32 (G : en_G) (hst : G.2.2.2.2.2 = true) (kc : Nat → en_B) (hk : ∀ t, en_Snd G M_X11_coughs t (kc t)) : en_Snd G M_X11_coughs 32 (B_X11_coughs_32 kc) := (sn_iconst (n := -1) (v := -1) (by decide +kernel) rfl (sn_iret (by decide +kernel) rfl))
noncomputable def B_X11_coughs_0 (kc : Nat → en_B) : en_B := (op_aload 0 (op_gets 11 5 (10, 0, 0) (op_geti 10 3 (op_ifeq (B_X11_coughs_32 kc) (op_iload 2 (op_const (1 : Int32) (op_iclt (B_X11_coughs_32 kc) (op_iload 2 (op_const (60 : Int32) (op_icgt (B_X11_coughs_32 kc) (op_iload 3 (op_const (1 : Int32) (op_iclt (B_X11_coughs_32 kc) (op_iload 3 (op_const (9 : Int32) (op_icgt (B_X11_coughs_32 kc) (B_X11_coughs_34 kc)))))))))))))))))
set_option maxRecDepth 20000 in
theorem s_X11_coughs_0 (G : en_G) (hst : G.2.2.2.2.2 = true) (kc : Nat → en_B) (hk : ∀ t, en_Snd G M_X11_coughs t (kc t)) : en_Snd G M_X11_coughs 0 (B_X11_coughs_0 kc) := (sn_aload_n (i := 0) (n := 0) (by decide +kernel) rfl (sn_gets (ci := 11) (j := 2) (off := 5) hst en_c11 of_11_5 (Nat.le_of_ble_eq_true rfl) (by decide +kernel) wm_18 (Nat.le_of_ble_eq_true rfl) rfl (sn_geti (ci := 10) (j := 3) en_c10 (by decide +kernel) wm_74 (Nat.le_of_ble_eq_true rfl) rfl (sn_ifeq (off := 25) (tgt := 32) (by decide +kernel) rfl (s_X11_coughs_32 G hst kc hk) (sn_iload_n (i := 2) (n := 2) (by decide +kernel) rfl (sn_iconst (n := 1) (v := 1) (by decide +kernel) rfl (sn_iclt (off := 20) (tgt := 32) (by decide +kernel) rfl (s_X11_coughs_32 G hst kc hk) (sn_iload_n (i := 2) (n := 2) (by decide +kernel) rfl (sn_bipush (n := 60) (v := 60) (by decide +kernel) rfl (sn_icgt (off := 14) (tgt := 32) (by decide +kernel) rfl (s_X11_coughs_32 G hst kc hk) (sn_iload_n (i := 3) (n := 3) (by decide +kernel) rfl (sn_iconst (n := 1) (v := 1) (by decide +kernel) rfl (sn_iclt (off := 9) (tgt := 32) (by decide +kernel) rfl (s_X11_coughs_32 G hst kc hk) (sn_iload_n (i := 3) (n := 3) (by decide +kernel) rfl (sn_bipush (n := 9) (v := 9) (by decide +kernel) rfl (sn_icle (off := 5) (tgt := 34) (by decide +kernel) rfl (s_X11_coughs_34 G hst kc hk) (s_X11_coughs_32 G hst kc hk)))))))))))))))))
noncomputable def LK_X11_coughs : Nat → Nat → en_B
  | 0, _ => en_no
  | n + 1, t => if t = 62 then B_X11_coughs_62 (LK_X11_coughs n) else if t = 137 then B_X11_coughs_137 (LK_X11_coughs n) else en_no
theorem l_X11_coughs (G : en_G) (hst : G.2.2.2.2.2 = true) : ∀ n t, en_Snd G M_X11_coughs t (LK_X11_coughs n t)
  | 0, _ => sn_no
  | n + 1, t => by
    show en_Snd G M_X11_coughs t (if t = 62 then B_X11_coughs_62 (LK_X11_coughs n) else if t = 137 then B_X11_coughs_137 (LK_X11_coughs n) else en_no)
    by_cases h_62 : t = 62
    · rw [if_pos h_62, h_62]; exact s_X11_coughs_62 G hst _ (l_X11_coughs G hst n)
    rw [if_neg h_62]
    by_cases h_137 : t = 137
    · rw [if_pos h_137, h_137]; exact s_X11_coughs_137 G hst _ (l_X11_coughs G hst n)
    rw [if_neg h_137]
    exact sn_no
noncomputable def T_X11_coughs_0 (x1 : Int32) (x2 : Int32) (x3 : Int32) (σ : en_M) : en_R := B_X11_coughs_0 (LK_X11_coughs en_FU) [.inr (0, 11, 0, 0), .inl x1, .inl x2, .inl x3, en_un, en_un, en_un, en_un, en_un, en_un] [] en_zz σ
noncomputable def T_X11_coughs_62 (n : Nat) (x1 : Int32) (x2 : Int32) (x3 : Int32) (x4 : Int32) (x5 : Int32) (x6 : Int32) (u7 : en_V) (σ : en_M) : en_R := LK_X11_coughs n 62 [.inr (0, 11, 0, 0), .inl x1, .inl x2, .inl x3, .inl x4, .inl x5, .inl x6, u7, en_un, en_un] [] en_zz σ
noncomputable def T_X11_coughs_137 (n : Nat) (x1 : Int32) (x2 : Int32) (x3 : Int32) (x4 : Int32) (x5 : Int32) (x6 : Int32) (x7 : Int32) (x8 : Int32) (u9 : en_V) (σ : en_M) : en_R := LK_X11_coughs n 137 [.inr (0, 11, 0, 0), .inl x1, .inl x2, .inl x3, .inl x4, .inl x5, .inl x6, .inl x7, .inl x8, u9] [] en_zz σ
set_option maxRecDepth 20000 in
set_option maxHeartbeats 2000000 in
theorem t_X11_coughs_0 (x1 : Int32) (x2 : Int32) (x3 : Int32) (σ : en_M) : T_X11_coughs_0 x1 x2 x3 σ = (if (σ 5 3) = 0 then (en_ri (-1 : Int32) σ) else (if x2 < (1 : Int32) then (en_ri (-1 : Int32) σ) else (if (60 : Int32) < x2 then (en_ri (-1 : Int32) σ) else (if x3 < (1 : Int32) then (en_ri (-1 : Int32) σ) else (if (9 : Int32) < x3 then (en_ri (-1 : Int32) σ) else ((O_X7_copy [.inr (20, 7, 0, 0), .inr (15, 7, 0, 0)] σ).bind fun r1 => T_X11_coughs_62 en_FU x1 x2 x3 x1 ((r1 5 3) + x3) (0 : Int32) (en_un) r1)))))) := rfl
set_option maxRecDepth 20000 in
set_option maxHeartbeats 2000000 in
theorem t_X11_coughs_62 (n : Nat) (x1 : Int32) (x2 : Int32) (x3 : Int32) (x4 : Int32) (x5 : Int32) (x6 : Int32) (u7 : en_V) (σ : en_M) : T_X11_coughs_62 (n + 1) x1 x2 x3 x4 x5 x6 u7 σ = (if x6 < x2 then (if x5 = 0 then none else ((O_X10_hasRinger [.inr (5, 10, 0, 0), .inl ((en_ush ((x4 * (1103515245 : Int32)) + (12345 : Int32)) (16 : Int32)) - (en_ush ((x4 * (1103515245 : Int32)) + (12345 : Int32)) (16 : Int32)) / x5 * x5)] σ).bind fun r2 => if r2.1 = 0 then ((O_X10_ring [.inr (5, 10, 0, 0), .inr (20, 7, 0, 0), .inl (0 : Int32)] r2.2).bind fun r3 => T_X11_coughs_62 n x1 x2 x3 ((x4 * (1103515245 : Int32)) + (12345 : Int32)) x5 (x6 + (1 : Int32)) (.inl ((en_ush ((x4 * (1103515245 : Int32)) + (12345 : Int32)) (16 : Int32)) - (en_ush ((x4 * (1103515245 : Int32)) + (12345 : Int32)) (16 : Int32)) / x5 * x5)) r3.2) else ((O_X10_ring [.inr (5, 10, 0, 0), .inr (20, 7, 0, 0), .inl (en_shl (1 : Int32) ((en_ush ((x4 * (1103515245 : Int32)) + (12345 : Int32)) (16 : Int32)) - (en_ush ((x4 * (1103515245 : Int32)) + (12345 : Int32)) (16 : Int32)) / x5 * x5))] r2.2).bind fun r4 => T_X11_coughs_62 n x1 x2 x3 ((x4 * (1103515245 : Int32)) + (12345 : Int32)) x5 (x6 + (1 : Int32)) (.inl ((en_ush ((x4 * (1103515245 : Int32)) + (12345 : Int32)) (16 : Int32)) - (en_ush ((x4 * (1103515245 : Int32)) + (12345 : Int32)) (16 : Int32)) / x5 * x5)) r4.2))) else (T_X11_coughs_137 n x1 x2 x3 x4 x5 (-1 : Int32) (0 : Int32) (0 : Int32) (en_un) σ)) := rfl
set_option maxRecDepth 20000 in
set_option maxHeartbeats 2000000 in
theorem t_X11_coughs_137 (n : Nat) (x1 : Int32) (x2 : Int32) (x3 : Int32) (x4 : Int32) (x5 : Int32) (x6 : Int32) (x7 : Int32) (x8 : Int32) (u9 : en_V) (σ : en_M) : T_X11_coughs_137 (n + 1) x1 x2 x3 x4 x5 x6 x7 x8 u9 σ = (if x8 < (σ 5 3) then ((en_ix x8 7).bind fun j11 => (en_ix x8 7).bind fun j12 => if x7 < ((σ 22 j11) - (σ 17 j12)) then (T_X11_coughs_137 n x1 x2 x3 x4 x5 x8 ((σ 22 j11) - (σ 17 j12)) (x8 + (1 : Int32)) (.inl ((σ 22 j11) - (σ 17 j12))) σ) else (T_X11_coughs_137 n x1 x2 x3 x4 x5 x6 x7 (x8 + (1 : Int32)) (.inl ((σ 22 j11) - (σ 17 j12))) σ)) else ((O_X9_begin [.inr (3, 9, 0, 0)] σ).bind fun r5 => (O_X11_sum [.inr (23, 20, 7, 0)] r5).bind fun r6 => (O_X11_sum [.inr (18, 20, 7, 0)] r6.2).bind fun r7 => (O_X9_add [.inr (3, 9, 0, 0), .inl (r6.1 - r7.1)] r7.2).bind fun r8 => (O_X9_add [.inr (3, 9, 0, 0), .inl x6] r8).bind fun r9 => (O_X9_add [.inr (3, 9, 0, 0), .inl x7] r9).bind fun r10 => en_ri ((r10 20 6) - (r10 15 6)) r10)) := rfl
noncomputable def P_X11_coughs : List en_V → en_M → Option (Int32 × en_M) := fun av σ => match av with
  | [.inr (0, 11, 0, 0), .inl x1, .inl x2, .inl x3] => en_oi (T_X11_coughs_0 x1 x2 x3 σ)
  | _ => none
theorem ox_X11_coughs : ∃ f, f = P_X11_coughs := ⟨_, rfl⟩
noncomputable def O_X11_coughs : List en_V → en_M → Option (Int32 × en_M) := Classical.choose ox_X11_coughs
theorem oe_X11_coughs : O_X11_coughs = P_X11_coughs := Classical.choose_spec ox_X11_coughs
theorem o_X11_coughs (x1 : Int32) (x2 : Int32) (x3 : Int32) (σ : en_M) : O_X11_coughs [.inr (0, 11, 0, 0), .inl x1, .inl x2, .inl x3] σ = en_oi (T_X11_coughs_0 x1 x2 x3 σ) := by rw [oe_X11_coughs]; rfl
theorem i_X11_coughs (G : en_G) (hst : G.2.2.2.2.2 = true) : en_I G 5 yX11_coughs cX11_coughs 10 (some .int) 0 0 (en_wi (O_X11_coughs)) := en_of_i (M := M_X11_coughs) hst (s_X11_coughs_0 G hst _ (l_X11_coughs G hst en_FU)) (plainFor_of_name (by decide +kernel)) rfl rfl rfl (Or.inl ⟨rfl, rfl⟩) (fun av σ x σ' h => by
  rw [oe_X11_coughs] at h; unfold P_X11_coughs at h
  split at h
  · exact ⟨(Nat.le_of_ble_eq_true rfl), en_oi_some h⟩
  · cases h)
-- EachMayMissOne.keep(I)Z
def M_X11_keep : en_Me := (cX11_keep, RX11, 2, false, 3, true)
theorem cs_X11_keep : en_cs yX11_keep cX11_keep 2 (some .boolean) 1 := ⟨wm_238, wm_2, ⟨(by decide +kernel), (by decide +kernel), (by decide +kernel)⟩, (Nat.le_of_ble_eq_true rfl)⟩
noncomputable def B_X11_keep_0 (kc : Nat → en_B) : en_B := (op_aload 0 (op_gets 11 87 (1, 0, 0) (op_iload 1 (op_aload 0 (op_gets 11 15 (7, 0, 0) (op_rcv 1 2 (op_calli O_X1_put 3 op_zret)))))))
set_option maxRecDepth 20000 in
theorem s_X11_keep_0 (G : en_G) (hst : G.2.2.2.2.2 = true) (kc : Nat → en_B) (hk : ∀ t, en_Snd G M_X11_keep t (kc t)) : en_Snd G M_X11_keep 0 (B_X11_keep_0 kc) := (sn_aload_n (i := 0) (n := 0) (by decide +kernel) rfl (sn_gets (ci := 11) (j := 6) (off := 87) hst en_c11 of_11_87 (Nat.le_of_ble_eq_true rfl) (by decide +kernel) wm_34 (Nat.le_of_ble_eq_true rfl) rfl (sn_iload_n (i := 1) (n := 1) (by decide +kernel) rfl (sn_aload_n (i := 0) (n := 0) (by decide +kernel) rfl (sn_gets (ci := 11) (j := 3) (off := 15) hst en_c11 of_11_15 (Nat.le_of_ble_eq_true rfl) (by decide +kernel) wm_23 (Nat.le_of_ble_eq_true rfl) rfl (sn_callVi (n := 2) (idx := 325) (ci := 1) (i_X1_put G hst) (Nat.le_of_ble_eq_true rfl) cs_X1_put ⟨wm_770, wm_771, wm_241⟩ ⟨⟨_, rfl, rfl⟩, (Nat.le_of_ble_eq_true rfl)⟩ (by decide +kernel) (sn_zret (by decide +kernel))))))))
noncomputable def LK_X11_keep : Nat → Nat → en_B
  | 0, _ => en_no
  | n + 1, t => en_no
theorem l_X11_keep (G : en_G) (hst : G.2.2.2.2.2 = true) : ∀ n t, en_Snd G M_X11_keep t (LK_X11_keep n t)
  | 0, _ => sn_no
  | n + 1, t => by
    show en_Snd G M_X11_keep t (en_no)
    exact sn_no
noncomputable def T_X11_keep_0 (x1 : Int32) (σ : en_M) : en_R := B_X11_keep_0 (LK_X11_keep en_FU) [.inr (0, 11, 0, 0), .inl x1] [] en_zz σ
set_option maxRecDepth 20000 in
set_option maxHeartbeats 2000000 in
theorem t_X11_keep_0 (x1 : Int32) (σ : en_M) : T_X11_keep_0 x1 σ = ((O_X1_put [.inr (87, 1, 0, 0), .inl x1, .inr (15, 7, 0, 0)] σ).bind fun r1 => if r1.1 = 0 ∨ r1.1 = 1 then en_ri r1.1 r1.2 else none) := rfl
noncomputable def P_X11_keep : List en_V → en_M → Option (Int32 × en_M) := fun av σ => match av with
  | [.inr (0, 11, 0, 0), .inl x1] => en_oi (T_X11_keep_0 x1 σ)
  | _ => none
theorem ox_X11_keep : ∃ f, f = P_X11_keep := ⟨_, rfl⟩
noncomputable def O_X11_keep : List en_V → en_M → Option (Int32 × en_M) := Classical.choose ox_X11_keep
theorem oe_X11_keep : O_X11_keep = P_X11_keep := Classical.choose_spec ox_X11_keep
theorem o_X11_keep (x1 : Int32) (σ : en_M) : O_X11_keep [.inr (0, 11, 0, 0), .inl x1] σ = en_oi (T_X11_keep_0 x1 σ) := by rw [oe_X11_keep]; rfl
theorem i_X11_keep (G : en_G) (hst : G.2.2.2.2.2 = true) : en_I G 3 yX11_keep cX11_keep 2 (some .boolean) 0 0 (en_wi (O_X11_keep)) := en_of_i (M := M_X11_keep) hst (s_X11_keep_0 G hst _ (l_X11_keep G hst en_FU)) (plainFor_of_name (by decide +kernel)) rfl rfl rfl (Or.inr ⟨rfl, rfl⟩) (fun av σ x σ' h => by
  rw [oe_X11_keep] at h; unfold P_X11_keep at h
  split at h
  · exact ⟨(Nat.le_of_ble_eq_true rfl), en_oi_some h⟩
  · cases h)
-- EachMayMissOne.again(I)Z
def M_X11_again : en_Me := (cX11_again, RX11, 2, false, 3, true)
theorem cs_X11_again : en_cs yX11_again cX11_again 2 (some .boolean) 1 := ⟨wm_242, wm_2, ⟨(by decide +kernel), (by decide +kernel), (by decide +kernel)⟩, (Nat.le_of_ble_eq_true rfl)⟩
noncomputable def B_X11_again_17 (kc : Nat → en_B) : en_B := (op_aload 0 (op_gets 11 25 (4, 0, 0) (op_rcv 4 0 (op_callv O_X4_forget 1 (op_const (1 : Int32) op_zret)))))
set_option maxRecDepth 20000 in
theorem s_X11_again_17 (G : en_G) (hst : G.2.2.2.2.2 = true) (kc : Nat → en_B) (hk : ∀ t, en_Snd G M_X11_again t (kc t)) : en_Snd G M_X11_again 17 (B_X11_again_17 kc) := (sn_aload_n (i := 0) (n := 0) (by decide +kernel) rfl (sn_gets (ci := 11) (j := 5) (off := 25) hst en_c11 of_11_25 (Nat.le_of_ble_eq_true rfl) (by decide +kernel) wm_29 (Nat.le_of_ble_eq_true rfl) rfl (sn_callVv (n := 0) (idx := 106) (ci := 4) (i_X4_forget G hst) (Nat.le_of_ble_eq_true rfl) cs_X4_forget ⟨wm_866, wm_867, wm_68⟩ ⟨⟨_, rfl, rfl⟩, (Nat.le_of_ble_eq_true rfl)⟩ (by decide +kernel) (sn_iconst (n := 1) (v := 1) (by decide +kernel) rfl (sn_zret (by decide +kernel))))))
noncomputable def B_X11_again_0 (kc : Nat → en_B) : en_B := (op_aload 0 (op_gets 11 87 (1, 0, 0) (op_iload 1 (op_aload 0 (op_gets 11 15 (7, 0, 0) (op_rcv 1 2 (op_calli O_X1_restore 3 (op_ifeq (op_const (0 : Int32) op_zret) (B_X11_again_17 kc)))))))))
set_option maxRecDepth 20000 in
theorem s_X11_again_0 (G : en_G) (hst : G.2.2.2.2.2 = true) (kc : Nat → en_B) (hk : ∀ t, en_Snd G M_X11_again t (kc t)) : en_Snd G M_X11_again 0 (B_X11_again_0 kc) := (sn_aload_n (i := 0) (n := 0) (by decide +kernel) rfl (sn_gets (ci := 11) (j := 6) (off := 87) hst en_c11 of_11_87 (Nat.le_of_ble_eq_true rfl) (by decide +kernel) wm_34 (Nat.le_of_ble_eq_true rfl) rfl (sn_iload_n (i := 1) (n := 1) (by decide +kernel) rfl (sn_aload_n (i := 0) (n := 0) (by decide +kernel) rfl (sn_gets (ci := 11) (j := 3) (off := 15) hst en_c11 of_11_15 (Nat.le_of_ble_eq_true rfl) (by decide +kernel) wm_23 (Nat.le_of_ble_eq_true rfl) rfl (sn_callVi (n := 2) (idx := 328) (ci := 1) (i_X1_restore G hst) (Nat.le_of_ble_eq_true rfl) cs_X1_restore ⟨wm_774, wm_775, wm_245⟩ ⟨⟨_, rfl, rfl⟩, (Nat.le_of_ble_eq_true rfl)⟩ (by decide +kernel) (sn_ifne (off := 5) (tgt := 17) (by decide +kernel) rfl (s_X11_again_17 G hst kc hk) (sn_iconst (n := 0) (v := 0) (by decide +kernel) rfl (sn_zret (by decide +kernel))))))))))
noncomputable def LK_X11_again : Nat → Nat → en_B
  | 0, _ => en_no
  | n + 1, t => en_no
theorem l_X11_again (G : en_G) (hst : G.2.2.2.2.2 = true) : ∀ n t, en_Snd G M_X11_again t (LK_X11_again n t)
  | 0, _ => sn_no
  | n + 1, t => by
    show en_Snd G M_X11_again t (en_no)
    exact sn_no
noncomputable def T_X11_again_0 (x1 : Int32) (σ : en_M) : en_R := B_X11_again_0 (LK_X11_again en_FU) [.inr (0, 11, 0, 0), .inl x1] [] en_zz σ
set_option maxRecDepth 20000 in
set_option maxHeartbeats 2000000 in
theorem t_X11_again_0 (x1 : Int32) (σ : en_M) : T_X11_again_0 x1 σ = ((O_X1_restore [.inr (87, 1, 0, 0), .inl x1, .inr (15, 7, 0, 0)] σ).bind fun r1 => if r1.1 = 0 then (if (0 : Int32) = 0 ∨ (0 : Int32) = 1 then en_ri (0 : Int32) r1.2 else none) else ((O_X4_forget [.inr (25, 4, 0, 0)] r1.2).bind fun r2 => if (1 : Int32) = 0 ∨ (1 : Int32) = 1 then en_ri (1 : Int32) r2 else none)) := rfl
noncomputable def P_X11_again : List en_V → en_M → Option (Int32 × en_M) := fun av σ => match av with
  | [.inr (0, 11, 0, 0), .inl x1] => en_oi (T_X11_again_0 x1 σ)
  | _ => none
theorem ox_X11_again : ∃ f, f = P_X11_again := ⟨_, rfl⟩
noncomputable def O_X11_again : List en_V → en_M → Option (Int32 × en_M) := Classical.choose ox_X11_again
theorem oe_X11_again : O_X11_again = P_X11_again := Classical.choose_spec ox_X11_again
theorem o_X11_again (x1 : Int32) (σ : en_M) : O_X11_again [.inr (0, 11, 0, 0), .inl x1] σ = en_oi (T_X11_again_0 x1 σ) := by rw [oe_X11_again]; rfl
theorem i_X11_again (G : en_G) (hst : G.2.2.2.2.2 = true) : en_I G 3 yX11_again cX11_again 2 (some .boolean) 0 0 (en_wi (O_X11_again)) := en_of_i (M := M_X11_again) hst (s_X11_again_0 G hst _ (l_X11_again G hst en_FU)) (plainFor_of_name (by decide +kernel)) rfl rfl rfl (Or.inr ⟨rfl, rfl⟩) (fun av σ x σ' h => by
  rw [oe_X11_again] at h; unfold P_X11_again at h
  split at h
  · exact ⟨(Nat.le_of_ble_eq_true rfl), en_oi_some h⟩
  · cases h)
-- EachMayMissOne.count(I)I
def M_X11_count : en_Me := (cX11_count, RX11, 2, false, 2, false)
theorem cs_X11_count : en_cs yX11_count cX11_count 2 (some .int) 1 := ⟨wm_246, wm_2, ⟨(by decide +kernel), (by decide +kernel), (by decide +kernel)⟩, (Nat.le_of_ble_eq_true rfl)⟩
noncomputable def B_X11_count_196 (kc : Nat → en_B) : en_B := (op_const (-100 : Int32) op_iret)
set_option maxRecDepth 20000 in
theorem s_X11_count_196 (G : en_G) (hst : G.2.2.2.2.2 = true) (kc : Nat → en_B) (hk : ∀ t, en_Snd G M_X11_count t (kc t)) : en_Snd G M_X11_count 196 (B_X11_count_196 kc) := (sn_bipush (n := -100) (v := -100) (by decide +kernel) rfl (sn_iret (by decide +kernel) rfl))
noncomputable def B_X11_count_188 (kc : Nat → en_B) : en_B := (op_aload 0 (op_gets 11 1 (8, 0, 0) (op_geti 8 1 op_iret)))
set_option maxRecDepth 20000 in
theorem s_X11_count_188 (G : en_G) (hst : G.2.2.2.2.2 = true) (kc : Nat → en_B) (hk : ∀ t, en_Snd G M_X11_count t (kc t)) : en_Snd G M_X11_count 188 (B_X11_count_188 kc) := (sn_aload_n (i := 0) (n := 0) (by decide +kernel) rfl (sn_gets (ci := 11) (j := 0) (off := 1) hst en_c11 of_11_1 (Nat.le_of_ble_eq_true rfl) (by decide +kernel) wm_8 (Nat.le_of_ble_eq_true rfl) rfl (sn_geti (ci := 8) (j := 1) en_c8 (by decide +kernel) wm_57 (Nat.le_of_ble_eq_true rfl) rfl (sn_iret (by decide +kernel) rfl))))
noncomputable def B_X11_count_180 (kc : Nat → en_B) : en_B := (op_aload 0 (op_gets 11 3 (9, 0, 0) (op_geti 9 1 op_iret)))
set_option maxRecDepth 20000 in
theorem s_X11_count_180 (G : en_G) (hst : G.2.2.2.2.2 = true) (kc : Nat → en_B) (hk : ∀ t, en_Snd G M_X11_count t (kc t)) : en_Snd G M_X11_count 180 (B_X11_count_180 kc) := (sn_aload_n (i := 0) (n := 0) (by decide +kernel) rfl (sn_gets (ci := 11) (j := 1) (off := 3) hst en_c11 of_11_3 (Nat.le_of_ble_eq_true rfl) (by decide +kernel) wm_13 (Nat.le_of_ble_eq_true rfl) rfl (sn_geti (ci := 9) (j := 1) en_c9 (by decide +kernel) wm_251 (Nat.le_of_ble_eq_true rfl) rfl (sn_iret (by decide +kernel) rfl))))
noncomputable def B_X11_count_172 (kc : Nat → en_B) : en_B := (op_aload 0 (op_gets 11 25 (4, 0, 0) (op_geti 4 2 op_iret)))
set_option maxRecDepth 20000 in
theorem s_X11_count_172 (G : en_G) (hst : G.2.2.2.2.2 = true) (kc : Nat → en_B) (hk : ∀ t, en_Snd G M_X11_count t (kc t)) : en_Snd G M_X11_count 172 (B_X11_count_172 kc) := (sn_aload_n (i := 0) (n := 0) (by decide +kernel) rfl (sn_gets (ci := 11) (j := 5) (off := 25) hst en_c11 of_11_25 (Nat.le_of_ble_eq_true rfl) (by decide +kernel) wm_29 (Nat.le_of_ble_eq_true rfl) rfl (sn_geti (ci := 4) (j := 2) en_c4 (by decide +kernel) wm_139 (Nat.le_of_ble_eq_true rfl) rfl (sn_iret (by decide +kernel) rfl))))
noncomputable def B_X11_count_164 (kc : Nat → en_B) : en_B := (op_aload 0 (op_gets 11 5 (10, 0, 0) (op_geti 10 6 op_iret)))
set_option maxRecDepth 20000 in
theorem s_X11_count_164 (G : en_G) (hst : G.2.2.2.2.2 = true) (kc : Nat → en_B) (hk : ∀ t, en_Snd G M_X11_count t (kc t)) : en_Snd G M_X11_count 164 (B_X11_count_164 kc) := (sn_aload_n (i := 0) (n := 0) (by decide +kernel) rfl (sn_gets (ci := 11) (j := 2) (off := 5) hst en_c11 of_11_5 (Nat.le_of_ble_eq_true rfl) (by decide +kernel) wm_18 (Nat.le_of_ble_eq_true rfl) rfl (sn_geti (ci := 10) (j := 6) en_c10 (by decide +kernel) wm_102 (Nat.le_of_ble_eq_true rfl) rfl (sn_iret (by decide +kernel) rfl))))
noncomputable def B_X11_count_156 (kc : Nat → en_B) : en_B := (op_aload 0 (op_gets 11 5 (10, 0, 0) (op_geti 10 5 op_iret)))
set_option maxRecDepth 20000 in
theorem s_X11_count_156 (G : en_G) (hst : G.2.2.2.2.2 = true) (kc : Nat → en_B) (hk : ∀ t, en_Snd G M_X11_count t (kc t)) : en_Snd G M_X11_count 156 (B_X11_count_156 kc) := (sn_aload_n (i := 0) (n := 0) (by decide +kernel) rfl (sn_gets (ci := 11) (j := 2) (off := 5) hst en_c11 of_11_5 (Nat.le_of_ble_eq_true rfl) (by decide +kernel) wm_18 (Nat.le_of_ble_eq_true rfl) rfl (sn_geti (ci := 10) (j := 5) en_c10 (by decide +kernel) wm_101 (Nat.le_of_ble_eq_true rfl) rfl (sn_iret (by decide +kernel) rfl))))
noncomputable def B_X11_count_148 (kc : Nat → en_B) : en_B := (op_aload 0 (op_gets 11 15 (7, 0, 0) (op_geti 7 8 op_iret)))
set_option maxRecDepth 20000 in
theorem s_X11_count_148 (G : en_G) (hst : G.2.2.2.2.2 = true) (kc : Nat → en_B) (hk : ∀ t, en_Snd G M_X11_count t (kc t)) : en_Snd G M_X11_count 148 (B_X11_count_148 kc) := (sn_aload_n (i := 0) (n := 0) (by decide +kernel) rfl (sn_gets (ci := 11) (j := 3) (off := 15) hst en_c11 of_11_15 (Nat.le_of_ble_eq_true rfl) (by decide +kernel) wm_23 (Nat.le_of_ble_eq_true rfl) rfl (sn_geti (ci := 7) (j := 8) en_c7 (by decide +kernel) wm_116 (Nat.le_of_ble_eq_true rfl) rfl (sn_iret (by decide +kernel) rfl))))
noncomputable def B_X11_count_140 (kc : Nat → en_B) : en_B := (op_aload 0 (op_gets 11 5 (10, 0, 0) (op_geti 10 4 op_iret)))
set_option maxRecDepth 20000 in
theorem s_X11_count_140 (G : en_G) (hst : G.2.2.2.2.2 = true) (kc : Nat → en_B) (hk : ∀ t, en_Snd G M_X11_count t (kc t)) : en_Snd G M_X11_count 140 (B_X11_count_140 kc) := (sn_aload_n (i := 0) (n := 0) (by decide +kernel) rfl (sn_gets (ci := 11) (j := 2) (off := 5) hst en_c11 of_11_5 (Nat.le_of_ble_eq_true rfl) (by decide +kernel) wm_18 (Nat.le_of_ble_eq_true rfl) rfl (sn_geti (ci := 10) (j := 4) en_c10 (by decide +kernel) wm_250 (Nat.le_of_ble_eq_true rfl) rfl (sn_iret (by decide +kernel) rfl))))
noncomputable def B_X11_count_129 (kc : Nat → en_B) : en_B := (op_aload 0 (op_gets 11 15 (7, 0, 0) (op_gets 7 1 (20, 7, 0) (op_calli O_X11_sum 1 op_iret))))
set_option maxRecDepth 20000 in
theorem s_X11_count_129 (G : en_G) (hst : G.2.2.2.2.2 = true) (kc : Nat → en_B) (hk : ∀ t, en_Snd G M_X11_count t (kc t)) : en_Snd G M_X11_count 129 (B_X11_count_129 kc) := (sn_aload_n (i := 0) (n := 0) (by decide +kernel) rfl (sn_gets (ci := 11) (j := 3) (off := 15) hst en_c11 of_11_15 (Nat.le_of_ble_eq_true rfl) (by decide +kernel) wm_23 (Nat.le_of_ble_eq_true rfl) rfl (sn_gets (ci := 7) (j := 0) (off := 1) hst en_c7 of_7_1 (Nat.le_of_ble_eq_true rfl) (by decide +kernel) wm_86 (Nat.le_of_ble_eq_true rfl) rfl (sn_callSi (n := 1) (idx := 190) (i_X11_sum G hst) (Nat.le_of_ble_eq_true rfl) cs_X11_sum ⟨wm_272, Or.inl wm_108⟩ (by decide +kernel) (sn_iret (by decide +kernel) rfl)))))
noncomputable def B_X11_count_118 (kc : Nat → en_B) : en_B := (op_aload 0 (op_gets 11 15 (7, 0, 0) (op_gets 7 2 (20, 7, 0) (op_calli O_X11_sum 1 op_iret))))
set_option maxRecDepth 20000 in
theorem s_X11_count_118 (G : en_G) (hst : G.2.2.2.2.2 = true) (kc : Nat → en_B) (hk : ∀ t, en_Snd G M_X11_count t (kc t)) : en_Snd G M_X11_count 118 (B_X11_count_118 kc) := (sn_aload_n (i := 0) (n := 0) (by decide +kernel) rfl (sn_gets (ci := 11) (j := 3) (off := 15) hst en_c11 of_11_15 (Nat.le_of_ble_eq_true rfl) (by decide +kernel) wm_23 (Nat.le_of_ble_eq_true rfl) rfl (sn_gets (ci := 7) (j := 1) (off := 2) hst en_c7 of_7_2 (Nat.le_of_ble_eq_true rfl) (by decide +kernel) wm_87 (Nat.le_of_ble_eq_true rfl) rfl (sn_callSi (n := 1) (idx := 190) (i_X11_sum G hst) (Nat.le_of_ble_eq_true rfl) cs_X11_sum ⟨wm_272, Or.inl wm_108⟩ (by decide +kernel) (sn_iret (by decide +kernel) rfl)))))
noncomputable def B_X11_count_107 (kc : Nat → en_B) : en_B := (op_aload 0 (op_gets 11 15 (7, 0, 0) (op_gets 7 3 (20, 7, 0) (op_calli O_X11_sum 1 op_iret))))
set_option maxRecDepth 20000 in
theorem s_X11_count_107 (G : en_G) (hst : G.2.2.2.2.2 = true) (kc : Nat → en_B) (hk : ∀ t, en_Snd G M_X11_count t (kc t)) : en_Snd G M_X11_count 107 (B_X11_count_107 kc) := (sn_aload_n (i := 0) (n := 0) (by decide +kernel) rfl (sn_gets (ci := 11) (j := 3) (off := 15) hst en_c11 of_11_15 (Nat.le_of_ble_eq_true rfl) (by decide +kernel) wm_23 (Nat.le_of_ble_eq_true rfl) rfl (sn_gets (ci := 7) (j := 2) (off := 3) hst en_c7 of_7_3 (Nat.le_of_ble_eq_true rfl) (by decide +kernel) wm_88 (Nat.le_of_ble_eq_true rfl) rfl (sn_callSi (n := 1) (idx := 190) (i_X11_sum G hst) (Nat.le_of_ble_eq_true rfl) cs_X11_sum ⟨wm_272, Or.inl wm_108⟩ (by decide +kernel) (sn_iret (by decide +kernel) rfl)))))
noncomputable def B_X11_count_99 (kc : Nat → en_B) : en_B := (op_aload 0 (op_gets 11 15 (7, 0, 0) (op_geti 7 6 op_iret)))
set_option maxRecDepth 20000 in
theorem s_X11_count_99 (G : en_G) (hst : G.2.2.2.2.2 = true) (kc : Nat → en_B) (hk : ∀ t, en_Snd G M_X11_count t (kc t)) : en_Snd G M_X11_count 99 (B_X11_count_99 kc) := (sn_aload_n (i := 0) (n := 0) (by decide +kernel) rfl (sn_gets (ci := 11) (j := 3) (off := 15) hst en_c11 of_11_15 (Nat.le_of_ble_eq_true rfl) (by decide +kernel) wm_23 (Nat.le_of_ble_eq_true rfl) rfl (sn_geti (ci := 7) (j := 6) en_c7 (by decide +kernel) wm_133 (Nat.le_of_ble_eq_true rfl) rfl (sn_iret (by decide +kernel) rfl))))
noncomputable def B_X11_count_91 (kc : Nat → en_B) : en_B := (op_aload 0 (op_gets 11 15 (7, 0, 0) (op_geti 7 5 op_iret)))
set_option maxRecDepth 20000 in
theorem s_X11_count_91 (G : en_G) (hst : G.2.2.2.2.2 = true) (kc : Nat → en_B) (hk : ∀ t, en_Snd G M_X11_count t (kc t)) : en_Snd G M_X11_count 91 (B_X11_count_91 kc) := (sn_aload_n (i := 0) (n := 0) (by decide +kernel) rfl (sn_gets (ci := 11) (j := 3) (off := 15) hst en_c11 of_11_15 (Nat.le_of_ble_eq_true rfl) (by decide +kernel) wm_23 (Nat.le_of_ble_eq_true rfl) rfl (sn_geti (ci := 7) (j := 5) en_c7 (by decide +kernel) wm_123 (Nat.le_of_ble_eq_true rfl) rfl (sn_iret (by decide +kernel) rfl))))
noncomputable def B_X11_count_80 (kc : Nat → en_B) : en_B := (op_aload 0 (op_gets 11 5 (10, 0, 0) (op_gets 10 2 (0, 0, 0) (op_geti 0 2 op_iret))))
set_option maxRecDepth 20000 in
theorem s_X11_count_80 (G : en_G) (hst : G.2.2.2.2.2 = true) (kc : Nat → en_B) (hk : ∀ t, en_Snd G M_X11_count t (kc t)) : en_Snd G M_X11_count 80 (B_X11_count_80 kc) := (sn_aload_n (i := 0) (n := 0) (by decide +kernel) rfl (sn_gets (ci := 11) (j := 2) (off := 5) hst en_c11 of_11_5 (Nat.le_of_ble_eq_true rfl) (by decide +kernel) wm_18 (Nat.le_of_ble_eq_true rfl) rfl (sn_gets (ci := 10) (j := 1) (off := 2) hst en_c10 of_10_2 (Nat.le_of_ble_eq_true rfl) (by decide +kernel) wm_73 (Nat.le_of_ble_eq_true rfl) rfl (sn_geti (ci := 0) (j := 2) en_c0 (by decide +kernel) wm_249 (Nat.le_of_ble_eq_true rfl) rfl (sn_iret (by decide +kernel) rfl)))))
noncomputable def B_X11_count_72 (kc : Nat → en_B) : en_B := (op_aload 0 (op_gets 11 5 (10, 0, 0) (op_geti 10 3 op_iret)))
set_option maxRecDepth 20000 in
theorem s_X11_count_72 (G : en_G) (hst : G.2.2.2.2.2 = true) (kc : Nat → en_B) (hk : ∀ t, en_Snd G M_X11_count t (kc t)) : en_Snd G M_X11_count 72 (B_X11_count_72 kc) := (sn_aload_n (i := 0) (n := 0) (by decide +kernel) rfl (sn_gets (ci := 11) (j := 2) (off := 5) hst en_c11 of_11_5 (Nat.le_of_ble_eq_true rfl) (by decide +kernel) wm_18 (Nat.le_of_ble_eq_true rfl) rfl (sn_geti (ci := 10) (j := 3) en_c10 (by decide +kernel) wm_74 (Nat.le_of_ble_eq_true rfl) rfl (sn_iret (by decide +kernel) rfl))))
/-- the switch at 1 -/
noncomputable def B_X11_count_0 (kc : Nat → en_B) : en_B := (op_iload 1 (op_sw [((0 : Int32), (B_X11_count_72 kc)), ((1 : Int32), (B_X11_count_80 kc)), ((2 : Int32), (B_X11_count_91 kc)), ((3 : Int32), (B_X11_count_99 kc)), ((4 : Int32), (B_X11_count_107 kc)), ((5 : Int32), (B_X11_count_118 kc)), ((6 : Int32), (B_X11_count_129 kc)), ((7 : Int32), (B_X11_count_140 kc)), ((8 : Int32), (B_X11_count_148 kc)), ((9 : Int32), (B_X11_count_156 kc)), ((10 : Int32), (B_X11_count_164 kc)), ((11 : Int32), (B_X11_count_172 kc)), ((12 : Int32), (B_X11_count_180 kc)), ((13 : Int32), (B_X11_count_188 kc))] (B_X11_count_196 kc)))
set_option maxRecDepth 20000 in
theorem s_X11_count_0 (G : en_G) (hst : G.2.2.2.2.2 = true) (kc : Nat → en_B) (hk : ∀ t, en_Snd G M_X11_count t (kc t)) : en_Snd G M_X11_count 0 (B_X11_count_0 kc) := (sn_iload_n (i := 1) (n := 1) (by decide +kernel) rfl (sn_tsw (offs := #[71, 79, 90, 98, 106, 117, 128, 139, 147, 155, 163, 171, 179, 187]) (len := 71) (dflt := 195) (hi := 13) (dt := 196) (by decide +kernel) rfl (by decide) rfl (s_X11_count_196 G hst kc hk) (fun i hi => match i, hi with | 0, _ => ⟨rfl, 71, 72, rfl, rfl, (s_X11_count_72 G hst kc hk)⟩ | 1, _ => ⟨rfl, 79, 80, rfl, rfl, (s_X11_count_80 G hst kc hk)⟩ | 2, _ => ⟨rfl, 90, 91, rfl, rfl, (s_X11_count_91 G hst kc hk)⟩ | 3, _ => ⟨rfl, 98, 99, rfl, rfl, (s_X11_count_99 G hst kc hk)⟩ | 4, _ => ⟨rfl, 106, 107, rfl, rfl, (s_X11_count_107 G hst kc hk)⟩ | 5, _ => ⟨rfl, 117, 118, rfl, rfl, (s_X11_count_118 G hst kc hk)⟩ | 6, _ => ⟨rfl, 128, 129, rfl, rfl, (s_X11_count_129 G hst kc hk)⟩ | 7, _ => ⟨rfl, 139, 140, rfl, rfl, (s_X11_count_140 G hst kc hk)⟩ | 8, _ => ⟨rfl, 147, 148, rfl, rfl, (s_X11_count_148 G hst kc hk)⟩ | 9, _ => ⟨rfl, 155, 156, rfl, rfl, (s_X11_count_156 G hst kc hk)⟩ | 10, _ => ⟨rfl, 163, 164, rfl, rfl, (s_X11_count_164 G hst kc hk)⟩ | 11, _ => ⟨rfl, 171, 172, rfl, rfl, (s_X11_count_172 G hst kc hk)⟩ | 12, _ => ⟨rfl, 179, 180, rfl, rfl, (s_X11_count_180 G hst kc hk)⟩ | 13, _ => ⟨rfl, 187, 188, rfl, rfl, (s_X11_count_188 G hst kc hk)⟩ | n + 14, h9 => absurd h9 (by simp))))
noncomputable def LK_X11_count : Nat → Nat → en_B
  | 0, _ => en_no
  | n + 1, t => en_no
theorem l_X11_count (G : en_G) (hst : G.2.2.2.2.2 = true) : ∀ n t, en_Snd G M_X11_count t (LK_X11_count n t)
  | 0, _ => sn_no
  | n + 1, t => by
    show en_Snd G M_X11_count t (en_no)
    exact sn_no
noncomputable def T_X11_count_0 (x1 : Int32) (σ : en_M) : en_R := B_X11_count_0 (LK_X11_count en_FU) [.inr (0, 11, 0, 0), .inl x1] [] en_zz σ
set_option maxRecDepth 20000 in
set_option maxHeartbeats 2000000 in
theorem t_X11_count_0 (x1 : Int32) (σ : en_M) : T_X11_count_0 x1 σ = ((if x1 = (0 : Int32) then (en_ri (σ 5 3) σ) else (if x1 = (1 : Int32) then (en_ri (σ 7 2) σ) else (if x1 = (2 : Int32) then (en_ri (σ 15 5) σ) else (if x1 = (3 : Int32) then (en_ri (σ 15 6) σ) else (if x1 = (4 : Int32) then ((O_X11_sum [.inr (18, 20, 7, 0)] σ).bind fun r1 => en_ri r1.1 r1.2) else (if x1 = (5 : Int32) then ((O_X11_sum [.inr (17, 20, 7, 0)] σ).bind fun r2 => en_ri r2.1 r2.2) else (if x1 = (6 : Int32) then ((O_X11_sum [.inr (16, 20, 7, 0)] σ).bind fun r3 => en_ri r3.1 r3.2) else (if x1 = (7 : Int32) then (en_ri (σ 5 4) σ) else (if x1 = (8 : Int32) then (en_ri (σ 15 8) σ) else (if x1 = (9 : Int32) then (en_ri (σ 5 5) σ) else (if x1 = (10 : Int32) then (en_ri (σ 5 6) σ) else (if x1 = (11 : Int32) then (en_ri (σ 25 2) σ) else (if x1 = (12 : Int32) then (en_ri (σ 3 1) σ) else (if x1 = (13 : Int32) then (en_ri (σ 1 1) σ) else (en_ri (-100 : Int32) σ)))))))))))))))) := rfl
noncomputable def P_X11_count : List en_V → en_M → Option (Int32 × en_M) := fun av σ => match av with
  | [.inr (0, 11, 0, 0), .inl x1] => en_oi (T_X11_count_0 x1 σ)
  | _ => none
theorem ox_X11_count : ∃ f, f = P_X11_count := ⟨_, rfl⟩
noncomputable def O_X11_count : List en_V → en_M → Option (Int32 × en_M) := Classical.choose ox_X11_count
theorem oe_X11_count : O_X11_count = P_X11_count := Classical.choose_spec ox_X11_count
theorem o_X11_count (x1 : Int32) (σ : en_M) : O_X11_count [.inr (0, 11, 0, 0), .inl x1] σ = en_oi (T_X11_count_0 x1 σ) := by rw [oe_X11_count]; rfl
theorem i_X11_count (G : en_G) (hst : G.2.2.2.2.2 = true) : en_I G 2 yX11_count cX11_count 2 (some .int) 0 0 (en_wi (O_X11_count)) := en_of_i (M := M_X11_count) hst (s_X11_count_0 G hst _ (l_X11_count G hst en_FU)) (plainFor_of_name (by decide +kernel)) rfl rfl rfl (Or.inl ⟨rfl, rfl⟩) (fun av σ x σ' h => by
  rw [oe_X11_count] at h; unfold P_X11_count at h
  split at h
  · exact ⟨(Nat.le_of_ble_eq_true rfl), en_oi_some h⟩
  · cases h)
-- EachMayMissOneModel.thrown()I
def M_X12_thrown : en_Me := (cX12_thrown, RX12, 1, false, 1, false)
theorem cs_X12_thrown : en_cs yX12_thrown cX12_thrown 1 (some .int) 0 := ⟨wm_365, wm_337, ⟨(by decide +kernel), (by decide +kernel), (by decide +kernel)⟩, (Nat.le_of_ble_eq_true rfl)⟩
noncomputable def B_X12_thrown_0 (kc : Nat → en_B) : en_B := (op_aload 0 (op_geti 12 11 op_iret))
set_option maxRecDepth 20000 in
theorem s_X12_thrown_0 (G : en_G) (hst : G.2.2.2.2.2 = true) (kc : Nat → en_B) (hk : ∀ t, en_Snd G M_X12_thrown t (kc t)) : en_Snd G M_X12_thrown 0 (B_X12_thrown_0 kc) := (sn_aload_n (i := 0) (n := 0) (by decide +kernel) rfl (sn_geti (ci := 12) (j := 11) en_c12 (by decide +kernel) wm_368 (Nat.le_of_ble_eq_true rfl) rfl (sn_iret (by decide +kernel) rfl)))
noncomputable def LK_X12_thrown : Nat → Nat → en_B
  | 0, _ => en_no
  | n + 1, t => en_no
theorem l_X12_thrown (G : en_G) (hst : G.2.2.2.2.2 = true) : ∀ n t, en_Snd G M_X12_thrown t (LK_X12_thrown n t)
  | 0, _ => sn_no
  | n + 1, t => by
    show en_Snd G M_X12_thrown t (en_no)
    exact sn_no
noncomputable def T_X12_thrown_0 (σ : en_M) : en_R := B_X12_thrown_0 (LK_X12_thrown en_FU) [.inr (185, 12, 0, 0)] [] en_zz σ
set_option maxRecDepth 20000 in
set_option maxHeartbeats 2000000 in
theorem t_X12_thrown_0 (σ : en_M) : T_X12_thrown_0 σ = (en_ri (σ 185 11) σ) := rfl
noncomputable def P_X12_thrown : List en_V → en_M → Option (Int32 × en_M) := fun av σ => match av with
  | [.inr (185, 12, 0, 0)] => en_oi (T_X12_thrown_0 σ)
  | _ => none
theorem ox_X12_thrown : ∃ f, f = P_X12_thrown := ⟨_, rfl⟩
noncomputable def O_X12_thrown : List en_V → en_M → Option (Int32 × en_M) := Classical.choose ox_X12_thrown
theorem oe_X12_thrown : O_X12_thrown = P_X12_thrown := Classical.choose_spec ox_X12_thrown
theorem o_X12_thrown (σ : en_M) : O_X12_thrown [.inr (185, 12, 0, 0)] σ = en_oi (T_X12_thrown_0 σ) := by rw [oe_X12_thrown]; rfl
theorem i_X12_thrown (G : en_G) (hst : G.2.2.2.2.2 = true) : en_I G 1 yX12_thrown cX12_thrown 1 (some .int) 0 0 (en_wi (O_X12_thrown)) := en_of_i (M := M_X12_thrown) hst (s_X12_thrown_0 G hst _ (l_X12_thrown G hst en_FU)) (plainFor_of_name (by decide +kernel)) rfl rfl rfl (Or.inl ⟨rfl, rfl⟩) (fun av σ x σ' h => by
  rw [oe_X12_thrown] at h; unfold P_X12_thrown at h
  split at h
  · exact ⟨(Nat.le_of_ble_eq_true rfl), en_oi_some h⟩
  · cases h)
-- EachMayMissOneModel.in(III)Z
def M_X12_in : en_Me := (cX12_in, RX12, 3, false, 1, true)
theorem cs_X12_in : en_cs yX12_in cX12_in 3 (some .boolean) 3 := ⟨wm_369, wm_337, ⟨(by decide +kernel), (by decide +kernel), (by decide +kernel)⟩, (Nat.le_of_ble_eq_true rfl)⟩
noncomputable def B_X12_in_15 (kc : Nat → en_B) : en_B := op_zret
set_option maxRecDepth 20000 in
theorem s_X12_in_15 (G : en_G) (hst : G.2.2.2.2.2 = true) (kc : Nat → en_B) (hk : ∀ t, en_Snd G M_X12_in t (kc t)) : en_Snd G M_X12_in 15 (B_X12_in_15 kc) := (sn_zret (by decide +kernel))
noncomputable def B_X12_in_14 (kc : Nat → en_B) : en_B := (op_const (0 : Int32) (B_X12_in_15 kc))
set_option maxRecDepth 20000 in
theorem s_X12_in_14 (G : en_G) (hst : G.2.2.2.2.2 = true) (kc : Nat → en_B) (hk : ∀ t, en_Snd G M_X12_in t (kc t)) : en_Snd G M_X12_in 14 (B_X12_in_14 kc) := (sn_iconst (n := 0) (v := 0) (by decide +kernel) rfl (s_X12_in_15 G hst kc hk))
noncomputable def B_X12_in_0 (kc : Nat → en_B) : en_B := (op_iload 0 (op_iload 1 (op_iclt (B_X12_in_14 kc) (op_iload 0 (op_iload 2 (op_icgt (B_X12_in_14 kc) (op_const (1 : Int32) (B_X12_in_15 kc))))))))
set_option maxRecDepth 20000 in
theorem s_X12_in_0 (G : en_G) (hst : G.2.2.2.2.2 = true) (kc : Nat → en_B) (hk : ∀ t, en_Snd G M_X12_in t (kc t)) : en_Snd G M_X12_in 0 (B_X12_in_0 kc) := (sn_iload_n (i := 0) (n := 0) (by decide +kernel) rfl (sn_iload_n (i := 1) (n := 1) (by decide +kernel) rfl (sn_iclt (off := 12) (tgt := 14) (by decide +kernel) rfl (s_X12_in_14 G hst kc hk) (sn_iload_n (i := 0) (n := 0) (by decide +kernel) rfl (sn_iload_n (i := 2) (n := 2) (by decide +kernel) rfl (sn_icgt (off := 7) (tgt := 14) (by decide +kernel) rfl (s_X12_in_14 G hst kc hk) (sn_iconst (n := 1) (v := 1) (by decide +kernel) rfl (sn_goto (off := 4) (tgt := 15) (by decide +kernel) rfl (s_X12_in_15 G hst kc hk)))))))))
noncomputable def LK_X12_in : Nat → Nat → en_B
  | 0, _ => en_no
  | n + 1, t => en_no
theorem l_X12_in (G : en_G) (hst : G.2.2.2.2.2 = true) : ∀ n t, en_Snd G M_X12_in t (LK_X12_in n t)
  | 0, _ => sn_no
  | n + 1, t => by
    show en_Snd G M_X12_in t (en_no)
    exact sn_no
noncomputable def T_X12_in_0 (x0 : Int32) (x1 : Int32) (x2 : Int32) (σ : en_M) : en_R := B_X12_in_0 (LK_X12_in en_FU) [.inl x0, .inl x1, .inl x2] [] en_zz σ
set_option maxRecDepth 20000 in
set_option maxHeartbeats 2000000 in
theorem t_X12_in_0 (x0 : Int32) (x1 : Int32) (x2 : Int32) (σ : en_M) : T_X12_in_0 x0 x1 x2 σ = (if x0 < x1 then (if (0 : Int32) = 0 ∨ (0 : Int32) = 1 then en_ri (0 : Int32) σ else none) else (if x2 < x0 then (if (0 : Int32) = 0 ∨ (0 : Int32) = 1 then en_ri (0 : Int32) σ else none) else (if (1 : Int32) = 0 ∨ (1 : Int32) = 1 then en_ri (1 : Int32) σ else none))) := rfl
noncomputable def P_X12_in : List en_V → en_M → Option (Int32 × en_M) := fun av σ => match av with
  | [.inl x0, .inl x1, .inl x2] => en_oi (T_X12_in_0 x0 x1 x2 σ)
  | _ => none
theorem ox_X12_in : ∃ f, f = P_X12_in := ⟨_, rfl⟩
noncomputable def O_X12_in : List en_V → en_M → Option (Int32 × en_M) := Classical.choose ox_X12_in
theorem oe_X12_in : O_X12_in = P_X12_in := Classical.choose_spec ox_X12_in
theorem o_X12_in (x0 : Int32) (x1 : Int32) (x2 : Int32) (σ : en_M) : O_X12_in [.inl x0, .inl x1, .inl x2] σ = en_oi (T_X12_in_0 x0 x1 x2 σ) := by rw [oe_X12_in]; rfl
theorem i_X12_in (G : en_G) (hst : G.2.2.2.2.2 = true) : en_I G 1 yX12_in cX12_in 3 (some .boolean) 0 0 (en_wi (O_X12_in)) := en_of_i (M := M_X12_in) hst (s_X12_in_0 G hst _ (l_X12_in G hst en_FU)) (plainFor_of_name (by decide +kernel)) rfl rfl rfl (Or.inr ⟨rfl, rfl⟩) (fun av σ x σ' h => by
  rw [oe_X12_in] at h; unfold P_X12_in at h
  split at h
  · exact ⟨(Nat.le_of_ble_eq_true rfl), en_oi_some h⟩
  · cases h)
-- EachMayMissOneModel.has(II)Z
def M_X12_has : en_Me := (cX12_has, RX12, 2, false, 1, true)
theorem cs_X12_has : en_cs yX12_has cX12_has 2 (some .boolean) 2 := ⟨wm_371, wm_337, ⟨(by decide +kernel), (by decide +kernel), (by decide +kernel)⟩, (Nat.le_of_ble_eq_true rfl)⟩
noncomputable def B_X12_has_14 (kc : Nat → en_B) : en_B := op_zret
set_option maxRecDepth 20000 in
theorem s_X12_has_14 (G : en_G) (hst : G.2.2.2.2.2 = true) (kc : Nat → en_B) (hk : ∀ t, en_Snd G M_X12_has t (kc t)) : en_Snd G M_X12_has 14 (B_X12_has_14 kc) := (sn_zret (by decide +kernel))
noncomputable def B_X12_has_13 (kc : Nat → en_B) : en_B := (op_const (0 : Int32) (B_X12_has_14 kc))
set_option maxRecDepth 20000 in
theorem s_X12_has_13 (G : en_G) (hst : G.2.2.2.2.2 = true) (kc : Nat → en_B) (hk : ∀ t, en_Snd G M_X12_has t (kc t)) : en_Snd G M_X12_has 13 (B_X12_has_13 kc) := (sn_iconst (n := 0) (v := 0) (by decide +kernel) rfl (s_X12_has_14 G hst kc hk))
noncomputable def B_X12_has_0 (kc : Nat → en_B) : en_B := (op_iload 0 (op_iload 1 (op_bin en_shr (op_const (1 : Int32) (op_bin (fun (x y : Int32) => x &&& y) (op_const (1 : Int32) (op_iceq (op_const (1 : Int32) (B_X12_has_14 kc)) (B_X12_has_13 kc))))))))
set_option maxRecDepth 20000 in
theorem s_X12_has_0 (G : en_G) (hst : G.2.2.2.2.2 = true) (kc : Nat → en_B) (hk : ∀ t, en_Snd G M_X12_has t (kc t)) : en_Snd G M_X12_has 0 (B_X12_has_0 kc) := (sn_iload_n (i := 0) (n := 0) (by decide +kernel) rfl (sn_iload_n (i := 1) (n := 1) (by decide +kernel) rfl (sn_ishr (by decide +kernel) (sn_iconst (n := 1) (v := 1) (by decide +kernel) rfl (sn_iand (by decide +kernel) (sn_iconst (n := 1) (v := 1) (by decide +kernel) rfl (sn_icne (off := 7) (tgt := 13) (by decide +kernel) rfl (s_X12_has_13 G hst kc hk) (sn_iconst (n := 1) (v := 1) (by decide +kernel) rfl (sn_goto (off := 4) (tgt := 14) (by decide +kernel) rfl (s_X12_has_14 G hst kc hk))))))))))
noncomputable def LK_X12_has : Nat → Nat → en_B
  | 0, _ => en_no
  | n + 1, t => en_no
theorem l_X12_has (G : en_G) (hst : G.2.2.2.2.2 = true) : ∀ n t, en_Snd G M_X12_has t (LK_X12_has n t)
  | 0, _ => sn_no
  | n + 1, t => by
    show en_Snd G M_X12_has t (en_no)
    exact sn_no
noncomputable def T_X12_has_0 (x0 : Int32) (x1 : Int32) (σ : en_M) : en_R := B_X12_has_0 (LK_X12_has en_FU) [.inl x0, .inl x1] [] en_zz σ
set_option maxRecDepth 20000 in
set_option maxHeartbeats 2000000 in
theorem t_X12_has_0 (x0 : Int32) (x1 : Int32) (σ : en_M) : T_X12_has_0 x0 x1 σ = (if ((en_shr x0 x1) &&& (1 : Int32)) = (1 : Int32) then (if (1 : Int32) = 0 ∨ (1 : Int32) = 1 then en_ri (1 : Int32) σ else none) else (if (0 : Int32) = 0 ∨ (0 : Int32) = 1 then en_ri (0 : Int32) σ else none)) := rfl
noncomputable def P_X12_has : List en_V → en_M → Option (Int32 × en_M) := fun av σ => match av with
  | [.inl x0, .inl x1] => en_oi (T_X12_has_0 x0 x1 σ)
  | _ => none
theorem ox_X12_has : ∃ f, f = P_X12_has := ⟨_, rfl⟩
noncomputable def O_X12_has : List en_V → en_M → Option (Int32 × en_M) := Classical.choose ox_X12_has
theorem oe_X12_has : O_X12_has = P_X12_has := Classical.choose_spec ox_X12_has
theorem o_X12_has (x0 : Int32) (x1 : Int32) (σ : en_M) : O_X12_has [.inl x0, .inl x1] σ = en_oi (T_X12_has_0 x0 x1 σ) := by rw [oe_X12_has]; rfl
theorem i_X12_has (G : en_G) (hst : G.2.2.2.2.2 = true) : en_I G 1 yX12_has cX12_has 2 (some .boolean) 0 0 (en_wi (O_X12_has)) := en_of_i (M := M_X12_has) hst (s_X12_has_0 G hst _ (l_X12_has G hst en_FU)) (plainFor_of_name (by decide +kernel)) rfl rfl rfl (Or.inr ⟨rfl, rfl⟩) (fun av σ x σ' h => by
  rw [oe_X12_has] at h; unfold P_X12_has at h
  split at h
  · exact ⟨(Nat.le_of_ble_eq_true rfl), en_oi_some h⟩
  · cases h)
-- EachMayMissOneModel.lost()I
def M_X12_lost : en_Me := (cX12_lost, RX12, 1, false, 1, false)
theorem cs_X12_lost : en_cs yX12_lost cX12_lost 1 (some .int) 0 := ⟨wm_373, wm_337, ⟨(by decide +kernel), (by decide +kernel), (by decide +kernel)⟩, (Nat.le_of_ble_eq_true rfl)⟩
noncomputable def B_X12_lost_0 (kc : Nat → en_B) : en_B := (op_aload 0 (op_const (1 : Int32) (op_puti 12 11 (op_const (0 : Int32) op_iret))))
set_option maxRecDepth 20000 in
theorem s_X12_lost_0 (G : en_G) (hst : G.2.2.2.2.2 = true) (kc : Nat → en_B) (hk : ∀ t, en_Snd G M_X12_lost t (kc t)) : en_Snd G M_X12_lost 0 (B_X12_lost_0 kc) := (sn_aload_n (i := 0) (n := 0) (by decide +kernel) rfl (sn_iconst (n := 1) (v := 1) (by decide +kernel) rfl (sn_puti (ci := 12) (j := 11) en_c12 (by decide +kernel) wm_368 (Nat.le_of_ble_eq_true rfl) rfl rfl rfl (sn_iconst (n := 0) (v := 0) (by decide +kernel) rfl (sn_iret (by decide +kernel) rfl)))))
noncomputable def LK_X12_lost : Nat → Nat → en_B
  | 0, _ => en_no
  | n + 1, t => en_no
theorem l_X12_lost (G : en_G) (hst : G.2.2.2.2.2 = true) : ∀ n t, en_Snd G M_X12_lost t (LK_X12_lost n t)
  | 0, _ => sn_no
  | n + 1, t => by
    show en_Snd G M_X12_lost t (en_no)
    exact sn_no
noncomputable def T_X12_lost_0 (σ : en_M) : en_R := B_X12_lost_0 (LK_X12_lost en_FU) [.inr (185, 12, 0, 0)] [] en_zz σ
set_option maxRecDepth 20000 in
set_option maxHeartbeats 2000000 in
theorem t_X12_lost_0 (σ : en_M) : T_X12_lost_0 σ = (en_ri (0 : Int32) (en_up σ 185 11 (1 : Int32))) := rfl
noncomputable def P_X12_lost : List en_V → en_M → Option (Int32 × en_M) := fun av σ => match av with
  | [.inr (185, 12, 0, 0)] => en_oi (T_X12_lost_0 σ)
  | _ => none
theorem ox_X12_lost : ∃ f, f = P_X12_lost := ⟨_, rfl⟩
noncomputable def O_X12_lost : List en_V → en_M → Option (Int32 × en_M) := Classical.choose ox_X12_lost
theorem oe_X12_lost : O_X12_lost = P_X12_lost := Classical.choose_spec ox_X12_lost
theorem o_X12_lost (σ : en_M) : O_X12_lost [.inr (185, 12, 0, 0)] σ = en_oi (T_X12_lost_0 σ) := by rw [oe_X12_lost]; rfl
theorem i_X12_lost (G : en_G) (hst : G.2.2.2.2.2 = true) : en_I G 1 yX12_lost cX12_lost 1 (some .int) 0 0 (en_wi (O_X12_lost)) := en_of_i (M := M_X12_lost) hst (s_X12_lost_0 G hst _ (l_X12_lost G hst en_FU)) (plainFor_of_name (by decide +kernel)) rfl rfl rfl (Or.inl ⟨rfl, rfl⟩) (fun av σ x σ' h => by
  rw [oe_X12_lost] at h; unfold P_X12_lost at h
  split at h
  · exact ⟨(Nat.le_of_ble_eq_true rfl), en_oi_some h⟩
  · cases h)
-- EachMayMissOneModel.tell(I)V
def M_X12_tell : en_Me := (cX12_tell, RX12, 2, false, 1, false)
theorem cs_X12_tell : en_cs yX12_tell cX12_tell 2 none 1 := ⟨wm_376, wm_337, ⟨(by decide +kernel), (by decide +kernel), (by decide +kernel)⟩, (Nat.le_of_ble_eq_true rfl)⟩
noncomputable def B_X12_tell_0 (kc : Nat → en_B) : en_B := (op_aload 0 (op_gets 12 5 (20, 20, 0) (op_aload 0 (op_geti 12 10 (op_iload 1 (op_ast 20 (fun (x : Int32) => x) (op_aload 0 (op_dup (op_geti 12 10 (op_const (1 : Int32) (op_bin (fun (x y : Int32) => x + y) (op_puti 12 10 op_vret))))))))))))
set_option maxRecDepth 20000 in
theorem s_X12_tell_0 (G : en_G) (hst : G.2.2.2.2.2 = true) (kc : Nat → en_B) (hk : ∀ t, en_Snd G M_X12_tell t (kc t)) : en_Snd G M_X12_tell 0 (B_X12_tell_0 kc) := (sn_aload_n (i := 0) (n := 0) (by decide +kernel) rfl (sn_gets (ci := 12) (j := 9) (off := 5) hst en_c12 of_12_5 (Nat.le_of_ble_eq_true rfl) (by decide +kernel) wm_346 (Nat.le_of_ble_eq_true rfl) rfl (sn_aload_n (i := 0) (n := 0) (by decide +kernel) rfl (sn_geti (ci := 12) (j := 10) en_c12 (by decide +kernel) wm_379 (Nat.le_of_ble_eq_true rfl) rfl (sn_iload_n (i := 1) (n := 1) (by decide +kernel) rfl (sn_iast (by decide +kernel) (sn_aload_n (i := 0) (n := 0) (by decide +kernel) rfl (sn_dup (by decide +kernel) (sn_geti (ci := 12) (j := 10) en_c12 (by decide +kernel) wm_379 (Nat.le_of_ble_eq_true rfl) rfl (sn_iconst (n := 1) (v := 1) (by decide +kernel) rfl (sn_iadd (by decide +kernel) (sn_puti (ci := 12) (j := 10) en_c12 (by decide +kernel) wm_379 (Nat.le_of_ble_eq_true rfl) rfl rfl rfl (sn_vret (by decide +kernel))))))))))))))
noncomputable def LK_X12_tell : Nat → Nat → en_B
  | 0, _ => en_no
  | n + 1, t => en_no
theorem l_X12_tell (G : en_G) (hst : G.2.2.2.2.2 = true) : ∀ n t, en_Snd G M_X12_tell t (LK_X12_tell n t)
  | 0, _ => sn_no
  | n + 1, t => by
    show en_Snd G M_X12_tell t (en_no)
    exact sn_no
noncomputable def T_X12_tell_0 (x1 : Int32) (σ : en_M) : en_R := B_X12_tell_0 (LK_X12_tell en_FU) [.inr (185, 12, 0, 0), .inl x1] [] en_zz σ
set_option maxRecDepth 20000 in
set_option maxHeartbeats 2000000 in
theorem t_X12_tell_0 (x1 : Int32) (σ : en_M) : T_X12_tell_0 x1 σ = ((en_ix (σ 185 10) 20).bind fun j1 => en_rv (en_up (en_up σ 190 j1 x1) 185 10 ((σ 185 10) + (1 : Int32)))) := rfl
noncomputable def P_X12_tell : List en_V → en_M → Option en_M := fun av σ => match av with
  | [.inr (185, 12, 0, 0), .inl x1] => en_ov (T_X12_tell_0 x1 σ)
  | _ => none
theorem ox_X12_tell : ∃ f, f = P_X12_tell := ⟨_, rfl⟩
noncomputable def O_X12_tell : List en_V → en_M → Option en_M := Classical.choose ox_X12_tell
theorem oe_X12_tell : O_X12_tell = P_X12_tell := Classical.choose_spec ox_X12_tell
theorem o_X12_tell (x1 : Int32) (σ : en_M) : O_X12_tell [.inr (185, 12, 0, 0), .inl x1] σ = en_ov (T_X12_tell_0 x1 σ) := by rw [oe_X12_tell]; rfl
theorem i_X12_tell (G : en_G) (hst : G.2.2.2.2.2 = true) : en_I G 1 yX12_tell cX12_tell 2 none 0 0 (en_wv (O_X12_tell)) := en_of_v (M := M_X12_tell) hst (s_X12_tell_0 G hst _ (l_X12_tell G hst en_FU)) (plainFor_of_name (by decide +kernel)) rfl rfl rfl (fun av σ σ' h => by
  rw [oe_X12_tell] at h; unfold P_X12_tell at h
  split at h
  · exact ⟨(Nat.le_of_ble_eq_true rfl), en_ov_some h⟩
  · cases h)
-- EachMayMissOneModel.isOne(I)Z
def M_X12_isOne : en_Me := (cX12_isOne, RX12, 2, false, 2, true)
theorem cs_X12_isOne : en_cs yX12_isOne cX12_isOne 2 (some .boolean) 1 := ⟨wm_380, wm_337, ⟨(by decide +kernel), (by decide +kernel), (by decide +kernel)⟩, (Nat.le_of_ble_eq_true rfl)⟩
noncomputable def B_X12_isOne_0 (kc : Nat → en_B) : en_B := (op_iload 1 (op_const (0 : Int32) (op_aload 0 (op_geti 12 1 (op_const (1 : Int32) (op_bin (fun (x y : Int32) => x - y) (op_calli O_X12_in 3 op_zret)))))))
set_option maxRecDepth 20000 in
theorem s_X12_isOne_0 (G : en_G) (hst : G.2.2.2.2.2 = true) (kc : Nat → en_B) (hk : ∀ t, en_Snd G M_X12_isOne t (kc t)) : en_Snd G M_X12_isOne 0 (B_X12_isOne_0 kc) := (sn_iload_n (i := 1) (n := 1) (by decide +kernel) rfl (sn_iconst (n := 0) (v := 0) (by decide +kernel) rfl (sn_aload_n (i := 0) (n := 0) (by decide +kernel) rfl (sn_geti (ci := 12) (j := 1) en_c12 (by decide +kernel) wm_383 (Nat.le_of_ble_eq_true rfl) rfl (sn_iconst (n := 1) (v := 1) (by decide +kernel) rfl (sn_isub (by decide +kernel) (sn_callSi (n := 3) (idx := 100) (i_X12_in G hst) (Nat.le_of_ble_eq_true rfl) cs_X12_in ⟨wm_370, Or.inl wm_384⟩ (by decide +kernel) (sn_zret (by decide +kernel)))))))))
noncomputable def LK_X12_isOne : Nat → Nat → en_B
  | 0, _ => en_no
  | n + 1, t => en_no
theorem l_X12_isOne (G : en_G) (hst : G.2.2.2.2.2 = true) : ∀ n t, en_Snd G M_X12_isOne t (LK_X12_isOne n t)
  | 0, _ => sn_no
  | n + 1, t => by
    show en_Snd G M_X12_isOne t (en_no)
    exact sn_no
noncomputable def T_X12_isOne_0 (x1 : Int32) (σ : en_M) : en_R := B_X12_isOne_0 (LK_X12_isOne en_FU) [.inr (185, 12, 0, 0), .inl x1] [] en_zz σ
set_option maxRecDepth 20000 in
set_option maxHeartbeats 2000000 in
theorem t_X12_isOne_0 (x1 : Int32) (σ : en_M) : T_X12_isOne_0 x1 σ = ((O_X12_in [.inl x1, .inl (0 : Int32), .inl ((σ 185 1) - (1 : Int32))] σ).bind fun r1 => if r1.1 = 0 ∨ r1.1 = 1 then en_ri r1.1 r1.2 else none) := rfl
noncomputable def P_X12_isOne : List en_V → en_M → Option (Int32 × en_M) := fun av σ => match av with
  | [.inr (185, 12, 0, 0), .inl x1] => en_oi (T_X12_isOne_0 x1 σ)
  | _ => none
theorem ox_X12_isOne : ∃ f, f = P_X12_isOne := ⟨_, rfl⟩
noncomputable def O_X12_isOne : List en_V → en_M → Option (Int32 × en_M) := Classical.choose ox_X12_isOne
theorem oe_X12_isOne : O_X12_isOne = P_X12_isOne := Classical.choose_spec ox_X12_isOne
theorem o_X12_isOne (x1 : Int32) (σ : en_M) : O_X12_isOne [.inr (185, 12, 0, 0), .inl x1] σ = en_oi (T_X12_isOne_0 x1 σ) := by rw [oe_X12_isOne]; rfl
theorem i_X12_isOne (G : en_G) (hst : G.2.2.2.2.2 = true) : en_I G 2 yX12_isOne cX12_isOne 2 (some .boolean) 0 0 (en_wi (O_X12_isOne)) := en_of_i (M := M_X12_isOne) hst (s_X12_isOne_0 G hst _ (l_X12_isOne G hst en_FU)) (plainFor_of_name (by decide +kernel)) rfl rfl rfl (Or.inr ⟨rfl, rfl⟩) (fun av σ x σ' h => by
  rw [oe_X12_isOne] at h; unfold P_X12_isOne at h
  split at h
  · exact ⟨(Nat.le_of_ble_eq_true rfl), en_oi_some h⟩
  · cases h)
