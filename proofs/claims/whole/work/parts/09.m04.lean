-- EachMayMissOne$Tower.ring(LEachMayMissOne$State;I)I
def M_X10_ring : en_Me := (cX10_ring, RX10, 7, false, 4, false)
theorem cs_X10_ring : en_cs yX10_ring cX10_ring 7 (some .int) 2 := ⟨wm_1141, wm_16, ⟨(by decide +kernel), (by decide +kernel), (by decide +kernel)⟩, (Nat.le_of_ble_eq_true rfl)⟩
noncomputable def B_X10_ring_195 (kc : Nat → en_B) : en_B := (op_aload 1 (op_iload 2 (op_aload 1 (op_geti 7 4 (op_iload 2 (op_calli O_X11_placesOf 2 (op_aload 0 (op_gets 10 2 (0, 0, 0) (op_aload 1 (op_geti 7 4 (op_aload 0 (op_geti 10 3 (op_aload 1 (op_geti 7 5 (op_rcv 0 3 (op_calli O_X0_next 4 (op_rcv 7 3 (op_callv O_X7_goOn 4 (op_iload 3 op_iret)))))))))))))))))))
set_option maxRecDepth 20000 in
theorem s_X10_ring_195 (G : en_G) (hst : G.2.2.2.2.2 = true) (kc : Nat → en_B) (hk : ∀ t, en_Snd G M_X10_ring t (kc t)) : en_Snd G M_X10_ring 195 (B_X10_ring_195 kc) := (sn_aload_n (i := 1) (n := 1) (by decide +kernel) rfl (sn_iload_n (i := 2) (n := 2) (by decide +kernel) rfl (sn_aload_n (i := 1) (n := 1) (by decide +kernel) rfl (sn_geti (ci := 7) (j := 4) en_c7 (by decide +kernel) wm_1135 (Nat.le_of_ble_eq_true rfl) rfl (sn_iload_n (i := 2) (n := 2) (by decide +kernel) rfl (sn_callSi (n := 2) (idx := 64) (i_X11_placesOf G hst) (Nat.le_of_ble_eq_true rfl) cs_X11_placesOf ⟨wm_285, Or.inr (by decide +kernel)⟩ (by decide +kernel) (sn_aload_n (i := 0) (n := 0) (by decide +kernel) rfl (sn_gets (ci := 10) (j := 1) (off := 2) hst en_c10 of_10_2 (Nat.le_of_ble_eq_true rfl) (by decide +kernel) wm_1099 (Nat.le_of_ble_eq_true rfl) rfl (sn_aload_n (i := 1) (n := 1) (by decide +kernel) rfl (sn_geti (ci := 7) (j := 4) en_c7 (by decide +kernel) wm_1135 (Nat.le_of_ble_eq_true rfl) rfl (sn_aload_n (i := 0) (n := 0) (by decide +kernel) rfl (sn_geti (ci := 10) (j := 3) en_c10 (by decide +kernel) wm_1112 (Nat.le_of_ble_eq_true rfl) rfl (sn_aload_n (i := 1) (n := 1) (by decide +kernel) rfl (sn_geti (ci := 7) (j := 5) en_c7 (by decide +kernel) wm_1137 (Nat.le_of_ble_eq_true rfl) rfl (sn_callVi (n := 3) (idx := 128) (ci := 0) (i_X0_next G hst) (Nat.le_of_ble_eq_true rfl) cs_X0_next ⟨wm_758, wm_759, wm_1153⟩ ⟨⟨_, rfl, rfl⟩, (Nat.le_of_ble_eq_true rfl)⟩ (by decide +kernel) (sn_callVv (n := 3) (idx := 132) (ci := 7) (i_X7_goOn G hst) (Nat.le_of_ble_eq_true rfl) cs_X7_goOn ⟨wm_1062, wm_1063, wm_1154⟩ ⟨⟨_, rfl, rfl⟩, (Nat.le_of_ble_eq_true rfl)⟩ (by decide +kernel) (sn_iload_n (i := 3) (n := 3) (by decide +kernel) rfl (sn_iret (by decide +kernel) rfl))))))))))))))))))
noncomputable def B_X10_ring_189 (kc : Nat → en_B) : en_B := (op_iinc 5 (1 : Int32) (kc 54))
set_option maxRecDepth 20000 in
theorem s_X10_ring_189 (G : en_G) (hst : G.2.2.2.2.2 = true) (kc : Nat → en_B) (hk : ∀ t, en_Snd G M_X10_ring t (kc t)) : en_Snd G M_X10_ring 189 (B_X10_ring_189 kc) := (sn_iinc (i := 5) (n := 1) (v := 1) (by decide +kernel) rfl (sn_goto (off := -138) (tgt := 54) (by decide +kernel) rfl (hk 54)))
noncomputable def B_X10_ring_173 (kc : Nat → en_B) : en_B := (op_bin (fun (x y : Int32) => x + y) (op_ast 20 (fun (x : Int32) => x) (op_aload 1 (op_gets 7 1 (20, 7, 0) (op_iload 5 (op_const (99 : Int32) (op_iload 6 (op_calli O_J9_min_7cf53 2 (op_ast 20 (fun (x : Int32) => x) (B_X10_ring_189 kc))))))))))
set_option maxRecDepth 20000 in
theorem s_X10_ring_173 (G : en_G) (hst : G.2.2.2.2.2 = true) (kc : Nat → en_B) (hk : ∀ t, en_Snd G M_X10_ring t (kc t)) : en_Snd G M_X10_ring 173 (B_X10_ring_173 kc) := (sn_iadd (by decide +kernel) (sn_iast (by decide +kernel) (sn_aload_n (i := 1) (n := 1) (by decide +kernel) rfl (sn_gets (ci := 7) (j := 0) (off := 1) hst en_c7 of_7_1 (Nat.le_of_ble_eq_true rfl) (by decide +kernel) wm_1134 (Nat.le_of_ble_eq_true rfl) rfl (sn_iload (i := 5) (by decide +kernel) (sn_bipush (n := 99) (v := 99) (by decide +kernel) rfl (sn_iload (i := 6) (by decide +kernel) (sn_callSi (n := 2) (idx := 125) (i_J9_min_7cf53 G hst) (Nat.le_of_ble_eq_true rfl) cs_J9_min_7cf53 ⟨wm_263, Or.inl wm_1152⟩ (by decide +kernel) (sn_iast (by decide +kernel) (s_X10_ring_189 G hst kc hk))))))))))
noncomputable def B_X10_ring_172 (kc : Nat → en_B) : en_B := (op_const (0 : Int32) (B_X10_ring_173 kc))
set_option maxRecDepth 20000 in
theorem s_X10_ring_172 (G : en_G) (hst : G.2.2.2.2.2 = true) (kc : Nat → en_B) (hk : ∀ t, en_Snd G M_X10_ring t (kc t)) : en_Snd G M_X10_ring 172 (B_X10_ring_172 kc) := (sn_iconst (n := 0) (v := 0) (by decide +kernel) rfl (s_X10_ring_173 G hst kc hk))
noncomputable def B_X10_ring_149 (kc : Nat → en_B) : en_B := (op_bin (fun (x y : Int32) => x ||| y) (op_puti 7 9 (op_aload 1 (op_gets 7 3 (20, 7, 0) (op_iload 5 (op_dup2 (op_ald 20 (op_iload 6 (op_const (99 : Int32) (op_icgt (op_const (1 : Int32) (B_X10_ring_173 kc)) (B_X10_ring_172 kc)))))))))))
set_option maxRecDepth 20000 in
theorem s_X10_ring_149 (G : en_G) (hst : G.2.2.2.2.2 = true) (kc : Nat → en_B) (hk : ∀ t, en_Snd G M_X10_ring t (kc t)) : en_Snd G M_X10_ring 149 (B_X10_ring_149 kc) := (sn_ior (by decide +kernel) (sn_puti (ci := 7) (j := 9) en_c7 (by decide +kernel) wm_1148 (Nat.le_of_ble_eq_true rfl) rfl rfl rfl (sn_aload_n (i := 1) (n := 1) (by decide +kernel) rfl (sn_gets (ci := 7) (j := 2) (off := 3) hst en_c7 of_7_3 (Nat.le_of_ble_eq_true rfl) (by decide +kernel) wm_1151 (Nat.le_of_ble_eq_true rfl) rfl (sn_iload (i := 5) (by decide +kernel) (sn_dup2 (by decide +kernel) (sn_iald (by decide +kernel) (sn_iload (i := 6) (by decide +kernel) (sn_bipush (n := 99) (v := 99) (by decide +kernel) rfl (sn_icle (off := 7) (tgt := 172) (by decide +kernel) rfl (s_X10_ring_172 G hst kc hk) (sn_iconst (n := 1) (v := 1) (by decide +kernel) rfl (sn_goto (off := 4) (tgt := 173) (by decide +kernel) rfl (s_X10_ring_173 G hst kc hk)))))))))))))
noncomputable def B_X10_ring_148 (kc : Nat → en_B) : en_B := (op_const (0 : Int32) (B_X10_ring_149 kc))
set_option maxRecDepth 20000 in
theorem s_X10_ring_148 (G : en_G) (hst : G.2.2.2.2.2 = true) (kc : Nat → en_B) (hk : ∀ t, en_Snd G M_X10_ring t (kc t)) : en_Snd G M_X10_ring 148 (B_X10_ring_148 kc) := (sn_iconst (n := 0) (v := 0) (by decide +kernel) rfl (s_X10_ring_149 G hst kc hk))
noncomputable def B_X10_ring_110 (kc : Nat → en_B) : en_B := (op_aload 1 (op_gets 7 1 (20, 7, 0) (op_iload 5 (op_ald 20 (op_aload 0 (op_aload 1 (op_iload 5 (op_iload 4 (op_rcv 10 3 (op_calli O_X10_moreTired 4 (op_bin (fun (x y : Int32) => x + y) (op_istore 6 (op_aload 1 (op_dup (op_geti 7 9 (op_iload 6 (op_const (99 : Int32) (op_icgt (op_const (1 : Int32) (op_iload 5 (op_bin en_shl (B_X10_ring_149 kc)))) (B_X10_ring_148 kc)))))))))))))))))))
set_option maxRecDepth 20000 in
theorem s_X10_ring_110 (G : en_G) (hst : G.2.2.2.2.2 = true) (kc : Nat → en_B) (hk : ∀ t, en_Snd G M_X10_ring t (kc t)) : en_Snd G M_X10_ring 110 (B_X10_ring_110 kc) := (sn_aload_n (i := 1) (n := 1) (by decide +kernel) rfl (sn_gets (ci := 7) (j := 0) (off := 1) hst en_c7 of_7_1 (Nat.le_of_ble_eq_true rfl) (by decide +kernel) wm_1134 (Nat.le_of_ble_eq_true rfl) rfl (sn_iload (i := 5) (by decide +kernel) (sn_iald (by decide +kernel) (sn_aload_n (i := 0) (n := 0) (by decide +kernel) rfl (sn_aload_n (i := 1) (n := 1) (by decide +kernel) rfl (sn_iload (i := 5) (by decide +kernel) (sn_iload (i := 4) (by decide +kernel) (sn_callVi (n := 3) (idx := 118) (ci := 10) (i_X10_moreTired G hst) (Nat.le_of_ble_eq_true rfl) cs_X10_moreTired ⟨wm_1131, wm_1132, wm_1150⟩ ⟨⟨_, rfl, rfl⟩, (Nat.le_of_ble_eq_true rfl)⟩ (by decide +kernel) (sn_iadd (by decide +kernel) (sn_istore (i := 6) (by decide +kernel) (Nat.le_of_ble_eq_true rfl) (sn_aload_n (i := 1) (n := 1) (by decide +kernel) rfl (sn_dup (by decide +kernel) (sn_geti (ci := 7) (j := 9) en_c7 (by decide +kernel) wm_1148 (Nat.le_of_ble_eq_true rfl) rfl (sn_iload (i := 6) (by decide +kernel) (sn_bipush (n := 99) (v := 99) (by decide +kernel) rfl (sn_icle (off := 10) (tgt := 148) (by decide +kernel) rfl (s_X10_ring_148 G hst kc hk) (sn_iconst (n := 1) (v := 1) (by decide +kernel) rfl (sn_iload (i := 5) (by decide +kernel) (sn_ishl (by decide +kernel) (sn_goto (off := 4) (tgt := 149) (by decide +kernel) rfl (s_X10_ring_149 G hst kc hk))))))))))))))))))))))
noncomputable def B_X10_ring_54 (kc : Nat → en_B) : en_B := (op_iload 5 (op_aload 0 (op_geti 10 3 (op_iclt (op_iload 2 (op_iload 5 (op_calli O_X11_bit 2 (op_const (1 : Int32) (op_iceq (op_aload 1 (op_gets 7 2 (20, 7, 0) (op_iload 5 (op_dup2 (op_ald 20 (op_const (1 : Int32) (op_bin (fun (x y : Int32) => x + y) (op_ast 20 (fun (x : Int32) => x) (op_aload 1 (op_gets 7 1 (20, 7, 0) (op_iload 5 (op_const (0 : Int32) (op_aload 1 (op_gets 7 1 (20, 7, 0) (op_iload 5 (op_ald 20 (op_aload 0 (op_geti 10 6 (op_bin (fun (x y : Int32) => x - y) (op_calli O_J9_max_7cf53 2 (op_ast 20 (fun (x : Int32) => x) (B_X10_ring_189 kc)))))))))))))))))))))) (B_X10_ring_110 kc)))))) (B_X10_ring_195 kc)))))
set_option maxRecDepth 20000 in
theorem s_X10_ring_54 (G : en_G) (hst : G.2.2.2.2.2 = true) (kc : Nat → en_B) (hk : ∀ t, en_Snd G M_X10_ring t (kc t)) : en_Snd G M_X10_ring 54 (B_X10_ring_54 kc) := (sn_iload (i := 5) (by decide +kernel) (sn_aload_n (i := 0) (n := 0) (by decide +kernel) rfl (sn_geti (ci := 10) (j := 3) en_c10 (by decide +kernel) wm_1112 (Nat.le_of_ble_eq_true rfl) rfl (sn_icge (off := 135) (tgt := 195) (by decide +kernel) rfl (s_X10_ring_195 G hst kc hk) (sn_iload_n (i := 2) (n := 2) (by decide +kernel) rfl (sn_iload (i := 5) (by decide +kernel) (sn_callSi (n := 2) (idx := 67) (i_X11_bit G hst) (Nat.le_of_ble_eq_true rfl) cs_X11_bit ⟨wm_257, Or.inr (by decide +kernel)⟩ (by decide +kernel) (sn_iconst (n := 1) (v := 1) (by decide +kernel) rfl (sn_icne (off := 40) (tgt := 110) (by decide +kernel) rfl (s_X10_ring_110 G hst kc hk) (sn_aload_n (i := 1) (n := 1) (by decide +kernel) rfl (sn_gets (ci := 7) (j := 1) (off := 2) hst en_c7 of_7_2 (Nat.le_of_ble_eq_true rfl) (by decide +kernel) wm_1138 (Nat.le_of_ble_eq_true rfl) rfl (sn_iload (i := 5) (by decide +kernel) (sn_dup2 (by decide +kernel) (sn_iald (by decide +kernel) (sn_iconst (n := 1) (v := 1) (by decide +kernel) rfl (sn_iadd (by decide +kernel) (sn_iast (by decide +kernel) (sn_aload_n (i := 1) (n := 1) (by decide +kernel) rfl (sn_gets (ci := 7) (j := 0) (off := 1) hst en_c7 of_7_1 (Nat.le_of_ble_eq_true rfl) (by decide +kernel) wm_1134 (Nat.le_of_ble_eq_true rfl) rfl (sn_iload (i := 5) (by decide +kernel) (sn_iconst (n := 0) (v := 0) (by decide +kernel) rfl (sn_aload_n (i := 1) (n := 1) (by decide +kernel) rfl (sn_gets (ci := 7) (j := 0) (off := 1) hst en_c7 of_7_1 (Nat.le_of_ble_eq_true rfl) (by decide +kernel) wm_1134 (Nat.le_of_ble_eq_true rfl) rfl (sn_iload (i := 5) (by decide +kernel) (sn_iald (by decide +kernel) (sn_aload_n (i := 0) (n := 0) (by decide +kernel) rfl (sn_geti (ci := 10) (j := 6) en_c10 (by decide +kernel) wm_1106 (Nat.le_of_ble_eq_true rfl) rfl (sn_isub (by decide +kernel) (sn_callSi (n := 2) (idx := 113) (i_J9_max_7cf53 G hst) (Nat.le_of_ble_eq_true rfl) cs_J9_max_7cf53 ⟨wm_267, Or.inl wm_1149⟩ (by decide +kernel) (sn_iast (by decide +kernel) (sn_goto (off := 82) (tgt := 189) (by decide +kernel) rfl (s_X10_ring_189 G hst kc hk))))))))))))))))))))))))))))))))
noncomputable def B_X10_ring_36 (kc : Nat → en_B) : en_B := (op_bin (fun (x y : Int32) => x + y) (op_puti 7 6 (op_aload 1 (op_const (0 : Int32) (op_puti 7 9 (op_iload 2 (op_calli O_J6_bitCount_0f7a4 1 (op_istore 4 (op_const (0 : Int32) (op_istore 5 (kc 54)))))))))))
set_option maxRecDepth 20000 in
theorem s_X10_ring_36 (G : en_G) (hst : G.2.2.2.2.2 = true) (kc : Nat → en_B) (hk : ∀ t, en_Snd G M_X10_ring t (kc t)) : en_Snd G M_X10_ring 36 (B_X10_ring_36 kc) := (sn_iadd (by decide +kernel) (sn_puti (ci := 7) (j := 6) en_c7 (by decide +kernel) wm_1147 (Nat.le_of_ble_eq_true rfl) rfl rfl rfl (sn_aload_n (i := 1) (n := 1) (by decide +kernel) rfl (sn_iconst (n := 0) (v := 0) (by decide +kernel) rfl (sn_puti (ci := 7) (j := 9) en_c7 (by decide +kernel) wm_1148 (Nat.le_of_ble_eq_true rfl) rfl rfl rfl (sn_iload_n (i := 2) (n := 2) (by decide +kernel) rfl (sn_callSi (n := 1) (idx := 59) (i_J6_bitCount_0f7a4 G hst) (Nat.le_of_ble_eq_true rfl) cs_J6_bitCount_0f7a4 ⟨wm_511, Or.inl wm_1127⟩ (by decide +kernel) (sn_istore (i := 4) (by decide +kernel) (Nat.le_of_ble_eq_true rfl) (sn_iconst (n := 0) (v := 0) (by decide +kernel) rfl (sn_istore (i := 5) (by decide +kernel) (Nat.le_of_ble_eq_true rfl) (hk 54)))))))))))
noncomputable def B_X10_ring_35 (kc : Nat → en_B) : en_B := (op_const (1 : Int32) (B_X10_ring_36 kc))
set_option maxRecDepth 20000 in
theorem s_X10_ring_35 (G : en_G) (hst : G.2.2.2.2.2 = true) (kc : Nat → en_B) (hk : ∀ t, en_Snd G M_X10_ring t (kc t)) : en_Snd G M_X10_ring 35 (B_X10_ring_35 kc) := (sn_iconst (n := 1) (v := 1) (by decide +kernel) rfl (s_X10_ring_36 G hst kc hk))
noncomputable def B_X10_ring_0 (kc : Nat → en_B) : en_B := (op_aload 0 (op_aload 1 (op_geti 7 4 (op_aload 1 (op_geti 7 5 (op_iload 2 (op_aload 1 (op_geti 7 7 (op_aload 1 (op_geti 7 8 (op_rcv 10 5 (op_calli O_X10_breach 6 (op_istore 3 (op_aload 1 (op_dup (op_geti 7 6 (op_iload 3 (op_ifeq (op_const (0 : Int32) (B_X10_ring_36 kc)) (B_X10_ring_35 kc)))))))))))))))))))
set_option maxRecDepth 20000 in
theorem s_X10_ring_0 (G : en_G) (hst : G.2.2.2.2.2 = true) (kc : Nat → en_B) (hk : ∀ t, en_Snd G M_X10_ring t (kc t)) : en_Snd G M_X10_ring 0 (B_X10_ring_0 kc) := (sn_aload_n (i := 0) (n := 0) (by decide +kernel) rfl (sn_aload_n (i := 1) (n := 1) (by decide +kernel) rfl (sn_geti (ci := 7) (j := 4) en_c7 (by decide +kernel) wm_1135 (Nat.le_of_ble_eq_true rfl) rfl (sn_aload_n (i := 1) (n := 1) (by decide +kernel) rfl (sn_geti (ci := 7) (j := 5) en_c7 (by decide +kernel) wm_1137 (Nat.le_of_ble_eq_true rfl) rfl (sn_iload_n (i := 2) (n := 2) (by decide +kernel) rfl (sn_aload_n (i := 1) (n := 1) (by decide +kernel) rfl (sn_geti (ci := 7) (j := 7) en_c7 (by decide +kernel) wm_1144 (Nat.le_of_ble_eq_true rfl) rfl (sn_aload_n (i := 1) (n := 1) (by decide +kernel) rfl (sn_geti (ci := 7) (j := 8) en_c7 (by decide +kernel) wm_1145 (Nat.le_of_ble_eq_true rfl) rfl (sn_callVi (n := 5) (idx := 103) (ci := 10) (i_X10_breach G hst) (Nat.le_of_ble_eq_true rfl) cs_X10_breach ⟨wm_1125, wm_1126, wm_1146⟩ ⟨⟨_, rfl, rfl⟩, (Nat.le_of_ble_eq_true rfl)⟩ (by decide +kernel) (sn_istore_n (i := 3) (n := 3) (by decide +kernel) rfl (Nat.le_of_ble_eq_true rfl) (sn_aload_n (i := 1) (n := 1) (by decide +kernel) rfl (sn_dup (by decide +kernel) (sn_geti (ci := 7) (j := 6) en_c7 (by decide +kernel) wm_1147 (Nat.le_of_ble_eq_true rfl) rfl (sn_iload_n (i := 3) (n := 3) (by decide +kernel) rfl (sn_ifne (off := 7) (tgt := 35) (by decide +kernel) rfl (s_X10_ring_35 G hst kc hk) (sn_iconst (n := 0) (v := 0) (by decide +kernel) rfl (sn_goto (off := 4) (tgt := 36) (by decide +kernel) rfl (s_X10_ring_36 G hst kc hk))))))))))))))))))))
noncomputable def LK_X10_ring : Nat → Nat → en_B
  | 0, _ => en_no
  | n + 1, t => if t = 54 then B_X10_ring_54 (LK_X10_ring n) else en_no
theorem l_X10_ring (G : en_G) (hst : G.2.2.2.2.2 = true) : ∀ n t, en_Snd G M_X10_ring t (LK_X10_ring n t)
  | 0, _ => sn_no
  | n + 1, t => by
    show en_Snd G M_X10_ring t (if t = 54 then B_X10_ring_54 (LK_X10_ring n) else en_no)
    by_cases h_54 : t = 54
    · rw [if_pos h_54, h_54]; exact s_X10_ring_54 G hst _ (l_X10_ring G hst n)
    rw [if_neg h_54]
    exact sn_no
noncomputable def T_X10_ring_0 (k1 : Nat) (x2 : Int32) (σ : en_M) : en_R := B_X10_ring_0 (LK_X10_ring en_FU) [.inr (5, 10, 0, 0), .inr (k1, 7, 0, 0), .inl x2, en_un, en_un, en_un, en_un] [] en_zz σ
noncomputable def T_X10_ring_54 (n : Nat) (k1 : Nat) (x2 : Int32) (x3 : Int32) (x4 : Int32) (x5 : Int32) (u6 : en_V) (σ : en_M) : en_R := LK_X10_ring n 54 [.inr (5, 10, 0, 0), .inr (k1, 7, 0, 0), .inl x2, .inl x3, .inl x4, .inl x5, u6] [] en_zz σ
set_option maxRecDepth 20000 in
set_option maxHeartbeats 2000000 in
theorem t_X10_ring_0 (k1 : Nat) (x2 : Int32) (σ : en_M) : T_X10_ring_0 k1 x2 σ = ((O_X10_breach [.inr (5, 10, 0, 0), .inl (σ k1 4), .inl (σ k1 5), .inl x2, .inl (σ k1 7), .inl (σ k1 8)] σ).bind fun r1 => if r1.1 = 0 then ((O_J6_bitCount_0f7a4 [.inl x2] (en_up (en_up r1.2 k1 6 ((r1.2 k1 6) + (0 : Int32))) k1 9 (0 : Int32))).bind fun r3 => T_X10_ring_54 en_FU k1 x2 r1.1 r3.1 (0 : Int32) (en_un) r3.2) else ((O_J6_bitCount_0f7a4 [.inl x2] (en_up (en_up r1.2 k1 6 ((r1.2 k1 6) + (1 : Int32))) k1 9 (0 : Int32))).bind fun r2 => T_X10_ring_54 en_FU k1 x2 r1.1 r2.1 (0 : Int32) (en_un) r2.2)) := rfl
set_option maxRecDepth 20000 in
set_option maxHeartbeats 2000000 in
theorem t_X10_ring_54 (n : Nat) (k1 : Nat) (x2 : Int32) (x3 : Int32) (x4 : Int32) (x5 : Int32) (u6 : en_V) (σ : en_M) : T_X10_ring_54 (n + 1) k1 x2 x3 x4 x5 u6 σ = (if x5 < (σ 5 3) then ((O_X11_bit [.inl x2, .inl x5] σ).bind fun r7 => if r7.1 = (1 : Int32) then ((en_ix x5 7).bind fun j24 => (en_ix x5 7).bind fun j25 => (en_ix x5 7).bind fun j26 => (O_J9_max_7cf53 [.inl (0 : Int32), .inl (((en_up r7.2 (k1 + 2) j25 ((r7.2 (k1 + 2) j24) + (1 : Int32))) (k1 + 1) j26) - ((en_up r7.2 (k1 + 2) j25 ((r7.2 (k1 + 2) j24) + (1 : Int32))) 5 6))] (en_up r7.2 (k1 + 2) j25 ((r7.2 (k1 + 2) j24) + (1 : Int32)))).bind fun r27 => (en_ix x5 7).bind fun j28 => T_X10_ring_54 n k1 x2 x3 x4 (x5 + (1 : Int32)) (u6) (en_up r27.2 (k1 + 1) j28 r27.1)) else ((en_ix x5 7).bind fun j8 => (O_X10_moreTired [.inr (5, 10, 0, 0), .inr (k1, 7, 0, 0), .inl x5, .inl x4] r7.2).bind fun r9 => if (99 : Int32) < ((r7.2 (k1 + 1) j8) + r9.1) then ((en_ix x5 7).bind fun j17 => if (99 : Int32) < ((r7.2 (k1 + 1) j8) + r9.1) then ((en_ix x5 7).bind fun j21 => (O_J9_min_7cf53 [.inl (99 : Int32), .inl ((r7.2 (k1 + 1) j8) + r9.1)] (en_up (en_up r9.2 k1 9 ((r9.2 k1 9) ||| (en_shl (1 : Int32) x5))) (k1 + 3) j21 (((en_up r9.2 k1 9 ((r9.2 k1 9) ||| (en_shl (1 : Int32) x5))) (k1 + 3) j17) + (1 : Int32)))).bind fun r22 => (en_ix x5 7).bind fun j23 => T_X10_ring_54 n k1 x2 x3 x4 (x5 + (1 : Int32)) (.inl ((r7.2 (k1 + 1) j8) + r9.1)) (en_up r22.2 (k1 + 1) j23 r22.1)) else ((en_ix x5 7).bind fun j18 => (O_J9_min_7cf53 [.inl (99 : Int32), .inl ((r7.2 (k1 + 1) j8) + r9.1)] (en_up (en_up r9.2 k1 9 ((r9.2 k1 9) ||| (en_shl (1 : Int32) x5))) (k1 + 3) j18 (((en_up r9.2 k1 9 ((r9.2 k1 9) ||| (en_shl (1 : Int32) x5))) (k1 + 3) j17) + (0 : Int32)))).bind fun r19 => (en_ix x5 7).bind fun j20 => T_X10_ring_54 n k1 x2 x3 x4 (x5 + (1 : Int32)) (.inl ((r7.2 (k1 + 1) j8) + r9.1)) (en_up r19.2 (k1 + 1) j20 r19.1))) else ((en_ix x5 7).bind fun j10 => if (99 : Int32) < ((r7.2 (k1 + 1) j8) + r9.1) then ((en_ix x5 7).bind fun j14 => (O_J9_min_7cf53 [.inl (99 : Int32), .inl ((r7.2 (k1 + 1) j8) + r9.1)] (en_up (en_up r9.2 k1 9 ((r9.2 k1 9) ||| (0 : Int32))) (k1 + 3) j14 (((en_up r9.2 k1 9 ((r9.2 k1 9) ||| (0 : Int32))) (k1 + 3) j10) + (1 : Int32)))).bind fun r15 => (en_ix x5 7).bind fun j16 => T_X10_ring_54 n k1 x2 x3 x4 (x5 + (1 : Int32)) (.inl ((r7.2 (k1 + 1) j8) + r9.1)) (en_up r15.2 (k1 + 1) j16 r15.1)) else ((en_ix x5 7).bind fun j11 => (O_J9_min_7cf53 [.inl (99 : Int32), .inl ((r7.2 (k1 + 1) j8) + r9.1)] (en_up (en_up r9.2 k1 9 ((r9.2 k1 9) ||| (0 : Int32))) (k1 + 3) j11 (((en_up r9.2 k1 9 ((r9.2 k1 9) ||| (0 : Int32))) (k1 + 3) j10) + (0 : Int32)))).bind fun r12 => (en_ix x5 7).bind fun j13 => T_X10_ring_54 n k1 x2 x3 x4 (x5 + (1 : Int32)) (.inl ((r7.2 (k1 + 1) j8) + r9.1)) (en_up r12.2 (k1 + 1) j13 r12.1))))) else ((O_X11_placesOf [.inl (σ k1 4), .inl x2] σ).bind fun r4 => (O_X0_next [.inr (7, 0, 0, 0), .inl (r4.2 k1 4), .inl (r4.2 5 3), .inl (r4.2 k1 5)] r4.2).bind fun r5 => (O_X7_goOn [.inr (k1, 7, 0, 0), .inl x2, .inl r4.1, .inl r5.1] r5.2).bind fun r6 => en_ri x3 r6)) := rfl
noncomputable def P_X10_ring : List en_V → en_M → Option (Int32 × en_M) := fun av σ => match av with
  | [.inr (5, 10, 0, 0), .inr (k1, 7, 0, 0), .inl x2] => en_oi (T_X10_ring_0 k1 x2 σ)
  | _ => none
theorem ox_X10_ring : ∃ f, f = P_X10_ring := ⟨_, rfl⟩
noncomputable def O_X10_ring : List en_V → en_M → Option (Int32 × en_M) := Classical.choose ox_X10_ring
theorem oe_X10_ring : O_X10_ring = P_X10_ring := Classical.choose_spec ox_X10_ring
theorem o_X10_ring (k1 : Nat) (x2 : Int32) (σ : en_M) : O_X10_ring [.inr (5, 10, 0, 0), .inr (k1, 7, 0, 0), .inl x2] σ = en_oi (T_X10_ring_0 k1 x2 σ) := by rw [oe_X10_ring]; rfl
theorem i_X10_ring (G : en_G) (hst : G.2.2.2.2.2 = true) : en_I G 4 yX10_ring cX10_ring 7 (some .int) 0 0 (en_wi (O_X10_ring)) := en_of_i (M := M_X10_ring) hst (s_X10_ring_0 G hst _ (l_X10_ring G hst en_FU)) (plainFor_of_name (by decide +kernel)) rfl rfl rfl (Or.inl ⟨rfl, rfl⟩) (fun av σ x σ' h => by
  rw [oe_X10_ring] at h; unfold P_X10_ring at h
  split at h
  · exact ⟨(Nat.le_of_ble_eq_true rfl), en_oi_some h⟩
  · cases h)
-- EachMayMissOne$Tower.mostTiredThatMay(LEachMayMissOne$State;)I
def M_X10_mostTiredThatMay : en_Me := (cX10_mostTiredThatMay, RX10, 5, false, 4, false)
theorem cs_X10_mostTiredThatMay : en_cs yX10_mostTiredThatMay cX10_mostTiredThatMay 5 (some .int) 1 := ⟨wm_1155, wm_16, ⟨(by decide +kernel), (by decide +kernel), (by decide +kernel)⟩, (Nat.le_of_ble_eq_true rfl)⟩
noncomputable def B_X10_mostTiredThatMay_90 (kc : Nat → en_B) : en_B := op_iret
set_option maxRecDepth 20000 in
theorem s_X10_mostTiredThatMay_90 (G : en_G) (hst : G.2.2.2.2.2 = true) (kc : Nat → en_B) (hk : ∀ t, en_Snd G M_X10_mostTiredThatMay t (kc t)) : en_Snd G M_X10_mostTiredThatMay 90 (B_X10_mostTiredThatMay_90 kc) := (sn_iret (by decide +kernel) rfl)
noncomputable def B_X10_mostTiredThatMay_87 (kc : Nat → en_B) : en_B := (op_const (1 : Int32) (op_iload 2 (op_bin en_shl (B_X10_mostTiredThatMay_90 kc))))
set_option maxRecDepth 20000 in
theorem s_X10_mostTiredThatMay_87 (G : en_G) (hst : G.2.2.2.2.2 = true) (kc : Nat → en_B) (hk : ∀ t, en_Snd G M_X10_mostTiredThatMay t (kc t)) : en_Snd G M_X10_mostTiredThatMay 87 (B_X10_mostTiredThatMay_87 kc) := (sn_iconst (n := 1) (v := 1) (by decide +kernel) rfl (sn_iload_n (i := 2) (n := 2) (by decide +kernel) rfl (sn_ishl (by decide +kernel) (s_X10_mostTiredThatMay_90 G hst kc hk))))
noncomputable def B_X10_mostTiredThatMay_78 (kc : Nat → en_B) : en_B := (op_iload 2 (op_const (-1 : Int32) (op_iceq (op_const (0 : Int32) (B_X10_mostTiredThatMay_90 kc)) (B_X10_mostTiredThatMay_87 kc))))
set_option maxRecDepth 20000 in
theorem s_X10_mostTiredThatMay_78 (G : en_G) (hst : G.2.2.2.2.2 = true) (kc : Nat → en_B) (hk : ∀ t, en_Snd G M_X10_mostTiredThatMay t (kc t)) : en_Snd G M_X10_mostTiredThatMay 78 (B_X10_mostTiredThatMay_78 kc) := (sn_iload_n (i := 2) (n := 2) (by decide +kernel) rfl (sn_iconst (n := -1) (v := -1) (by decide +kernel) rfl (sn_icne (off := 7) (tgt := 87) (by decide +kernel) rfl (s_X10_mostTiredThatMay_87 G hst kc hk) (sn_iconst (n := 0) (v := 0) (by decide +kernel) rfl (sn_goto (off := 6) (tgt := 90) (by decide +kernel) rfl (s_X10_mostTiredThatMay_90 G hst kc hk))))))
noncomputable def B_X10_mostTiredThatMay_72 (kc : Nat → en_B) : en_B := (op_iinc 3 (1 : Int32) (kc 4))
set_option maxRecDepth 20000 in
theorem s_X10_mostTiredThatMay_72 (G : en_G) (hst : G.2.2.2.2.2 = true) (kc : Nat → en_B) (hk : ∀ t, en_Snd G M_X10_mostTiredThatMay t (kc t)) : en_Snd G M_X10_mostTiredThatMay 72 (B_X10_mostTiredThatMay_72 kc) := (sn_iinc (i := 3) (n := 1) (v := 1) (by decide +kernel) rfl (sn_goto (off := -71) (tgt := 4) (by decide +kernel) rfl (hk 4)))
noncomputable def B_X10_mostTiredThatMay_70 (kc : Nat → en_B) : en_B := (op_iload 3 (op_istore 2 (B_X10_mostTiredThatMay_72 kc)))
set_option maxRecDepth 20000 in
theorem s_X10_mostTiredThatMay_70 (G : en_G) (hst : G.2.2.2.2.2 = true) (kc : Nat → en_B) (hk : ∀ t, en_Snd G M_X10_mostTiredThatMay t (kc t)) : en_Snd G M_X10_mostTiredThatMay 70 (B_X10_mostTiredThatMay_70 kc) := (sn_iload_n (i := 3) (n := 3) (by decide +kernel) rfl (sn_istore_n (i := 2) (n := 2) (by decide +kernel) rfl (Nat.le_of_ble_eq_true rfl) (s_X10_mostTiredThatMay_72 G hst kc hk)))
noncomputable def B_X10_mostTiredThatMay_43 (kc : Nat → en_B) : en_B := (op_istore 4 (op_iload 4 (op_ifeq (B_X10_mostTiredThatMay_72 kc) (op_iload 2 (op_const (-1 : Int32) (op_iceq (B_X10_mostTiredThatMay_70 kc) (op_aload 1 (op_gets 7 1 (20, 7, 0) (op_iload 3 (op_ald 20 (op_aload 1 (op_gets 7 1 (20, 7, 0) (op_iload 2 (op_ald 20 (op_icgt (B_X10_mostTiredThatMay_70 kc) (B_X10_mostTiredThatMay_72 kc))))))))))))))))
set_option maxRecDepth 20000 in
theorem s_X10_mostTiredThatMay_43 (G : en_G) (hst : G.2.2.2.2.2 = true) (kc : Nat → en_B) (hk : ∀ t, en_Snd G M_X10_mostTiredThatMay t (kc t)) : en_Snd G M_X10_mostTiredThatMay 43 (B_X10_mostTiredThatMay_43 kc) := (sn_istore (i := 4) (by decide +kernel) (Nat.le_of_ble_eq_true rfl) (sn_iload (i := 4) (by decide +kernel) (sn_ifeq (off := 25) (tgt := 72) (by decide +kernel) rfl (s_X10_mostTiredThatMay_72 G hst kc hk) (sn_iload_n (i := 2) (n := 2) (by decide +kernel) rfl (sn_iconst (n := -1) (v := -1) (by decide +kernel) rfl (sn_iceq (off := 18) (tgt := 70) (by decide +kernel) rfl (s_X10_mostTiredThatMay_70 G hst kc hk) (sn_aload_n (i := 1) (n := 1) (by decide +kernel) rfl (sn_gets (ci := 7) (j := 0) (off := 1) hst en_c7 of_7_1 (Nat.le_of_ble_eq_true rfl) (by decide +kernel) wm_1134 (Nat.le_of_ble_eq_true rfl) rfl (sn_iload_n (i := 3) (n := 3) (by decide +kernel) rfl (sn_iald (by decide +kernel) (sn_aload_n (i := 1) (n := 1) (by decide +kernel) rfl (sn_gets (ci := 7) (j := 0) (off := 1) hst en_c7 of_7_1 (Nat.le_of_ble_eq_true rfl) (by decide +kernel) wm_1134 (Nat.le_of_ble_eq_true rfl) rfl (sn_iload_n (i := 2) (n := 2) (by decide +kernel) rfl (sn_iald (by decide +kernel) (sn_icle (off := 5) (tgt := 72) (by decide +kernel) rfl (s_X10_mostTiredThatMay_72 G hst kc hk) (s_X10_mostTiredThatMay_70 G hst kc hk))))))))))))))))
noncomputable def B_X10_mostTiredThatMay_42 (kc : Nat → en_B) : en_B := (op_const (0 : Int32) (B_X10_mostTiredThatMay_43 kc))
set_option maxRecDepth 20000 in
theorem s_X10_mostTiredThatMay_42 (G : en_G) (hst : G.2.2.2.2.2 = true) (kc : Nat → en_B) (hk : ∀ t, en_Snd G M_X10_mostTiredThatMay t (kc t)) : en_Snd G M_X10_mostTiredThatMay 42 (B_X10_mostTiredThatMay_42 kc) := (sn_iconst (n := 0) (v := 0) (by decide +kernel) rfl (s_X10_mostTiredThatMay_43 G hst kc hk))
noncomputable def B_X10_mostTiredThatMay_4 (kc : Nat → en_B) : en_B := (op_iload 3 (op_aload 0 (op_geti 10 3 (op_iclt (op_aload 0 (op_aload 1 (op_geti 7 4 (op_aload 1 (op_geti 7 5 (op_const (1 : Int32) (op_iload 3 (op_bin en_shl (op_aload 1 (op_geti 7 7 (op_aload 1 (op_geti 7 8 (op_rcv 10 5 (op_calli O_X10_breach 6 (op_ifeq (op_const (1 : Int32) (B_X10_mostTiredThatMay_43 kc)) (B_X10_mostTiredThatMay_42 kc)))))))))))))))) (B_X10_mostTiredThatMay_78 kc)))))
set_option maxRecDepth 20000 in
theorem s_X10_mostTiredThatMay_4 (G : en_G) (hst : G.2.2.2.2.2 = true) (kc : Nat → en_B) (hk : ∀ t, en_Snd G M_X10_mostTiredThatMay t (kc t)) : en_Snd G M_X10_mostTiredThatMay 4 (B_X10_mostTiredThatMay_4 kc) := (sn_iload_n (i := 3) (n := 3) (by decide +kernel) rfl (sn_aload_n (i := 0) (n := 0) (by decide +kernel) rfl (sn_geti (ci := 10) (j := 3) en_c10 (by decide +kernel) wm_1112 (Nat.le_of_ble_eq_true rfl) rfl (sn_icge (off := 69) (tgt := 78) (by decide +kernel) rfl (s_X10_mostTiredThatMay_78 G hst kc hk) (sn_aload_n (i := 0) (n := 0) (by decide +kernel) rfl (sn_aload_n (i := 1) (n := 1) (by decide +kernel) rfl (sn_geti (ci := 7) (j := 4) en_c7 (by decide +kernel) wm_1135 (Nat.le_of_ble_eq_true rfl) rfl (sn_aload_n (i := 1) (n := 1) (by decide +kernel) rfl (sn_geti (ci := 7) (j := 5) en_c7 (by decide +kernel) wm_1137 (Nat.le_of_ble_eq_true rfl) rfl (sn_iconst (n := 1) (v := 1) (by decide +kernel) rfl (sn_iload_n (i := 3) (n := 3) (by decide +kernel) rfl (sn_ishl (by decide +kernel) (sn_aload_n (i := 1) (n := 1) (by decide +kernel) rfl (sn_geti (ci := 7) (j := 7) en_c7 (by decide +kernel) wm_1144 (Nat.le_of_ble_eq_true rfl) rfl (sn_aload_n (i := 1) (n := 1) (by decide +kernel) rfl (sn_geti (ci := 7) (j := 8) en_c7 (by decide +kernel) wm_1145 (Nat.le_of_ble_eq_true rfl) rfl (sn_callVi (n := 5) (idx := 103) (ci := 10) (i_X10_breach G hst) (Nat.le_of_ble_eq_true rfl) cs_X10_breach ⟨wm_1125, wm_1126, wm_1146⟩ ⟨⟨_, rfl, rfl⟩, (Nat.le_of_ble_eq_true rfl)⟩ (by decide +kernel) (sn_ifne (off := 7) (tgt := 42) (by decide +kernel) rfl (s_X10_mostTiredThatMay_42 G hst kc hk) (sn_iconst (n := 1) (v := 1) (by decide +kernel) rfl (sn_goto (off := 4) (tgt := 43) (by decide +kernel) rfl (s_X10_mostTiredThatMay_43 G hst kc hk)))))))))))))))))))))
noncomputable def B_X10_mostTiredThatMay_0 (kc : Nat → en_B) : en_B := (op_const (-1 : Int32) (op_istore 2 (op_const (0 : Int32) (op_istore 3 (kc 4)))))
set_option maxRecDepth 20000 in
theorem s_X10_mostTiredThatMay_0 (G : en_G) (hst : G.2.2.2.2.2 = true) (kc : Nat → en_B) (hk : ∀ t, en_Snd G M_X10_mostTiredThatMay t (kc t)) : en_Snd G M_X10_mostTiredThatMay 0 (B_X10_mostTiredThatMay_0 kc) := (sn_iconst (n := -1) (v := -1) (by decide +kernel) rfl (sn_istore_n (i := 2) (n := 2) (by decide +kernel) rfl (Nat.le_of_ble_eq_true rfl) (sn_iconst (n := 0) (v := 0) (by decide +kernel) rfl (sn_istore_n (i := 3) (n := 3) (by decide +kernel) rfl (Nat.le_of_ble_eq_true rfl) (hk 4)))))
noncomputable def LK_X10_mostTiredThatMay : Nat → Nat → en_B
  | 0, _ => en_no
  | n + 1, t => if t = 4 then B_X10_mostTiredThatMay_4 (LK_X10_mostTiredThatMay n) else en_no
theorem l_X10_mostTiredThatMay (G : en_G) (hst : G.2.2.2.2.2 = true) : ∀ n t, en_Snd G M_X10_mostTiredThatMay t (LK_X10_mostTiredThatMay n t)
  | 0, _ => sn_no
  | n + 1, t => by
    show en_Snd G M_X10_mostTiredThatMay t (if t = 4 then B_X10_mostTiredThatMay_4 (LK_X10_mostTiredThatMay n) else en_no)
    by_cases h_4 : t = 4
    · rw [if_pos h_4, h_4]; exact s_X10_mostTiredThatMay_4 G hst _ (l_X10_mostTiredThatMay G hst n)
    rw [if_neg h_4]
    exact sn_no
noncomputable def T_X10_mostTiredThatMay_0 (k1 : Nat) (σ : en_M) : en_R := B_X10_mostTiredThatMay_0 (LK_X10_mostTiredThatMay en_FU) [.inr (5, 10, 0, 0), .inr (k1, 7, 0, 0), en_un, en_un, en_un] [] en_zz σ
noncomputable def T_X10_mostTiredThatMay_4 (n : Nat) (k1 : Nat) (x2 : Int32) (x3 : Int32) (u4 : en_V) (σ : en_M) : en_R := LK_X10_mostTiredThatMay n 4 [.inr (5, 10, 0, 0), .inr (k1, 7, 0, 0), .inl x2, .inl x3, u4] [] en_zz σ
set_option maxRecDepth 20000 in
set_option maxHeartbeats 2000000 in
theorem t_X10_mostTiredThatMay_0 (k1 : Nat) (σ : en_M) : T_X10_mostTiredThatMay_0 k1 σ = (T_X10_mostTiredThatMay_4 en_FU k1 (-1 : Int32) (0 : Int32) (en_un) σ) := rfl
set_option maxRecDepth 20000 in
set_option maxHeartbeats 2000000 in
theorem t_X10_mostTiredThatMay_4 (n : Nat) (k1 : Nat) (x2 : Int32) (x3 : Int32) (u4 : en_V) (σ : en_M) : T_X10_mostTiredThatMay_4 (n + 1) k1 x2 x3 u4 σ = (if x3 < (σ 5 3) then ((O_X10_breach [.inr (5, 10, 0, 0), .inl (σ k1 4), .inl (σ k1 5), .inl (en_shl (1 : Int32) x3), .inl (σ k1 7), .inl (σ k1 8)] σ).bind fun r1 => if r1.1 = 0 then (if (1 : Int32) = 0 then (T_X10_mostTiredThatMay_4 n k1 x2 (x3 + (1 : Int32)) (.inl (1 : Int32)) r1.2) else (if x2 = (-1 : Int32) then (T_X10_mostTiredThatMay_4 n k1 x3 (x3 + (1 : Int32)) (.inl (1 : Int32)) r1.2) else ((en_ix x3 7).bind fun j4 => (en_ix x2 7).bind fun j5 => if (r1.2 (k1 + 1) j5) < (r1.2 (k1 + 1) j4) then (T_X10_mostTiredThatMay_4 n k1 x3 (x3 + (1 : Int32)) (.inl (1 : Int32)) r1.2) else (T_X10_mostTiredThatMay_4 n k1 x2 (x3 + (1 : Int32)) (.inl (1 : Int32)) r1.2)))) else (if (0 : Int32) = 0 then (T_X10_mostTiredThatMay_4 n k1 x2 (x3 + (1 : Int32)) (.inl (0 : Int32)) r1.2) else (if x2 = (-1 : Int32) then (T_X10_mostTiredThatMay_4 n k1 x3 (x3 + (1 : Int32)) (.inl (0 : Int32)) r1.2) else ((en_ix x3 7).bind fun j2 => (en_ix x2 7).bind fun j3 => if (r1.2 (k1 + 1) j3) < (r1.2 (k1 + 1) j2) then (T_X10_mostTiredThatMay_4 n k1 x3 (x3 + (1 : Int32)) (.inl (0 : Int32)) r1.2) else (T_X10_mostTiredThatMay_4 n k1 x2 (x3 + (1 : Int32)) (.inl (0 : Int32)) r1.2))))) else (if x2 = (-1 : Int32) then (en_ri (0 : Int32) σ) else (en_ri (en_shl (1 : Int32) x2) σ))) := rfl
noncomputable def P_X10_mostTiredThatMay : List en_V → en_M → Option (Int32 × en_M) := fun av σ => match av with
  | [.inr (5, 10, 0, 0), .inr (k1, 7, 0, 0)] => en_oi (T_X10_mostTiredThatMay_0 k1 σ)
  | _ => none
theorem ox_X10_mostTiredThatMay : ∃ f, f = P_X10_mostTiredThatMay := ⟨_, rfl⟩
noncomputable def O_X10_mostTiredThatMay : List en_V → en_M → Option (Int32 × en_M) := Classical.choose ox_X10_mostTiredThatMay
theorem oe_X10_mostTiredThatMay : O_X10_mostTiredThatMay = P_X10_mostTiredThatMay := Classical.choose_spec ox_X10_mostTiredThatMay
theorem o_X10_mostTiredThatMay (k1 : Nat) (σ : en_M) : O_X10_mostTiredThatMay [.inr (5, 10, 0, 0), .inr (k1, 7, 0, 0)] σ = en_oi (T_X10_mostTiredThatMay_0 k1 σ) := by rw [oe_X10_mostTiredThatMay]; rfl
theorem i_X10_mostTiredThatMay (G : en_G) (hst : G.2.2.2.2.2 = true) : en_I G 4 yX10_mostTiredThatMay cX10_mostTiredThatMay 5 (some .int) 0 0 (en_wi (O_X10_mostTiredThatMay)) := en_of_i (M := M_X10_mostTiredThatMay) hst (s_X10_mostTiredThatMay_0 G hst _ (l_X10_mostTiredThatMay G hst en_FU)) (plainFor_of_name (by decide +kernel)) rfl rfl rfl (Or.inl ⟨rfl, rfl⟩) (fun av σ x σ' h => by
  rw [oe_X10_mostTiredThatMay] at h; unfold P_X10_mostTiredThatMay at h
  split at h
  · exact ⟨(Nat.le_of_ble_eq_true rfl), en_oi_some h⟩
  · cases h)
-- EachMayMissOne$Past.push(LEachMayMissOne$State;)V
def M_X4_push : en_Me := (cX4_push, RX4, 2, false, 2, false)
theorem cs_X4_push : en_cs yX4_push cX4_push 2 none 1 := ⟨wm_856, wm_27, ⟨(by decide +kernel), (by decide +kernel), (by decide +kernel)⟩, (Nat.le_of_ble_eq_true rfl)⟩
noncomputable def B_X4_push_32 (kc : Nat → en_B) : en_B := (op_aload 0 (op_gets 4 1 (24, 12, 1) (op_aload 0 (op_geti 4 1 (op_aload 0 (op_geti 4 2 (op_bin (fun (x y : Int32) => x + y) (op_const (12 : Int32) (op_div (fun (x y : Int32) => x - x / y * y) (op_aldS (op_aload 1 (op_rcv 7 1 (op_callv O_X7_copy 2 (op_aload 0 (op_dup (op_geti 4 2 (op_const (1 : Int32) (op_bin (fun (x y : Int32) => x + y) (op_puti 4 2 op_vret)))))))))))))))))))
set_option maxRecDepth 20000 in
theorem s_X4_push_32 (G : en_G) (hst : G.2.2.2.2.2 = true) (kc : Nat → en_B) (hk : ∀ t, en_Snd G M_X4_push t (kc t)) : en_Snd G M_X4_push 32 (B_X4_push_32 kc) := (sn_aload_n (i := 0) (n := 0) (by decide +kernel) rfl (sn_gets (ci := 4) (j := 0) (off := 1) hst en_c4 of_4_1 (Nat.le_of_ble_eq_true rfl) (by decide +kernel) wm_854 (Nat.le_of_ble_eq_true rfl) rfl (sn_aload_n (i := 0) (n := 0) (by decide +kernel) rfl (sn_geti (ci := 4) (j := 1) en_c4 (by decide +kernel) wm_860 (Nat.le_of_ble_eq_true rfl) rfl (sn_aload_n (i := 0) (n := 0) (by decide +kernel) rfl (sn_geti (ci := 4) (j := 2) en_c4 (by decide +kernel) wm_859 (Nat.le_of_ble_eq_true rfl) rfl (sn_iadd (by decide +kernel) (sn_bipush (n := 12) (v := 12) (by decide +kernel) rfl (sn_irem (by decide +kernel) (sn_aldS hst (by decide +kernel) (sn_aload_n (i := 1) (n := 1) (by decide +kernel) rfl (sn_callVv (n := 1) (idx := 25) (ci := 7) (i_X7_copy G hst) (Nat.le_of_ble_eq_true rfl) cs_X7_copy ⟨wm_1042, wm_1043, wm_861⟩ ⟨⟨_, rfl, rfl⟩, (Nat.le_of_ble_eq_true rfl)⟩ (by decide +kernel) (sn_aload_n (i := 0) (n := 0) (by decide +kernel) rfl (sn_dup (by decide +kernel) (sn_geti (ci := 4) (j := 2) en_c4 (by decide +kernel) wm_859 (Nat.le_of_ble_eq_true rfl) rfl (sn_iconst (n := 1) (v := 1) (by decide +kernel) rfl (sn_iadd (by decide +kernel) (sn_puti (ci := 4) (j := 2) en_c4 (by decide +kernel) wm_859 (Nat.le_of_ble_eq_true rfl) rfl rfl rfl (sn_vret (by decide +kernel))))))))))))))))))))
noncomputable def B_X4_push_0 (kc : Nat → en_B) : en_B := (op_aload 0 (op_geti 4 2 (op_const (12 : Int32) (op_iceq (op_aload 0 (op_aload 0 (op_geti 4 1 (op_const (1 : Int32) (op_bin (fun (x y : Int32) => x + y) (op_const (12 : Int32) (op_div (fun (x y : Int32) => x - x / y * y) (op_puti 4 1 (op_aload 0 (op_dup (op_geti 4 2 (op_const (1 : Int32) (op_bin (fun (x y : Int32) => x - y) (op_puti 4 2 (B_X4_push_32 kc))))))))))))))) (B_X4_push_32 kc)))))
set_option maxRecDepth 20000 in
theorem s_X4_push_0 (G : en_G) (hst : G.2.2.2.2.2 = true) (kc : Nat → en_B) (hk : ∀ t, en_Snd G M_X4_push t (kc t)) : en_Snd G M_X4_push 0 (B_X4_push_0 kc) := (sn_aload_n (i := 0) (n := 0) (by decide +kernel) rfl (sn_geti (ci := 4) (j := 2) en_c4 (by decide +kernel) wm_859 (Nat.le_of_ble_eq_true rfl) rfl (sn_bipush (n := 12) (v := 12) (by decide +kernel) rfl (sn_icne (off := 26) (tgt := 32) (by decide +kernel) rfl (s_X4_push_32 G hst kc hk) (sn_aload_n (i := 0) (n := 0) (by decide +kernel) rfl (sn_aload_n (i := 0) (n := 0) (by decide +kernel) rfl (sn_geti (ci := 4) (j := 1) en_c4 (by decide +kernel) wm_860 (Nat.le_of_ble_eq_true rfl) rfl (sn_iconst (n := 1) (v := 1) (by decide +kernel) rfl (sn_iadd (by decide +kernel) (sn_bipush (n := 12) (v := 12) (by decide +kernel) rfl (sn_irem (by decide +kernel) (sn_puti (ci := 4) (j := 1) en_c4 (by decide +kernel) wm_860 (Nat.le_of_ble_eq_true rfl) rfl rfl rfl (sn_aload_n (i := 0) (n := 0) (by decide +kernel) rfl (sn_dup (by decide +kernel) (sn_geti (ci := 4) (j := 2) en_c4 (by decide +kernel) wm_859 (Nat.le_of_ble_eq_true rfl) rfl (sn_iconst (n := 1) (v := 1) (by decide +kernel) rfl (sn_isub (by decide +kernel) (sn_puti (ci := 4) (j := 2) en_c4 (by decide +kernel) wm_859 (Nat.le_of_ble_eq_true rfl) rfl rfl rfl (s_X4_push_32 G hst kc hk)))))))))))))))))))
noncomputable def LK_X4_push : Nat → Nat → en_B
  | 0, _ => en_no
  | n + 1, t => en_no
theorem l_X4_push (G : en_G) (hst : G.2.2.2.2.2 = true) : ∀ n t, en_Snd G M_X4_push t (LK_X4_push n t)
  | 0, _ => sn_no
  | n + 1, t => by
    show en_Snd G M_X4_push t (en_no)
    exact sn_no
noncomputable def T_X4_push_0 (k1 : Nat) (σ : en_M) : en_R := B_X4_push_0 (LK_X4_push en_FU) [.inr (25, 4, 0, 0), .inr (k1, 7, 0, 0)] [] en_zz σ
set_option maxRecDepth 20000 in
set_option maxHeartbeats 2000000 in
theorem t_X4_push_0 (k1 : Nat) (σ : en_M) : T_X4_push_0 k1 σ = (if (σ 25 2) = (12 : Int32) then (if (12 : Int32) = 0 then none else (if (12 : Int32) = 0 then none else ((en_ix (((((σ 25 1) + (1 : Int32)) - ((σ 25 1) + (1 : Int32)) / (12 : Int32) * (12 : Int32)) + ((σ 25 2) - (1 : Int32))) - ((((σ 25 1) + (1 : Int32)) - ((σ 25 1) + (1 : Int32)) / (12 : Int32) * (12 : Int32)) + ((σ 25 2) - (1 : Int32))) / (12 : Int32) * (12 : Int32)) 12).bind fun j3 => (O_X7_copy [.inr ((26 + 1 + 5 * j3), 7, 0, 0), .inr (k1, 7, 0, 0)] (en_up (en_up σ 25 1 (((σ 25 1) + (1 : Int32)) - ((σ 25 1) + (1 : Int32)) / (12 : Int32) * (12 : Int32))) 25 2 ((σ 25 2) - (1 : Int32)))).bind fun r4 => en_rv (en_up r4 25 2 ((r4 25 2) + (1 : Int32)))))) else (if (12 : Int32) = 0 then none else ((en_ix (((σ 25 1) + (σ 25 2)) - ((σ 25 1) + (σ 25 2)) / (12 : Int32) * (12 : Int32)) 12).bind fun j1 => (O_X7_copy [.inr ((26 + 1 + 5 * j1), 7, 0, 0), .inr (k1, 7, 0, 0)] σ).bind fun r2 => en_rv (en_up r2 25 2 ((r2 25 2) + (1 : Int32)))))) := rfl
noncomputable def P_X4_push : List en_V → en_M → Option en_M := fun av σ => match av with
  | [.inr (25, 4, 0, 0), .inr (k1, 7, 0, 0)] => en_ov (T_X4_push_0 k1 σ)
  | _ => none
theorem ox_X4_push : ∃ f, f = P_X4_push := ⟨_, rfl⟩
noncomputable def O_X4_push : List en_V → en_M → Option en_M := Classical.choose ox_X4_push
theorem oe_X4_push : O_X4_push = P_X4_push := Classical.choose_spec ox_X4_push
theorem o_X4_push (k1 : Nat) (σ : en_M) : O_X4_push [.inr (25, 4, 0, 0), .inr (k1, 7, 0, 0)] σ = en_ov (T_X4_push_0 k1 σ) := by rw [oe_X4_push]; rfl
theorem i_X4_push (G : en_G) (hst : G.2.2.2.2.2 = true) : en_I G 2 yX4_push cX4_push 2 none 0 0 (en_wv (O_X4_push)) := en_of_v (M := M_X4_push) hst (s_X4_push_0 G hst _ (l_X4_push G hst en_FU)) (plainFor_of_name (by decide +kernel)) rfl rfl rfl (fun av σ σ' h => by
  rw [oe_X4_push] at h; unfold P_X4_push at h
  split at h
  · exact ⟨(Nat.le_of_ble_eq_true rfl), en_ov_some h⟩
  · cases h)
-- EachMayMissOne$Past.pop(LEachMayMissOne$State;)Z
def M_X4_pop : en_Me := (cX4_pop, RX4, 2, false, 2, true)
theorem cs_X4_pop : en_cs yX4_pop cX4_pop 2 (some .boolean) 1 := ⟨wm_862, wm_27, ⟨(by decide +kernel), (by decide +kernel), (by decide +kernel)⟩, (Nat.le_of_ble_eq_true rfl)⟩
noncomputable def B_X4_pop_9 (kc : Nat → en_B) : en_B := (op_aload 0 (op_dup (op_geti 4 2 (op_const (1 : Int32) (op_bin (fun (x y : Int32) => x - y) (op_puti 4 2 (op_aload 1 (op_aload 0 (op_gets 4 1 (24, 12, 1) (op_aload 0 (op_geti 4 1 (op_aload 0 (op_geti 4 2 (op_bin (fun (x y : Int32) => x + y) (op_const (12 : Int32) (op_div (fun (x y : Int32) => x - x / y * y) (op_aldS (op_rcv 7 1 (op_callv O_X7_copy 2 (op_const (1 : Int32) op_zret))))))))))))))))))))
set_option maxRecDepth 20000 in
theorem s_X4_pop_9 (G : en_G) (hst : G.2.2.2.2.2 = true) (kc : Nat → en_B) (hk : ∀ t, en_Snd G M_X4_pop t (kc t)) : en_Snd G M_X4_pop 9 (B_X4_pop_9 kc) := (sn_aload_n (i := 0) (n := 0) (by decide +kernel) rfl (sn_dup (by decide +kernel) (sn_geti (ci := 4) (j := 2) en_c4 (by decide +kernel) wm_859 (Nat.le_of_ble_eq_true rfl) rfl (sn_iconst (n := 1) (v := 1) (by decide +kernel) rfl (sn_isub (by decide +kernel) (sn_puti (ci := 4) (j := 2) en_c4 (by decide +kernel) wm_859 (Nat.le_of_ble_eq_true rfl) rfl rfl rfl (sn_aload_n (i := 1) (n := 1) (by decide +kernel) rfl (sn_aload_n (i := 0) (n := 0) (by decide +kernel) rfl (sn_gets (ci := 4) (j := 0) (off := 1) hst en_c4 of_4_1 (Nat.le_of_ble_eq_true rfl) (by decide +kernel) wm_854 (Nat.le_of_ble_eq_true rfl) rfl (sn_aload_n (i := 0) (n := 0) (by decide +kernel) rfl (sn_geti (ci := 4) (j := 1) en_c4 (by decide +kernel) wm_860 (Nat.le_of_ble_eq_true rfl) rfl (sn_aload_n (i := 0) (n := 0) (by decide +kernel) rfl (sn_geti (ci := 4) (j := 2) en_c4 (by decide +kernel) wm_859 (Nat.le_of_ble_eq_true rfl) rfl (sn_iadd (by decide +kernel) (sn_bipush (n := 12) (v := 12) (by decide +kernel) rfl (sn_irem (by decide +kernel) (sn_aldS hst (by decide +kernel) (sn_callVv (n := 1) (idx := 25) (ci := 7) (i_X7_copy G hst) (Nat.le_of_ble_eq_true rfl) cs_X7_copy ⟨wm_1042, wm_1043, wm_861⟩ ⟨⟨_, rfl, rfl⟩, (Nat.le_of_ble_eq_true rfl)⟩ (by decide +kernel) (sn_iconst (n := 1) (v := 1) (by decide +kernel) rfl (sn_zret (by decide +kernel)))))))))))))))))))))
noncomputable def B_X4_pop_0 (kc : Nat → en_B) : en_B := (op_aload 0 (op_geti 4 2 (op_ifeq (op_const (0 : Int32) op_zret) (B_X4_pop_9 kc))))
set_option maxRecDepth 20000 in
theorem s_X4_pop_0 (G : en_G) (hst : G.2.2.2.2.2 = true) (kc : Nat → en_B) (hk : ∀ t, en_Snd G M_X4_pop t (kc t)) : en_Snd G M_X4_pop 0 (B_X4_pop_0 kc) := (sn_aload_n (i := 0) (n := 0) (by decide +kernel) rfl (sn_geti (ci := 4) (j := 2) en_c4 (by decide +kernel) wm_859 (Nat.le_of_ble_eq_true rfl) rfl (sn_ifne (off := 5) (tgt := 9) (by decide +kernel) rfl (s_X4_pop_9 G hst kc hk) (sn_iconst (n := 0) (v := 0) (by decide +kernel) rfl (sn_zret (by decide +kernel))))))
noncomputable def LK_X4_pop : Nat → Nat → en_B
  | 0, _ => en_no
  | n + 1, t => en_no
theorem l_X4_pop (G : en_G) (hst : G.2.2.2.2.2 = true) : ∀ n t, en_Snd G M_X4_pop t (LK_X4_pop n t)
  | 0, _ => sn_no
  | n + 1, t => by
    show en_Snd G M_X4_pop t (en_no)
    exact sn_no
noncomputable def T_X4_pop_0 (k1 : Nat) (σ : en_M) : en_R := B_X4_pop_0 (LK_X4_pop en_FU) [.inr (25, 4, 0, 0), .inr (k1, 7, 0, 0)] [] en_zz σ
set_option maxRecDepth 20000 in
set_option maxHeartbeats 2000000 in
theorem t_X4_pop_0 (k1 : Nat) (σ : en_M) : T_X4_pop_0 k1 σ = (if (σ 25 2) = 0 then (if (0 : Int32) = 0 ∨ (0 : Int32) = 1 then en_ri (0 : Int32) σ else none) else (if (12 : Int32) = 0 then none else ((en_ix (((σ 25 1) + ((σ 25 2) - (1 : Int32))) - ((σ 25 1) + ((σ 25 2) - (1 : Int32))) / (12 : Int32) * (12 : Int32)) 12).bind fun j1 => (O_X7_copy [.inr (k1, 7, 0, 0), .inr ((26 + 1 + 5 * j1), 7, 0, 0)] (en_up σ 25 2 ((σ 25 2) - (1 : Int32)))).bind fun r2 => if (1 : Int32) = 0 ∨ (1 : Int32) = 1 then en_ri (1 : Int32) r2 else none))) := rfl
noncomputable def P_X4_pop : List en_V → en_M → Option (Int32 × en_M) := fun av σ => match av with
  | [.inr (25, 4, 0, 0), .inr (k1, 7, 0, 0)] => en_oi (T_X4_pop_0 k1 σ)
  | _ => none
theorem ox_X4_pop : ∃ f, f = P_X4_pop := ⟨_, rfl⟩
noncomputable def O_X4_pop : List en_V → en_M → Option (Int32 × en_M) := Classical.choose ox_X4_pop
theorem oe_X4_pop : O_X4_pop = P_X4_pop := Classical.choose_spec ox_X4_pop
theorem o_X4_pop (k1 : Nat) (σ : en_M) : O_X4_pop [.inr (25, 4, 0, 0), .inr (k1, 7, 0, 0)] σ = en_oi (T_X4_pop_0 k1 σ) := by rw [oe_X4_pop]; rfl
theorem i_X4_pop (G : en_G) (hst : G.2.2.2.2.2 = true) : en_I G 2 yX4_pop cX4_pop 2 (some .boolean) 0 0 (en_wi (O_X4_pop)) := en_of_i (M := M_X4_pop) hst (s_X4_pop_0 G hst _ (l_X4_pop G hst en_FU)) (plainFor_of_name (by decide +kernel)) rfl rfl rfl (Or.inr ⟨rfl, rfl⟩) (fun av σ x σ' h => by
  rw [oe_X4_pop] at h; unfold P_X4_pop at h
  split at h
  · exact ⟨(Nat.le_of_ble_eq_true rfl), en_oi_some h⟩
  · cases h)
-- EachMayMissOne$Past.forget()V
def M_X4_forget : en_Me := (cX4_forget, RX4, 1, false, 1, false)
theorem cs_X4_forget : en_cs yX4_forget cX4_forget 1 none 0 := ⟨wm_865, wm_27, ⟨(by decide +kernel), (by decide +kernel), (by decide +kernel)⟩, (Nat.le_of_ble_eq_true rfl)⟩
noncomputable def B_X4_forget_0 (kc : Nat → en_B) : en_B := (op_aload 0 (op_const (0 : Int32) (op_puti 4 2 op_vret)))
set_option maxRecDepth 20000 in
theorem s_X4_forget_0 (G : en_G) (hst : G.2.2.2.2.2 = true) (kc : Nat → en_B) (hk : ∀ t, en_Snd G M_X4_forget t (kc t)) : en_Snd G M_X4_forget 0 (B_X4_forget_0 kc) := (sn_aload_n (i := 0) (n := 0) (by decide +kernel) rfl (sn_iconst (n := 0) (v := 0) (by decide +kernel) rfl (sn_puti (ci := 4) (j := 2) en_c4 (by decide +kernel) wm_859 (Nat.le_of_ble_eq_true rfl) rfl rfl rfl (sn_vret (by decide +kernel)))))
noncomputable def LK_X4_forget : Nat → Nat → en_B
  | 0, _ => en_no
  | n + 1, t => en_no
theorem l_X4_forget (G : en_G) (hst : G.2.2.2.2.2 = true) : ∀ n t, en_Snd G M_X4_forget t (LK_X4_forget n t)
  | 0, _ => sn_no
  | n + 1, t => by
    show en_Snd G M_X4_forget t (en_no)
    exact sn_no
noncomputable def T_X4_forget_0 (σ : en_M) : en_R := B_X4_forget_0 (LK_X4_forget en_FU) [.inr (25, 4, 0, 0)] [] en_zz σ
set_option maxRecDepth 20000 in
set_option maxHeartbeats 2000000 in
theorem t_X4_forget_0 (σ : en_M) : T_X4_forget_0 σ = (en_rv (en_up σ 25 2 (0 : Int32))) := rfl
noncomputable def P_X4_forget : List en_V → en_M → Option en_M := fun av σ => match av with
  | [.inr (25, 4, 0, 0)] => en_ov (T_X4_forget_0 σ)
  | _ => none
theorem ox_X4_forget : ∃ f, f = P_X4_forget := ⟨_, rfl⟩
noncomputable def O_X4_forget : List en_V → en_M → Option en_M := Classical.choose ox_X4_forget
theorem oe_X4_forget : O_X4_forget = P_X4_forget := Classical.choose_spec ox_X4_forget
theorem o_X4_forget (σ : en_M) : O_X4_forget [.inr (25, 4, 0, 0)] σ = en_ov (T_X4_forget_0 σ) := by rw [oe_X4_forget]; rfl
theorem i_X4_forget (G : en_G) (hst : G.2.2.2.2.2 = true) : en_I G 1 yX4_forget cX4_forget 1 none 0 0 (en_wv (O_X4_forget)) := en_of_v (M := M_X4_forget) hst (s_X4_forget_0 G hst _ (l_X4_forget G hst en_FU)) (plainFor_of_name (by decide +kernel)) rfl rfl rfl (fun av σ σ' h => by
  rw [oe_X4_forget] at h; unfold P_X4_forget at h
  split at h
  · exact ⟨(Nat.le_of_ble_eq_true rfl), en_ov_some h⟩
  · cases h)
-- EachMayMissOne$Kept.put(ILEachMayMissOne$State;)Z
def M_X1_put : en_Me := (cX1_put, RX1, 3, false, 2, true)
theorem cs_X1_put : en_cs yX1_put cX1_put 3 (some .boolean) 2 := ⟨wm_769, wm_32, ⟨(by decide +kernel), (by decide +kernel), (by decide +kernel)⟩, (Nat.le_of_ble_eq_true rfl)⟩
noncomputable def B_X1_put_11 (kc : Nat → en_B) : en_B := (op_aload 0 (op_gets 1 1 (24, 2, 2) (op_iload 1 (op_aldS (op_aload 2 (op_rcv 7 1 (op_callv O_X7_copy 2 (op_aload 0 (op_gets 1 2 (22, 2, 0) (op_iload 1 (op_const (1 : Int32) (op_ast 22 (vp_nar .boolean) (op_const (1 : Int32) op_zret)))))))))))))
set_option maxRecDepth 20000 in
theorem s_X1_put_11 (G : en_G) (hst : G.2.2.2.2.2 = true) (kc : Nat → en_B) (hk : ∀ t, en_Snd G M_X1_put t (kc t)) : en_Snd G M_X1_put 11 (B_X1_put_11 kc) := (sn_aload_n (i := 0) (n := 0) (by decide +kernel) rfl (sn_gets (ci := 1) (j := 0) (off := 1) hst en_c1 of_1_1 (Nat.le_of_ble_eq_true rfl) (by decide +kernel) wm_766 (Nat.le_of_ble_eq_true rfl) rfl (sn_iload_n (i := 1) (n := 1) (by decide +kernel) rfl (sn_aldS hst (by decide +kernel) (sn_aload_n (i := 2) (n := 2) (by decide +kernel) rfl (sn_callVv (n := 1) (idx := 20) (ci := 7) (i_X7_copy G hst) (Nat.le_of_ble_eq_true rfl) cs_X7_copy ⟨wm_1042, wm_1043, wm_772⟩ ⟨⟨_, rfl, rfl⟩, (Nat.le_of_ble_eq_true rfl)⟩ (by decide +kernel) (sn_aload_n (i := 0) (n := 0) (by decide +kernel) rfl (sn_gets (ci := 1) (j := 1) (off := 2) hst en_c1 of_1_2 (Nat.le_of_ble_eq_true rfl) (by decide +kernel) wm_767 (Nat.le_of_ble_eq_true rfl) rfl (sn_iload_n (i := 1) (n := 1) (by decide +kernel) rfl (sn_iconst (n := 1) (v := 1) (by decide +kernel) rfl (sn_zast (by decide +kernel) (sn_iconst (n := 1) (v := 1) (by decide +kernel) rfl (sn_zret (by decide +kernel))))))))))))))
noncomputable def B_X1_put_9 (kc : Nat → en_B) : en_B := (op_const (0 : Int32) op_zret)
set_option maxRecDepth 20000 in
theorem s_X1_put_9 (G : en_G) (hst : G.2.2.2.2.2 = true) (kc : Nat → en_B) (hk : ∀ t, en_Snd G M_X1_put t (kc t)) : en_Snd G M_X1_put 9 (B_X1_put_9 kc) := (sn_iconst (n := 0) (v := 0) (by decide +kernel) rfl (sn_zret (by decide +kernel)))
noncomputable def B_X1_put_0 (kc : Nat → en_B) : en_B := (op_iload 1 (op_iflt (B_X1_put_9 kc) (op_iload 1 (op_const (2 : Int32) (op_iclt (B_X1_put_11 kc) (B_X1_put_9 kc))))))
set_option maxRecDepth 20000 in
theorem s_X1_put_0 (G : en_G) (hst : G.2.2.2.2.2 = true) (kc : Nat → en_B) (hk : ∀ t, en_Snd G M_X1_put t (kc t)) : en_Snd G M_X1_put 0 (B_X1_put_0 kc) := (sn_iload_n (i := 1) (n := 1) (by decide +kernel) rfl (sn_iflt (off := 8) (tgt := 9) (by decide +kernel) rfl (s_X1_put_9 G hst kc hk) (sn_iload_n (i := 1) (n := 1) (by decide +kernel) rfl (sn_iconst (n := 2) (v := 2) (by decide +kernel) rfl (sn_iclt (off := 5) (tgt := 11) (by decide +kernel) rfl (s_X1_put_11 G hst kc hk) (s_X1_put_9 G hst kc hk))))))
noncomputable def LK_X1_put : Nat → Nat → en_B
  | 0, _ => en_no
  | n + 1, t => en_no
theorem l_X1_put (G : en_G) (hst : G.2.2.2.2.2 = true) : ∀ n t, en_Snd G M_X1_put t (LK_X1_put n t)
  | 0, _ => sn_no
  | n + 1, t => by
    show en_Snd G M_X1_put t (en_no)
    exact sn_no
noncomputable def T_X1_put_0 (x1 : Int32) (k2 : Nat) (σ : en_M) : en_R := B_X1_put_0 (LK_X1_put en_FU) [.inr (87, 1, 0, 0), .inl x1, .inr (k2, 7, 0, 0)] [] en_zz σ
set_option maxRecDepth 20000 in
set_option maxHeartbeats 2000000 in
theorem t_X1_put_0 (x1 : Int32) (k2 : Nat) (σ : en_M) : T_X1_put_0 x1 k2 σ = (if x1 < 0 then (if (0 : Int32) = 0 ∨ (0 : Int32) = 1 then en_ri (0 : Int32) σ else none) else (if x1 < (2 : Int32) then ((en_ix x1 2).bind fun j1 => (O_X7_copy [.inr ((88 + 2 + 5 * j1), 7, 0, 0), .inr (k2, 7, 0, 0)] σ).bind fun r2 => (en_ix x1 2).bind fun j3 => if (1 : Int32) = 0 ∨ (1 : Int32) = 1 then en_ri (1 : Int32) (en_up r2 89 j3 (vp_nar .boolean (1 : Int32))) else none) else (if (0 : Int32) = 0 ∨ (0 : Int32) = 1 then en_ri (0 : Int32) σ else none))) := rfl
noncomputable def P_X1_put : List en_V → en_M → Option (Int32 × en_M) := fun av σ => match av with
  | [.inr (87, 1, 0, 0), .inl x1, .inr (k2, 7, 0, 0)] => en_oi (T_X1_put_0 x1 k2 σ)
  | _ => none
theorem ox_X1_put : ∃ f, f = P_X1_put := ⟨_, rfl⟩
noncomputable def O_X1_put : List en_V → en_M → Option (Int32 × en_M) := Classical.choose ox_X1_put
theorem oe_X1_put : O_X1_put = P_X1_put := Classical.choose_spec ox_X1_put
theorem o_X1_put (x1 : Int32) (k2 : Nat) (σ : en_M) : O_X1_put [.inr (87, 1, 0, 0), .inl x1, .inr (k2, 7, 0, 0)] σ = en_oi (T_X1_put_0 x1 k2 σ) := by rw [oe_X1_put]; rfl
theorem i_X1_put (G : en_G) (hst : G.2.2.2.2.2 = true) : en_I G 2 yX1_put cX1_put 3 (some .boolean) 0 0 (en_wi (O_X1_put)) := en_of_i (M := M_X1_put) hst (s_X1_put_0 G hst _ (l_X1_put G hst en_FU)) (plainFor_of_name (by decide +kernel)) rfl rfl rfl (Or.inr ⟨rfl, rfl⟩) (fun av σ x σ' h => by
  rw [oe_X1_put] at h; unfold P_X1_put at h
  split at h
  · exact ⟨(Nat.le_of_ble_eq_true rfl), en_oi_some h⟩
  · cases h)
-- EachMayMissOne$Kept.restore(ILEachMayMissOne$State;)Z
def M_X1_restore : en_Me := (cX1_restore, RX1, 3, false, 2, true)
theorem cs_X1_restore : en_cs yX1_restore cX1_restore 3 (some .boolean) 2 := ⟨wm_773, wm_32, ⟨(by decide +kernel), (by decide +kernel), (by decide +kernel)⟩, (Nat.le_of_ble_eq_true rfl)⟩
noncomputable def B_X1_restore_20 (kc : Nat → en_B) : en_B := (op_aload 2 (op_aload 0 (op_gets 1 1 (24, 2, 2) (op_iload 1 (op_aldS (op_rcv 7 1 (op_callv O_X7_copy 2 (op_const (1 : Int32) op_zret))))))))
set_option maxRecDepth 20000 in
theorem s_X1_restore_20 (G : en_G) (hst : G.2.2.2.2.2 = true) (kc : Nat → en_B) (hk : ∀ t, en_Snd G M_X1_restore t (kc t)) : en_Snd G M_X1_restore 20 (B_X1_restore_20 kc) := (sn_aload_n (i := 2) (n := 2) (by decide +kernel) rfl (sn_aload_n (i := 0) (n := 0) (by decide +kernel) rfl (sn_gets (ci := 1) (j := 0) (off := 1) hst en_c1 of_1_1 (Nat.le_of_ble_eq_true rfl) (by decide +kernel) wm_766 (Nat.le_of_ble_eq_true rfl) rfl (sn_iload_n (i := 1) (n := 1) (by decide +kernel) rfl (sn_aldS hst (by decide +kernel) (sn_callVv (n := 1) (idx := 20) (ci := 7) (i_X7_copy G hst) (Nat.le_of_ble_eq_true rfl) cs_X7_copy ⟨wm_1042, wm_1043, wm_772⟩ ⟨⟨_, rfl, rfl⟩, (Nat.le_of_ble_eq_true rfl)⟩ (by decide +kernel) (sn_iconst (n := 1) (v := 1) (by decide +kernel) rfl (sn_zret (by decide +kernel)))))))))
noncomputable def B_X1_restore_18 (kc : Nat → en_B) : en_B := (op_const (0 : Int32) op_zret)
set_option maxRecDepth 20000 in
theorem s_X1_restore_18 (G : en_G) (hst : G.2.2.2.2.2 = true) (kc : Nat → en_B) (hk : ∀ t, en_Snd G M_X1_restore t (kc t)) : en_Snd G M_X1_restore 18 (B_X1_restore_18 kc) := (sn_iconst (n := 0) (v := 0) (by decide +kernel) rfl (sn_zret (by decide +kernel)))
noncomputable def B_X1_restore_0 (kc : Nat → en_B) : en_B := (op_iload 1 (op_iflt (B_X1_restore_18 kc) (op_iload 1 (op_const (2 : Int32) (op_iclt (op_aload 0 (op_gets 1 2 (22, 2, 0) (op_iload 1 (op_ald 22 (op_ifeq (B_X1_restore_18 kc) (B_X1_restore_20 kc)))))) (B_X1_restore_18 kc))))))
set_option maxRecDepth 20000 in
theorem s_X1_restore_0 (G : en_G) (hst : G.2.2.2.2.2 = true) (kc : Nat → en_B) (hk : ∀ t, en_Snd G M_X1_restore t (kc t)) : en_Snd G M_X1_restore 0 (B_X1_restore_0 kc) := (sn_iload_n (i := 1) (n := 1) (by decide +kernel) rfl (sn_iflt (off := 17) (tgt := 18) (by decide +kernel) rfl (s_X1_restore_18 G hst kc hk) (sn_iload_n (i := 1) (n := 1) (by decide +kernel) rfl (sn_iconst (n := 2) (v := 2) (by decide +kernel) rfl (sn_icge (off := 12) (tgt := 18) (by decide +kernel) rfl (s_X1_restore_18 G hst kc hk) (sn_aload_n (i := 0) (n := 0) (by decide +kernel) rfl (sn_gets (ci := 1) (j := 1) (off := 2) hst en_c1 of_1_2 (Nat.le_of_ble_eq_true rfl) (by decide +kernel) wm_767 (Nat.le_of_ble_eq_true rfl) rfl (sn_iload_n (i := 1) (n := 1) (by decide +kernel) rfl (sn_zald (by decide +kernel) (sn_ifne (off := 5) (tgt := 20) (by decide +kernel) rfl (s_X1_restore_20 G hst kc hk) (s_X1_restore_18 G hst kc hk)))))))))))
noncomputable def LK_X1_restore : Nat → Nat → en_B
  | 0, _ => en_no
  | n + 1, t => en_no
theorem l_X1_restore (G : en_G) (hst : G.2.2.2.2.2 = true) : ∀ n t, en_Snd G M_X1_restore t (LK_X1_restore n t)
  | 0, _ => sn_no
  | n + 1, t => by
    show en_Snd G M_X1_restore t (en_no)
    exact sn_no
noncomputable def T_X1_restore_0 (x1 : Int32) (k2 : Nat) (σ : en_M) : en_R := B_X1_restore_0 (LK_X1_restore en_FU) [.inr (87, 1, 0, 0), .inl x1, .inr (k2, 7, 0, 0)] [] en_zz σ
set_option maxRecDepth 20000 in
set_option maxHeartbeats 2000000 in
theorem t_X1_restore_0 (x1 : Int32) (k2 : Nat) (σ : en_M) : T_X1_restore_0 x1 k2 σ = (if x1 < 0 then (if (0 : Int32) = 0 ∨ (0 : Int32) = 1 then en_ri (0 : Int32) σ else none) else (if x1 < (2 : Int32) then ((en_ix x1 2).bind fun j1 => if (σ 89 j1) = 0 then (if (0 : Int32) = 0 ∨ (0 : Int32) = 1 then en_ri (0 : Int32) σ else none) else ((en_ix x1 2).bind fun j2 => (O_X7_copy [.inr (k2, 7, 0, 0), .inr ((88 + 2 + 5 * j2), 7, 0, 0)] σ).bind fun r3 => if (1 : Int32) = 0 ∨ (1 : Int32) = 1 then en_ri (1 : Int32) r3 else none)) else (if (0 : Int32) = 0 ∨ (0 : Int32) = 1 then en_ri (0 : Int32) σ else none))) := rfl
noncomputable def P_X1_restore : List en_V → en_M → Option (Int32 × en_M) := fun av σ => match av with
  | [.inr (87, 1, 0, 0), .inl x1, .inr (k2, 7, 0, 0)] => en_oi (T_X1_restore_0 x1 k2 σ)
  | _ => none
theorem ox_X1_restore : ∃ f, f = P_X1_restore := ⟨_, rfl⟩
noncomputable def O_X1_restore : List en_V → en_M → Option (Int32 × en_M) := Classical.choose ox_X1_restore
theorem oe_X1_restore : O_X1_restore = P_X1_restore := Classical.choose_spec ox_X1_restore
theorem o_X1_restore (x1 : Int32) (k2 : Nat) (σ : en_M) : O_X1_restore [.inr (87, 1, 0, 0), .inl x1, .inr (k2, 7, 0, 0)] σ = en_oi (T_X1_restore_0 x1 k2 σ) := by rw [oe_X1_restore]; rfl
theorem i_X1_restore (G : en_G) (hst : G.2.2.2.2.2 = true) : en_I G 2 yX1_restore cX1_restore 3 (some .boolean) 0 0 (en_wi (O_X1_restore)) := en_of_i (M := M_X1_restore) hst (s_X1_restore_0 G hst _ (l_X1_restore G hst en_FU)) (plainFor_of_name (by decide +kernel)) rfl rfl rfl (Or.inr ⟨rfl, rfl⟩) (fun av σ x σ' h => by
  rw [oe_X1_restore] at h; unfold P_X1_restore at h
  split at h
  · exact ⟨(Nat.le_of_ble_eq_true rfl), en_oi_some h⟩
  · cases h)
-- EachMayMissOne$Kept.forget()V
def M_X1_forget : en_Me := (cX1_forget, RX1, 1, false, 1, false)
theorem cs_X1_forget : en_cs yX1_forget cX1_forget 1 none 0 := ⟨wm_776, wm_32, ⟨(by decide +kernel), (by decide +kernel), (by decide +kernel)⟩, (Nat.le_of_ble_eq_true rfl)⟩
noncomputable def B_X1_forget_0 (kc : Nat → en_B) : en_B := (op_aload 0 (op_gets 1 2 (22, 2, 0) (op_const (0 : Int32) (op_const (0 : Int32) (op_ast 22 (vp_nar .boolean) (op_aload 0 (op_gets 1 2 (22, 2, 0) (op_const (1 : Int32) (op_const (0 : Int32) (op_ast 22 (vp_nar .boolean) op_vret))))))))))
set_option maxRecDepth 20000 in
theorem s_X1_forget_0 (G : en_G) (hst : G.2.2.2.2.2 = true) (kc : Nat → en_B) (hk : ∀ t, en_Snd G M_X1_forget t (kc t)) : en_Snd G M_X1_forget 0 (B_X1_forget_0 kc) := (sn_aload_n (i := 0) (n := 0) (by decide +kernel) rfl (sn_gets (ci := 1) (j := 1) (off := 2) hst en_c1 of_1_2 (Nat.le_of_ble_eq_true rfl) (by decide +kernel) wm_767 (Nat.le_of_ble_eq_true rfl) rfl (sn_iconst (n := 0) (v := 0) (by decide +kernel) rfl (sn_iconst (n := 0) (v := 0) (by decide +kernel) rfl (sn_zast (by decide +kernel) (sn_aload_n (i := 0) (n := 0) (by decide +kernel) rfl (sn_gets (ci := 1) (j := 1) (off := 2) hst en_c1 of_1_2 (Nat.le_of_ble_eq_true rfl) (by decide +kernel) wm_767 (Nat.le_of_ble_eq_true rfl) rfl (sn_iconst (n := 1) (v := 1) (by decide +kernel) rfl (sn_iconst (n := 0) (v := 0) (by decide +kernel) rfl (sn_zast (by decide +kernel) (sn_vret (by decide +kernel))))))))))))
noncomputable def LK_X1_forget : Nat → Nat → en_B
  | 0, _ => en_no
  | n + 1, t => en_no
theorem l_X1_forget (G : en_G) (hst : G.2.2.2.2.2 = true) : ∀ n t, en_Snd G M_X1_forget t (LK_X1_forget n t)
  | 0, _ => sn_no
  | n + 1, t => by
    show en_Snd G M_X1_forget t (en_no)
    exact sn_no
noncomputable def T_X1_forget_0 (σ : en_M) : en_R := B_X1_forget_0 (LK_X1_forget en_FU) [.inr (87, 1, 0, 0)] [] en_zz σ
set_option maxRecDepth 20000 in
set_option maxHeartbeats 2000000 in
theorem t_X1_forget_0 (σ : en_M) : T_X1_forget_0 σ = ((en_ix (0 : Int32) 2).bind fun j1 => (en_ix (1 : Int32) 2).bind fun j2 => en_rv (en_up (en_up σ 89 j1 (vp_nar .boolean (0 : Int32))) 89 j2 (vp_nar .boolean (0 : Int32)))) := rfl
noncomputable def P_X1_forget : List en_V → en_M → Option en_M := fun av σ => match av with
  | [.inr (87, 1, 0, 0)] => en_ov (T_X1_forget_0 σ)
  | _ => none
theorem ox_X1_forget : ∃ f, f = P_X1_forget := ⟨_, rfl⟩
noncomputable def O_X1_forget : List en_V → en_M → Option en_M := Classical.choose ox_X1_forget
theorem oe_X1_forget : O_X1_forget = P_X1_forget := Classical.choose_spec ox_X1_forget
theorem o_X1_forget (σ : en_M) : O_X1_forget [.inr (87, 1, 0, 0)] σ = en_ov (T_X1_forget_0 σ) := by rw [oe_X1_forget]; rfl
theorem i_X1_forget (G : en_G) (hst : G.2.2.2.2.2 = true) : en_I G 1 yX1_forget cX1_forget 1 none 0 0 (en_wv (O_X1_forget)) := en_of_v (M := M_X1_forget) hst (s_X1_forget_0 G hst _ (l_X1_forget G hst en_FU)) (plainFor_of_name (by decide +kernel)) rfl rfl rfl (fun av σ σ' h => by
  rw [oe_X1_forget] at h; unfold P_X1_forget at h
  split at h
  · exact ⟨(Nat.le_of_ble_eq_true rfl), en_ov_some h⟩
  · cases h)
-- EachMayMissOne$Night.write(II)V
def M_X2_write : en_Me := (cX2_write, RX2, 3, false, 1, false)
theorem cs_X2_write : en_cs yX2_write cX2_write 3 none 2 := ⟨wm_808, wm_37, ⟨(by decide +kernel), (by decide +kernel), (by decide +kernel)⟩, (Nat.le_of_ble_eq_true rfl)⟩
noncomputable def B_X2_write_39 (kc : Nat → en_B) : en_B := op_vret
set_option maxRecDepth 20000 in
theorem s_X2_write_39 (G : en_G) (hst : G.2.2.2.2.2 = true) (kc : Nat → en_B) (hk : ∀ t, en_Snd G M_X2_write t (kc t)) : en_Snd G M_X2_write 39 (B_X2_write_39 kc) := (sn_vret (by decide +kernel))
noncomputable def B_X2_write_0 (kc : Nat → en_B) : en_B := (op_aload 0 (op_geti 2 2 (op_const (30 : Int32) (op_iclt (op_aload 0 (op_gets 2 1 (20, 30, 0) (op_aload 0 (op_geti 2 2 (op_iload 1 (op_ast 20 (fun (x : Int32) => x) (op_aload 0 (op_gets 2 2 (20, 30, 0) (op_aload 0 (op_geti 2 2 (op_iload 2 (op_ast 20 (fun (x : Int32) => x) (op_aload 0 (op_dup (op_geti 2 2 (op_const (1 : Int32) (op_bin (fun (x y : Int32) => x + y) (op_puti 2 2 (B_X2_write_39 kc))))))))))))))))))) (B_X2_write_39 kc)))))
set_option maxRecDepth 20000 in
theorem s_X2_write_0 (G : en_G) (hst : G.2.2.2.2.2 = true) (kc : Nat → en_B) (hk : ∀ t, en_Snd G M_X2_write t (kc t)) : en_Snd G M_X2_write 0 (B_X2_write_0 kc) := (sn_aload_n (i := 0) (n := 0) (by decide +kernel) rfl (sn_geti (ci := 2) (j := 2) en_c2 (by decide +kernel) wm_787 (Nat.le_of_ble_eq_true rfl) rfl (sn_bipush (n := 30) (v := 30) (by decide +kernel) rfl (sn_icge (off := 33) (tgt := 39) (by decide +kernel) rfl (s_X2_write_39 G hst kc hk) (sn_aload_n (i := 0) (n := 0) (by decide +kernel) rfl (sn_gets (ci := 2) (j := 0) (off := 1) hst en_c2 of_2_1 (Nat.le_of_ble_eq_true rfl) (by decide +kernel) wm_782 (Nat.le_of_ble_eq_true rfl) rfl (sn_aload_n (i := 0) (n := 0) (by decide +kernel) rfl (sn_geti (ci := 2) (j := 2) en_c2 (by decide +kernel) wm_787 (Nat.le_of_ble_eq_true rfl) rfl (sn_iload_n (i := 1) (n := 1) (by decide +kernel) rfl (sn_iast (by decide +kernel) (sn_aload_n (i := 0) (n := 0) (by decide +kernel) rfl (sn_gets (ci := 2) (j := 1) (off := 2) hst en_c2 of_2_2 (Nat.le_of_ble_eq_true rfl) (by decide +kernel) wm_783 (Nat.le_of_ble_eq_true rfl) rfl (sn_aload_n (i := 0) (n := 0) (by decide +kernel) rfl (sn_geti (ci := 2) (j := 2) en_c2 (by decide +kernel) wm_787 (Nat.le_of_ble_eq_true rfl) rfl (sn_iload_n (i := 2) (n := 2) (by decide +kernel) rfl (sn_iast (by decide +kernel) (sn_aload_n (i := 0) (n := 0) (by decide +kernel) rfl (sn_dup (by decide +kernel) (sn_geti (ci := 2) (j := 2) en_c2 (by decide +kernel) wm_787 (Nat.le_of_ble_eq_true rfl) rfl (sn_iconst (n := 1) (v := 1) (by decide +kernel) rfl (sn_iadd (by decide +kernel) (sn_puti (ci := 2) (j := 2) en_c2 (by decide +kernel) wm_787 (Nat.le_of_ble_eq_true rfl) rfl rfl rfl (s_X2_write_39 G hst kc hk)))))))))))))))))))))))
noncomputable def LK_X2_write : Nat → Nat → en_B
  | 0, _ => en_no
  | n + 1, t => en_no
theorem l_X2_write (G : en_G) (hst : G.2.2.2.2.2 = true) : ∀ n t, en_Snd G M_X2_write t (LK_X2_write n t)
  | 0, _ => sn_no
  | n + 1, t => by
    show en_Snd G M_X2_write t (en_no)
    exact sn_no
noncomputable def T_X2_write_0 (x1 : Int32) (x2 : Int32) (σ : en_M) : en_R := B_X2_write_0 (LK_X2_write en_FU) [.inr (100, 2, 0, 0), .inl x1, .inl x2] [] en_zz σ
set_option maxRecDepth 20000 in
set_option maxHeartbeats 2000000 in
theorem t_X2_write_0 (x1 : Int32) (x2 : Int32) (σ : en_M) : T_X2_write_0 x1 x2 σ = (if (σ 100 2) < (30 : Int32) then ((en_ix (σ 100 2) 30).bind fun j1 => (en_ix (σ 100 2) 30).bind fun j2 => en_rv (en_up (en_up (en_up σ 101 j1 x1) 102 j2 x2) 100 2 ((σ 100 2) + (1 : Int32)))) else (en_rv σ)) := rfl
noncomputable def P_X2_write : List en_V → en_M → Option en_M := fun av σ => match av with
  | [.inr (100, 2, 0, 0), .inl x1, .inl x2] => en_ov (T_X2_write_0 x1 x2 σ)
  | _ => none
theorem ox_X2_write : ∃ f, f = P_X2_write := ⟨_, rfl⟩
noncomputable def O_X2_write : List en_V → en_M → Option en_M := Classical.choose ox_X2_write
theorem oe_X2_write : O_X2_write = P_X2_write := Classical.choose_spec ox_X2_write
theorem o_X2_write (x1 : Int32) (x2 : Int32) (σ : en_M) : O_X2_write [.inr (100, 2, 0, 0), .inl x1, .inl x2] σ = en_ov (T_X2_write_0 x1 x2 σ) := by rw [oe_X2_write]; rfl
theorem i_X2_write (G : en_G) (hst : G.2.2.2.2.2 = true) : en_I G 1 yX2_write cX2_write 3 none 0 0 (en_wv (O_X2_write)) := en_of_v (M := M_X2_write) hst (s_X2_write_0 G hst _ (l_X2_write G hst en_FU)) (plainFor_of_name (by decide +kernel)) rfl rfl rfl (fun av σ σ' h => by
  rw [oe_X2_write] at h; unfold P_X2_write at h
  split at h
  · exact ⟨(Nat.le_of_ble_eq_true rfl), en_ov_some h⟩
  · cases h)
