/-! the law, its beginning: the class under test, the reference, the long[1] -/
theorem wy_1 : (.classLink RL 8 RX11 : Cond) ∈ en_wl := en_m1 (List.mem_of_getElem? (i := 27) rfl) rfl
theorem wy_2 : (.instantiable RX11 14 : Cond) ∈ en_wl := en_m1 (List.mem_of_getElem? (i := 28) rfl) rfl
theorem wy_3 : (.initialized RX11 : Cond) ∈ en_wl := en_m1 (List.mem_of_getElem? (i := 1) rfl) rfl
theorem wy_4 : (.classLink RL 23 RX12 : Cond) ∈ en_wl := en_m5 (List.mem_of_getElem? (i := 175) rfl) rfl
theorem wy_5 : (.instantiable RX12 44 : Cond) ∈ en_wl := en_m5 (List.mem_of_getElem? (i := 176) rfl) rfl
theorem wy_6 : (.initialized RX12 : Cond) ∈ en_wl := en_m1 (List.mem_of_getElem? (i := 14) rfl) rfl
theorem wy_7 : (.arrayClass .long : Cond) ∈ en_wl := en_m7 (List.mem_of_getElem? (i := 213) rfl) rfl
theorem wy_8 : (.methodLink RL 22 yX11_init : Cond) ∈ en_wl := en_m1 (List.mem_of_getElem? (i := 29) rfl) rfl
theorem wy_9 : (.methodLink RL 25 yX12_init : Cond) ∈ en_wl := en_m5 (List.mem_of_getElem? (i := 177) rfl) rfl
def B_law_0 : en_B := (op_nw 11 14 (op_dup (op_rcv 11 0 (op_call F_X11_init 1 184 20159 (op_astore 1 (op_nw 12 44 (op_dup (op_rcv 12 0 (op_call F_X12_init 1 23 10760 (op_astore 2 (op_const (1 : Int32) (op_na 25 (op_astore 3 (op_const (0 : Int32) (op_istore 4 (op_cut 23))))))))))))))))
set_option maxRecDepth 20000 in
theorem s_law_0 (G : en_G) (hst : G.2.2.2.2.2 = false) : en_Snd G M_law 0 B_law_0 := (sn_new (ci := 11) hst en_c11 en_df11 wy_1 wy_2 wy_3 (by decide +kernel) (sn_dup (by decide +kernel) (sn_callI (n := 0) (idx := 22) (ci := 11) hst (ic_X11_init G hst) (by decide) csc_X11_init ⟨wm_1, rfl, Or.inl wy_8⟩ ⟨⟨_, rfl, rfl⟩, (by decide)⟩ (by decide +kernel) (sn_astore_n (i := 1) (n := 1) (by decide +kernel) rfl (by decide) (sn_new (ci := 12) hst en_c12 en_df12 wy_4 wy_5 wy_6 (by decide +kernel) (sn_dup (by decide +kernel) (sn_callI (n := 0) (idx := 25) (ci := 12) hst (ic_X12_init G hst) (by decide) csc_X12_init ⟨wm_336, rfl, Or.inl wy_9⟩ ⟨⟨_, rfl, rfl⟩, (by decide)⟩ (by decide +kernel) (sn_astore_n (i := 2) (n := 2) (by decide +kernel) rfl (by decide) (sn_iconst (n := 1) (v := 1) (by decide +kernel) rfl (sn_newl hst wy_7 (by decide +kernel) (sn_astore_n (i := 3) (n := 3) (by decide +kernel) rfl (by decide) (sn_iconst (n := 0) (v := 0) (by decide +kernel) rfl (sn_istore (i := 4) (by decide +kernel) (by decide) sn_cut)))))))))))))
