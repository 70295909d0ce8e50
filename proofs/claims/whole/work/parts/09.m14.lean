-- EachMayMissOne.rivals(III)I
def M_X11_rivals : en_Me := (cX11_rivals, RX11, 5, false, 6, false)
theorem cs_X11_rivals : en_cs yX11_rivals cX11_rivals 5 (some .int) 3 := ⟨wm_174, wm_2, ⟨(by decide +kernel), (by decide +kernel), (by decide +kernel)⟩, (Nat.le_of_ble_eq_true rfl)⟩
noncomputable def B_X11_rivals_25 (kc : Nat → en_B) : en_B := (op_aload 0 (op_iload 3 (op_rcv 11 1 (op_callv O_X11_lookAhead 2 (op_aload 0 (op_iload 1 (op_iload 2 (op_iload 3 (op_rcv 11 3 (op_calli O_X11_roundsInTurn 4 (op_istore 4 (op_aload 0 (op_gets 11 3 (9, 0, 0) (op_rcv 9 0 (op_callv O_X9_begin 1 (op_aload 0 (op_gets 11 3 (9, 0, 0) (op_aload 0 (op_geti 11 13 (op_rcv 9 1 (op_callv O_X9_add 2 (op_iload 4 op_iret))))))))))))))))))))))
set_option maxRecDepth 20000 in
theorem s_X11_rivals_25 (G : en_G) (hst : G.2.2.2.2.2 = true) (kc : Nat → en_B) (hk : ∀ t, en_Snd G M_X11_rivals t (kc t)) : en_Snd G M_X11_rivals 25 (B_X11_rivals_25 kc) := (sn_aload_n (i := 0) (n := 0) (by decide +kernel) rfl (sn_iload_n (i := 3) (n := 3) (by decide +kernel) rfl (sn_callVv (n := 1) (idx := 242) (ci := 11) (i_X11_lookAhead G hst) (Nat.le_of_ble_eq_true rfl) cs_X11_lookAhead ⟨wm_287, wm_288, wm_143⟩ ⟨⟨_, rfl, rfl⟩, (Nat.le_of_ble_eq_true rfl)⟩ (by decide +kernel) (sn_aload_n (i := 0) (n := 0) (by decide +kernel) rfl (sn_iload_n (i := 1) (n := 1) (by decide +kernel) rfl (sn_iload_n (i := 2) (n := 2) (by decide +kernel) rfl (sn_iload_n (i := 3) (n := 3) (by decide +kernel) rfl (sn_callVi (n := 3) (idx := 265) (ci := 11) (i_X11_roundsInTurn G hst) (Nat.le_of_ble_eq_true rfl) cs_X11_roundsInTurn ⟨wm_302, wm_303, wm_177⟩ ⟨⟨_, rfl, rfl⟩, (Nat.le_of_ble_eq_true rfl)⟩ (by decide +kernel) (sn_istore (i := 4) (by decide +kernel) (Nat.le_of_ble_eq_true rfl) (sn_aload_n (i := 0) (n := 0) (by decide +kernel) rfl (sn_gets (ci := 11) (j := 1) (off := 3) hst en_c11 of_11_3 (Nat.le_of_ble_eq_true rfl) (by decide +kernel) wm_13 (Nat.le_of_ble_eq_true rfl) rfl (sn_callVv (n := 0) (idx := 205) (ci := 9) (i_X9_begin G hst) (Nat.le_of_ble_eq_true rfl) cs_X9_begin ⟨wm_1086, wm_1087, wm_115⟩ ⟨⟨_, rfl, rfl⟩, (Nat.le_of_ble_eq_true rfl)⟩ (by decide +kernel) (sn_aload_n (i := 0) (n := 0) (by decide +kernel) rfl (sn_gets (ci := 11) (j := 1) (off := 3) hst en_c11 of_11_3 (Nat.le_of_ble_eq_true rfl) (by decide +kernel) wm_13 (Nat.le_of_ble_eq_true rfl) rfl (sn_aload_n (i := 0) (n := 0) (by decide +kernel) rfl (sn_geti (ci := 11) (j := 13) en_c11 (by decide +kernel) wm_178 (Nat.le_of_ble_eq_true rfl) rfl (sn_callVv (n := 1) (idx := 209) (ci := 9) (i_X9_add G hst) (Nat.le_of_ble_eq_true rfl) cs_X9_add ⟨wm_1090, wm_1091, wm_117⟩ ⟨⟨_, rfl, rfl⟩, (Nat.le_of_ble_eq_true rfl)⟩ (by decide +kernel) (sn_iload (i := 4) (by decide +kernel) (sn_iret (by decide +kernel) rfl)))))))))))))))))))
noncomputable def B_X11_rivals_23 (kc : Nat → en_B) : en_B := (op_const (-1 : Int32) op_iret)
set_option maxRecDepth 20000 in
theorem s_X11_rivals_23 (G : en_G) (hst : G.2.2.2.2.2 = true) (kc : Nat → en_B) (hk : ∀ t, en_Snd G M_X11_rivals t (kc t)) : en_Snd G M_X11_rivals 23 (B_X11_rivals_23 kc) := (sn_iconst (n := -1) (v := -1) (by decide +kernel) rfl (sn_iret (by decide +kernel) rfl))
noncomputable def B_X11_rivals_0 (kc : Nat → en_B) : en_B := (op_aload 0 (op_gets 11 5 (10, 0, 0) (op_iload 1 (op_iload 2 (op_rcv 10 2 (op_calli O_X10_hasTwo 3 (op_ifeq (B_X11_rivals_23 kc) (op_iload 3 (op_const (1 : Int32) (op_iclt (B_X11_rivals_23 kc) (op_iload 3 (op_const (60 : Int32) (op_icgt (B_X11_rivals_23 kc) (B_X11_rivals_25 kc))))))))))))))
set_option maxRecDepth 20000 in
theorem s_X11_rivals_0 (G : en_G) (hst : G.2.2.2.2.2 = true) (kc : Nat → en_B) (hk : ∀ t, en_Snd G M_X11_rivals t (kc t)) : en_Snd G M_X11_rivals 0 (B_X11_rivals_0 kc) := (sn_aload_n (i := 0) (n := 0) (by decide +kernel) rfl (sn_gets (ci := 11) (j := 2) (off := 5) hst en_c11 of_11_5 (Nat.le_of_ble_eq_true rfl) (by decide +kernel) wm_18 (Nat.le_of_ble_eq_true rfl) rfl (sn_iload_n (i := 1) (n := 1) (by decide +kernel) rfl (sn_iload_n (i := 2) (n := 2) (by decide +kernel) rfl (sn_callVi (n := 2) (idx := 256) (ci := 10) (i_X10_hasTwo G hst) (Nat.le_of_ble_eq_true rfl) cs_X10_hasTwo ⟨wm_1118, wm_1119, wm_162⟩ ⟨⟨_, rfl, rfl⟩, (Nat.le_of_ble_eq_true rfl)⟩ (by decide +kernel) (sn_ifeq (off := 14) (tgt := 23) (by decide +kernel) rfl (s_X11_rivals_23 G hst kc hk) (sn_iload_n (i := 3) (n := 3) (by decide +kernel) rfl (sn_iconst (n := 1) (v := 1) (by decide +kernel) rfl (sn_iclt (off := 9) (tgt := 23) (by decide +kernel) rfl (s_X11_rivals_23 G hst kc hk) (sn_iload_n (i := 3) (n := 3) (by decide +kernel) rfl (sn_bipush (n := 60) (v := 60) (by decide +kernel) rfl (sn_icle (off := 5) (tgt := 25) (by decide +kernel) rfl (s_X11_rivals_25 G hst kc hk) (s_X11_rivals_23 G hst kc hk)))))))))))))
noncomputable def LK_X11_rivals : Nat → Nat → en_B
  | 0, _ => en_no
  | n + 1, t => en_no
theorem l_X11_rivals (G : en_G) (hst : G.2.2.2.2.2 = true) : ∀ n t, en_Snd G M_X11_rivals t (LK_X11_rivals n t)
  | 0, _ => sn_no
  | n + 1, t => by
    show en_Snd G M_X11_rivals t (en_no)
    exact sn_no
noncomputable def T_X11_rivals_0 (x1 : Int32) (x2 : Int32) (x3 : Int32) (σ : en_M) : en_R := B_X11_rivals_0 (LK_X11_rivals en_FU) [.inr (0, 11, 0, 0), .inl x1, .inl x2, .inl x3, en_un] [] en_zz σ
set_option maxRecDepth 400000 in
set_option maxHeartbeats 4000000 in
theorem t_X11_rivals_0 (x1 : Int32) (x2 : Int32) (x3 : Int32) (σ : en_M) : T_X11_rivals_0 x1 x2 x3 σ = ((O_X10_hasTwo [.inr (5, 10, 0, 0), .inl x1, .inl x2] σ).bind fun r1 => if r1.1 = 0 then (en_ri (-1 : Int32) r1.2) else (if x3 < (1 : Int32) then (en_ri (-1 : Int32) r1.2) else (if (60 : Int32) < x3 then (en_ri (-1 : Int32) r1.2) else ((O_X11_lookAhead [.inr (0, 11, 0, 0), .inl x3] r1.2).bind fun r2 => (O_X11_roundsInTurn [.inr (0, 11, 0, 0), .inl x1, .inl x2, .inl x3] r2).bind fun r3 => (O_X9_begin [.inr (3, 9, 0, 0)] r3.2).bind fun r4 => (O_X9_add [.inr (3, 9, 0, 0), .inl (r4 0 13)] r4).bind fun r5 => en_ri r3.1 r5)))) := rfl
noncomputable def P_X11_rivals : List en_V → en_M → Option (Int32 × en_M) := fun av σ => match av with
  | [.inr (0, 11, 0, 0), .inl x1, .inl x2, .inl x3] => en_oi (T_X11_rivals_0 x1 x2 x3 σ)
  | _ => none
theorem ox_X11_rivals : ∃ f, f = P_X11_rivals := ⟨_, rfl⟩
noncomputable def O_X11_rivals : List en_V → en_M → Option (Int32 × en_M) := Classical.choose ox_X11_rivals
theorem oe_X11_rivals : O_X11_rivals = P_X11_rivals := Classical.choose_spec ox_X11_rivals
theorem o_X11_rivals (x1 : Int32) (x2 : Int32) (x3 : Int32) (σ : en_M) : O_X11_rivals [.inr (0, 11, 0, 0), .inl x1, .inl x2, .inl x3] σ = en_oi (T_X11_rivals_0 x1 x2 x3 σ) := by rw [oe_X11_rivals]; rfl
theorem i_X11_rivals (G : en_G) (hst : G.2.2.2.2.2 = true) : en_I G 6 yX11_rivals cX11_rivals 5 (some .int) 0 0 (en_wi (O_X11_rivals)) := en_of_i (M := M_X11_rivals) hst (s_X11_rivals_0 G hst _ (l_X11_rivals G hst en_FU)) (plainFor_of_name (by decide +kernel)) rfl rfl rfl (Or.inl ⟨rfl, rfl⟩) (fun av σ x σ' h => by
  rw [oe_X11_rivals] at h; unfold P_X11_rivals at h
  split at h
  · exact ⟨(Nat.le_of_ble_eq_true rfl), en_oi_some h⟩
  · cases h)
-- EachMayMissOne.matches(II)I
def M_X11_matches : en_Me := (cX11_matches, RX11, 5, false, 6, false)
theorem cs_X11_matches : en_cs yX11_matches cX11_matches 5 (some .int) 2 := ⟨wm_179, wm_2, ⟨(by decide +kernel), (by decide +kernel), (by decide +kernel)⟩, (Nat.le_of_ble_eq_true rfl)⟩
noncomputable def B_X11_matches_110 (kc : Nat → en_B) : en_B := (op_aload 0 (op_gets 11 172 (3, 0, 0) (op_aload 0 (op_gets 11 5 (10, 0, 0) (op_geti 10 3 (op_aload 0 (op_gets 11 3 (9, 0, 0) (op_rcv 3 2 (op_calli O_X3_match 3 op_iret)))))))))
set_option maxRecDepth 20000 in
theorem s_X11_matches_110 (G : en_G) (hst : G.2.2.2.2.2 = true) (kc : Nat → en_B) (hk : ∀ t, en_Snd G M_X11_matches t (kc t)) : en_Snd G M_X11_matches 110 (B_X11_matches_110 kc) := (sn_aload_n (i := 0) (n := 0) (by decide +kernel) rfl (sn_gets (ci := 11) (j := 9) (off := 172) hst en_c11 of_11_172 (Nat.le_of_ble_eq_true rfl) (by decide +kernel) wm_49 (Nat.le_of_ble_eq_true rfl) rfl (sn_aload_n (i := 0) (n := 0) (by decide +kernel) rfl (sn_gets (ci := 11) (j := 2) (off := 5) hst en_c11 of_11_5 (Nat.le_of_ble_eq_true rfl) (by decide +kernel) wm_18 (Nat.le_of_ble_eq_true rfl) rfl (sn_geti (ci := 10) (j := 3) en_c10 (by decide +kernel) wm_74 (Nat.le_of_ble_eq_true rfl) rfl (sn_aload_n (i := 0) (n := 0) (by decide +kernel) rfl (sn_gets (ci := 11) (j := 1) (off := 3) hst en_c11 of_11_3 (Nat.le_of_ble_eq_true rfl) (by decide +kernel) wm_13 (Nat.le_of_ble_eq_true rfl) rfl (sn_callVi (n := 2) (idx := 280) (ci := 3) (i_X3_match G hst) (Nat.le_of_ble_eq_true rfl) cs_X3_match ⟨wm_829, wm_830, wm_185⟩ ⟨⟨_, rfl, rfl⟩, (Nat.le_of_ble_eq_true rfl)⟩ (by decide +kernel) (sn_iret (by decide +kernel) rfl)))))))))
noncomputable def B_X11_matches_104 (kc : Nat → en_B) : en_B := (op_iinc 3 (1 : Int32) (kc 39))
set_option maxRecDepth 20000 in
theorem s_X11_matches_104 (G : en_G) (hst : G.2.2.2.2.2 = true) (kc : Nat → en_B) (hk : ∀ t, en_Snd G M_X11_matches t (kc t)) : en_Snd G M_X11_matches 104 (B_X11_matches_104 kc) := (sn_iinc (i := 3) (n := 1) (v := 1) (by decide +kernel) rfl (sn_goto (off := -68) (tgt := 39) (by decide +kernel) rfl (hk 39)))
noncomputable def B_X11_matches_98 (kc : Nat → en_B) : en_B := (op_iinc 4 (1 : Int32) (kc 55))
set_option maxRecDepth 20000 in
theorem s_X11_matches_98 (G : en_G) (hst : G.2.2.2.2.2 = true) (kc : Nat → en_B) (hk : ∀ t, en_Snd G M_X11_matches t (kc t)) : en_Snd G M_X11_matches 98 (B_X11_matches_98 kc) := (sn_iinc (i := 4) (n := 1) (v := 1) (by decide +kernel) rfl (sn_goto (off := -46) (tgt := 55) (by decide +kernel) rfl (hk 55)))
noncomputable def B_X11_matches_55 (kc : Nat → en_B) : en_B := (op_iload 4 (op_aload 0 (op_gets 11 5 (10, 0, 0) (op_geti 10 3 (op_iclt (op_aload 0 (op_gets 11 172 (3, 0, 0) (op_iload 3 (op_iload 4 (op_rcv 3 2 (op_calli O_X3_both 3 (op_ifeq (B_X11_matches_98 kc) (op_aload 0 (op_gets 11 172 (3, 0, 0) (op_iload 3 (op_iload 4 (op_aload 0 (op_iload 3 (op_iload 4 (op_iload 2 (op_rcv 11 3 (op_calli O_X11_roundsInTurn 4 (op_rcv 3 3 (op_callv O_X3_put 4 (B_X11_matches_98 kc)))))))))))))))))))) (B_X11_matches_104 kc))))))
set_option maxRecDepth 20000 in
theorem s_X11_matches_55 (G : en_G) (hst : G.2.2.2.2.2 = true) (kc : Nat → en_B) (hk : ∀ t, en_Snd G M_X11_matches t (kc t)) : en_Snd G M_X11_matches 55 (B_X11_matches_55 kc) := (sn_iload (i := 4) (by decide +kernel) (sn_aload_n (i := 0) (n := 0) (by decide +kernel) rfl (sn_gets (ci := 11) (j := 2) (off := 5) hst en_c11 of_11_5 (Nat.le_of_ble_eq_true rfl) (by decide +kernel) wm_18 (Nat.le_of_ble_eq_true rfl) rfl (sn_geti (ci := 10) (j := 3) en_c10 (by decide +kernel) wm_74 (Nat.le_of_ble_eq_true rfl) rfl (sn_icge (off := 40) (tgt := 104) (by decide +kernel) rfl (s_X11_matches_104 G hst kc hk) (sn_aload_n (i := 0) (n := 0) (by decide +kernel) rfl (sn_gets (ci := 11) (j := 9) (off := 172) hst en_c11 of_11_172 (Nat.le_of_ble_eq_true rfl) (by decide +kernel) wm_49 (Nat.le_of_ble_eq_true rfl) rfl (sn_iload_n (i := 3) (n := 3) (by decide +kernel) rfl (sn_iload (i := 4) (by decide +kernel) (sn_callVi (n := 2) (idx := 274) (ci := 3) (i_X3_both G hst) (Nat.le_of_ble_eq_true rfl) cs_X3_both ⟨wm_822, wm_823, wm_183⟩ ⟨⟨_, rfl, rfl⟩, (Nat.le_of_ble_eq_true rfl)⟩ (by decide +kernel) (sn_ifeq (off := 21) (tgt := 98) (by decide +kernel) rfl (s_X11_matches_98 G hst kc hk) (sn_aload_n (i := 0) (n := 0) (by decide +kernel) rfl (sn_gets (ci := 11) (j := 9) (off := 172) hst en_c11 of_11_172 (Nat.le_of_ble_eq_true rfl) (by decide +kernel) wm_49 (Nat.le_of_ble_eq_true rfl) rfl (sn_iload_n (i := 3) (n := 3) (by decide +kernel) rfl (sn_iload (i := 4) (by decide +kernel) (sn_aload_n (i := 0) (n := 0) (by decide +kernel) rfl (sn_iload_n (i := 3) (n := 3) (by decide +kernel) rfl (sn_iload (i := 4) (by decide +kernel) (sn_iload_n (i := 2) (n := 2) (by decide +kernel) rfl (sn_callVi (n := 3) (idx := 265) (ci := 11) (i_X11_roundsInTurn G hst) (Nat.le_of_ble_eq_true rfl) cs_X11_roundsInTurn ⟨wm_302, wm_303, wm_177⟩ ⟨⟨_, rfl, rfl⟩, (Nat.le_of_ble_eq_true rfl)⟩ (by decide +kernel) (sn_callVv (n := 3) (idx := 277) (ci := 3) (i_X3_put G hst) (Nat.le_of_ble_eq_true rfl) cs_X3_put ⟨wm_826, wm_827, wm_184⟩ ⟨⟨_, rfl, rfl⟩, (Nat.le_of_ble_eq_true rfl)⟩ (by decide +kernel) (s_X11_matches_98 G hst kc hk))))))))))))))))))))))
noncomputable def B_X11_matches_39 (kc : Nat → en_B) : en_B := (op_iload 3 (op_aload 0 (op_gets 11 5 (10, 0, 0) (op_geti 10 3 (op_iclt (op_iload 3 (op_const (1 : Int32) (op_bin (fun (x y : Int32) => x + y) (op_istore 4 (kc 55))))) (B_X11_matches_110 kc))))))
set_option maxRecDepth 20000 in
theorem s_X11_matches_39 (G : en_G) (hst : G.2.2.2.2.2 = true) (kc : Nat → en_B) (hk : ∀ t, en_Snd G M_X11_matches t (kc t)) : en_Snd G M_X11_matches 39 (B_X11_matches_39 kc) := (sn_iload_n (i := 3) (n := 3) (by decide +kernel) rfl (sn_aload_n (i := 0) (n := 0) (by decide +kernel) rfl (sn_gets (ci := 11) (j := 2) (off := 5) hst en_c11 of_11_5 (Nat.le_of_ble_eq_true rfl) (by decide +kernel) wm_18 (Nat.le_of_ble_eq_true rfl) rfl (sn_geti (ci := 10) (j := 3) en_c10 (by decide +kernel) wm_74 (Nat.le_of_ble_eq_true rfl) rfl (sn_icge (off := 63) (tgt := 110) (by decide +kernel) rfl (s_X11_matches_110 G hst kc hk) (sn_iload_n (i := 3) (n := 3) (by decide +kernel) rfl (sn_iconst (n := 1) (v := 1) (by decide +kernel) rfl (sn_iadd (by decide +kernel) (sn_istore (i := 4) (by decide +kernel) (Nat.le_of_ble_eq_true rfl) (hk 55))))))))))
noncomputable def B_X11_matches_24 (kc : Nat → en_B) : en_B := (op_aload 0 (op_iload 2 (op_rcv 11 1 (op_callv O_X11_lookAhead 2 (op_aload 0 (op_gets 11 172 (3, 0, 0) (op_iload 1 (op_rcv 3 1 (op_callv O_X3_begin 2 (op_const (0 : Int32) (op_istore 3 (kc 39))))))))))))
set_option maxRecDepth 20000 in
theorem s_X11_matches_24 (G : en_G) (hst : G.2.2.2.2.2 = true) (kc : Nat → en_B) (hk : ∀ t, en_Snd G M_X11_matches t (kc t)) : en_Snd G M_X11_matches 24 (B_X11_matches_24 kc) := (sn_aload_n (i := 0) (n := 0) (by decide +kernel) rfl (sn_iload_n (i := 2) (n := 2) (by decide +kernel) rfl (sn_callVv (n := 1) (idx := 242) (ci := 11) (i_X11_lookAhead G hst) (Nat.le_of_ble_eq_true rfl) cs_X11_lookAhead ⟨wm_287, wm_288, wm_143⟩ ⟨⟨_, rfl, rfl⟩, (Nat.le_of_ble_eq_true rfl)⟩ (by decide +kernel) (sn_aload_n (i := 0) (n := 0) (by decide +kernel) rfl (sn_gets (ci := 11) (j := 9) (off := 172) hst en_c11 of_11_172 (Nat.le_of_ble_eq_true rfl) (by decide +kernel) wm_49 (Nat.le_of_ble_eq_true rfl) rfl (sn_iload_n (i := 1) (n := 1) (by decide +kernel) rfl (sn_callVv (n := 1) (idx := 272) (ci := 3) (i_X3_begin G hst) (Nat.le_of_ble_eq_true rfl) cs_X3_begin ⟨wm_818, wm_819, wm_182⟩ ⟨⟨_, rfl, rfl⟩, (Nat.le_of_ble_eq_true rfl)⟩ (by decide +kernel) (sn_iconst (n := 0) (v := 0) (by decide +kernel) rfl (sn_istore_n (i := 3) (n := 3) (by decide +kernel) rfl (Nat.le_of_ble_eq_true rfl) (hk 39))))))))))
noncomputable def B_X11_matches_22 (kc : Nat → en_B) : en_B := (op_const (-1 : Int32) op_iret)
set_option maxRecDepth 20000 in
theorem s_X11_matches_22 (G : en_G) (hst : G.2.2.2.2.2 = true) (kc : Nat → en_B) (hk : ∀ t, en_Snd G M_X11_matches t (kc t)) : en_Snd G M_X11_matches 22 (B_X11_matches_22 kc) := (sn_iconst (n := -1) (v := -1) (by decide +kernel) rfl (sn_iret (by decide +kernel) rfl))
noncomputable def B_X11_matches_0 (kc : Nat → en_B) : en_B := (op_aload 0 (op_gets 11 5 (10, 0, 0) (op_iload 1 (op_rcv 10 1 (op_calli O_X10_hasAll 2 (op_ifeq (B_X11_matches_22 kc) (op_iload 2 (op_const (1 : Int32) (op_iclt (B_X11_matches_22 kc) (op_iload 2 (op_const (60 : Int32) (op_icgt (B_X11_matches_22 kc) (B_X11_matches_24 kc)))))))))))))
set_option maxRecDepth 20000 in
theorem s_X11_matches_0 (G : en_G) (hst : G.2.2.2.2.2 = true) (kc : Nat → en_B) (hk : ∀ t, en_Snd G M_X11_matches t (kc t)) : en_Snd G M_X11_matches 0 (B_X11_matches_0 kc) := (sn_aload_n (i := 0) (n := 0) (by decide +kernel) rfl (sn_gets (ci := 11) (j := 2) (off := 5) hst en_c11 of_11_5 (Nat.le_of_ble_eq_true rfl) (by decide +kernel) wm_18 (Nat.le_of_ble_eq_true rfl) rfl (sn_iload_n (i := 1) (n := 1) (by decide +kernel) rfl (sn_callVi (n := 1) (idx := 194) (ci := 10) (i_X10_hasAll G hst) (Nat.le_of_ble_eq_true rfl) cs_X10_hasAll ⟨wm_1122, wm_1123, wm_112⟩ ⟨⟨_, rfl, rfl⟩, (Nat.le_of_ble_eq_true rfl)⟩ (by decide +kernel) (sn_ifeq (off := 14) (tgt := 22) (by decide +kernel) rfl (s_X11_matches_22 G hst kc hk) (sn_iload_n (i := 2) (n := 2) (by decide +kernel) rfl (sn_iconst (n := 1) (v := 1) (by decide +kernel) rfl (sn_iclt (off := 9) (tgt := 22) (by decide +kernel) rfl (s_X11_matches_22 G hst kc hk) (sn_iload_n (i := 2) (n := 2) (by decide +kernel) rfl (sn_bipush (n := 60) (v := 60) (by decide +kernel) rfl (sn_icle (off := 5) (tgt := 24) (by decide +kernel) rfl (s_X11_matches_24 G hst kc hk) (s_X11_matches_22 G hst kc hk))))))))))))
noncomputable def LK_X11_matches : Nat → Nat → en_B
  | 0, _ => en_no
  | n + 1, t => if t = 39 then B_X11_matches_39 (LK_X11_matches n) else if t = 55 then B_X11_matches_55 (LK_X11_matches n) else en_no
theorem l_X11_matches (G : en_G) (hst : G.2.2.2.2.2 = true) : ∀ n t, en_Snd G M_X11_matches t (LK_X11_matches n t)
  | 0, _ => sn_no
  | n + 1, t => by
    show en_Snd G M_X11_matches t (if t = 39 then B_X11_matches_39 (LK_X11_matches n) else if t = 55 then B_X11_matches_55 (LK_X11_matches n) else en_no)
    by_cases h_39 : t = 39
    · rw [if_pos h_39, h_39]; exact s_X11_matches_39 G hst _ (l_X11_matches G hst n)
    rw [if_neg h_39]
    by_cases h_55 : t = 55
    · rw [if_pos h_55, h_55]; exact s_X11_matches_55 G hst _ (l_X11_matches G hst n)
    rw [if_neg h_55]
    exact sn_no
noncomputable def T_X11_matches_0 (x1 : Int32) (x2 : Int32) (σ : en_M) : en_R := B_X11_matches_0 (LK_X11_matches en_FU) [.inr (0, 11, 0, 0), .inl x1, .inl x2, en_un, en_un] [] en_zz σ
noncomputable def T_X11_matches_39 (n : Nat) (x1 : Int32) (x2 : Int32) (x3 : Int32) (u4 : en_V) (σ : en_M) : en_R := LK_X11_matches n 39 [.inr (0, 11, 0, 0), .inl x1, .inl x2, .inl x3, u4] [] en_zz σ
noncomputable def T_X11_matches_55 (n : Nat) (x1 : Int32) (x2 : Int32) (x3 : Int32) (x4 : Int32) (σ : en_M) : en_R := LK_X11_matches n 55 [.inr (0, 11, 0, 0), .inl x1, .inl x2, .inl x3, .inl x4] [] en_zz σ
set_option maxRecDepth 400000 in
set_option maxHeartbeats 4000000 in
theorem t_X11_matches_0 (x1 : Int32) (x2 : Int32) (σ : en_M) : T_X11_matches_0 x1 x2 σ = ((O_X10_hasAll [.inr (5, 10, 0, 0), .inl x1] σ).bind fun r1 => if r1.1 = 0 then (en_ri (-1 : Int32) r1.2) else (if x2 < (1 : Int32) then (en_ri (-1 : Int32) r1.2) else (if (60 : Int32) < x2 then (en_ri (-1 : Int32) r1.2) else ((O_X11_lookAhead [.inr (0, 11, 0, 0), .inl x2] r1.2).bind fun r2 => (O_X3_begin [.inr (172, 3, 0, 0), .inl x1] r2).bind fun r3 => T_X11_matches_39 en_FU x1 x2 (0 : Int32) (en_un) r3)))) := rfl
set_option maxRecDepth 400000 in
set_option maxHeartbeats 4000000 in
theorem t_X11_matches_39 (n : Nat) (x1 : Int32) (x2 : Int32) (x3 : Int32) (u4 : en_V) (σ : en_M) : T_X11_matches_39 (n + 1) x1 x2 x3 u4 σ = (if x3 < (σ 5 3) then (T_X11_matches_55 n x1 x2 x3 (x3 + (1 : Int32)) σ) else ((O_X3_match [.inr (172, 3, 0, 0), .inl (σ 5 3), .inr (3, 9, 0, 0)] σ).bind fun r4 => en_ri r4.1 r4.2)) := rfl
set_option maxRecDepth 400000 in
set_option maxHeartbeats 4000000 in
theorem t_X11_matches_55 (n : Nat) (x1 : Int32) (x2 : Int32) (x3 : Int32) (x4 : Int32) (σ : en_M) : T_X11_matches_55 (n + 1) x1 x2 x3 x4 σ = (if x4 < (σ 5 3) then ((O_X3_both [.inr (172, 3, 0, 0), .inl x3, .inl x4] σ).bind fun r5 => if r5.1 = 0 then (T_X11_matches_55 n x1 x2 x3 (x4 + (1 : Int32)) r5.2) else ((O_X11_roundsInTurn [.inr (0, 11, 0, 0), .inl x3, .inl x4, .inl x2] r5.2).bind fun r6 => (O_X3_put [.inr (172, 3, 0, 0), .inl x3, .inl x4, .inl r6.1] r6.2).bind fun r7 => T_X11_matches_55 n x1 x2 x3 (x4 + (1 : Int32)) r7)) else (T_X11_matches_39 n x1 x2 (x3 + (1 : Int32)) (.inl x4) σ)) := rfl
noncomputable def P_X11_matches : List en_V → en_M → Option (Int32 × en_M) := fun av σ => match av with
  | [.inr (0, 11, 0, 0), .inl x1, .inl x2] => en_oi (T_X11_matches_0 x1 x2 σ)
  | _ => none
theorem ox_X11_matches : ∃ f, f = P_X11_matches := ⟨_, rfl⟩
noncomputable def O_X11_matches : List en_V → en_M → Option (Int32 × en_M) := Classical.choose ox_X11_matches
theorem oe_X11_matches : O_X11_matches = P_X11_matches := Classical.choose_spec ox_X11_matches
theorem o_X11_matches (x1 : Int32) (x2 : Int32) (σ : en_M) : O_X11_matches [.inr (0, 11, 0, 0), .inl x1, .inl x2] σ = en_oi (T_X11_matches_0 x1 x2 σ) := by rw [oe_X11_matches]; rfl
theorem i_X11_matches (G : en_G) (hst : G.2.2.2.2.2 = true) : en_I G 6 yX11_matches cX11_matches 5 (some .int) 0 0 (en_wi (O_X11_matches)) := en_of_i (M := M_X11_matches) hst (s_X11_matches_0 G hst _ (l_X11_matches G hst en_FU)) (plainFor_of_name (by decide +kernel)) rfl rfl rfl (Or.inl ⟨rfl, rfl⟩) (fun av σ x σ' h => by
  rw [oe_X11_matches] at h; unfold P_X11_matches at h
  split at h
  · exact ⟨(Nat.le_of_ble_eq_true rfl), en_oi_some h⟩
  · cases h)
-- EachMayMissOne.sleeps(I)I
def M_X11_sleeps : en_Me := (cX11_sleeps, RX11, 2, false, 5, false)
theorem cs_X11_sleeps : en_cs yX11_sleeps cX11_sleeps 2 (some .int) 1 := ⟨wm_186, wm_2, ⟨(by decide +kernel), (by decide +kernel), (by decide +kernel)⟩, (Nat.le_of_ble_eq_true rfl)⟩
noncomputable def B_X11_sleeps_23 (kc : Nat → en_B) : en_B := (op_aload 0 (op_iload 1 (op_rcv 11 1 (op_callv O_X11_lookAhead 2 (op_aload 0 (op_gets 11 103 (5, 0, 0) (op_aload 0 (op_gets 11 5 (10, 0, 0) (op_aload 0 (op_gets 11 182 (20, 201, 0) (op_aload 0 (op_gets 11 15 (7, 0, 0) (op_geti 7 5 (op_iload 1 (op_rcv 5 4 (op_callv O_X5_prepare 5 (op_aload 0 (op_gets 11 103 (5, 0, 0) (op_aload 0 (op_gets 11 15 (7, 0, 0) (op_iload 1 (op_aload 0 (op_gets 11 3 (9, 0, 0) (op_rcv 5 3 (op_calli O_X5_mostMissed 4 op_iret)))))))))))))))))))))))))
set_option maxRecDepth 20000 in
theorem s_X11_sleeps_23 (G : en_G) (hst : G.2.2.2.2.2 = true) (kc : Nat → en_B) (hk : ∀ t, en_Snd G M_X11_sleeps t (kc t)) : en_Snd G M_X11_sleeps 23 (B_X11_sleeps_23 kc) := (sn_aload_n (i := 0) (n := 0) (by decide +kernel) rfl (sn_iload_n (i := 1) (n := 1) (by decide +kernel) rfl (sn_callVv (n := 1) (idx := 242) (ci := 11) (i_X11_lookAhead G hst) (Nat.le_of_ble_eq_true rfl) cs_X11_lookAhead ⟨wm_287, wm_288, wm_143⟩ ⟨⟨_, rfl, rfl⟩, (Nat.le_of_ble_eq_true rfl)⟩ (by decide +kernel) (sn_aload_n (i := 0) (n := 0) (by decide +kernel) rfl (sn_gets (ci := 11) (j := 8) (off := 103) hst en_c11 of_11_103 (Nat.le_of_ble_eq_true rfl) (by decide +kernel) wm_44 (Nat.le_of_ble_eq_true rfl) rfl (sn_aload_n (i := 0) (n := 0) (by decide +kernel) rfl (sn_gets (ci := 11) (j := 2) (off := 5) hst en_c11 of_11_5 (Nat.le_of_ble_eq_true rfl) (by decide +kernel) wm_18 (Nat.le_of_ble_eq_true rfl) rfl (sn_aload_n (i := 0) (n := 0) (by decide +kernel) rfl (sn_gets (ci := 11) (j := 10) (off := 182) hst en_c11 of_11_182 (Nat.le_of_ble_eq_true rfl) (by decide +kernel) wm_50 (Nat.le_of_ble_eq_true rfl) rfl (sn_aload_n (i := 0) (n := 0) (by decide +kernel) rfl (sn_gets (ci := 11) (j := 3) (off := 15) hst en_c11 of_11_15 (Nat.le_of_ble_eq_true rfl) (by decide +kernel) wm_23 (Nat.le_of_ble_eq_true rfl) rfl (sn_geti (ci := 7) (j := 5) en_c7 (by decide +kernel) wm_123 (Nat.le_of_ble_eq_true rfl) rfl (sn_iload_n (i := 1) (n := 1) (by decide +kernel) rfl (sn_callVv (n := 4) (idx := 284) (ci := 5) (i_X5_prepare G hst) (Nat.le_of_ble_eq_true rfl) cs_X5_prepare ⟨wm_879, wm_880, wm_189⟩ ⟨⟨_, rfl, rfl⟩, (Nat.le_of_ble_eq_true rfl)⟩ (by decide +kernel) (sn_aload_n (i := 0) (n := 0) (by decide +kernel) rfl (sn_gets (ci := 11) (j := 8) (off := 103) hst en_c11 of_11_103 (Nat.le_of_ble_eq_true rfl) (by decide +kernel) wm_44 (Nat.le_of_ble_eq_true rfl) rfl (sn_aload_n (i := 0) (n := 0) (by decide +kernel) rfl (sn_gets (ci := 11) (j := 3) (off := 15) hst en_c11 of_11_15 (Nat.le_of_ble_eq_true rfl) (by decide +kernel) wm_23 (Nat.le_of_ble_eq_true rfl) rfl (sn_iload_n (i := 1) (n := 1) (by decide +kernel) rfl (sn_aload_n (i := 0) (n := 0) (by decide +kernel) rfl (sn_gets (ci := 11) (j := 1) (off := 3) hst en_c11 of_11_3 (Nat.le_of_ble_eq_true rfl) (by decide +kernel) wm_13 (Nat.le_of_ble_eq_true rfl) rfl (sn_callVi (n := 3) (idx := 288) (ci := 5) (i_X5_mostMissed G hst) (Nat.le_of_ble_eq_true rfl) cs_X5_mostMissed ⟨wm_888, wm_889, wm_190⟩ ⟨⟨_, rfl, rfl⟩, (Nat.le_of_ble_eq_true rfl)⟩ (by decide +kernel) (sn_iret (by decide +kernel) rfl)))))))))))))))))))))))
noncomputable def B_X11_sleeps_21 (kc : Nat → en_B) : en_B := (op_const (-1 : Int32) op_iret)
set_option maxRecDepth 20000 in
theorem s_X11_sleeps_21 (G : en_G) (hst : G.2.2.2.2.2 = true) (kc : Nat → en_B) (hk : ∀ t, en_Snd G M_X11_sleeps t (kc t)) : en_Snd G M_X11_sleeps 21 (B_X11_sleeps_21 kc) := (sn_iconst (n := -1) (v := -1) (by decide +kernel) rfl (sn_iret (by decide +kernel) rfl))
noncomputable def B_X11_sleeps_0 (kc : Nat → en_B) : en_B := (op_aload 0 (op_gets 11 5 (10, 0, 0) (op_geti 10 3 (op_ifeq (B_X11_sleeps_21 kc) (op_iload 1 (op_const (1 : Int32) (op_iclt (B_X11_sleeps_21 kc) (op_iload 1 (op_const (12 : Int32) (op_icgt (B_X11_sleeps_21 kc) (B_X11_sleeps_23 kc)))))))))))
set_option maxRecDepth 20000 in
theorem s_X11_sleeps_0 (G : en_G) (hst : G.2.2.2.2.2 = true) (kc : Nat → en_B) (hk : ∀ t, en_Snd G M_X11_sleeps t (kc t)) : en_Snd G M_X11_sleeps 0 (B_X11_sleeps_0 kc) := (sn_aload_n (i := 0) (n := 0) (by decide +kernel) rfl (sn_gets (ci := 11) (j := 2) (off := 5) hst en_c11 of_11_5 (Nat.le_of_ble_eq_true rfl) (by decide +kernel) wm_18 (Nat.le_of_ble_eq_true rfl) rfl (sn_geti (ci := 10) (j := 3) en_c10 (by decide +kernel) wm_74 (Nat.le_of_ble_eq_true rfl) rfl (sn_ifeq (off := 14) (tgt := 21) (by decide +kernel) rfl (s_X11_sleeps_21 G hst kc hk) (sn_iload_n (i := 1) (n := 1) (by decide +kernel) rfl (sn_iconst (n := 1) (v := 1) (by decide +kernel) rfl (sn_iclt (off := 9) (tgt := 21) (by decide +kernel) rfl (s_X11_sleeps_21 G hst kc hk) (sn_iload_n (i := 1) (n := 1) (by decide +kernel) rfl (sn_bipush (n := 12) (v := 12) (by decide +kernel) rfl (sn_icle (off := 5) (tgt := 23) (by decide +kernel) rfl (s_X11_sleeps_23 G hst kc hk) (s_X11_sleeps_21 G hst kc hk)))))))))))
noncomputable def LK_X11_sleeps : Nat → Nat → en_B
  | 0, _ => en_no
  | n + 1, t => en_no
theorem l_X11_sleeps (G : en_G) (hst : G.2.2.2.2.2 = true) : ∀ n t, en_Snd G M_X11_sleeps t (LK_X11_sleeps n t)
  | 0, _ => sn_no
  | n + 1, t => by
    show en_Snd G M_X11_sleeps t (en_no)
    exact sn_no
noncomputable def T_X11_sleeps_0 (x1 : Int32) (σ : en_M) : en_R := B_X11_sleeps_0 (LK_X11_sleeps en_FU) [.inr (0, 11, 0, 0), .inl x1] [] en_zz σ
set_option maxRecDepth 400000 in
set_option maxHeartbeats 4000000 in
theorem t_X11_sleeps_0 (x1 : Int32) (σ : en_M) : T_X11_sleeps_0 x1 σ = (if (σ 5 3) = 0 then (en_ri (-1 : Int32) σ) else (if x1 < (1 : Int32) then (en_ri (-1 : Int32) σ) else (if (12 : Int32) < x1 then (en_ri (-1 : Int32) σ) else ((O_X11_lookAhead [.inr (0, 11, 0, 0), .inl x1] σ).bind fun r1 => (O_X5_prepare [.inr (103, 5, 0, 0), .inr (5, 10, 0, 0), .inr (182, 20, 201, 0), .inl (r1 15 5), .inl x1] r1).bind fun r2 => (O_X5_mostMissed [.inr (103, 5, 0, 0), .inr (15, 7, 0, 0), .inl x1, .inr (3, 9, 0, 0)] r2).bind fun r3 => en_ri r3.1 r3.2)))) := rfl
noncomputable def P_X11_sleeps : List en_V → en_M → Option (Int32 × en_M) := fun av σ => match av with
  | [.inr (0, 11, 0, 0), .inl x1] => en_oi (T_X11_sleeps_0 x1 σ)
  | _ => none
theorem ox_X11_sleeps : ∃ f, f = P_X11_sleeps := ⟨_, rfl⟩
noncomputable def O_X11_sleeps : List en_V → en_M → Option (Int32 × en_M) := Classical.choose ox_X11_sleeps
theorem oe_X11_sleeps : O_X11_sleeps = P_X11_sleeps := Classical.choose_spec ox_X11_sleeps
theorem o_X11_sleeps (x1 : Int32) (σ : en_M) : O_X11_sleeps [.inr (0, 11, 0, 0), .inl x1] σ = en_oi (T_X11_sleeps_0 x1 σ) := by rw [oe_X11_sleeps]; rfl
theorem i_X11_sleeps (G : en_G) (hst : G.2.2.2.2.2 = true) : en_I G 5 yX11_sleeps cX11_sleeps 2 (some .int) 0 0 (en_wi (O_X11_sleeps)) := en_of_i (M := M_X11_sleeps) hst (s_X11_sleeps_0 G hst _ (l_X11_sleeps G hst en_FU)) (plainFor_of_name (by decide +kernel)) rfl rfl rfl (Or.inl ⟨rfl, rfl⟩) (fun av σ x σ' h => by
  rw [oe_X11_sleeps] at h; unfold P_X11_sleeps at h
  split at h
  · exact ⟨(Nat.le_of_ble_eq_true rfl), en_oi_some h⟩
  · cases h)
-- EachMayMissOne.naps(II)I
def M_X11_naps : en_Me := (cX11_naps, RX11, 3, false, 7, false)
theorem cs_X11_naps : en_cs yX11_naps cX11_naps 3 (some .int) 2 := ⟨wm_191, wm_2, ⟨(by decide +kernel), (by decide +kernel), (by decide +kernel)⟩, (Nat.le_of_ble_eq_true rfl)⟩
noncomputable def B_X11_naps_47 (kc : Nat → en_B) : en_B := (op_aload 0 (op_iload 2 (op_rcv 11 1 (op_callv O_X11_lookAhead 2 (op_aload 0 (op_gets 11 103 (5, 0, 0) (op_aload 0 (op_gets 11 5 (10, 0, 0) (op_aload 0 (op_gets 11 182 (20, 201, 0) (op_aload 0 (op_gets 11 15 (7, 0, 0) (op_geti 7 5 (op_iload 2 (op_rcv 5 4 (op_callv O_X5_prepare 5 (op_aload 0 (op_gets 11 103 (5, 0, 0) (op_aload 0 (op_gets 11 15 (7, 0, 0) (op_aload 0 (op_gets 11 5 (10, 0, 0) (op_geti 10 3 (op_iload 1 (op_iload 2 (op_aload 0 (op_gets 11 3 (9, 0, 0) (op_rcv 5 5 (op_calli O_X5_fewestRounds 6 op_iret)))))))))))))))))))))))))))))
set_option maxRecDepth 20000 in
theorem s_X11_naps_47 (G : en_G) (hst : G.2.2.2.2.2 = true) (kc : Nat → en_B) (hk : ∀ t, en_Snd G M_X11_naps t (kc t)) : en_Snd G M_X11_naps 47 (B_X11_naps_47 kc) := (sn_aload_n (i := 0) (n := 0) (by decide +kernel) rfl (sn_iload_n (i := 2) (n := 2) (by decide +kernel) rfl (sn_callVv (n := 1) (idx := 242) (ci := 11) (i_X11_lookAhead G hst) (Nat.le_of_ble_eq_true rfl) cs_X11_lookAhead ⟨wm_287, wm_288, wm_143⟩ ⟨⟨_, rfl, rfl⟩, (Nat.le_of_ble_eq_true rfl)⟩ (by decide +kernel) (sn_aload_n (i := 0) (n := 0) (by decide +kernel) rfl (sn_gets (ci := 11) (j := 8) (off := 103) hst en_c11 of_11_103 (Nat.le_of_ble_eq_true rfl) (by decide +kernel) wm_44 (Nat.le_of_ble_eq_true rfl) rfl (sn_aload_n (i := 0) (n := 0) (by decide +kernel) rfl (sn_gets (ci := 11) (j := 2) (off := 5) hst en_c11 of_11_5 (Nat.le_of_ble_eq_true rfl) (by decide +kernel) wm_18 (Nat.le_of_ble_eq_true rfl) rfl (sn_aload_n (i := 0) (n := 0) (by decide +kernel) rfl (sn_gets (ci := 11) (j := 10) (off := 182) hst en_c11 of_11_182 (Nat.le_of_ble_eq_true rfl) (by decide +kernel) wm_50 (Nat.le_of_ble_eq_true rfl) rfl (sn_aload_n (i := 0) (n := 0) (by decide +kernel) rfl (sn_gets (ci := 11) (j := 3) (off := 15) hst en_c11 of_11_15 (Nat.le_of_ble_eq_true rfl) (by decide +kernel) wm_23 (Nat.le_of_ble_eq_true rfl) rfl (sn_geti (ci := 7) (j := 5) en_c7 (by decide +kernel) wm_123 (Nat.le_of_ble_eq_true rfl) rfl (sn_iload_n (i := 2) (n := 2) (by decide +kernel) rfl (sn_callVv (n := 4) (idx := 284) (ci := 5) (i_X5_prepare G hst) (Nat.le_of_ble_eq_true rfl) cs_X5_prepare ⟨wm_879, wm_880, wm_189⟩ ⟨⟨_, rfl, rfl⟩, (Nat.le_of_ble_eq_true rfl)⟩ (by decide +kernel) (sn_aload_n (i := 0) (n := 0) (by decide +kernel) rfl (sn_gets (ci := 11) (j := 8) (off := 103) hst en_c11 of_11_103 (Nat.le_of_ble_eq_true rfl) (by decide +kernel) wm_44 (Nat.le_of_ble_eq_true rfl) rfl (sn_aload_n (i := 0) (n := 0) (by decide +kernel) rfl (sn_gets (ci := 11) (j := 3) (off := 15) hst en_c11 of_11_15 (Nat.le_of_ble_eq_true rfl) (by decide +kernel) wm_23 (Nat.le_of_ble_eq_true rfl) rfl (sn_aload_n (i := 0) (n := 0) (by decide +kernel) rfl (sn_gets (ci := 11) (j := 2) (off := 5) hst en_c11 of_11_5 (Nat.le_of_ble_eq_true rfl) (by decide +kernel) wm_18 (Nat.le_of_ble_eq_true rfl) rfl (sn_geti (ci := 10) (j := 3) en_c10 (by decide +kernel) wm_74 (Nat.le_of_ble_eq_true rfl) rfl (sn_iload_n (i := 1) (n := 1) (by decide +kernel) rfl (sn_iload_n (i := 2) (n := 2) (by decide +kernel) rfl (sn_aload_n (i := 0) (n := 0) (by decide +kernel) rfl (sn_gets (ci := 11) (j := 1) (off := 3) hst en_c11 of_11_3 (Nat.le_of_ble_eq_true rfl) (by decide +kernel) wm_13 (Nat.le_of_ble_eq_true rfl) rfl (sn_callVi (n := 5) (idx := 292) (ci := 5) (i_X5_fewestRounds G hst) (Nat.le_of_ble_eq_true rfl) cs_X5_fewestRounds ⟨wm_909, wm_910, wm_194⟩ ⟨⟨_, rfl, rfl⟩, (Nat.le_of_ble_eq_true rfl)⟩ (by decide +kernel) (sn_iret (by decide +kernel) rfl)))))))))))))))))))))))))))
noncomputable def B_X11_naps_33 (kc : Nat → en_B) : en_B := (op_aload 0 (op_gets 11 5 (10, 0, 0) (op_geti 10 3 (op_const (5 : Int32) (op_icgt (op_const (-3 : Int32) op_iret) (B_X11_naps_47 kc))))))
set_option maxRecDepth 20000 in
theorem s_X11_naps_33 (G : en_G) (hst : G.2.2.2.2.2 = true) (kc : Nat → en_B) (hk : ∀ t, en_Snd G M_X11_naps t (kc t)) : en_Snd G M_X11_naps 33 (B_X11_naps_33 kc) := (sn_aload_n (i := 0) (n := 0) (by decide +kernel) rfl (sn_gets (ci := 11) (j := 2) (off := 5) hst en_c11 of_11_5 (Nat.le_of_ble_eq_true rfl) (by decide +kernel) wm_18 (Nat.le_of_ble_eq_true rfl) rfl (sn_geti (ci := 10) (j := 3) en_c10 (by decide +kernel) wm_74 (Nat.le_of_ble_eq_true rfl) rfl (sn_iconst (n := 5) (v := 5) (by decide +kernel) rfl (sn_icle (off := 6) (tgt := 47) (by decide +kernel) rfl (s_X11_naps_47 G hst kc hk) (sn_bipush (n := -3) (v := -3) (by decide +kernel) rfl (sn_iret (by decide +kernel) rfl)))))))
noncomputable def B_X11_naps_31 (kc : Nat → en_B) : en_B := (op_const (-1 : Int32) op_iret)
set_option maxRecDepth 20000 in
theorem s_X11_naps_31 (G : en_G) (hst : G.2.2.2.2.2 = true) (kc : Nat → en_B) (hk : ∀ t, en_Snd G M_X11_naps t (kc t)) : en_Snd G M_X11_naps 31 (B_X11_naps_31 kc) := (sn_iconst (n := -1) (v := -1) (by decide +kernel) rfl (sn_iret (by decide +kernel) rfl))
noncomputable def B_X11_naps_0 (kc : Nat → en_B) : en_B := (op_aload 0 (op_gets 11 5 (10, 0, 0) (op_geti 10 3 (op_ifeq (B_X11_naps_31 kc) (op_iload 1 (op_const (1 : Int32) (op_iclt (B_X11_naps_31 kc) (op_iload 1 (op_const (2 : Int32) (op_icgt (B_X11_naps_31 kc) (op_iload 2 (op_const (1 : Int32) (op_iclt (B_X11_naps_31 kc) (op_iload 2 (op_const (12 : Int32) (op_icgt (B_X11_naps_31 kc) (B_X11_naps_33 kc)))))))))))))))))
set_option maxRecDepth 20000 in
theorem s_X11_naps_0 (G : en_G) (hst : G.2.2.2.2.2 = true) (kc : Nat → en_B) (hk : ∀ t, en_Snd G M_X11_naps t (kc t)) : en_Snd G M_X11_naps 0 (B_X11_naps_0 kc) := (sn_aload_n (i := 0) (n := 0) (by decide +kernel) rfl (sn_gets (ci := 11) (j := 2) (off := 5) hst en_c11 of_11_5 (Nat.le_of_ble_eq_true rfl) (by decide +kernel) wm_18 (Nat.le_of_ble_eq_true rfl) rfl (sn_geti (ci := 10) (j := 3) en_c10 (by decide +kernel) wm_74 (Nat.le_of_ble_eq_true rfl) rfl (sn_ifeq (off := 24) (tgt := 31) (by decide +kernel) rfl (s_X11_naps_31 G hst kc hk) (sn_iload_n (i := 1) (n := 1) (by decide +kernel) rfl (sn_iconst (n := 1) (v := 1) (by decide +kernel) rfl (sn_iclt (off := 19) (tgt := 31) (by decide +kernel) rfl (s_X11_naps_31 G hst kc hk) (sn_iload_n (i := 1) (n := 1) (by decide +kernel) rfl (sn_iconst (n := 2) (v := 2) (by decide +kernel) rfl (sn_icgt (off := 14) (tgt := 31) (by decide +kernel) rfl (s_X11_naps_31 G hst kc hk) (sn_iload_n (i := 2) (n := 2) (by decide +kernel) rfl (sn_iconst (n := 1) (v := 1) (by decide +kernel) rfl (sn_iclt (off := 9) (tgt := 31) (by decide +kernel) rfl (s_X11_naps_31 G hst kc hk) (sn_iload_n (i := 2) (n := 2) (by decide +kernel) rfl (sn_bipush (n := 12) (v := 12) (by decide +kernel) rfl (sn_icle (off := 5) (tgt := 33) (by decide +kernel) rfl (s_X11_naps_33 G hst kc hk) (s_X11_naps_31 G hst kc hk)))))))))))))))))
noncomputable def LK_X11_naps : Nat → Nat → en_B
  | 0, _ => en_no
  | n + 1, t => en_no
theorem l_X11_naps (G : en_G) (hst : G.2.2.2.2.2 = true) : ∀ n t, en_Snd G M_X11_naps t (LK_X11_naps n t)
  | 0, _ => sn_no
  | n + 1, t => by
    show en_Snd G M_X11_naps t (en_no)
    exact sn_no
noncomputable def T_X11_naps_0 (x1 : Int32) (x2 : Int32) (σ : en_M) : en_R := B_X11_naps_0 (LK_X11_naps en_FU) [.inr (0, 11, 0, 0), .inl x1, .inl x2] [] en_zz σ
set_option maxRecDepth 400000 in
set_option maxHeartbeats 4000000 in
theorem t_X11_naps_0 (x1 : Int32) (x2 : Int32) (σ : en_M) : T_X11_naps_0 x1 x2 σ = (if (σ 5 3) = 0 then (en_ri (-1 : Int32) σ) else (if x1 < (1 : Int32) then (en_ri (-1 : Int32) σ) else (if (2 : Int32) < x1 then (en_ri (-1 : Int32) σ) else (if x2 < (1 : Int32) then (en_ri (-1 : Int32) σ) else (if (12 : Int32) < x2 then (en_ri (-1 : Int32) σ) else (if (5 : Int32) < (σ 5 3) then (en_ri (-3 : Int32) σ) else ((O_X11_lookAhead [.inr (0, 11, 0, 0), .inl x2] σ).bind fun r1 => (O_X5_prepare [.inr (103, 5, 0, 0), .inr (5, 10, 0, 0), .inr (182, 20, 201, 0), .inl (r1 15 5), .inl x2] r1).bind fun r2 => (O_X5_fewestRounds [.inr (103, 5, 0, 0), .inr (15, 7, 0, 0), .inl (r2 5 3), .inl x1, .inl x2, .inr (3, 9, 0, 0)] r2).bind fun r3 => en_ri r3.1 r3.2))))))) := rfl
noncomputable def P_X11_naps : List en_V → en_M → Option (Int32 × en_M) := fun av σ => match av with
  | [.inr (0, 11, 0, 0), .inl x1, .inl x2] => en_oi (T_X11_naps_0 x1 x2 σ)
  | _ => none
theorem ox_X11_naps : ∃ f, f = P_X11_naps := ⟨_, rfl⟩
noncomputable def O_X11_naps : List en_V → en_M → Option (Int32 × en_M) := Classical.choose ox_X11_naps
theorem oe_X11_naps : O_X11_naps = P_X11_naps := Classical.choose_spec ox_X11_naps
theorem o_X11_naps (x1 : Int32) (x2 : Int32) (σ : en_M) : O_X11_naps [.inr (0, 11, 0, 0), .inl x1, .inl x2] σ = en_oi (T_X11_naps_0 x1 x2 σ) := by rw [oe_X11_naps]; rfl
theorem i_X11_naps (G : en_G) (hst : G.2.2.2.2.2 = true) : en_I G 7 yX11_naps cX11_naps 3 (some .int) 0 0 (en_wi (O_X11_naps)) := en_of_i (M := M_X11_naps) hst (s_X11_naps_0 G hst _ (l_X11_naps G hst en_FU)) (plainFor_of_name (by decide +kernel)) rfl rfl rfl (Or.inl ⟨rfl, rfl⟩) (fun av σ x σ' h => by
  rw [oe_X11_naps] at h; unfold P_X11_naps at h
  split at h
  · exact ⟨(Nat.le_of_ble_eq_true rfl), en_oi_some h⟩
  · cases h)
-- EachMayMissOne.bound(I)I
def M_X11_bound : en_Me := (cX11_bound, RX11, 3, false, 2, false)
theorem cs_X11_bound : en_cs yX11_bound cX11_bound 3 (some .int) 1 := ⟨wm_195, wm_2, ⟨(by decide +kernel), (by decide +kernel), (by decide +kernel)⟩, (Nat.le_of_ble_eq_true rfl)⟩
noncomputable def B_X11_bound_68 (kc : Nat → en_B) : en_B := (op_istore 2 (op_aload 0 (op_gets 11 5 (10, 0, 0) (op_geti 10 3 (op_iload 1 (op_bin (fun (x y : Int32) => x * y) (op_iload 2 (op_bin (fun (x y : Int32) => x + y) (op_const (1 : Int32) (op_bin (fun (x y : Int32) => x - y) (op_iload 2 (op_div (fun (x y : Int32) => x / y) op_iret))))))))))))
set_option maxRecDepth 20000 in
theorem s_X11_bound_68 (G : en_G) (hst : G.2.2.2.2.2 = true) (kc : Nat → en_B) (hk : ∀ t, en_Snd G M_X11_bound t (kc t)) : en_Snd G M_X11_bound 68 (B_X11_bound_68 kc) := (sn_istore_n (i := 2) (n := 2) (by decide +kernel) rfl (Nat.le_of_ble_eq_true rfl) (sn_aload_n (i := 0) (n := 0) (by decide +kernel) rfl (sn_gets (ci := 11) (j := 2) (off := 5) hst en_c11 of_11_5 (Nat.le_of_ble_eq_true rfl) (by decide +kernel) wm_18 (Nat.le_of_ble_eq_true rfl) rfl (sn_geti (ci := 10) (j := 3) en_c10 (by decide +kernel) wm_74 (Nat.le_of_ble_eq_true rfl) rfl (sn_iload_n (i := 1) (n := 1) (by decide +kernel) rfl (sn_imul (by decide +kernel) (sn_iload_n (i := 2) (n := 2) (by decide +kernel) rfl (sn_iadd (by decide +kernel) (sn_iconst (n := 1) (v := 1) (by decide +kernel) rfl (sn_isub (by decide +kernel) (sn_iload_n (i := 2) (n := 2) (by decide +kernel) rfl (sn_idiv (by decide +kernel) (sn_iret (by decide +kernel) rfl)))))))))))))
noncomputable def B_X11_bound_61 (kc : Nat → en_B) : en_B := (op_aload 0 (op_gets 11 5 (10, 0, 0) (op_geti 10 5 (B_X11_bound_68 kc))))
set_option maxRecDepth 20000 in
theorem s_X11_bound_61 (G : en_G) (hst : G.2.2.2.2.2 = true) (kc : Nat → en_B) (hk : ∀ t, en_Snd G M_X11_bound t (kc t)) : en_Snd G M_X11_bound 61 (B_X11_bound_61 kc) := (sn_aload_n (i := 0) (n := 0) (by decide +kernel) rfl (sn_gets (ci := 11) (j := 2) (off := 5) hst en_c11 of_11_5 (Nat.le_of_ble_eq_true rfl) (by decide +kernel) wm_18 (Nat.le_of_ble_eq_true rfl) rfl (sn_geti (ci := 10) (j := 5) en_c10 (by decide +kernel) wm_101 (Nat.le_of_ble_eq_true rfl) rfl (s_X11_bound_68 G hst kc hk))))
noncomputable def B_X11_bound_43 (kc : Nat → en_B) : en_B := (op_rcv 9 1 (op_callv O_X9_add 2 (op_aload 0 (op_gets 11 5 (10, 0, 0) (op_geti 10 5 (op_const (1 : Int32) (op_iclt (op_const (1 : Int32) (B_X11_bound_68 kc)) (B_X11_bound_61 kc))))))))
set_option maxRecDepth 20000 in
theorem s_X11_bound_43 (G : en_G) (hst : G.2.2.2.2.2 = true) (kc : Nat → en_B) (hk : ∀ t, en_Snd G M_X11_bound t (kc t)) : en_Snd G M_X11_bound 43 (B_X11_bound_43 kc) := (sn_callVv (n := 1) (idx := 209) (ci := 9) (i_X9_add G hst) (Nat.le_of_ble_eq_true rfl) cs_X9_add ⟨wm_1090, wm_1091, wm_117⟩ ⟨⟨_, rfl, rfl⟩, (Nat.le_of_ble_eq_true rfl)⟩ (by decide +kernel) (sn_aload_n (i := 0) (n := 0) (by decide +kernel) rfl (sn_gets (ci := 11) (j := 2) (off := 5) hst en_c11 of_11_5 (Nat.le_of_ble_eq_true rfl) (by decide +kernel) wm_18 (Nat.le_of_ble_eq_true rfl) rfl (sn_geti (ci := 10) (j := 5) en_c10 (by decide +kernel) wm_101 (Nat.le_of_ble_eq_true rfl) rfl (sn_iconst (n := 1) (v := 1) (by decide +kernel) rfl (sn_icge (off := 7) (tgt := 61) (by decide +kernel) rfl (s_X11_bound_61 G hst kc hk) (sn_iconst (n := 1) (v := 1) (by decide +kernel) rfl (sn_goto (off := 10) (tgt := 68) (by decide +kernel) rfl (s_X11_bound_68 G hst kc hk)))))))))
noncomputable def B_X11_bound_38 (kc : Nat → en_B) : en_B := (op_const (2 : Int32) (op_iload 1 (op_bin (fun (x y : Int32) => x * y) (op_const (1 : Int32) (op_bin (fun (x y : Int32) => x - y) (B_X11_bound_43 kc))))))
set_option maxRecDepth 20000 in
theorem s_X11_bound_38 (G : en_G) (hst : G.2.2.2.2.2 = true) (kc : Nat → en_B) (hk : ∀ t, en_Snd G M_X11_bound t (kc t)) : en_Snd G M_X11_bound 38 (B_X11_bound_38 kc) := (sn_iconst (n := 2) (v := 2) (by decide +kernel) rfl (sn_iload_n (i := 1) (n := 1) (by decide +kernel) rfl (sn_imul (by decide +kernel) (sn_iconst (n := 1) (v := 1) (by decide +kernel) rfl (sn_isub (by decide +kernel) (s_X11_bound_43 G hst kc hk))))))
noncomputable def B_X11_bound_13 (kc : Nat → en_B) : en_B := (op_aload 0 (op_gets 11 3 (9, 0, 0) (op_rcv 9 0 (op_callv O_X9_begin 1 (op_aload 0 (op_gets 11 3 (9, 0, 0) (op_aload 0 (op_gets 11 5 (10, 0, 0) (op_geti 10 3 (op_ifeq (op_const (0 : Int32) (B_X11_bound_43 kc)) (B_X11_bound_38 kc)))))))))))
set_option maxRecDepth 20000 in
theorem s_X11_bound_13 (G : en_G) (hst : G.2.2.2.2.2 = true) (kc : Nat → en_B) (hk : ∀ t, en_Snd G M_X11_bound t (kc t)) : en_Snd G M_X11_bound 13 (B_X11_bound_13 kc) := (sn_aload_n (i := 0) (n := 0) (by decide +kernel) rfl (sn_gets (ci := 11) (j := 1) (off := 3) hst en_c11 of_11_3 (Nat.le_of_ble_eq_true rfl) (by decide +kernel) wm_13 (Nat.le_of_ble_eq_true rfl) rfl (sn_callVv (n := 0) (idx := 205) (ci := 9) (i_X9_begin G hst) (Nat.le_of_ble_eq_true rfl) cs_X9_begin ⟨wm_1086, wm_1087, wm_115⟩ ⟨⟨_, rfl, rfl⟩, (Nat.le_of_ble_eq_true rfl)⟩ (by decide +kernel) (sn_aload_n (i := 0) (n := 0) (by decide +kernel) rfl (sn_gets (ci := 11) (j := 1) (off := 3) hst en_c11 of_11_3 (Nat.le_of_ble_eq_true rfl) (by decide +kernel) wm_13 (Nat.le_of_ble_eq_true rfl) rfl (sn_aload_n (i := 0) (n := 0) (by decide +kernel) rfl (sn_gets (ci := 11) (j := 2) (off := 5) hst en_c11 of_11_5 (Nat.le_of_ble_eq_true rfl) (by decide +kernel) wm_18 (Nat.le_of_ble_eq_true rfl) rfl (sn_geti (ci := 10) (j := 3) en_c10 (by decide +kernel) wm_74 (Nat.le_of_ble_eq_true rfl) rfl (sn_ifne (off := 7) (tgt := 38) (by decide +kernel) rfl (s_X11_bound_38 G hst kc hk) (sn_iconst (n := 0) (v := 0) (by decide +kernel) rfl (sn_goto (off := 8) (tgt := 43) (by decide +kernel) rfl (s_X11_bound_43 G hst kc hk))))))))))))
noncomputable def B_X11_bound_11 (kc : Nat → en_B) : en_B := (op_const (-1 : Int32) op_iret)
set_option maxRecDepth 20000 in
theorem s_X11_bound_11 (G : en_G) (hst : G.2.2.2.2.2 = true) (kc : Nat → en_B) (hk : ∀ t, en_Snd G M_X11_bound t (kc t)) : en_Snd G M_X11_bound 11 (B_X11_bound_11 kc) := (sn_iconst (n := -1) (v := -1) (by decide +kernel) rfl (sn_iret (by decide +kernel) rfl))
noncomputable def B_X11_bound_0 (kc : Nat → en_B) : en_B := (op_iload 1 (op_const (1 : Int32) (op_iclt (B_X11_bound_11 kc) (op_iload 1 (op_const (99 : Int32) (op_icgt (B_X11_bound_11 kc) (B_X11_bound_13 kc)))))))
set_option maxRecDepth 20000 in
theorem s_X11_bound_0 (G : en_G) (hst : G.2.2.2.2.2 = true) (kc : Nat → en_B) (hk : ∀ t, en_Snd G M_X11_bound t (kc t)) : en_Snd G M_X11_bound 0 (B_X11_bound_0 kc) := (sn_iload_n (i := 1) (n := 1) (by decide +kernel) rfl (sn_iconst (n := 1) (v := 1) (by decide +kernel) rfl (sn_iclt (off := 9) (tgt := 11) (by decide +kernel) rfl (s_X11_bound_11 G hst kc hk) (sn_iload_n (i := 1) (n := 1) (by decide +kernel) rfl (sn_bipush (n := 99) (v := 99) (by decide +kernel) rfl (sn_icle (off := 5) (tgt := 13) (by decide +kernel) rfl (s_X11_bound_13 G hst kc hk) (s_X11_bound_11 G hst kc hk)))))))
noncomputable def LK_X11_bound : Nat → Nat → en_B
  | 0, _ => en_no
  | n + 1, t => en_no
theorem l_X11_bound (G : en_G) (hst : G.2.2.2.2.2 = true) : ∀ n t, en_Snd G M_X11_bound t (LK_X11_bound n t)
  | 0, _ => sn_no
  | n + 1, t => by
    show en_Snd G M_X11_bound t (en_no)
    exact sn_no
noncomputable def T_X11_bound_0 (x1 : Int32) (σ : en_M) : en_R := B_X11_bound_0 (LK_X11_bound en_FU) [.inr (0, 11, 0, 0), .inl x1, en_un] [] en_zz σ
set_option maxRecDepth 400000 in
set_option maxHeartbeats 4000000 in
theorem t_X11_bound_0 (x1 : Int32) (σ : en_M) : T_X11_bound_0 x1 σ = (if x1 < (1 : Int32) then (en_ri (-1 : Int32) σ) else (if (99 : Int32) < x1 then (en_ri (-1 : Int32) σ) else ((O_X9_begin [.inr (3, 9, 0, 0)] σ).bind fun r1 => if (r1 5 3) = 0 then ((O_X9_add [.inr (3, 9, 0, 0), .inl (0 : Int32)] r1).bind fun r3 => if (r3 5 5) < (1 : Int32) then (if (1 : Int32) = 0 then none else (en_ri (((((r3 5 3) * x1) + (1 : Int32)) - (1 : Int32)) / (1 : Int32)) r3)) else (if (r3 5 5) = 0 then none else (en_ri (((((r3 5 3) * x1) + (r3 5 5)) - (1 : Int32)) / (r3 5 5)) r3))) else ((O_X9_add [.inr (3, 9, 0, 0), .inl (((2 : Int32) * x1) - (1 : Int32))] r1).bind fun r2 => if (r2 5 5) < (1 : Int32) then (if (1 : Int32) = 0 then none else (en_ri (((((r2 5 3) * x1) + (1 : Int32)) - (1 : Int32)) / (1 : Int32)) r2)) else (if (r2 5 5) = 0 then none else (en_ri (((((r2 5 3) * x1) + (r2 5 5)) - (1 : Int32)) / (r2 5 5)) r2)))))) := rfl
noncomputable def P_X11_bound : List en_V → en_M → Option (Int32 × en_M) := fun av σ => match av with
  | [.inr (0, 11, 0, 0), .inl x1] => en_oi (T_X11_bound_0 x1 σ)
  | _ => none
theorem ox_X11_bound : ∃ f, f = P_X11_bound := ⟨_, rfl⟩
noncomputable def O_X11_bound : List en_V → en_M → Option (Int32 × en_M) := Classical.choose ox_X11_bound
theorem oe_X11_bound : O_X11_bound = P_X11_bound := Classical.choose_spec ox_X11_bound
theorem o_X11_bound (x1 : Int32) (σ : en_M) : O_X11_bound [.inr (0, 11, 0, 0), .inl x1] σ = en_oi (T_X11_bound_0 x1 σ) := by rw [oe_X11_bound]; rfl
theorem i_X11_bound (G : en_G) (hst : G.2.2.2.2.2 = true) : en_I G 2 yX11_bound cX11_bound 3 (some .int) 0 0 (en_wi (O_X11_bound)) := en_of_i (M := M_X11_bound) hst (s_X11_bound_0 G hst _ (l_X11_bound G hst en_FU)) (plainFor_of_name (by decide +kernel)) rfl rfl rfl (Or.inl ⟨rfl, rfl⟩) (fun av σ x σ' h => by
  rw [oe_X11_bound] at h; unfold P_X11_bound at h
  split at h
  · exact ⟨(Nat.le_of_ble_eq_true rfl), en_oi_some h⟩
  · cases h)
-- EachMayMissOne.missed(I)I
def M_X11_missed : en_Me := (cX11_missed, RX11, 2, false, 3, false)
theorem cs_X11_missed : en_cs yX11_missed cX11_missed 2 (some .int) 1 := ⟨wm_198, wm_2, ⟨(by decide +kernel), (by decide +kernel), (by decide +kernel)⟩, (Nat.le_of_ble_eq_true rfl)⟩
noncomputable def B_X11_missed_31 (kc : Nat → en_B) : en_B := op_iret
set_option maxRecDepth 20000 in
theorem s_X11_missed_31 (G : en_G) (hst : G.2.2.2.2.2 = true) (kc : Nat → en_B) (hk : ∀ t, en_Snd G M_X11_missed t (kc t)) : en_Snd G M_X11_missed 31 (B_X11_missed_31 kc) := (sn_iret (by decide +kernel) rfl)
noncomputable def B_X11_missed_29 (kc : Nat → en_B) : en_B := (op_const (-2 : Int32) (B_X11_missed_31 kc))
set_option maxRecDepth 20000 in
theorem s_X11_missed_29 (G : en_G) (hst : G.2.2.2.2.2 = true) (kc : Nat → en_B) (hk : ∀ t, en_Snd G M_X11_missed t (kc t)) : en_Snd G M_X11_missed 29 (B_X11_missed_29 kc) := (sn_bipush (n := -2) (v := -2) (by decide +kernel) rfl (s_X11_missed_31 G hst kc hk))
noncomputable def B_X11_missed_7 (kc : Nat → en_B) : en_B := (op_aload 0 (op_gets 11 15 (7, 0, 0) (op_iload 1 (op_rcv 7 1 (op_calli O_X7_knows 2 (op_ifeq (B_X11_missed_29 kc) (op_aload 0 (op_gets 11 15 (7, 0, 0) (op_iload 1 (op_rcv 7 1 (op_calli O_X7_missedIn 2 (B_X11_missed_31 kc))))))))))))
set_option maxRecDepth 20000 in
theorem s_X11_missed_7 (G : en_G) (hst : G.2.2.2.2.2 = true) (kc : Nat → en_B) (hk : ∀ t, en_Snd G M_X11_missed t (kc t)) : en_Snd G M_X11_missed 7 (B_X11_missed_7 kc) := (sn_aload_n (i := 0) (n := 0) (by decide +kernel) rfl (sn_gets (ci := 11) (j := 3) (off := 15) hst en_c11 of_11_15 (Nat.le_of_ble_eq_true rfl) (by decide +kernel) wm_23 (Nat.le_of_ble_eq_true rfl) rfl (sn_iload_n (i := 1) (n := 1) (by decide +kernel) rfl (sn_callVi (n := 1) (idx := 296) (ci := 7) (i_X7_knows G hst) (Nat.le_of_ble_eq_true rfl) cs_X7_knows ⟨wm_1054, wm_1055, wm_201⟩ ⟨⟨_, rfl, rfl⟩, (Nat.le_of_ble_eq_true rfl)⟩ (by decide +kernel) (sn_ifeq (off := 14) (tgt := 29) (by decide +kernel) rfl (s_X11_missed_29 G hst kc hk) (sn_aload_n (i := 0) (n := 0) (by decide +kernel) rfl (sn_gets (ci := 11) (j := 3) (off := 15) hst en_c11 of_11_15 (Nat.le_of_ble_eq_true rfl) (by decide +kernel) wm_23 (Nat.le_of_ble_eq_true rfl) rfl (sn_iload_n (i := 1) (n := 1) (by decide +kernel) rfl (sn_callVi (n := 1) (idx := 299) (ci := 7) (i_X7_missedIn G hst) (Nat.le_of_ble_eq_true rfl) cs_X7_missedIn ⟨wm_1057, wm_1058, wm_202⟩ ⟨⟨_, rfl, rfl⟩, (Nat.le_of_ble_eq_true rfl)⟩ (by decide +kernel) (sn_goto (off := 5) (tgt := 31) (by decide +kernel) rfl (s_X11_missed_31 G hst kc hk)))))))))))
noncomputable def B_X11_missed_0 (kc : Nat → en_B) : en_B := (op_iload 1 (op_const (1 : Int32) (op_iclt (op_const (-1 : Int32) op_iret) (B_X11_missed_7 kc))))
set_option maxRecDepth 20000 in
theorem s_X11_missed_0 (G : en_G) (hst : G.2.2.2.2.2 = true) (kc : Nat → en_B) (hk : ∀ t, en_Snd G M_X11_missed t (kc t)) : en_Snd G M_X11_missed 0 (B_X11_missed_0 kc) := (sn_iload_n (i := 1) (n := 1) (by decide +kernel) rfl (sn_iconst (n := 1) (v := 1) (by decide +kernel) rfl (sn_icge (off := 5) (tgt := 7) (by decide +kernel) rfl (s_X11_missed_7 G hst kc hk) (sn_iconst (n := -1) (v := -1) (by decide +kernel) rfl (sn_iret (by decide +kernel) rfl)))))
noncomputable def LK_X11_missed : Nat → Nat → en_B
  | 0, _ => en_no
  | n + 1, t => en_no
theorem l_X11_missed (G : en_G) (hst : G.2.2.2.2.2 = true) : ∀ n t, en_Snd G M_X11_missed t (LK_X11_missed n t)
  | 0, _ => sn_no
  | n + 1, t => by
    show en_Snd G M_X11_missed t (en_no)
    exact sn_no
noncomputable def T_X11_missed_0 (x1 : Int32) (σ : en_M) : en_R := B_X11_missed_0 (LK_X11_missed en_FU) [.inr (0, 11, 0, 0), .inl x1] [] en_zz σ
set_option maxRecDepth 400000 in
set_option maxHeartbeats 4000000 in
theorem t_X11_missed_0 (x1 : Int32) (σ : en_M) : T_X11_missed_0 x1 σ = (if x1 < (1 : Int32) then (en_ri (-1 : Int32) σ) else ((O_X7_knows [.inr (15, 7, 0, 0), .inl x1] σ).bind fun r1 => if r1.1 = 0 then (en_ri (-2 : Int32) r1.2) else ((O_X7_missedIn [.inr (15, 7, 0, 0), .inl x1] r1.2).bind fun r2 => en_ri r2.1 r2.2))) := rfl
noncomputable def P_X11_missed : List en_V → en_M → Option (Int32 × en_M) := fun av σ => match av with
  | [.inr (0, 11, 0, 0), .inl x1] => en_oi (T_X11_missed_0 x1 σ)
  | _ => none
theorem ox_X11_missed : ∃ f, f = P_X11_missed := ⟨_, rfl⟩
noncomputable def O_X11_missed : List en_V → en_M → Option (Int32 × en_M) := Classical.choose ox_X11_missed
theorem oe_X11_missed : O_X11_missed = P_X11_missed := Classical.choose_spec ox_X11_missed
theorem o_X11_missed (x1 : Int32) (σ : en_M) : O_X11_missed [.inr (0, 11, 0, 0), .inl x1] σ = en_oi (T_X11_missed_0 x1 σ) := by rw [oe_X11_missed]; rfl
theorem i_X11_missed (G : en_G) (hst : G.2.2.2.2.2 = true) : en_I G 3 yX11_missed cX11_missed 2 (some .int) 0 0 (en_wi (O_X11_missed)) := en_of_i (M := M_X11_missed) hst (s_X11_missed_0 G hst _ (l_X11_missed G hst en_FU)) (plainFor_of_name (by decide +kernel)) rfl rfl rfl (Or.inl ⟨rfl, rfl⟩) (fun av σ x σ' h => by
  rw [oe_X11_missed] at h; unfold P_X11_missed at h
  split at h
  · exact ⟨(Nat.le_of_ble_eq_true rfl), en_oi_some h⟩
  · cases h)
-- EachMayMissOne.heard(II)I
def M_X11_heard : en_Me := (cX11_heard, RX11, 5, false, 5, false)
theorem cs_X11_heard : en_cs yX11_heard cX11_heard 5 (some .int) 2 := ⟨wm_203, wm_2, ⟨(by decide +kernel), (by decide +kernel), (by decide +kernel)⟩, (Nat.le_of_ble_eq_true rfl)⟩
noncomputable def B_X11_heard_67 (kc : Nat → en_B) : en_B := (op_aload 0 (op_gets 11 3 (9, 0, 0) (op_rcv 9 0 (op_callv O_X9_begin 1 (op_aload 0 (op_gets 11 3 (9, 0, 0) (op_iload 3 (op_rcv 9 1 (op_callv O_X9_add 2 (op_aload 0 (op_gets 11 182 (20, 201, 0) (op_iload 2 (op_ald 20 (op_iload 1 (op_calli O_X11_bellAt 2 op_iret)))))))))))))))
set_option maxRecDepth 20000 in
theorem s_X11_heard_67 (G : en_G) (hst : G.2.2.2.2.2 = true) (kc : Nat → en_B) (hk : ∀ t, en_Snd G M_X11_heard t (kc t)) : en_Snd G M_X11_heard 67 (B_X11_heard_67 kc) := (sn_aload_n (i := 0) (n := 0) (by decide +kernel) rfl (sn_gets (ci := 11) (j := 1) (off := 3) hst en_c11 of_11_3 (Nat.le_of_ble_eq_true rfl) (by decide +kernel) wm_13 (Nat.le_of_ble_eq_true rfl) rfl (sn_callVv (n := 0) (idx := 205) (ci := 9) (i_X9_begin G hst) (Nat.le_of_ble_eq_true rfl) cs_X9_begin ⟨wm_1086, wm_1087, wm_115⟩ ⟨⟨_, rfl, rfl⟩, (Nat.le_of_ble_eq_true rfl)⟩ (by decide +kernel) (sn_aload_n (i := 0) (n := 0) (by decide +kernel) rfl (sn_gets (ci := 11) (j := 1) (off := 3) hst en_c11 of_11_3 (Nat.le_of_ble_eq_true rfl) (by decide +kernel) wm_13 (Nat.le_of_ble_eq_true rfl) rfl (sn_iload_n (i := 3) (n := 3) (by decide +kernel) rfl (sn_callVv (n := 1) (idx := 209) (ci := 9) (i_X9_add G hst) (Nat.le_of_ble_eq_true rfl) cs_X9_add ⟨wm_1090, wm_1091, wm_117⟩ ⟨⟨_, rfl, rfl⟩, (Nat.le_of_ble_eq_true rfl)⟩ (by decide +kernel) (sn_aload_n (i := 0) (n := 0) (by decide +kernel) rfl (sn_gets (ci := 11) (j := 10) (off := 182) hst en_c11 of_11_182 (Nat.le_of_ble_eq_true rfl) (by decide +kernel) wm_50 (Nat.le_of_ble_eq_true rfl) rfl (sn_iload_n (i := 2) (n := 2) (by decide +kernel) rfl (sn_iald (by decide +kernel) (sn_iload_n (i := 1) (n := 1) (by decide +kernel) rfl (sn_callSi (n := 2) (idx := 174) (i_X11_bellAt G hst) (Nat.le_of_ble_eq_true rfl) cs_X11_bellAt ⟨wm_276, Or.inl wm_97⟩ (by decide +kernel) (sn_iret (by decide +kernel) rfl))))))))))))))
noncomputable def B_X11_heard_36 (kc : Nat → en_B) : en_B := (op_iload 4 (op_iload 2 (op_const (9 : Int32) (op_bin (fun (x y : Int32) => x + y) (op_icgt (B_X11_heard_67 kc) (op_iload 3 (op_const (1 : Int32) (op_aload 0 (op_gets 11 182 (20, 201, 0) (op_iload 4 (op_ald 20 (op_iload 1 (op_calli O_X11_bellAt 2 (op_bin en_shl (op_bin (fun (x y : Int32) => x ||| y) (op_istore 3 (op_iinc 4 (1 : Int32) (kc 36))))))))))))))))))
set_option maxRecDepth 20000 in
theorem s_X11_heard_36 (G : en_G) (hst : G.2.2.2.2.2 = true) (kc : Nat → en_B) (hk : ∀ t, en_Snd G M_X11_heard t (kc t)) : en_Snd G M_X11_heard 36 (B_X11_heard_36 kc) := (sn_iload (i := 4) (by decide +kernel) (sn_iload_n (i := 2) (n := 2) (by decide +kernel) rfl (sn_bipush (n := 9) (v := 9) (by decide +kernel) rfl (sn_iadd (by decide +kernel) (sn_icgt (off := 25) (tgt := 67) (by decide +kernel) rfl (s_X11_heard_67 G hst kc hk) (sn_iload_n (i := 3) (n := 3) (by decide +kernel) rfl (sn_iconst (n := 1) (v := 1) (by decide +kernel) rfl (sn_aload_n (i := 0) (n := 0) (by decide +kernel) rfl (sn_gets (ci := 11) (j := 10) (off := 182) hst en_c11 of_11_182 (Nat.le_of_ble_eq_true rfl) (by decide +kernel) wm_50 (Nat.le_of_ble_eq_true rfl) rfl (sn_iload (i := 4) (by decide +kernel) (sn_iald (by decide +kernel) (sn_iload_n (i := 1) (n := 1) (by decide +kernel) rfl (sn_callSi (n := 2) (idx := 174) (i_X11_bellAt G hst) (Nat.le_of_ble_eq_true rfl) cs_X11_bellAt ⟨wm_276, Or.inl wm_97⟩ (by decide +kernel) (sn_ishl (by decide +kernel) (sn_ior (by decide +kernel) (sn_istore_n (i := 3) (n := 3) (by decide +kernel) rfl (Nat.le_of_ble_eq_true rfl) (sn_iinc (i := 4) (n := 1) (v := 1) (by decide +kernel) rfl (sn_goto (off := -28) (tgt := 36) (by decide +kernel) rfl (hk 36)))))))))))))))))))
noncomputable def B_X11_heard_23 (kc : Nat → en_B) : en_B := (op_aload 0 (op_iload 2 (op_const (9 : Int32) (op_bin (fun (x y : Int32) => x + y) (op_rcv 11 1 (op_callv O_X11_lookAhead 2 (op_const (0 : Int32) (op_istore 3 (op_iload 2 (op_istore 4 (kc 36)))))))))))
set_option maxRecDepth 20000 in
theorem s_X11_heard_23 (G : en_G) (hst : G.2.2.2.2.2 = true) (kc : Nat → en_B) (hk : ∀ t, en_Snd G M_X11_heard t (kc t)) : en_Snd G M_X11_heard 23 (B_X11_heard_23 kc) := (sn_aload_n (i := 0) (n := 0) (by decide +kernel) rfl (sn_iload_n (i := 2) (n := 2) (by decide +kernel) rfl (sn_bipush (n := 9) (v := 9) (by decide +kernel) rfl (sn_iadd (by decide +kernel) (sn_callVv (n := 1) (idx := 242) (ci := 11) (i_X11_lookAhead G hst) (Nat.le_of_ble_eq_true rfl) cs_X11_lookAhead ⟨wm_287, wm_288, wm_143⟩ ⟨⟨_, rfl, rfl⟩, (Nat.le_of_ble_eq_true rfl)⟩ (by decide +kernel) (sn_iconst (n := 0) (v := 0) (by decide +kernel) rfl (sn_istore_n (i := 3) (n := 3) (by decide +kernel) rfl (Nat.le_of_ble_eq_true rfl) (sn_iload_n (i := 2) (n := 2) (by decide +kernel) rfl (sn_istore (i := 4) (by decide +kernel) (Nat.le_of_ble_eq_true rfl) (hk 36))))))))))
noncomputable def B_X11_heard_21 (kc : Nat → en_B) : en_B := (op_const (-1 : Int32) op_iret)
set_option maxRecDepth 20000 in
theorem s_X11_heard_21 (G : en_G) (hst : G.2.2.2.2.2 = true) (kc : Nat → en_B) (hk : ∀ t, en_Snd G M_X11_heard t (kc t)) : en_Snd G M_X11_heard 21 (B_X11_heard_21 kc) := (sn_iconst (n := -1) (v := -1) (by decide +kernel) rfl (sn_iret (by decide +kernel) rfl))
noncomputable def B_X11_heard_0 (kc : Nat → en_B) : en_B := (op_aload 0 (op_gets 11 5 (10, 0, 0) (op_iload 1 (op_rcv 10 1 (op_calli O_X10_hasRinger 2 (op_ifeq (B_X11_heard_21 kc) (op_iload 2 (op_iflt (B_X11_heard_21 kc) (op_iload 2 (op_const (60 : Int32) (op_icgt (B_X11_heard_21 kc) (B_X11_heard_23 kc))))))))))))
set_option maxRecDepth 20000 in
theorem s_X11_heard_0 (G : en_G) (hst : G.2.2.2.2.2 = true) (kc : Nat → en_B) (hk : ∀ t, en_Snd G M_X11_heard t (kc t)) : en_Snd G M_X11_heard 0 (B_X11_heard_0 kc) := (sn_aload_n (i := 0) (n := 0) (by decide +kernel) rfl (sn_gets (ci := 11) (j := 2) (off := 5) hst en_c11 of_11_5 (Nat.le_of_ble_eq_true rfl) (by decide +kernel) wm_18 (Nat.le_of_ble_eq_true rfl) rfl (sn_iload_n (i := 1) (n := 1) (by decide +kernel) rfl (sn_callVi (n := 1) (idx := 131) (ci := 10) (i_X10_hasRinger G hst) (Nat.le_of_ble_eq_true rfl) cs_X10_hasRinger ⟨wm_1115, wm_1116, wm_84⟩ ⟨⟨_, rfl, rfl⟩, (Nat.le_of_ble_eq_true rfl)⟩ (by decide +kernel) (sn_ifeq (off := 13) (tgt := 21) (by decide +kernel) rfl (s_X11_heard_21 G hst kc hk) (sn_iload_n (i := 2) (n := 2) (by decide +kernel) rfl (sn_iflt (off := 9) (tgt := 21) (by decide +kernel) rfl (s_X11_heard_21 G hst kc hk) (sn_iload_n (i := 2) (n := 2) (by decide +kernel) rfl (sn_bipush (n := 60) (v := 60) (by decide +kernel) rfl (sn_icle (off := 5) (tgt := 23) (by decide +kernel) rfl (s_X11_heard_23 G hst kc hk) (s_X11_heard_21 G hst kc hk)))))))))))
noncomputable def LK_X11_heard : Nat → Nat → en_B
  | 0, _ => en_no
  | n + 1, t => if t = 36 then B_X11_heard_36 (LK_X11_heard n) else en_no
theorem l_X11_heard (G : en_G) (hst : G.2.2.2.2.2 = true) : ∀ n t, en_Snd G M_X11_heard t (LK_X11_heard n t)
  | 0, _ => sn_no
  | n + 1, t => by
    show en_Snd G M_X11_heard t (if t = 36 then B_X11_heard_36 (LK_X11_heard n) else en_no)
    by_cases h_36 : t = 36
    · rw [if_pos h_36, h_36]; exact s_X11_heard_36 G hst _ (l_X11_heard G hst n)
    rw [if_neg h_36]
    exact sn_no
noncomputable def T_X11_heard_0 (x1 : Int32) (x2 : Int32) (σ : en_M) : en_R := B_X11_heard_0 (LK_X11_heard en_FU) [.inr (0, 11, 0, 0), .inl x1, .inl x2, en_un, en_un] [] en_zz σ
noncomputable def T_X11_heard_36 (n : Nat) (x1 : Int32) (x2 : Int32) (x3 : Int32) (x4 : Int32) (σ : en_M) : en_R := LK_X11_heard n 36 [.inr (0, 11, 0, 0), .inl x1, .inl x2, .inl x3, .inl x4] [] en_zz σ
set_option maxRecDepth 400000 in
set_option maxHeartbeats 4000000 in
theorem t_X11_heard_0 (x1 : Int32) (x2 : Int32) (σ : en_M) : T_X11_heard_0 x1 x2 σ = ((O_X10_hasRinger [.inr (5, 10, 0, 0), .inl x1] σ).bind fun r1 => if r1.1 = 0 then (en_ri (-1 : Int32) r1.2) else (if x2 < 0 then (en_ri (-1 : Int32) r1.2) else (if (60 : Int32) < x2 then (en_ri (-1 : Int32) r1.2) else ((O_X11_lookAhead [.inr (0, 11, 0, 0), .inl (x2 + (9 : Int32))] r1.2).bind fun r2 => T_X11_heard_36 en_FU x1 x2 (0 : Int32) x2 r2)))) := rfl
set_option maxRecDepth 400000 in
set_option maxHeartbeats 4000000 in
theorem t_X11_heard_36 (n : Nat) (x1 : Int32) (x2 : Int32) (x3 : Int32) (x4 : Int32) (σ : en_M) : T_X11_heard_36 (n + 1) x1 x2 x3 x4 σ = (if (x2 + (9 : Int32)) < x4 then ((O_X9_begin [.inr (3, 9, 0, 0)] σ).bind fun r3 => (O_X9_add [.inr (3, 9, 0, 0), .inl x3] r3).bind fun r4 => (en_ix x2 201).bind fun j5 => (O_X11_bellAt [.inl (r4 182 j5), .inl x1] r4).bind fun r6 => en_ri r6.1 r6.2) else ((en_ix x4 201).bind fun j7 => (O_X11_bellAt [.inl (σ 182 j7), .inl x1] σ).bind fun r8 => T_X11_heard_36 n x1 x2 (x3 ||| (en_shl (1 : Int32) r8.1)) (x4 + (1 : Int32)) r8.2)) := rfl
noncomputable def P_X11_heard : List en_V → en_M → Option (Int32 × en_M) := fun av σ => match av with
  | [.inr (0, 11, 0, 0), .inl x1, .inl x2] => en_oi (T_X11_heard_0 x1 x2 σ)
  | _ => none
theorem ox_X11_heard : ∃ f, f = P_X11_heard := ⟨_, rfl⟩
noncomputable def O_X11_heard : List en_V → en_M → Option (Int32 × en_M) := Classical.choose ox_X11_heard
theorem oe_X11_heard : O_X11_heard = P_X11_heard := Classical.choose_spec ox_X11_heard
theorem o_X11_heard (x1 : Int32) (x2 : Int32) (σ : en_M) : O_X11_heard [.inr (0, 11, 0, 0), .inl x1, .inl x2] σ = en_oi (T_X11_heard_0 x1 x2 σ) := by rw [oe_X11_heard]; rfl
theorem i_X11_heard (G : en_G) (hst : G.2.2.2.2.2 = true) : en_I G 5 yX11_heard cX11_heard 5 (some .int) 0 0 (en_wi (O_X11_heard)) := en_of_i (M := M_X11_heard) hst (s_X11_heard_0 G hst _ (l_X11_heard G hst en_FU)) (plainFor_of_name (by decide +kernel)) rfl rfl rfl (Or.inl ⟨rfl, rfl⟩) (fun av σ x σ' h => by
  rw [oe_X11_heard] at h; unfold P_X11_heard at h
  split at h
  · exact ⟨(Nat.le_of_ble_eq_true rfl), en_oi_some h⟩
  · cases h)
