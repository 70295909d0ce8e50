-- EachMayMissOneModel.set(II)I
def M_X12_set : en_Me := (cX12_set, RX12, 4, false, 2, false)
theorem cs_X12_set : en_cs yX12_set cX12_set 4 (some .int) 2 := ⟨wm_495, wm_337, ⟨(by decide +kernel), (by decide +kernel), (by decide +kernel)⟩, (Nat.le_of_ble_eq_true rfl)⟩
noncomputable def B_X12_set_67 (kc : Nat → en_B) : en_B := (op_iload 3 op_iret)
set_option maxRecDepth 20000 in
theorem s_X12_set_67 (G : en_G) (hst : G.2.2.2.2.2 = true) (kc : Nat → en_B) (hk : ∀ t, en_Snd G M_X12_set t (kc t)) : en_Snd G M_X12_set 67 (B_X12_set_67 kc) := (sn_iload_n (i := 3) (n := 3) (by decide +kernel) rfl (sn_iret (by decide +kernel) rfl))
noncomputable def B_X12_set_62 (kc : Nat → en_B) : en_B := (op_aload 0 (op_iload 2 (op_puti 12 6 (B_X12_set_67 kc))))
set_option maxRecDepth 20000 in
theorem s_X12_set_62 (G : en_G) (hst : G.2.2.2.2.2 = true) (kc : Nat → en_B) (hk : ∀ t, en_Snd G M_X12_set t (kc t)) : en_Snd G M_X12_set 62 (B_X12_set_62 kc) := (sn_aload_n (i := 0) (n := 0) (by decide +kernel) rfl (sn_iload_n (i := 2) (n := 2) (by decide +kernel) rfl (sn_puti (ci := 12) (j := 6) en_c12 (by decide +kernel) wm_344 (Nat.le_of_ble_eq_true rfl) rfl rfl rfl (s_X12_set_67 G hst kc hk))))
noncomputable def B_X12_set_49 (kc : Nat → en_B) : en_B := (op_istore 3 (op_iload 1 (op_ifeq (op_aload 0 (op_iload 2 (op_puti 12 5 (B_X12_set_67 kc)))) (B_X12_set_62 kc))))
set_option maxRecDepth 20000 in
theorem s_X12_set_49 (G : en_G) (hst : G.2.2.2.2.2 = true) (kc : Nat → en_B) (hk : ∀ t, en_Snd G M_X12_set t (kc t)) : en_Snd G M_X12_set 49 (B_X12_set_49 kc) := (sn_istore_n (i := 3) (n := 3) (by decide +kernel) rfl (Nat.le_of_ble_eq_true rfl) (sn_iload_n (i := 1) (n := 1) (by decide +kernel) rfl (sn_ifne (off := 11) (tgt := 62) (by decide +kernel) rfl (s_X12_set_62 G hst kc hk) (sn_aload_n (i := 0) (n := 0) (by decide +kernel) rfl (sn_iload_n (i := 2) (n := 2) (by decide +kernel) rfl (sn_puti (ci := 12) (j := 5) en_c12 (by decide +kernel) wm_343 (Nat.le_of_ble_eq_true rfl) rfl rfl rfl (sn_goto (off := 8) (tgt := 67) (by decide +kernel) rfl (s_X12_set_67 G hst kc hk))))))))
noncomputable def B_X12_set_45 (kc : Nat → en_B) : en_B := (op_aload 0 (op_geti 12 6 (B_X12_set_49 kc)))
set_option maxRecDepth 20000 in
theorem s_X12_set_45 (G : en_G) (hst : G.2.2.2.2.2 = true) (kc : Nat → en_B) (hk : ∀ t, en_Snd G M_X12_set t (kc t)) : en_Snd G M_X12_set 45 (B_X12_set_45 kc) := (sn_aload_n (i := 0) (n := 0) (by decide +kernel) rfl (sn_geti (ci := 12) (j := 6) en_c12 (by decide +kernel) wm_344 (Nat.le_of_ble_eq_true rfl) rfl (s_X12_set_49 G hst kc hk)))
noncomputable def B_X12_set_34 (kc : Nat → en_B) : en_B := (op_iload 1 (op_ifeq (op_aload 0 (op_geti 12 5 (B_X12_set_49 kc))) (B_X12_set_45 kc)))
set_option maxRecDepth 20000 in
theorem s_X12_set_34 (G : en_G) (hst : G.2.2.2.2.2 = true) (kc : Nat → en_B) (hk : ∀ t, en_Snd G M_X12_set t (kc t)) : en_Snd G M_X12_set 34 (B_X12_set_34 kc) := (sn_iload_n (i := 1) (n := 1) (by decide +kernel) rfl (sn_ifne (off := 10) (tgt := 45) (by decide +kernel) rfl (s_X12_set_45 G hst kc hk) (sn_aload_n (i := 0) (n := 0) (by decide +kernel) rfl (sn_geti (ci := 12) (j := 5) en_c12 (by decide +kernel) wm_343 (Nat.le_of_ble_eq_true rfl) rfl (sn_goto (off := 7) (tgt := 49) (by decide +kernel) rfl (s_X12_set_49 G hst kc hk))))))
noncomputable def B_X12_set_32 (kc : Nat → en_B) : en_B := (op_const (-1 : Int32) op_iret)
set_option maxRecDepth 20000 in
theorem s_X12_set_32 (G : en_G) (hst : G.2.2.2.2.2 = true) (kc : Nat → en_B) (hk : ∀ t, en_Snd G M_X12_set t (kc t)) : en_Snd G M_X12_set 32 (B_X12_set_32 kc) := (sn_iconst (n := -1) (v := -1) (by decide +kernel) rfl (sn_iret (by decide +kernel) rfl))
noncomputable def B_X12_set_26 (kc : Nat → en_B) : en_B := (op_calli O_X12_in 3 (op_ifeq (B_X12_set_32 kc) (B_X12_set_34 kc)))
set_option maxRecDepth 20000 in
theorem s_X12_set_26 (G : en_G) (hst : G.2.2.2.2.2 = true) (kc : Nat → en_B) (hk : ∀ t, en_Snd G M_X12_set t (kc t)) : en_Snd G M_X12_set 26 (B_X12_set_26 kc) := (sn_callSi (n := 3) (idx := 100) (i_X12_in G hst) (Nat.le_of_ble_eq_true rfl) cs_X12_in ⟨wm_370, Or.inl wm_384⟩ (by decide +kernel) (sn_ifne (off := 5) (tgt := 34) (by decide +kernel) rfl (s_X12_set_34 G hst kc hk) (s_X12_set_32 G hst kc hk)))
noncomputable def B_X12_set_24 (kc : Nat → en_B) : en_B := (op_const (99 : Int32) (B_X12_set_26 kc))
set_option maxRecDepth 20000 in
theorem s_X12_set_24 (G : en_G) (hst : G.2.2.2.2.2 = true) (kc : Nat → en_B) (hk : ∀ t, en_Snd G M_X12_set t (kc t)) : en_Snd G M_X12_set 24 (B_X12_set_24 kc) := (sn_bipush (n := 99) (v := 99) (by decide +kernel) rfl (s_X12_set_26 G hst kc hk))
noncomputable def B_X12_set_0 (kc : Nat → en_B) : en_B := (op_aload 0 (op_const (0 : Int32) (op_puti 12 11 (op_iload 1 (op_const (0 : Int32) (op_const (1 : Int32) (op_calli O_X12_in 3 (op_ifeq (B_X12_set_32 kc) (op_iload 2 (op_const (1 : Int32) (op_iload 1 (op_ifeq (op_const (3 : Int32) (B_X12_set_26 kc)) (B_X12_set_24 kc)))))))))))))
set_option maxRecDepth 20000 in
theorem s_X12_set_0 (G : en_G) (hst : G.2.2.2.2.2 = true) (kc : Nat → en_B) (hk : ∀ t, en_Snd G M_X12_set t (kc t)) : en_Snd G M_X12_set 0 (B_X12_set_0 kc) := (sn_aload_n (i := 0) (n := 0) (by decide +kernel) rfl (sn_iconst (n := 0) (v := 0) (by decide +kernel) rfl (sn_puti (ci := 12) (j := 11) en_c12 (by decide +kernel) wm_368 (Nat.le_of_ble_eq_true rfl) rfl rfl rfl (sn_iload_n (i := 1) (n := 1) (by decide +kernel) rfl (sn_iconst (n := 0) (v := 0) (by decide +kernel) rfl (sn_iconst (n := 1) (v := 1) (by decide +kernel) rfl (sn_callSi (n := 3) (idx := 100) (i_X12_in G hst) (Nat.le_of_ble_eq_true rfl) cs_X12_in ⟨wm_370, Or.inl wm_384⟩ (by decide +kernel) (sn_ifeq (off := 21) (tgt := 32) (by decide +kernel) rfl (s_X12_set_32 G hst kc hk) (sn_iload_n (i := 2) (n := 2) (by decide +kernel) rfl (sn_iconst (n := 1) (v := 1) (by decide +kernel) rfl (sn_iload_n (i := 1) (n := 1) (by decide +kernel) rfl (sn_ifne (off := 7) (tgt := 24) (by decide +kernel) rfl (s_X12_set_24 G hst kc hk) (sn_iconst (n := 3) (v := 3) (by decide +kernel) rfl (sn_goto (off := 5) (tgt := 26) (by decide +kernel) rfl (s_X12_set_26 G hst kc hk)))))))))))))))
noncomputable def LK_X12_set : Nat → Nat → en_B
  | 0, _ => en_no
  | n + 1, t => en_no
theorem l_X12_set (G : en_G) (hst : G.2.2.2.2.2 = true) : ∀ n t, en_Snd G M_X12_set t (LK_X12_set n t)
  | 0, _ => sn_no
  | n + 1, t => by
    show en_Snd G M_X12_set t (en_no)
    exact sn_no
noncomputable def T_X12_set_0 (x1 : Int32) (x2 : Int32) (σ : en_M) : en_R := B_X12_set_0 (LK_X12_set en_FU) [.inr (185, 12, 0, 0), .inl x1, .inl x2, en_un] [] en_zz σ
set_option maxRecDepth 20000 in
set_option maxHeartbeats 2000000 in
theorem t_X12_set_0 (x1 : Int32) (x2 : Int32) (σ : en_M) : T_X12_set_0 x1 x2 σ = ((O_X12_in [.inl x1, .inl (0 : Int32), .inl (1 : Int32)] (en_up σ 185 11 (0 : Int32))).bind fun r1 => if r1.1 = 0 then (en_ri (-1 : Int32) r1.2) else (if x1 = 0 then ((O_X12_in [.inl x2, .inl (1 : Int32), .inl (3 : Int32)] r1.2).bind fun r3 => if r3.1 = 0 then (en_ri (-1 : Int32) r3.2) else (if x1 = 0 then (if x1 = 0 then (en_ri (r3.2 185 5) (en_up r3.2 185 5 x2)) else (en_ri (r3.2 185 5) (en_up r3.2 185 6 x2))) else (if x1 = 0 then (en_ri (r3.2 185 6) (en_up r3.2 185 5 x2)) else (en_ri (r3.2 185 6) (en_up r3.2 185 6 x2))))) else ((O_X12_in [.inl x2, .inl (1 : Int32), .inl (99 : Int32)] r1.2).bind fun r2 => if r2.1 = 0 then (en_ri (-1 : Int32) r2.2) else (if x1 = 0 then (if x1 = 0 then (en_ri (r2.2 185 5) (en_up r2.2 185 5 x2)) else (en_ri (r2.2 185 5) (en_up r2.2 185 6 x2))) else (if x1 = 0 then (en_ri (r2.2 185 6) (en_up r2.2 185 5 x2)) else (en_ri (r2.2 185 6) (en_up r2.2 185 6 x2))))))) := rfl
noncomputable def P_X12_set : List en_V → en_M → Option (Int32 × en_M) := fun av σ => match av with
  | [.inr (185, 12, 0, 0), .inl x1, .inl x2] => en_oi (T_X12_set_0 x1 x2 σ)
  | _ => none
theorem ox_X12_set : ∃ f, f = P_X12_set := ⟨_, rfl⟩
noncomputable def O_X12_set : List en_V → en_M → Option (Int32 × en_M) := Classical.choose ox_X12_set
theorem oe_X12_set : O_X12_set = P_X12_set := Classical.choose_spec ox_X12_set
theorem o_X12_set (x1 : Int32) (x2 : Int32) (σ : en_M) : O_X12_set [.inr (185, 12, 0, 0), .inl x1, .inl x2] σ = en_oi (T_X12_set_0 x1 x2 σ) := by rw [oe_X12_set]; rfl
theorem i_X12_set (G : en_G) (hst : G.2.2.2.2.2 = true) : en_I G 2 yX12_set cX12_set 4 (some .int) 0 0 (en_wi (O_X12_set)) := en_of_i (M := M_X12_set) hst (s_X12_set_0 G hst _ (l_X12_set G hst en_FU)) (plainFor_of_name (by decide +kernel)) rfl rfl rfl (Or.inl ⟨rfl, rfl⟩) (fun av σ x σ' h => by
  rw [oe_X12_set] at h; unfold P_X12_set at h
  split at h
  · exact ⟨(Nat.le_of_ble_eq_true rfl), en_oi_some h⟩
  · cases h)
-- EachMayMissOneModel.sheet(IIII)I
def M_X12_sheet : en_Me := (cX12_sheet, RX12, 9, false, 2, false)
theorem cs_X12_sheet : en_cs yX12_sheet cX12_sheet 9 (some .int) 4 := ⟨wm_498, wm_337, ⟨(by decide +kernel), (by decide +kernel), (by decide +kernel)⟩, (Nat.le_of_ble_eq_true rfl)⟩
noncomputable def B_X12_sheet_153 (kc : Nat → en_B) : en_B := op_iret
set_option maxRecDepth 20000 in
theorem s_X12_sheet_153 (G : en_G) (hst : G.2.2.2.2.2 = true) (kc : Nat → en_B) (hk : ∀ t, en_Snd G M_X12_sheet t (kc t)) : en_Snd G M_X12_sheet 153 (B_X12_sheet_153 kc) := (sn_iret (by decide +kernel) rfl)
noncomputable def B_X12_sheet_151 (kc : Nat → en_B) : en_B := (op_iload 5 (B_X12_sheet_153 kc))
set_option maxRecDepth 20000 in
theorem s_X12_sheet_151 (G : en_G) (hst : G.2.2.2.2.2 = true) (kc : Nat → en_B) (hk : ∀ t, en_Snd G M_X12_sheet t (kc t)) : en_Snd G M_X12_sheet 151 (B_X12_sheet_151 kc) := (sn_iload (i := 5) (by decide +kernel) (s_X12_sheet_153 G hst kc hk))
noncomputable def B_X12_sheet_141 (kc : Nat → en_B) : en_B := (op_iload 1 (op_const (3 : Int32) (op_iceq (op_const (-3 : Int32) (B_X12_sheet_153 kc)) (B_X12_sheet_151 kc))))
set_option maxRecDepth 20000 in
theorem s_X12_sheet_141 (G : en_G) (hst : G.2.2.2.2.2 = true) (kc : Nat → en_B) (hk : ∀ t, en_Snd G M_X12_sheet t (kc t)) : en_Snd G M_X12_sheet 141 (B_X12_sheet_141 kc) := (sn_iload_n (i := 1) (n := 1) (by decide +kernel) rfl (sn_iconst (n := 3) (v := 3) (by decide +kernel) rfl (sn_icne (off := 8) (tgt := 151) (by decide +kernel) rfl (s_X12_sheet_151 G hst kc hk) (sn_bipush (n := -3) (v := -3) (by decide +kernel) rfl (sn_goto (off := 5) (tgt := 153) (by decide +kernel) rfl (s_X12_sheet_153 G hst kc hk))))))
noncomputable def B_X12_sheet_112 (kc : Nat → en_B) : en_B := (op_ast 20 (fun (x : Int32) => x) (op_iload 5 (op_aload 0 (op_gets 12 1 (20, 53, 0) (op_const (7 : Int32) (op_iload 7 (op_bin (fun (x y : Int32) => x + y) (op_ald 20 (op_bin (fun (x y : Int32) => x + y) (op_istore 5 (op_iload 6 (op_iload 4 (op_bin (fun (x y : Int32) => x + y) (op_istore 6 (op_iinc 7 (1 : Int32) (kc 43))))))))))))))))
set_option maxRecDepth 20000 in
theorem s_X12_sheet_112 (G : en_G) (hst : G.2.2.2.2.2 = true) (kc : Nat → en_B) (hk : ∀ t, en_Snd G M_X12_sheet t (kc t)) : en_Snd G M_X12_sheet 112 (B_X12_sheet_112 kc) := (sn_iast (by decide +kernel) (sn_iload (i := 5) (by decide +kernel) (sn_aload_n (i := 0) (n := 0) (by decide +kernel) rfl (sn_gets (ci := 12) (j := 0) (off := 1) hst en_c12 of_12_1 (Nat.le_of_ble_eq_true rfl) (by decide +kernel) wm_339 (Nat.le_of_ble_eq_true rfl) rfl (sn_bipush (n := 7) (v := 7) (by decide +kernel) rfl (sn_iload (i := 7) (by decide +kernel) (sn_iadd (by decide +kernel) (sn_iald (by decide +kernel) (sn_iadd (by decide +kernel) (sn_istore (i := 5) (by decide +kernel) (Nat.le_of_ble_eq_true rfl) (sn_iload (i := 6) (by decide +kernel) (sn_iload (i := 4) (by decide +kernel) (sn_iadd (by decide +kernel) (sn_istore (i := 6) (by decide +kernel) (Nat.le_of_ble_eq_true rfl) (sn_iinc (i := 7) (n := 1) (v := 1) (by decide +kernel) rfl (sn_goto (off := -95) (tgt := 43) (by decide +kernel) rfl (hk 43)))))))))))))))))
noncomputable def B_X12_sheet_101 (kc : Nat → en_B) : en_B := (op_const (0 : Int32) (op_const (99 : Int32) (op_iload 8 (op_calli O_J9_min_7cf53 2 (op_calli O_J9_max_7cf53 2 (B_X12_sheet_112 kc))))))
set_option maxRecDepth 20000 in
theorem s_X12_sheet_101 (G : en_G) (hst : G.2.2.2.2.2 = true) (kc : Nat → en_B) (hk : ∀ t, en_Snd G M_X12_sheet t (kc t)) : en_Snd G M_X12_sheet 101 (B_X12_sheet_101 kc) := (sn_iconst (n := 0) (v := 0) (by decide +kernel) rfl (sn_bipush (n := 99) (v := 99) (by decide +kernel) rfl (sn_iload (i := 8) (by decide +kernel) (sn_callSi (n := 2) (idx := 195) (i_J9_min_7cf53 G hst) (Nat.le_of_ble_eq_true rfl) cs_J9_min_7cf53 ⟨wm_263, Or.inl wm_476⟩ (by decide +kernel) (sn_callSi (n := 2) (idx := 159) (i_J9_max_7cf53 G hst) (Nat.le_of_ble_eq_true rfl) cs_J9_max_7cf53 ⟨wm_267, Or.inl wm_446⟩ (by decide +kernel) (s_X12_sheet_112 G hst kc hk))))))
noncomputable def B_X12_sheet_97 (kc : Nat → en_B) : en_B := (op_const (0 : Int32) (B_X12_sheet_112 kc))
set_option maxRecDepth 20000 in
theorem s_X12_sheet_97 (G : en_G) (hst : G.2.2.2.2.2 = true) (kc : Nat → en_B) (hk : ∀ t, en_Snd G M_X12_sheet t (kc t)) : en_Snd G M_X12_sheet 97 (B_X12_sheet_97 kc) := (sn_iconst (n := 0) (v := 0) (by decide +kernel) rfl (sn_goto (off := 14) (tgt := 112) (by decide +kernel) rfl (s_X12_sheet_112 G hst kc hk)))
noncomputable def B_X12_sheet_75 (kc : Nat → en_B) : en_B := (op_istore 8 (op_aload 0 (op_gets 12 1 (20, 53, 0) (op_const (7 : Int32) (op_iload 7 (op_bin (fun (x y : Int32) => x + y) (op_iload 1 (op_const (3 : Int32) (op_iceq (B_X12_sheet_97 kc) (op_iload 7 (op_iload 2 (op_iclt (B_X12_sheet_101 kc) (B_X12_sheet_97 kc)))))))))))))
set_option maxRecDepth 20000 in
theorem s_X12_sheet_75 (G : en_G) (hst : G.2.2.2.2.2 = true) (kc : Nat → en_B) (hk : ∀ t, en_Snd G M_X12_sheet t (kc t)) : en_Snd G M_X12_sheet 75 (B_X12_sheet_75 kc) := (sn_istore (i := 8) (by decide +kernel) (Nat.le_of_ble_eq_true rfl) (sn_aload_n (i := 0) (n := 0) (by decide +kernel) rfl (sn_gets (ci := 12) (j := 0) (off := 1) hst en_c12 of_12_1 (Nat.le_of_ble_eq_true rfl) (by decide +kernel) wm_339 (Nat.le_of_ble_eq_true rfl) rfl (sn_bipush (n := 7) (v := 7) (by decide +kernel) rfl (sn_iload (i := 7) (by decide +kernel) (sn_iadd (by decide +kernel) (sn_iload_n (i := 1) (n := 1) (by decide +kernel) rfl (sn_iconst (n := 3) (v := 3) (by decide +kernel) rfl (sn_iceq (off := 9) (tgt := 97) (by decide +kernel) rfl (s_X12_sheet_97 G hst kc hk) (sn_iload (i := 7) (by decide +kernel) (sn_iload_n (i := 2) (n := 2) (by decide +kernel) rfl (sn_iclt (off := 7) (tgt := 101) (by decide +kernel) rfl (s_X12_sheet_101 G hst kc hk) (s_X12_sheet_97 G hst kc hk)))))))))))))
noncomputable def B_X12_sheet_73 (kc : Nat → en_B) : en_B := (op_iload 6 (B_X12_sheet_75 kc))
set_option maxRecDepth 20000 in
theorem s_X12_sheet_73 (G : en_G) (hst : G.2.2.2.2.2 = true) (kc : Nat → en_B) (hk : ∀ t, en_Snd G M_X12_sheet t (kc t)) : en_Snd G M_X12_sheet 73 (B_X12_sheet_73 kc) := (sn_iload (i := 6) (by decide +kernel) (s_X12_sheet_75 G hst kc hk))
noncomputable def B_X12_sheet_62 (kc : Nat → en_B) : en_B := (op_iload 1 (op_const (1 : Int32) (op_iceq (op_iload 6 (op_un en_i2s (B_X12_sheet_75 kc))) (B_X12_sheet_73 kc))))
set_option maxRecDepth 20000 in
theorem s_X12_sheet_62 (G : en_G) (hst : G.2.2.2.2.2 = true) (kc : Nat → en_B) (hk : ∀ t, en_Snd G M_X12_sheet t (kc t)) : en_Snd G M_X12_sheet 62 (B_X12_sheet_62 kc) := (sn_iload_n (i := 1) (n := 1) (by decide +kernel) rfl (sn_iconst (n := 1) (v := 1) (by decide +kernel) rfl (sn_icne (off := 9) (tgt := 73) (by decide +kernel) rfl (s_X12_sheet_73 G hst kc hk) (sn_iload (i := 6) (by decide +kernel) (sn_i2s (by decide +kernel) (sn_goto (off := 5) (tgt := 75) (by decide +kernel) rfl (s_X12_sheet_75 G hst kc hk)))))))
noncomputable def B_X12_sheet_43 (kc : Nat → en_B) : en_B := (op_iload 7 (op_aload 0 (op_geti 12 1 (op_iclt (op_iload 1 (op_ifeq (op_iload 6 (op_un en_i2b (B_X12_sheet_75 kc))) (B_X12_sheet_62 kc))) (B_X12_sheet_141 kc)))))
set_option maxRecDepth 20000 in
theorem s_X12_sheet_43 (G : en_G) (hst : G.2.2.2.2.2 = true) (kc : Nat → en_B) (hk : ∀ t, en_Snd G M_X12_sheet t (kc t)) : en_Snd G M_X12_sheet 43 (B_X12_sheet_43 kc) := (sn_iload (i := 7) (by decide +kernel) (sn_aload_n (i := 0) (n := 0) (by decide +kernel) rfl (sn_geti (ci := 12) (j := 1) en_c12 (by decide +kernel) wm_383 (Nat.le_of_ble_eq_true rfl) rfl (sn_icge (off := 92) (tgt := 141) (by decide +kernel) rfl (s_X12_sheet_141 G hst kc hk) (sn_iload_n (i := 1) (n := 1) (by decide +kernel) rfl (sn_ifne (off := 9) (tgt := 62) (by decide +kernel) rfl (s_X12_sheet_62 G hst kc hk) (sn_iload (i := 6) (by decide +kernel) (sn_i2b (by decide +kernel) (sn_goto (off := 16) (tgt := 75) (by decide +kernel) rfl (s_X12_sheet_75 G hst kc hk))))))))))
noncomputable def B_X12_sheet_34 (kc : Nat → en_B) : en_B := (op_const (0 : Int32) (op_istore 5 (op_iload 3 (op_istore 6 (op_const (0 : Int32) (op_istore 7 (kc 43)))))))
set_option maxRecDepth 20000 in
theorem s_X12_sheet_34 (G : en_G) (hst : G.2.2.2.2.2 = true) (kc : Nat → en_B) (hk : ∀ t, en_Snd G M_X12_sheet t (kc t)) : en_Snd G M_X12_sheet 34 (B_X12_sheet_34 kc) := (sn_iconst (n := 0) (v := 0) (by decide +kernel) rfl (sn_istore (i := 5) (by decide +kernel) (Nat.le_of_ble_eq_true rfl) (sn_iload_n (i := 3) (n := 3) (by decide +kernel) rfl (sn_istore (i := 6) (by decide +kernel) (Nat.le_of_ble_eq_true rfl) (sn_iconst (n := 0) (v := 0) (by decide +kernel) rfl (sn_istore (i := 7) (by decide +kernel) (Nat.le_of_ble_eq_true rfl) (hk 43)))))))
noncomputable def B_X12_sheet_22 (kc : Nat → en_B) : en_B := (op_iload 1 (op_const (3 : Int32) (op_iclt (op_iload 2 (op_iflt (op_const (-2 : Int32) op_iret) (B_X12_sheet_34 kc))) (B_X12_sheet_34 kc))))
set_option maxRecDepth 20000 in
theorem s_X12_sheet_22 (G : en_G) (hst : G.2.2.2.2.2 = true) (kc : Nat → en_B) (hk : ∀ t, en_Snd G M_X12_sheet t (kc t)) : en_Snd G M_X12_sheet 22 (B_X12_sheet_22 kc) := (sn_iload_n (i := 1) (n := 1) (by decide +kernel) rfl (sn_iconst (n := 3) (v := 3) (by decide +kernel) rfl (sn_icge (off := 10) (tgt := 34) (by decide +kernel) rfl (s_X12_sheet_34 G hst kc hk) (sn_iload_n (i := 2) (n := 2) (by decide +kernel) rfl (sn_ifge (off := 6) (tgt := 34) (by decide +kernel) rfl (s_X12_sheet_34 G hst kc hk) (sn_bipush (n := -2) (v := -2) (by decide +kernel) rfl (sn_iret (by decide +kernel) rfl)))))))
noncomputable def B_X12_sheet_20 (kc : Nat → en_B) : en_B := (op_const (-1 : Int32) op_iret)
set_option maxRecDepth 20000 in
theorem s_X12_sheet_20 (G : en_G) (hst : G.2.2.2.2.2 = true) (kc : Nat → en_B) (hk : ∀ t, en_Snd G M_X12_sheet t (kc t)) : en_Snd G M_X12_sheet 20 (B_X12_sheet_20 kc) := (sn_iconst (n := -1) (v := -1) (by decide +kernel) rfl (sn_iret (by decide +kernel) rfl))
noncomputable def B_X12_sheet_0 (kc : Nat → en_B) : en_B := (op_aload 0 (op_const (0 : Int32) (op_puti 12 11 (op_iload 1 (op_const (0 : Int32) (op_const (3 : Int32) (op_calli O_X12_in 3 (op_ifeq (B_X12_sheet_20 kc) (op_iload 2 (op_const (7 : Int32) (op_icgt (B_X12_sheet_20 kc) (B_X12_sheet_22 kc))))))))))))
set_option maxRecDepth 20000 in
theorem s_X12_sheet_0 (G : en_G) (hst : G.2.2.2.2.2 = true) (kc : Nat → en_B) (hk : ∀ t, en_Snd G M_X12_sheet t (kc t)) : en_Snd G M_X12_sheet 0 (B_X12_sheet_0 kc) := (sn_aload_n (i := 0) (n := 0) (by decide +kernel) rfl (sn_iconst (n := 0) (v := 0) (by decide +kernel) rfl (sn_puti (ci := 12) (j := 11) en_c12 (by decide +kernel) wm_368 (Nat.le_of_ble_eq_true rfl) rfl rfl rfl (sn_iload_n (i := 1) (n := 1) (by decide +kernel) rfl (sn_iconst (n := 0) (v := 0) (by decide +kernel) rfl (sn_iconst (n := 3) (v := 3) (by decide +kernel) rfl (sn_callSi (n := 3) (idx := 100) (i_X12_in G hst) (Nat.le_of_ble_eq_true rfl) cs_X12_in ⟨wm_370, Or.inl wm_384⟩ (by decide +kernel) (sn_ifeq (off := 9) (tgt := 20) (by decide +kernel) rfl (s_X12_sheet_20 G hst kc hk) (sn_iload_n (i := 2) (n := 2) (by decide +kernel) rfl (sn_bipush (n := 7) (v := 7) (by decide +kernel) rfl (sn_icle (off := 5) (tgt := 22) (by decide +kernel) rfl (s_X12_sheet_22 G hst kc hk) (s_X12_sheet_20 G hst kc hk))))))))))))
noncomputable def LK_X12_sheet : Nat → Nat → en_B
  | 0, _ => en_no
  | n + 1, t => if t = 43 then B_X12_sheet_43 (LK_X12_sheet n) else en_no
theorem l_X12_sheet (G : en_G) (hst : G.2.2.2.2.2 = true) : ∀ n t, en_Snd G M_X12_sheet t (LK_X12_sheet n t)
  | 0, _ => sn_no
  | n + 1, t => by
    show en_Snd G M_X12_sheet t (if t = 43 then B_X12_sheet_43 (LK_X12_sheet n) else en_no)
    by_cases h_43 : t = 43
    · rw [if_pos h_43, h_43]; exact s_X12_sheet_43 G hst _ (l_X12_sheet G hst n)
    rw [if_neg h_43]
    exact sn_no
noncomputable def T_X12_sheet_0 (x1 : Int32) (x2 : Int32) (x3 : Int32) (x4 : Int32) (σ : en_M) : en_R := B_X12_sheet_0 (LK_X12_sheet en_FU) [.inr (185, 12, 0, 0), .inl x1, .inl x2, .inl x3, .inl x4, en_un, en_un, en_un, en_un] [] en_zz σ
noncomputable def T_X12_sheet_43 (n : Nat) (x1 : Int32) (x2 : Int32) (x3 : Int32) (x4 : Int32) (x5 : Int32) (x6 : Int32) (x7 : Int32) (u8 : en_V) (σ : en_M) : en_R := LK_X12_sheet n 43 [.inr (185, 12, 0, 0), .inl x1, .inl x2, .inl x3, .inl x4, .inl x5, .inl x6, .inl x7, u8] [] en_zz σ
set_option maxRecDepth 20000 in
set_option maxHeartbeats 2000000 in
theorem t_X12_sheet_0 (x1 : Int32) (x2 : Int32) (x3 : Int32) (x4 : Int32) (σ : en_M) : T_X12_sheet_0 x1 x2 x3 x4 σ = ((O_X12_in [.inl x1, .inl (0 : Int32), .inl (3 : Int32)] (en_up σ 185 11 (0 : Int32))).bind fun r1 => if r1.1 = 0 then (en_ri (-1 : Int32) r1.2) else (if (7 : Int32) < x2 then (en_ri (-1 : Int32) r1.2) else (if x1 < (3 : Int32) then (if x2 < 0 then (en_ri (-2 : Int32) r1.2) else (T_X12_sheet_43 en_FU x1 x2 x3 x4 (0 : Int32) x3 (0 : Int32) (en_un) r1.2)) else (T_X12_sheet_43 en_FU x1 x2 x3 x4 (0 : Int32) x3 (0 : Int32) (en_un) r1.2)))) := rfl
set_option maxRecDepth 20000 in
set_option maxHeartbeats 2000000 in
theorem t_X12_sheet_43 (n : Nat) (x1 : Int32) (x2 : Int32) (x3 : Int32) (x4 : Int32) (x5 : Int32) (x6 : Int32) (x7 : Int32) (u8 : en_V) (σ : en_M) : T_X12_sheet_43 (n + 1) x1 x2 x3 x4 x5 x6 x7 u8 σ = (if x7 < (σ 185 1) then (if x1 = 0 then (if x1 = (3 : Int32) then ((en_ix ((7 : Int32) + x7) 53).bind fun j18 => (en_ix ((7 : Int32) + x7) 53).bind fun j19 => T_X12_sheet_43 n x1 x2 x3 x4 (x5 + ((en_up σ 186 j18 (0 : Int32)) 186 j19)) (x6 + x4) (x7 + (1 : Int32)) (.inl (en_i2b x6)) (en_up σ 186 j18 (0 : Int32))) else (if x7 < x2 then ((O_J9_min_7cf53 [.inl (99 : Int32), .inl (en_i2b x6)] σ).bind fun r20 => (O_J9_max_7cf53 [.inl (0 : Int32), .inl r20.1] r20.2).bind fun r21 => (en_ix ((7 : Int32) + x7) 53).bind fun j22 => (en_ix ((7 : Int32) + x7) 53).bind fun j23 => T_X12_sheet_43 n x1 x2 x3 x4 (x5 + ((en_up r21.2 186 j22 r21.1) 186 j23)) (x6 + x4) (x7 + (1 : Int32)) (.inl (en_i2b x6)) (en_up r21.2 186 j22 r21.1)) else ((en_ix ((7 : Int32) + x7) 53).bind fun j24 => (en_ix ((7 : Int32) + x7) 53).bind fun j25 => T_X12_sheet_43 n x1 x2 x3 x4 (x5 + ((en_up σ 186 j24 (0 : Int32)) 186 j25)) (x6 + x4) (x7 + (1 : Int32)) (.inl (en_i2b x6)) (en_up σ 186 j24 (0 : Int32))))) else (if x1 = (1 : Int32) then (if x1 = (3 : Int32) then ((en_ix ((7 : Int32) + x7) 53).bind fun j10 => (en_ix ((7 : Int32) + x7) 53).bind fun j11 => T_X12_sheet_43 n x1 x2 x3 x4 (x5 + ((en_up σ 186 j10 (0 : Int32)) 186 j11)) (x6 + x4) (x7 + (1 : Int32)) (.inl (en_i2s x6)) (en_up σ 186 j10 (0 : Int32))) else (if x7 < x2 then ((O_J9_min_7cf53 [.inl (99 : Int32), .inl (en_i2s x6)] σ).bind fun r12 => (O_J9_max_7cf53 [.inl (0 : Int32), .inl r12.1] r12.2).bind fun r13 => (en_ix ((7 : Int32) + x7) 53).bind fun j14 => (en_ix ((7 : Int32) + x7) 53).bind fun j15 => T_X12_sheet_43 n x1 x2 x3 x4 (x5 + ((en_up r13.2 186 j14 r13.1) 186 j15)) (x6 + x4) (x7 + (1 : Int32)) (.inl (en_i2s x6)) (en_up r13.2 186 j14 r13.1)) else ((en_ix ((7 : Int32) + x7) 53).bind fun j16 => (en_ix ((7 : Int32) + x7) 53).bind fun j17 => T_X12_sheet_43 n x1 x2 x3 x4 (x5 + ((en_up σ 186 j16 (0 : Int32)) 186 j17)) (x6 + x4) (x7 + (1 : Int32)) (.inl (en_i2s x6)) (en_up σ 186 j16 (0 : Int32))))) else (if x1 = (3 : Int32) then ((en_ix ((7 : Int32) + x7) 53).bind fun j2 => (en_ix ((7 : Int32) + x7) 53).bind fun j3 => T_X12_sheet_43 n x1 x2 x3 x4 (x5 + ((en_up σ 186 j2 (0 : Int32)) 186 j3)) (x6 + x4) (x7 + (1 : Int32)) (.inl x6) (en_up σ 186 j2 (0 : Int32))) else (if x7 < x2 then ((O_J9_min_7cf53 [.inl (99 : Int32), .inl x6] σ).bind fun r4 => (O_J9_max_7cf53 [.inl (0 : Int32), .inl r4.1] r4.2).bind fun r5 => (en_ix ((7 : Int32) + x7) 53).bind fun j6 => (en_ix ((7 : Int32) + x7) 53).bind fun j7 => T_X12_sheet_43 n x1 x2 x3 x4 (x5 + ((en_up r5.2 186 j6 r5.1) 186 j7)) (x6 + x4) (x7 + (1 : Int32)) (.inl x6) (en_up r5.2 186 j6 r5.1)) else ((en_ix ((7 : Int32) + x7) 53).bind fun j8 => (en_ix ((7 : Int32) + x7) 53).bind fun j9 => T_X12_sheet_43 n x1 x2 x3 x4 (x5 + ((en_up σ 186 j8 (0 : Int32)) 186 j9)) (x6 + x4) (x7 + (1 : Int32)) (.inl x6) (en_up σ 186 j8 (0 : Int32))))))) else (if x1 = (3 : Int32) then (en_ri (-3 : Int32) σ) else (en_ri x5 σ))) := rfl
noncomputable def P_X12_sheet : List en_V → en_M → Option (Int32 × en_M) := fun av σ => match av with
  | [.inr (185, 12, 0, 0), .inl x1, .inl x2, .inl x3, .inl x4] => en_oi (T_X12_sheet_0 x1 x2 x3 x4 σ)
  | _ => none
theorem ox_X12_sheet : ∃ f, f = P_X12_sheet := ⟨_, rfl⟩
noncomputable def O_X12_sheet : List en_V → en_M → Option (Int32 × en_M) := Classical.choose ox_X12_sheet
theorem oe_X12_sheet : O_X12_sheet = P_X12_sheet := Classical.choose_spec ox_X12_sheet
theorem o_X12_sheet (x1 : Int32) (x2 : Int32) (x3 : Int32) (x4 : Int32) (σ : en_M) : O_X12_sheet [.inr (185, 12, 0, 0), .inl x1, .inl x2, .inl x3, .inl x4] σ = en_oi (T_X12_sheet_0 x1 x2 x3 x4 σ) := by rw [oe_X12_sheet]; rfl
theorem i_X12_sheet (G : en_G) (hst : G.2.2.2.2.2 = true) : en_I G 2 yX12_sheet cX12_sheet 9 (some .int) 0 0 (en_wi (O_X12_sheet)) := en_of_i (M := M_X12_sheet) hst (s_X12_sheet_0 G hst _ (l_X12_sheet G hst en_FU)) (plainFor_of_name (by decide +kernel)) rfl rfl rfl (Or.inl ⟨rfl, rfl⟩) (fun av σ x σ' h => by
  rw [oe_X12_sheet] at h; unfold P_X12_sheet at h
  split at h
  · exact ⟨(Nat.le_of_ble_eq_true rfl), en_oi_some h⟩
  · cases h)
-- EachMayMissOneModel.lay([I[II)V
def M_X12_lay : en_Me := (cX12_lay, RX12, 4, false, 1, false)
theorem cs_X12_lay : en_cs yX12_lay cX12_lay 4 none 3 := ⟨wm_501, wm_337, ⟨(by decide +kernel), (by decide +kernel), (by decide +kernel)⟩, (Nat.le_of_ble_eq_true rfl)⟩
noncomputable def B_X12_lay_22 (kc : Nat → en_B) : en_B := op_vret
set_option maxRecDepth 20000 in
theorem s_X12_lay_22 (G : en_G) (hst : G.2.2.2.2.2 = true) (kc : Nat → en_B) (hk : ∀ t, en_Snd G M_X12_lay t (kc t)) : en_Snd G M_X12_lay 22 (B_X12_lay_22 kc) := (sn_vret (by decide +kernel))
noncomputable def B_X12_lay_2 (kc : Nat → en_B) : en_B := (op_iload 3 (op_const (53 : Int32) (op_iclt (op_aload 1 (op_iload 2 (op_iload 3 (op_bin (fun (x y : Int32) => x + y) (op_aload 0 (op_iload 3 (op_ald 20 (op_ast 20 (fun (x : Int32) => x) (op_iinc 3 (1 : Int32) (kc 2)))))))))) (B_X12_lay_22 kc))))
set_option maxRecDepth 20000 in
theorem s_X12_lay_2 (G : en_G) (hst : G.2.2.2.2.2 = true) (kc : Nat → en_B) (hk : ∀ t, en_Snd G M_X12_lay t (kc t)) : en_Snd G M_X12_lay 2 (B_X12_lay_2 kc) := (sn_iload_n (i := 3) (n := 3) (by decide +kernel) rfl (sn_bipush (n := 53) (v := 53) (by decide +kernel) rfl (sn_icge (off := 17) (tgt := 22) (by decide +kernel) rfl (s_X12_lay_22 G hst kc hk) (sn_aload_n (i := 1) (n := 1) (by decide +kernel) rfl (sn_iload_n (i := 2) (n := 2) (by decide +kernel) rfl (sn_iload_n (i := 3) (n := 3) (by decide +kernel) rfl (sn_iadd (by decide +kernel) (sn_aload_n (i := 0) (n := 0) (by decide +kernel) rfl (sn_iload_n (i := 3) (n := 3) (by decide +kernel) rfl (sn_iald (by decide +kernel) (sn_iast (by decide +kernel) (sn_iinc (i := 3) (n := 1) (v := 1) (by decide +kernel) rfl (sn_goto (off := -17) (tgt := 2) (by decide +kernel) rfl (hk 2))))))))))))))
noncomputable def B_X12_lay_0 (kc : Nat → en_B) : en_B := (op_const (0 : Int32) (op_istore 3 (kc 2)))
set_option maxRecDepth 20000 in
theorem s_X12_lay_0 (G : en_G) (hst : G.2.2.2.2.2 = true) (kc : Nat → en_B) (hk : ∀ t, en_Snd G M_X12_lay t (kc t)) : en_Snd G M_X12_lay 0 (B_X12_lay_0 kc) := (sn_iconst (n := 0) (v := 0) (by decide +kernel) rfl (sn_istore_n (i := 3) (n := 3) (by decide +kernel) rfl (Nat.le_of_ble_eq_true rfl) (hk 2)))
noncomputable def LK_X12_lay : Nat → Nat → en_B
  | 0, _ => en_no
  | n + 1, t => if t = 2 then B_X12_lay_2 (LK_X12_lay n) else en_no
theorem l_X12_lay (G : en_G) (hst : G.2.2.2.2.2 = true) : ∀ n t, en_Snd G M_X12_lay t (LK_X12_lay n t)
  | 0, _ => sn_no
  | n + 1, t => by
    show en_Snd G M_X12_lay t (if t = 2 then B_X12_lay_2 (LK_X12_lay n) else en_no)
    by_cases h_2 : t = 2
    · rw [if_pos h_2, h_2]; exact s_X12_lay_2 G hst _ (l_X12_lay G hst n)
    rw [if_neg h_2]
    exact sn_no
noncomputable def T_X12_lay_0 (k0 : Nat) (k1 : Nat) (n1 : Nat) (x2 : Int32) (σ : en_M) : en_R := B_X12_lay_0 (LK_X12_lay en_FU) [.inr (k0, 20, 53, 0), .inr (k1, 20, n1, 0), .inl x2, en_un] [] en_zz σ
noncomputable def T_X12_lay_2 (n : Nat) (k0 : Nat) (k1 : Nat) (n1 : Nat) (x2 : Int32) (x3 : Int32) (σ : en_M) : en_R := LK_X12_lay n 2 [.inr (k0, 20, 53, 0), .inr (k1, 20, n1, 0), .inl x2, .inl x3] [] en_zz σ
set_option maxRecDepth 20000 in
set_option maxHeartbeats 2000000 in
theorem t_X12_lay_0 (k0 : Nat) (k1 : Nat) (n1 : Nat) (x2 : Int32) (σ : en_M) : T_X12_lay_0 k0 k1 n1 x2 σ = (T_X12_lay_2 en_FU k0 k1 n1 x2 (0 : Int32) σ) := rfl
set_option maxRecDepth 20000 in
set_option maxHeartbeats 2000000 in
theorem t_X12_lay_2 (n : Nat) (k0 : Nat) (k1 : Nat) (n1 : Nat) (x2 : Int32) (x3 : Int32) (σ : en_M) : T_X12_lay_2 (n + 1) k0 k1 n1 x2 x3 σ = (if x3 < (53 : Int32) then ((en_ix x3 53).bind fun j1 => (en_ix (x2 + x3) n1).bind fun j2 => T_X12_lay_2 n k0 k1 n1 x2 (x3 + (1 : Int32)) (en_up σ k1 j2 (σ k0 j1))) else (en_rv σ)) := rfl
noncomputable def P_X12_lay : List en_V → en_M → Option en_M := fun av σ => match av with
  | [.inr (k0, 20, 53, 0), .inr (k1, 20, n1, 0), .inl x2] => en_ov (T_X12_lay_0 k0 k1 n1 x2 σ)
  | _ => none
theorem ox_X12_lay : ∃ f, f = P_X12_lay := ⟨_, rfl⟩
noncomputable def O_X12_lay : List en_V → en_M → Option en_M := Classical.choose ox_X12_lay
theorem oe_X12_lay : O_X12_lay = P_X12_lay := Classical.choose_spec ox_X12_lay
theorem o_X12_lay (k0 : Nat) (k1 : Nat) (n1 : Nat) (x2 : Int32) (σ : en_M) : O_X12_lay [.inr (k0, 20, 53, 0), .inr (k1, 20, n1, 0), .inl x2] σ = en_ov (T_X12_lay_0 k0 k1 n1 x2 σ) := by rw [oe_X12_lay]; rfl
theorem i_X12_lay (G : en_G) (hst : G.2.2.2.2.2 = true) : en_I G 1 yX12_lay cX12_lay 4 none 0 0 (en_wv (O_X12_lay)) := en_of_v (M := M_X12_lay) hst (s_X12_lay_0 G hst _ (l_X12_lay G hst en_FU)) (plainFor_of_name (by decide +kernel)) rfl rfl rfl (fun av σ σ' h => by
  rw [oe_X12_lay] at h; unfold P_X12_lay at h
  split at h
  · exact ⟨(Nat.le_of_ble_eq_true rfl), en_ov_some h⟩
  · cases h)
-- EachMayMissOneModel.remember([I)V
def M_X12_remember : en_Me := (cX12_remember, RX12, 3, false, 2, false)
theorem cs_X12_remember : en_cs yX12_remember cX12_remember 3 none 1 := ⟨wm_503, wm_337, ⟨(by decide +kernel), (by decide +kernel), (by decide +kernel)⟩, (Nat.le_of_ble_eq_true rfl)⟩
noncomputable def B_X12_remember_49 (kc : Nat → en_B) : en_B := (op_aload 1 (op_aload 0 (op_gets 12 9 (20, 636, 0) (op_const (53 : Int32) (op_aload 0 (op_geti 12 23 (op_bin (fun (x y : Int32) => x * y) (op_callv O_X12_lay 3 (op_aload 0 (op_dup (op_geti 12 23 (op_const (1 : Int32) (op_bin (fun (x y : Int32) => x + y) (op_puti 12 23 op_vret))))))))))))))
set_option maxRecDepth 20000 in
theorem s_X12_remember_49 (G : en_G) (hst : G.2.2.2.2.2 = true) (kc : Nat → en_B) (hk : ∀ t, en_Snd G M_X12_remember t (kc t)) : en_Snd G M_X12_remember 49 (B_X12_remember_49 kc) := (sn_aload_n (i := 1) (n := 1) (by decide +kernel) rfl (sn_aload_n (i := 0) (n := 0) (by decide +kernel) rfl (sn_gets (ci := 12) (j := 22) (off := 9) hst en_c12 of_12_9 (Nat.le_of_ble_eq_true rfl) (by decide +kernel) wm_350 (Nat.le_of_ble_eq_true rfl) rfl (sn_bipush (n := 53) (v := 53) (by decide +kernel) rfl (sn_aload_n (i := 0) (n := 0) (by decide +kernel) rfl (sn_geti (ci := 12) (j := 23) en_c12 (by decide +kernel) wm_436 (Nat.le_of_ble_eq_true rfl) rfl (sn_imul (by decide +kernel) (sn_callSv (n := 3) (idx := 209) (i_X12_lay G hst) (Nat.le_of_ble_eq_true rfl) cs_X12_lay ⟨wm_502, Or.inl wm_506⟩ (by decide +kernel) (sn_aload_n (i := 0) (n := 0) (by decide +kernel) rfl (sn_dup (by decide +kernel) (sn_geti (ci := 12) (j := 23) en_c12 (by decide +kernel) wm_436 (Nat.le_of_ble_eq_true rfl) rfl (sn_iconst (n := 1) (v := 1) (by decide +kernel) rfl (sn_iadd (by decide +kernel) (sn_puti (ci := 12) (j := 23) en_c12 (by decide +kernel) wm_436 (Nat.le_of_ble_eq_true rfl) rfl rfl rfl (sn_vret (by decide +kernel))))))))))))))))
noncomputable def B_X12_remember_39 (kc : Nat → en_B) : en_B := (op_aload 0 (op_dup (op_geti 12 23 (op_const (1 : Int32) (op_bin (fun (x y : Int32) => x - y) (op_puti 12 23 (B_X12_remember_49 kc)))))))
set_option maxRecDepth 20000 in
theorem s_X12_remember_39 (G : en_G) (hst : G.2.2.2.2.2 = true) (kc : Nat → en_B) (hk : ∀ t, en_Snd G M_X12_remember t (kc t)) : en_Snd G M_X12_remember 39 (B_X12_remember_39 kc) := (sn_aload_n (i := 0) (n := 0) (by decide +kernel) rfl (sn_dup (by decide +kernel) (sn_geti (ci := 12) (j := 23) en_c12 (by decide +kernel) wm_436 (Nat.le_of_ble_eq_true rfl) rfl (sn_iconst (n := 1) (v := 1) (by decide +kernel) rfl (sn_isub (by decide +kernel) (sn_puti (ci := 12) (j := 23) en_c12 (by decide +kernel) wm_436 (Nat.le_of_ble_eq_true rfl) rfl rfl rfl (s_X12_remember_49 G hst kc hk)))))))
noncomputable def B_X12_remember_11 (kc : Nat → en_B) : en_B := (op_iload 2 (op_const (583 : Int32) (op_iclt (op_aload 0 (op_gets 12 9 (20, 636, 0) (op_iload 2 (op_aload 0 (op_gets 12 9 (20, 636, 0) (op_iload 2 (op_const (53 : Int32) (op_bin (fun (x y : Int32) => x + y) (op_ald 20 (op_ast 20 (fun (x : Int32) => x) (op_iinc 2 (1 : Int32) (kc 11)))))))))))) (B_X12_remember_39 kc))))
set_option maxRecDepth 20000 in
theorem s_X12_remember_11 (G : en_G) (hst : G.2.2.2.2.2 = true) (kc : Nat → en_B) (hk : ∀ t, en_Snd G M_X12_remember t (kc t)) : en_Snd G M_X12_remember 11 (B_X12_remember_11 kc) := (sn_iload_n (i := 2) (n := 2) (by decide +kernel) rfl (sn_sipush (n := 583) (v := 583) (by decide +kernel) rfl (sn_icge (off := 24) (tgt := 39) (by decide +kernel) rfl (s_X12_remember_39 G hst kc hk) (sn_aload_n (i := 0) (n := 0) (by decide +kernel) rfl (sn_gets (ci := 12) (j := 22) (off := 9) hst en_c12 of_12_9 (Nat.le_of_ble_eq_true rfl) (by decide +kernel) wm_350 (Nat.le_of_ble_eq_true rfl) rfl (sn_iload_n (i := 2) (n := 2) (by decide +kernel) rfl (sn_aload_n (i := 0) (n := 0) (by decide +kernel) rfl (sn_gets (ci := 12) (j := 22) (off := 9) hst en_c12 of_12_9 (Nat.le_of_ble_eq_true rfl) (by decide +kernel) wm_350 (Nat.le_of_ble_eq_true rfl) rfl (sn_iload_n (i := 2) (n := 2) (by decide +kernel) rfl (sn_bipush (n := 53) (v := 53) (by decide +kernel) rfl (sn_iadd (by decide +kernel) (sn_iald (by decide +kernel) (sn_iast (by decide +kernel) (sn_iinc (i := 2) (n := 1) (v := 1) (by decide +kernel) rfl (sn_goto (off := -25) (tgt := 11) (by decide +kernel) rfl (hk 11))))))))))))))))
noncomputable def B_X12_remember_0 (kc : Nat → en_B) : en_B := (op_aload 0 (op_geti 12 23 (op_const (12 : Int32) (op_iceq (op_const (0 : Int32) (op_istore 2 (kc 11))) (B_X12_remember_49 kc)))))
set_option maxRecDepth 20000 in
theorem s_X12_remember_0 (G : en_G) (hst : G.2.2.2.2.2 = true) (kc : Nat → en_B) (hk : ∀ t, en_Snd G M_X12_remember t (kc t)) : en_Snd G M_X12_remember 0 (B_X12_remember_0 kc) := (sn_aload_n (i := 0) (n := 0) (by decide +kernel) rfl (sn_geti (ci := 12) (j := 23) en_c12 (by decide +kernel) wm_436 (Nat.le_of_ble_eq_true rfl) rfl (sn_bipush (n := 12) (v := 12) (by decide +kernel) rfl (sn_icne (off := 43) (tgt := 49) (by decide +kernel) rfl (s_X12_remember_49 G hst kc hk) (sn_iconst (n := 0) (v := 0) (by decide +kernel) rfl (sn_istore_n (i := 2) (n := 2) (by decide +kernel) rfl (Nat.le_of_ble_eq_true rfl) (hk 11)))))))
noncomputable def LK_X12_remember : Nat → Nat → en_B
  | 0, _ => en_no
  | n + 1, t => if t = 11 then B_X12_remember_11 (LK_X12_remember n) else en_no
theorem l_X12_remember (G : en_G) (hst : G.2.2.2.2.2 = true) : ∀ n t, en_Snd G M_X12_remember t (LK_X12_remember n t)
  | 0, _ => sn_no
  | n + 1, t => by
    show en_Snd G M_X12_remember t (if t = 11 then B_X12_remember_11 (LK_X12_remember n) else en_no)
    by_cases h_11 : t = 11
    · rw [if_pos h_11, h_11]; exact s_X12_remember_11 G hst _ (l_X12_remember G hst n)
    rw [if_neg h_11]
    exact sn_no
noncomputable def T_X12_remember_0 (k1 : Nat) (σ : en_M) : en_R := B_X12_remember_0 (LK_X12_remember en_FU) [.inr (185, 12, 0, 0), .inr (k1, 20, 53, 0), en_un] [] en_zz σ
noncomputable def T_X12_remember_11 (n : Nat) (k1 : Nat) (x2 : Int32) (σ : en_M) : en_R := LK_X12_remember n 11 [.inr (185, 12, 0, 0), .inr (k1, 20, 53, 0), .inl x2] [] en_zz σ
set_option maxRecDepth 20000 in
set_option maxHeartbeats 2000000 in
theorem t_X12_remember_0 (k1 : Nat) (σ : en_M) : T_X12_remember_0 k1 σ = (if (σ 185 23) = (12 : Int32) then (T_X12_remember_11 en_FU k1 (0 : Int32) σ) else ((O_X12_lay [.inr (k1, 20, 53, 0), .inr (194, 20, 636, 0), .inl ((53 : Int32) * (σ 185 23))] σ).bind fun r1 => en_rv (en_up r1 185 23 ((r1 185 23) + (1 : Int32))))) := rfl
set_option maxRecDepth 20000 in
set_option maxHeartbeats 2000000 in
theorem t_X12_remember_11 (n : Nat) (k1 : Nat) (x2 : Int32) (σ : en_M) : T_X12_remember_11 (n + 1) k1 x2 σ = (if x2 < (583 : Int32) then ((en_ix (x2 + (53 : Int32)) 636).bind fun j3 => (en_ix x2 636).bind fun j4 => T_X12_remember_11 n k1 (x2 + (1 : Int32)) (en_up σ 194 j4 (σ 194 j3))) else ((O_X12_lay [.inr (k1, 20, 53, 0), .inr (194, 20, 636, 0), .inl ((53 : Int32) * ((σ 185 23) - (1 : Int32)))] (en_up σ 185 23 ((σ 185 23) - (1 : Int32)))).bind fun r2 => en_rv (en_up r2 185 23 ((r2 185 23) + (1 : Int32))))) := rfl
noncomputable def P_X12_remember : List en_V → en_M → Option en_M := fun av σ => match av with
  | [.inr (185, 12, 0, 0), .inr (k1, 20, 53, 0)] => en_ov (T_X12_remember_0 k1 σ)
  | _ => none
theorem ox_X12_remember : ∃ f, f = P_X12_remember := ⟨_, rfl⟩
noncomputable def O_X12_remember : List en_V → en_M → Option en_M := Classical.choose ox_X12_remember
theorem oe_X12_remember : O_X12_remember = P_X12_remember := Classical.choose_spec ox_X12_remember
theorem o_X12_remember (k1 : Nat) (σ : en_M) : O_X12_remember [.inr (185, 12, 0, 0), .inr (k1, 20, 53, 0)] σ = en_ov (T_X12_remember_0 k1 σ) := by rw [oe_X12_remember]; rfl
theorem i_X12_remember (G : en_G) (hst : G.2.2.2.2.2 = true) : en_I G 2 yX12_remember cX12_remember 3 none 0 0 (en_wv (O_X12_remember)) := en_of_v (M := M_X12_remember) hst (s_X12_remember_0 G hst _ (l_X12_remember G hst en_FU)) (plainFor_of_name (by decide +kernel)) rfl rfl rfl (fun av σ σ' h => by
  rw [oe_X12_remember] at h; unfold P_X12_remember at h
  split at h
  · exact ⟨(Nat.le_of_ble_eq_true rfl), en_ov_some h⟩
  · cases h)
-- EachMayMissOneModel.brokenBy(IIIII)I
def M_X12_brokenBy : en_Me := (cX12_brokenBy, RX12, 6, false, 2, false)
theorem cs_X12_brokenBy : en_cs yX12_brokenBy cX12_brokenBy 6 (some .int) 5 := ⟨wm_507, wm_337, ⟨(by decide +kernel), (by decide +kernel), (by decide +kernel)⟩, (Nat.le_of_ble_eq_true rfl)⟩
noncomputable def B_X12_brokenBy_64 (kc : Nat → en_B) : en_B := op_iret
set_option maxRecDepth 20000 in
theorem s_X12_brokenBy_64 (G : en_G) (hst : G.2.2.2.2.2 = true) (kc : Nat → en_B) (hk : ∀ t, en_Snd G M_X12_brokenBy t (kc t)) : en_Snd G M_X12_brokenBy 64 (B_X12_brokenBy_64 kc) := (sn_iret (by decide +kernel) rfl)
noncomputable def B_X12_brokenBy_63 (kc : Nat → en_B) : en_B := (op_const (0 : Int32) (B_X12_brokenBy_64 kc))
set_option maxRecDepth 20000 in
theorem s_X12_brokenBy_63 (G : en_G) (hst : G.2.2.2.2.2 = true) (kc : Nat → en_B) (hk : ∀ t, en_Snd G M_X12_brokenBy t (kc t)) : en_Snd G M_X12_brokenBy 63 (B_X12_brokenBy_63 kc) := (sn_iconst (n := 0) (v := 0) (by decide +kernel) rfl (s_X12_brokenBy_64 G hst kc hk))
noncomputable def B_X12_brokenBy_40 (kc : Nat → en_B) : en_B := (op_iload 5 (op_const (7 : Int32) (op_div (fun (x y : Int32) => x - x / y * y) (op_ifeq (op_iload 1 (op_aload 0 (op_rcv 12 0 (op_calli O_X12_tenor 1 (op_calli O_X12_has 2 (op_ifeq (B_X12_brokenBy_63 kc) (op_const (5 : Int32) (B_X12_brokenBy_64 kc)))))))) (B_X12_brokenBy_63 kc)))))
set_option maxRecDepth 20000 in
theorem s_X12_brokenBy_40 (G : en_G) (hst : G.2.2.2.2.2 = true) (kc : Nat → en_B) (hk : ∀ t, en_Snd G M_X12_brokenBy t (kc t)) : en_Snd G M_X12_brokenBy 40 (B_X12_brokenBy_40 kc) := (sn_iload (i := 5) (by decide +kernel) (sn_bipush (n := 7) (v := 7) (by decide +kernel) rfl (sn_irem (by decide +kernel) (sn_ifne (off := 18) (tgt := 63) (by decide +kernel) rfl (s_X12_brokenBy_63 G hst kc hk) (sn_iload_n (i := 1) (n := 1) (by decide +kernel) rfl (sn_aload_n (i := 0) (n := 0) (by decide +kernel) rfl (sn_callVi (n := 0) (idx := 218) (ci := 12) (i_X12_tenor G hst) (Nat.le_of_ble_eq_true rfl) cs_X12_tenor ⟨wm_485, wm_486, wm_514⟩ ⟨⟨_, rfl, rfl⟩, (Nat.le_of_ble_eq_true rfl)⟩ (by decide +kernel) (sn_callSi (n := 2) (idx := 198) (i_X12_has G hst) (Nat.le_of_ble_eq_true rfl) cs_X12_has ⟨wm_372, Or.inl wm_483⟩ (by decide +kernel) (sn_ifeq (off := 7) (tgt := 63) (by decide +kernel) rfl (s_X12_brokenBy_63 G hst kc hk) (sn_iconst (n := 5) (v := 5) (by decide +kernel) rfl (sn_goto (off := 4) (tgt := 64) (by decide +kernel) rfl (s_X12_brokenBy_64 G hst kc hk))))))))))))
noncomputable def B_X12_brokenBy_31 (kc : Nat → en_B) : en_B := (op_iload 2 (op_iload 4 (op_bin (fun (x y : Int32) => x &&& y) (op_ifeq (B_X12_brokenBy_40 kc) (op_const (4 : Int32) op_iret)))))
set_option maxRecDepth 20000 in
theorem s_X12_brokenBy_31 (G : en_G) (hst : G.2.2.2.2.2 = true) (kc : Nat → en_B) (hk : ∀ t, en_Snd G M_X12_brokenBy t (kc t)) : en_Snd G M_X12_brokenBy 31 (B_X12_brokenBy_31 kc) := (sn_iload_n (i := 2) (n := 2) (by decide +kernel) rfl (sn_iload (i := 4) (by decide +kernel) (sn_iand (by decide +kernel) (sn_ifeq (off := 5) (tgt := 40) (by decide +kernel) rfl (s_X12_brokenBy_40 G hst kc hk) (sn_iconst (n := 4) (v := 4) (by decide +kernel) rfl (sn_iret (by decide +kernel) rfl))))))
noncomputable def B_X12_brokenBy_21 (kc : Nat → en_B) : en_B := (op_iload 2 (op_iload 2 (op_const (1 : Int32) (op_bin en_shr (op_bin (fun (x y : Int32) => x &&& y) (op_ifeq (B_X12_brokenBy_31 kc) (op_const (3 : Int32) op_iret)))))))
set_option maxRecDepth 20000 in
theorem s_X12_brokenBy_21 (G : en_G) (hst : G.2.2.2.2.2 = true) (kc : Nat → en_B) (hk : ∀ t, en_Snd G M_X12_brokenBy t (kc t)) : en_Snd G M_X12_brokenBy 21 (B_X12_brokenBy_21 kc) := (sn_iload_n (i := 2) (n := 2) (by decide +kernel) rfl (sn_iload_n (i := 2) (n := 2) (by decide +kernel) rfl (sn_iconst (n := 1) (v := 1) (by decide +kernel) rfl (sn_ishr (by decide +kernel) (sn_iand (by decide +kernel) (sn_ifeq (off := 5) (tgt := 31) (by decide +kernel) rfl (s_X12_brokenBy_31 G hst kc hk) (sn_iconst (n := 3) (v := 3) (by decide +kernel) rfl (sn_iret (by decide +kernel) rfl))))))))
noncomputable def B_X12_brokenBy_13 (kc : Nat → en_B) : en_B := (op_iload 1 (op_iload 3 (op_bin (fun (x y : Int32) => x &&& y) (op_ifeq (B_X12_brokenBy_21 kc) (op_const (2 : Int32) op_iret)))))
set_option maxRecDepth 20000 in
theorem s_X12_brokenBy_13 (G : en_G) (hst : G.2.2.2.2.2 = true) (kc : Nat → en_B) (hk : ∀ t, en_Snd G M_X12_brokenBy t (kc t)) : en_Snd G M_X12_brokenBy 13 (B_X12_brokenBy_13 kc) := (sn_iload_n (i := 1) (n := 1) (by decide +kernel) rfl (sn_iload_n (i := 3) (n := 3) (by decide +kernel) rfl (sn_iand (by decide +kernel) (sn_ifeq (off := 5) (tgt := 21) (by decide +kernel) rfl (s_X12_brokenBy_21 G hst kc hk) (sn_iconst (n := 2) (v := 2) (by decide +kernel) rfl (sn_iret (by decide +kernel) rfl))))))
noncomputable def B_X12_brokenBy_0 (kc : Nat → en_B) : en_B := (op_iload 1 (op_calli O_J6_bitCount_0f7a4 1 (op_aload 0 (op_geti 12 5 (op_icgt (op_const (1 : Int32) op_iret) (B_X12_brokenBy_13 kc))))))
set_option maxRecDepth 20000 in
theorem s_X12_brokenBy_0 (G : en_G) (hst : G.2.2.2.2.2 = true) (kc : Nat → en_B) (hk : ∀ t, en_Snd G M_X12_brokenBy t (kc t)) : en_Snd G M_X12_brokenBy 0 (B_X12_brokenBy_0 kc) := (sn_iload_n (i := 1) (n := 1) (by decide +kernel) rfl (sn_callSi (n := 1) (idx := 213) (i_J6_bitCount_0f7a4 G hst) (Nat.le_of_ble_eq_true rfl) cs_J6_bitCount_0f7a4 ⟨wm_511, Or.inl wm_513⟩ (by decide +kernel) (sn_aload_n (i := 0) (n := 0) (by decide +kernel) rfl (sn_geti (ci := 12) (j := 5) en_c12 (by decide +kernel) wm_343 (Nat.le_of_ble_eq_true rfl) rfl (sn_icle (off := 5) (tgt := 13) (by decide +kernel) rfl (s_X12_brokenBy_13 G hst kc hk) (sn_iconst (n := 1) (v := 1) (by decide +kernel) rfl (sn_iret (by decide +kernel) rfl)))))))
noncomputable def LK_X12_brokenBy : Nat → Nat → en_B
  | 0, _ => en_no
  | n + 1, t => en_no
theorem l_X12_brokenBy (G : en_G) (hst : G.2.2.2.2.2 = true) : ∀ n t, en_Snd G M_X12_brokenBy t (LK_X12_brokenBy n t)
  | 0, _ => sn_no
  | n + 1, t => by
    show en_Snd G M_X12_brokenBy t (en_no)
    exact sn_no
noncomputable def T_X12_brokenBy_0 (x1 : Int32) (x2 : Int32) (x3 : Int32) (x4 : Int32) (x5 : Int32) (σ : en_M) : en_R := B_X12_brokenBy_0 (LK_X12_brokenBy en_FU) [.inr (185, 12, 0, 0), .inl x1, .inl x2, .inl x3, .inl x4, .inl x5] [] en_zz σ
set_option maxRecDepth 20000 in
set_option maxHeartbeats 2000000 in
theorem t_X12_brokenBy_0 (x1 : Int32) (x2 : Int32) (x3 : Int32) (x4 : Int32) (x5 : Int32) (σ : en_M) : T_X12_brokenBy_0 x1 x2 x3 x4 x5 σ = ((O_J6_bitCount_0f7a4 [.inl x1] σ).bind fun r1 => if (r1.2 185 5) < r1.1 then (en_ri (1 : Int32) r1.2) else (if (x1 &&& x3) = 0 then (if (x2 &&& (en_shr x2 (1 : Int32))) = 0 then (if (x2 &&& x4) = 0 then (if (7 : Int32) = 0 then none else (if (x5 - x5 / (7 : Int32) * (7 : Int32)) = 0 then ((O_X12_tenor [.inr (185, 12, 0, 0)] r1.2).bind fun r2 => (O_X12_has [.inl x1, .inl r2.1] r2.2).bind fun r3 => if r3.1 = 0 then (en_ri (0 : Int32) r3.2) else (en_ri (5 : Int32) r3.2)) else (en_ri (0 : Int32) r1.2))) else (en_ri (4 : Int32) r1.2)) else (en_ri (3 : Int32) r1.2)) else (en_ri (2 : Int32) r1.2))) := rfl
noncomputable def P_X12_brokenBy : List en_V → en_M → Option (Int32 × en_M) := fun av σ => match av with
  | [.inr (185, 12, 0, 0), .inl x1, .inl x2, .inl x3, .inl x4, .inl x5] => en_oi (T_X12_brokenBy_0 x1 x2 x3 x4 x5 σ)
  | _ => none
theorem ox_X12_brokenBy : ∃ f, f = P_X12_brokenBy := ⟨_, rfl⟩
noncomputable def O_X12_brokenBy : List en_V → en_M → Option (Int32 × en_M) := Classical.choose ox_X12_brokenBy
theorem oe_X12_brokenBy : O_X12_brokenBy = P_X12_brokenBy := Classical.choose_spec ox_X12_brokenBy
theorem o_X12_brokenBy (x1 : Int32) (x2 : Int32) (x3 : Int32) (x4 : Int32) (x5 : Int32) (σ : en_M) : O_X12_brokenBy [.inr (185, 12, 0, 0), .inl x1, .inl x2, .inl x3, .inl x4, .inl x5] σ = en_oi (T_X12_brokenBy_0 x1 x2 x3 x4 x5 σ) := by rw [oe_X12_brokenBy]; rfl
theorem i_X12_brokenBy (G : en_G) (hst : G.2.2.2.2.2 = true) : en_I G 2 yX12_brokenBy cX12_brokenBy 6 (some .int) 0 0 (en_wi (O_X12_brokenBy)) := en_of_i (M := M_X12_brokenBy) hst (s_X12_brokenBy_0 G hst _ (l_X12_brokenBy G hst en_FU)) (plainFor_of_name (by decide +kernel)) rfl rfl rfl (Or.inl ⟨rfl, rfl⟩) (fun av σ x σ' h => by
  rw [oe_X12_brokenBy] at h; unfold P_X12_brokenBy at h
  split at h
  · exact ⟨(Nat.le_of_ble_eq_true rfl), en_oi_some h⟩
  · cases h)
-- EachMayMissOneModel.broken([II)I
def M_X12_broken : en_Me := (cX12_broken, RX12, 3, false, 3, false)
theorem cs_X12_broken : en_cs yX12_broken cX12_broken 3 (some .int) 2 := ⟨wm_515, wm_337, ⟨(by decide +kernel), (by decide +kernel), (by decide +kernel)⟩, (Nat.le_of_ble_eq_true rfl)⟩
noncomputable def B_X12_broken_0 (kc : Nat → en_B) : en_B := (op_aload 0 (op_iload 2 (op_aload 0 (op_aload 1 (op_iload 2 (op_rcv 12 2 (op_calli O_X12_placesOf 3 (op_aload 1 (op_const (30 : Int32) (op_ald 20 (op_aload 1 (op_const (31 : Int32) (op_ald 20 (op_aload 1 (op_const (28 : Int32) (op_ald 20 (op_rcv 12 5 (op_calli O_X12_brokenBy 6 op_iret))))))))))))))))))
set_option maxRecDepth 20000 in
theorem s_X12_broken_0 (G : en_G) (hst : G.2.2.2.2.2 = true) (kc : Nat → en_B) (hk : ∀ t, en_Snd G M_X12_broken t (kc t)) : en_Snd G M_X12_broken 0 (B_X12_broken_0 kc) := (sn_aload_n (i := 0) (n := 0) (by decide +kernel) rfl (sn_iload_n (i := 2) (n := 2) (by decide +kernel) rfl (sn_aload_n (i := 0) (n := 0) (by decide +kernel) rfl (sn_aload_n (i := 1) (n := 1) (by decide +kernel) rfl (sn_iload_n (i := 2) (n := 2) (by decide +kernel) rfl (sn_callVi (n := 2) (idx := 221) (ci := 12) (i_X12_placesOf G hst) (Nat.le_of_ble_eq_true rfl) cs_X12_placesOf ⟨wm_481, wm_482, wm_518⟩ ⟨⟨_, rfl, rfl⟩, (Nat.le_of_ble_eq_true rfl)⟩ (by decide +kernel) (sn_aload_n (i := 1) (n := 1) (by decide +kernel) rfl (sn_bipush (n := 30) (v := 30) (by decide +kernel) rfl (sn_iald (by decide +kernel) (sn_aload_n (i := 1) (n := 1) (by decide +kernel) rfl (sn_bipush (n := 31) (v := 31) (by decide +kernel) rfl (sn_iald (by decide +kernel) (sn_aload_n (i := 1) (n := 1) (by decide +kernel) rfl (sn_bipush (n := 28) (v := 28) (by decide +kernel) rfl (sn_iald (by decide +kernel) (sn_callVi (n := 5) (idx := 224) (ci := 12) (i_X12_brokenBy G hst) (Nat.le_of_ble_eq_true rfl) cs_X12_brokenBy ⟨wm_508, wm_509, wm_519⟩ ⟨⟨_, rfl, rfl⟩, (Nat.le_of_ble_eq_true rfl)⟩ (by decide +kernel) (sn_iret (by decide +kernel) rfl)))))))))))))))))
noncomputable def LK_X12_broken : Nat → Nat → en_B
  | 0, _ => en_no
  | n + 1, t => en_no
theorem l_X12_broken (G : en_G) (hst : G.2.2.2.2.2 = true) : ∀ n t, en_Snd G M_X12_broken t (LK_X12_broken n t)
  | 0, _ => sn_no
  | n + 1, t => by
    show en_Snd G M_X12_broken t (en_no)
    exact sn_no
noncomputable def T_X12_broken_0 (k1 : Nat) (x2 : Int32) (σ : en_M) : en_R := B_X12_broken_0 (LK_X12_broken en_FU) [.inr (185, 12, 0, 0), .inr (k1, 20, 53, 0), .inl x2] [] en_zz σ
set_option maxRecDepth 20000 in
set_option maxHeartbeats 2000000 in
theorem t_X12_broken_0 (k1 : Nat) (x2 : Int32) (σ : en_M) : T_X12_broken_0 k1 x2 σ = ((O_X12_placesOf [.inr (185, 12, 0, 0), .inr (k1, 20, 53, 0), .inl x2] σ).bind fun r1 => (en_ix (30 : Int32) 53).bind fun j2 => (en_ix (31 : Int32) 53).bind fun j3 => (en_ix (28 : Int32) 53).bind fun j4 => (O_X12_brokenBy [.inr (185, 12, 0, 0), .inl x2, .inl r1.1, .inl (r1.2 k1 j2), .inl (r1.2 k1 j3), .inl (r1.2 k1 j4)] r1.2).bind fun r5 => en_ri r5.1 r5.2) := rfl
noncomputable def P_X12_broken : List en_V → en_M → Option (Int32 × en_M) := fun av σ => match av with
  | [.inr (185, 12, 0, 0), .inr (k1, 20, 53, 0), .inl x2] => en_oi (T_X12_broken_0 k1 x2 σ)
  | _ => none
theorem ox_X12_broken : ∃ f, f = P_X12_broken := ⟨_, rfl⟩
noncomputable def O_X12_broken : List en_V → en_M → Option (Int32 × en_M) := Classical.choose ox_X12_broken
theorem oe_X12_broken : O_X12_broken = P_X12_broken := Classical.choose_spec ox_X12_broken
theorem o_X12_broken (k1 : Nat) (x2 : Int32) (σ : en_M) : O_X12_broken [.inr (185, 12, 0, 0), .inr (k1, 20, 53, 0), .inl x2] σ = en_oi (T_X12_broken_0 k1 x2 σ) := by rw [oe_X12_broken]; rfl
theorem i_X12_broken (G : en_G) (hst : G.2.2.2.2.2 = true) : en_I G 3 yX12_broken cX12_broken 3 (some .int) 0 0 (en_wi (O_X12_broken)) := en_of_i (M := M_X12_broken) hst (s_X12_broken_0 G hst _ (l_X12_broken G hst en_FU)) (plainFor_of_name (by decide +kernel)) rfl rfl rfl (Or.inl ⟨rfl, rfl⟩) (fun av σ x σ' h => by
  rw [oe_X12_broken] at h; unfold P_X12_broken at h
  split at h
  · exact ⟨(Nat.le_of_ble_eq_true rfl), en_oi_some h⟩
  · cases h)
-- EachMayMissOneModel.changeOrder([I)V
def M_X12_changeOrder : en_Me := (cX12_changeOrder, RX12, 5, false, 2, false)
theorem cs_X12_changeOrder : en_cs yX12_changeOrder cX12_changeOrder 5 none 1 := ⟨wm_520, wm_337, ⟨(by decide +kernel), (by decide +kernel), (by decide +kernel)⟩, (Nat.le_of_ble_eq_true rfl)⟩
noncomputable def B_X12_changeOrder_77 (kc : Nat → en_B) : en_B := op_vret
set_option maxRecDepth 20000 in
theorem s_X12_changeOrder_77 (G : en_G) (hst : G.2.2.2.2.2 = true) (kc : Nat → en_B) (hk : ∀ t, en_Snd G M_X12_changeOrder t (kc t)) : en_Snd G M_X12_changeOrder 77 (B_X12_changeOrder_77 kc) := (sn_vret (by decide +kernel))
noncomputable def B_X12_changeOrder_71 (kc : Nat → en_B) : en_B := (op_iinc 3 (1 : Int32) (kc 17))
set_option maxRecDepth 20000 in
theorem s_X12_changeOrder_71 (G : en_G) (hst : G.2.2.2.2.2 = true) (kc : Nat → en_B) (hk : ∀ t, en_Snd G M_X12_changeOrder t (kc t)) : en_Snd G M_X12_changeOrder 71 (B_X12_changeOrder_71 kc) := (sn_iinc (i := 3) (n := 1) (v := 1) (by decide +kernel) rfl (sn_goto (off := -57) (tgt := 17) (by decide +kernel) rfl (hk 17)))
noncomputable def B_X12_changeOrder_48 (kc : Nat → en_B) : en_B := (op_aload 1 (op_iload 3 (op_ald 20 (op_istore 4 (op_aload 1 (op_iload 3 (op_aload 1 (op_iload 3 (op_const (1 : Int32) (op_bin (fun (x y : Int32) => x + y) (op_ald 20 (op_ast 20 (fun (x : Int32) => x) (op_aload 1 (op_iload 3 (op_const (1 : Int32) (op_bin (fun (x y : Int32) => x + y) (op_iload 4 (op_ast 20 (fun (x : Int32) => x) (op_iinc 3 (1 : Int32) (B_X12_changeOrder_71 kc))))))))))))))))))))
set_option maxRecDepth 20000 in
theorem s_X12_changeOrder_48 (G : en_G) (hst : G.2.2.2.2.2 = true) (kc : Nat → en_B) (hk : ∀ t, en_Snd G M_X12_changeOrder t (kc t)) : en_Snd G M_X12_changeOrder 48 (B_X12_changeOrder_48 kc) := (sn_aload_n (i := 1) (n := 1) (by decide +kernel) rfl (sn_iload_n (i := 3) (n := 3) (by decide +kernel) rfl (sn_iald (by decide +kernel) (sn_istore (i := 4) (by decide +kernel) (Nat.le_of_ble_eq_true rfl) (sn_aload_n (i := 1) (n := 1) (by decide +kernel) rfl (sn_iload_n (i := 3) (n := 3) (by decide +kernel) rfl (sn_aload_n (i := 1) (n := 1) (by decide +kernel) rfl (sn_iload_n (i := 3) (n := 3) (by decide +kernel) rfl (sn_iconst (n := 1) (v := 1) (by decide +kernel) rfl (sn_iadd (by decide +kernel) (sn_iald (by decide +kernel) (sn_iast (by decide +kernel) (sn_aload_n (i := 1) (n := 1) (by decide +kernel) rfl (sn_iload_n (i := 3) (n := 3) (by decide +kernel) rfl (sn_iconst (n := 1) (v := 1) (by decide +kernel) rfl (sn_iadd (by decide +kernel) (sn_iload (i := 4) (by decide +kernel) (sn_iast (by decide +kernel) (sn_iinc (i := 3) (n := 1) (v := 1) (by decide +kernel) rfl (s_X12_changeOrder_71 G hst kc hk))))))))))))))))))))
noncomputable def B_X12_changeOrder_17 (kc : Nat → en_B) : en_B := (op_iload 3 (op_const (1 : Int32) (op_bin (fun (x y : Int32) => x + y) (op_aload 0 (op_geti 12 1 (op_iclt (op_iload 2 (op_iload 3 (op_calli O_X12_has 2 (op_ifeq (op_iload 2 (op_iload 3 (op_const (1 : Int32) (op_bin (fun (x y : Int32) => x + y) (op_calli O_X12_has 2 (op_ifeq (B_X12_changeOrder_48 kc) (B_X12_changeOrder_71 kc))))))) (B_X12_changeOrder_71 kc))))) (B_X12_changeOrder_77 kc)))))))
set_option maxRecDepth 20000 in
theorem s_X12_changeOrder_17 (G : en_G) (hst : G.2.2.2.2.2 = true) (kc : Nat → en_B) (hk : ∀ t, en_Snd G M_X12_changeOrder t (kc t)) : en_Snd G M_X12_changeOrder 17 (B_X12_changeOrder_17 kc) := (sn_iload_n (i := 3) (n := 3) (by decide +kernel) rfl (sn_iconst (n := 1) (v := 1) (by decide +kernel) rfl (sn_iadd (by decide +kernel) (sn_aload_n (i := 0) (n := 0) (by decide +kernel) rfl (sn_geti (ci := 12) (j := 1) en_c12 (by decide +kernel) wm_383 (Nat.le_of_ble_eq_true rfl) rfl (sn_icge (off := 53) (tgt := 77) (by decide +kernel) rfl (s_X12_changeOrder_77 G hst kc hk) (sn_iload_n (i := 2) (n := 2) (by decide +kernel) rfl (sn_iload_n (i := 3) (n := 3) (by decide +kernel) rfl (sn_callSi (n := 2) (idx := 198) (i_X12_has G hst) (Nat.le_of_ble_eq_true rfl) cs_X12_has ⟨wm_372, Or.inl wm_483⟩ (by decide +kernel) (sn_ifne (off := 39) (tgt := 71) (by decide +kernel) rfl (s_X12_changeOrder_71 G hst kc hk) (sn_iload_n (i := 2) (n := 2) (by decide +kernel) rfl (sn_iload_n (i := 3) (n := 3) (by decide +kernel) rfl (sn_iconst (n := 1) (v := 1) (by decide +kernel) rfl (sn_iadd (by decide +kernel) (sn_callSi (n := 2) (idx := 198) (i_X12_has G hst) (Nat.le_of_ble_eq_true rfl) cs_X12_has ⟨wm_372, Or.inl wm_483⟩ (by decide +kernel) (sn_ifeq (off := 6) (tgt := 48) (by decide +kernel) rfl (s_X12_changeOrder_48 G hst kc hk) (sn_goto (off := 26) (tgt := 71) (by decide +kernel) rfl (s_X12_changeOrder_71 G hst kc hk))))))))))))))))))
noncomputable def B_X12_changeOrder_0 (kc : Nat → en_B) : en_B := (op_aload 0 (op_gets 12 3 (20, 20, 0) (op_aload 1 (op_const (28 : Int32) (op_ald 20 (op_aload 0 (op_geti 12 4 (op_div (fun (x y : Int32) => x - x / y * y) (op_ald 20 (op_istore 2 (op_const (0 : Int32) (op_istore 3 (kc 17)))))))))))))
set_option maxRecDepth 20000 in
theorem s_X12_changeOrder_0 (G : en_G) (hst : G.2.2.2.2.2 = true) (kc : Nat → en_B) (hk : ∀ t, en_Snd G M_X12_changeOrder t (kc t)) : en_Snd G M_X12_changeOrder 0 (B_X12_changeOrder_0 kc) := (sn_aload_n (i := 0) (n := 0) (by decide +kernel) rfl (sn_gets (ci := 12) (j := 3) (off := 3) hst en_c12 of_12_3 (Nat.le_of_ble_eq_true rfl) (by decide +kernel) wm_341 (Nat.le_of_ble_eq_true rfl) rfl (sn_aload_n (i := 1) (n := 1) (by decide +kernel) rfl (sn_bipush (n := 28) (v := 28) (by decide +kernel) rfl (sn_iald (by decide +kernel) (sn_aload_n (i := 0) (n := 0) (by decide +kernel) rfl (sn_geti (ci := 12) (j := 4) en_c12 (by decide +kernel) wm_342 (Nat.le_of_ble_eq_true rfl) rfl (sn_irem (by decide +kernel) (sn_iald (by decide +kernel) (sn_istore_n (i := 2) (n := 2) (by decide +kernel) rfl (Nat.le_of_ble_eq_true rfl) (sn_iconst (n := 0) (v := 0) (by decide +kernel) rfl (sn_istore_n (i := 3) (n := 3) (by decide +kernel) rfl (Nat.le_of_ble_eq_true rfl) (hk 17)))))))))))))
noncomputable def LK_X12_changeOrder : Nat → Nat → en_B
  | 0, _ => en_no
  | n + 1, t => if t = 17 then B_X12_changeOrder_17 (LK_X12_changeOrder n) else en_no
theorem l_X12_changeOrder (G : en_G) (hst : G.2.2.2.2.2 = true) : ∀ n t, en_Snd G M_X12_changeOrder t (LK_X12_changeOrder n t)
  | 0, _ => sn_no
  | n + 1, t => by
    show en_Snd G M_X12_changeOrder t (if t = 17 then B_X12_changeOrder_17 (LK_X12_changeOrder n) else en_no)
    by_cases h_17 : t = 17
    · rw [if_pos h_17, h_17]; exact s_X12_changeOrder_17 G hst _ (l_X12_changeOrder G hst n)
    rw [if_neg h_17]
    exact sn_no
noncomputable def T_X12_changeOrder_0 (k1 : Nat) (σ : en_M) : en_R := B_X12_changeOrder_0 (LK_X12_changeOrder en_FU) [.inr (185, 12, 0, 0), .inr (k1, 20, 53, 0), en_un, en_un, en_un] [] en_zz σ
noncomputable def T_X12_changeOrder_17 (n : Nat) (k1 : Nat) (x2 : Int32) (x3 : Int32) (u4 : en_V) (σ : en_M) : en_R := LK_X12_changeOrder n 17 [.inr (185, 12, 0, 0), .inr (k1, 20, 53, 0), .inl x2, .inl x3, u4] [] en_zz σ
set_option maxRecDepth 20000 in
set_option maxHeartbeats 2000000 in
theorem t_X12_changeOrder_0 (k1 : Nat) (σ : en_M) : T_X12_changeOrder_0 k1 σ = ((en_ix (28 : Int32) 53).bind fun j1 => if (σ 185 4) = 0 then none else ((en_ix ((σ k1 j1) - (σ k1 j1) / (σ 185 4) * (σ 185 4)) 20).bind fun j2 => T_X12_changeOrder_17 en_FU k1 (σ 188 j2) (0 : Int32) (en_un) σ)) := rfl
set_option maxRecDepth 20000 in
set_option maxHeartbeats 2000000 in
theorem t_X12_changeOrder_17 (n : Nat) (k1 : Nat) (x2 : Int32) (x3 : Int32) (u4 : en_V) (σ : en_M) : T_X12_changeOrder_17 (n + 1) k1 x2 x3 u4 σ = (if (x3 + (1 : Int32)) < (σ 185 1) then ((O_X12_has [.inl x2, .inl x3] σ).bind fun r3 => if r3.1 = 0 then ((O_X12_has [.inl x2, .inl (x3 + (1 : Int32))] r3.2).bind fun r4 => if r4.1 = 0 then ((en_ix x3 53).bind fun j5 => (en_ix (x3 + (1 : Int32)) 53).bind fun j6 => (en_ix x3 53).bind fun j7 => (en_ix (x3 + (1 : Int32)) 53).bind fun j8 => T_X12_changeOrder_17 n k1 x2 ((x3 + (1 : Int32)) + (1 : Int32)) (.inl (r4.2 k1 j5)) (en_up (en_up r4.2 k1 j7 (r4.2 k1 j6)) k1 j8 (r4.2 k1 j5))) else (T_X12_changeOrder_17 n k1 x2 (x3 + (1 : Int32)) (u4) r4.2)) else (T_X12_changeOrder_17 n k1 x2 (x3 + (1 : Int32)) (u4) r3.2)) else (en_rv σ)) := rfl
noncomputable def P_X12_changeOrder : List en_V → en_M → Option en_M := fun av σ => match av with
  | [.inr (185, 12, 0, 0), .inr (k1, 20, 53, 0)] => en_ov (T_X12_changeOrder_0 k1 σ)
  | _ => none
theorem ox_X12_changeOrder : ∃ f, f = P_X12_changeOrder := ⟨_, rfl⟩
noncomputable def O_X12_changeOrder : List en_V → en_M → Option en_M := Classical.choose ox_X12_changeOrder
theorem oe_X12_changeOrder : O_X12_changeOrder = P_X12_changeOrder := Classical.choose_spec ox_X12_changeOrder
theorem o_X12_changeOrder (k1 : Nat) (σ : en_M) : O_X12_changeOrder [.inr (185, 12, 0, 0), .inr (k1, 20, 53, 0)] σ = en_ov (T_X12_changeOrder_0 k1 σ) := by rw [oe_X12_changeOrder]; rfl
theorem i_X12_changeOrder (G : en_G) (hst : G.2.2.2.2.2 = true) : en_I G 2 yX12_changeOrder cX12_changeOrder 5 none 0 0 (en_wv (O_X12_changeOrder)) := en_of_v (M := M_X12_changeOrder) hst (s_X12_changeOrder_0 G hst _ (l_X12_changeOrder G hst en_FU)) (plainFor_of_name (by decide +kernel)) rfl rfl rfl (fun av σ σ' h => by
  rw [oe_X12_changeOrder] at h; unfold P_X12_changeOrder at h
  split at h
  · exact ⟨(Nat.le_of_ble_eq_true rfl), en_ov_some h⟩
  · cases h)
