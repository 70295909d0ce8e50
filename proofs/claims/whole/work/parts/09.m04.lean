-- EachMayMissOne$Rule.read(LEachMayMissOne$Text;)I
def M_X6_read : en_Me := (cX6_read, RX6, 2, false, 255, false)
theorem cs_X6_read : en_cs yX6_read cX6_read 2 (some .int) 1 := ⟨wm_967, wm_956, ⟨(by decide +kernel), (by decide +kernel), (by decide +kernel)⟩, (Nat.le_of_ble_eq_true rfl)⟩
noncomputable def B_X6_read_50 (kc : Nat → en_B) : en_B := (op_aload 0 (op_gets 6 2 (20, 40, 0) (op_const (0 : Int32) (op_aload 0 (op_gets 6 1 (20, 40, 0) (op_const (0 : Int32) (op_const (40 : Int32) (op_copy (op_aload 0 (op_aload 0 (op_geti 6 5 (op_puti 6 4 (op_const (0 : Int32) op_iret)))))))))))))
set_option maxRecDepth 20000 in
theorem s_X6_read_50 (G : en_G) (hst : G.2.2.2.2.2 = true) (kc : Nat → en_B) (hk : ∀ t, en_Snd G M_X6_read t (kc t)) : en_Snd G M_X6_read 50 (B_X6_read_50 kc) := (sn_aload_n (i := 0) (n := 0) (by decide +kernel) rfl (sn_gets (ci := 6) (j := 1) (off := 2) hst en_c6 of_6_2 (Nat.le_of_ble_eq_true rfl) (by decide +kernel) wm_959 (Nat.le_of_ble_eq_true rfl) rfl (sn_iconst (n := 0) (v := 0) (by decide +kernel) rfl (sn_aload_n (i := 0) (n := 0) (by decide +kernel) rfl (sn_gets (ci := 6) (j := 0) (off := 1) hst en_c6 of_6_1 (Nat.le_of_ble_eq_true rfl) (by decide +kernel) wm_958 (Nat.le_of_ble_eq_true rfl) rfl (sn_iconst (n := 0) (v := 0) (by decide +kernel) rfl (sn_bipush (n := 40) (v := 40) (by decide +kernel) rfl (sn_copy (idx := 58) wm_977 wm_1291 wm_1292 wm_1288 (Nat.le_of_ble_eq_true rfl) (by decide +kernel) (sn_aload_n (i := 0) (n := 0) (by decide +kernel) rfl (sn_aload_n (i := 0) (n := 0) (by decide +kernel) rfl (sn_geti (ci := 6) (j := 5) en_c6 (by decide +kernel) wm_973 (Nat.le_of_ble_eq_true rfl) rfl (sn_puti (ci := 6) (j := 4) en_c6 (by decide +kernel) wm_971 (Nat.le_of_ble_eq_true rfl) rfl rfl rfl (sn_iconst (n := 0) (v := 0) (by decide +kernel) rfl (sn_iret (by decide +kernel) rfl))))))))))))))
noncomputable def B_X6_read_42 (kc : Nat → en_B) : en_B := (op_aload 0 (op_geti 6 6 (op_calli O_X11_cannotStand 1 op_iret)))
set_option maxRecDepth 20000 in
theorem s_X6_read_42 (G : en_G) (hst : G.2.2.2.2.2 = true) (kc : Nat → en_B) (hk : ∀ t, en_Snd G M_X6_read t (kc t)) : en_Snd G M_X6_read 42 (B_X6_read_42 kc) := (sn_aload_n (i := 0) (n := 0) (by decide +kernel) rfl (sn_geti (ci := 6) (j := 6) en_c6 (by decide +kernel) wm_972 (Nat.le_of_ble_eq_true rfl) rfl (sn_callSi (n := 1) (idx := 52) (i_X11_cannotStand G hst) (Nat.le_of_ble_eq_true rfl) cs_X11_cannotStand ⟨wm_274, Or.inr (by decide +kernel)⟩ (by decide +kernel) (sn_iret (by decide +kernel) rfl))))
noncomputable def B_X6_read_14 (kc : Nat → en_B) : en_B := (op_aload 0 (op_const (0 : Int32) (op_puti 6 6 (op_aload 0 (op_const (0 : Int32) (op_puti 6 5 (op_aload 0 (op_aload 1 (op_const (0 : Int32) (op_rcv 6 2 (op_calli O_X6_readExpression 3 (op_ifeq (B_X6_read_42 kc) (op_aload 0 (op_aload 1 (op_rcv 6 1 (op_calli O_X6_peek 2 (op_const (-1 : Int32) (op_iceq (B_X6_read_50 kc) (B_X6_read_42 kc)))))))))))))))))))
set_option maxRecDepth 20000 in
theorem s_X6_read_14 (G : en_G) (hst : G.2.2.2.2.2 = true) (kc : Nat → en_B) (hk : ∀ t, en_Snd G M_X6_read t (kc t)) : en_Snd G M_X6_read 14 (B_X6_read_14 kc) := (sn_aload_n (i := 0) (n := 0) (by decide +kernel) rfl (sn_iconst (n := 0) (v := 0) (by decide +kernel) rfl (sn_puti (ci := 6) (j := 6) en_c6 (by decide +kernel) wm_972 (Nat.le_of_ble_eq_true rfl) rfl rfl rfl (sn_aload_n (i := 0) (n := 0) (by decide +kernel) rfl (sn_iconst (n := 0) (v := 0) (by decide +kernel) rfl (sn_puti (ci := 6) (j := 5) en_c6 (by decide +kernel) wm_973 (Nat.le_of_ble_eq_true rfl) rfl rfl rfl (sn_aload_n (i := 0) (n := 0) (by decide +kernel) rfl (sn_aload_n (i := 1) (n := 1) (by decide +kernel) rfl (sn_iconst (n := 0) (v := 0) (by decide +kernel) rfl (sn_callVi (n := 2) (idx := 44) (ci := 6) (i_X6_readExpression G hst) (Nat.le_of_ble_eq_true rfl) cs_X6_readExpression ⟨wm_986, wm_987, wm_974⟩ ⟨⟨_, rfl, rfl⟩, (Nat.le_of_ble_eq_true rfl)⟩ (by decide +kernel) (sn_ifeq (off := 12) (tgt := 42) (by decide +kernel) rfl (s_X6_read_42 G hst kc hk) (sn_aload_n (i := 0) (n := 0) (by decide +kernel) rfl (sn_aload_n (i := 1) (n := 1) (by decide +kernel) rfl (sn_callVi (n := 1) (idx := 48) (ci := 6) (i_X6_peek G hst) (Nat.le_of_ble_eq_true rfl) cs_X6_peek ⟨wm_979, wm_980, wm_975⟩ ⟨⟨_, rfl, rfl⟩, (Nat.le_of_ble_eq_true rfl)⟩ (by decide +kernel) (sn_iconst (n := -1) (v := -1) (by decide +kernel) rfl (sn_iceq (off := 11) (tgt := 50) (by decide +kernel) rfl (s_X6_read_50 G hst kc hk) (s_X6_read_42 G hst kc hk)))))))))))))))))
noncomputable def B_X6_read_0 (kc : Nat → en_B) : en_B := (op_aload 1 (op_geti 8 1 (op_ifeq (op_aload 0 (op_const (0 : Int32) (op_puti 6 4 (op_const (0 : Int32) op_iret)))) (B_X6_read_14 kc))))
set_option maxRecDepth 20000 in
theorem s_X6_read_0 (G : en_G) (hst : G.2.2.2.2.2 = true) (kc : Nat → en_B) (hk : ∀ t, en_Snd G M_X6_read t (kc t)) : en_Snd G M_X6_read 0 (B_X6_read_0 kc) := (sn_aload_n (i := 1) (n := 1) (by decide +kernel) rfl (sn_geti (ci := 8) (j := 1) en_c8 (by decide +kernel) wm_970 (Nat.le_of_ble_eq_true rfl) rfl (sn_ifne (off := 10) (tgt := 14) (by decide +kernel) rfl (s_X6_read_14 G hst kc hk) (sn_aload_n (i := 0) (n := 0) (by decide +kernel) rfl (sn_iconst (n := 0) (v := 0) (by decide +kernel) rfl (sn_puti (ci := 6) (j := 4) en_c6 (by decide +kernel) wm_971 (Nat.le_of_ble_eq_true rfl) rfl rfl rfl (sn_iconst (n := 0) (v := 0) (by decide +kernel) rfl (sn_iret (by decide +kernel) rfl))))))))
noncomputable def LK_X6_read : Nat → Nat → en_B
  | 0, _ => en_no
  | n + 1, t => en_no
theorem l_X6_read (G : en_G) (hst : G.2.2.2.2.2 = true) : ∀ n t, en_Snd G M_X6_read t (LK_X6_read n t)
  | 0, _ => sn_no
  | n + 1, t => by
    show en_Snd G M_X6_read t (en_no)
    exact sn_no
noncomputable def T_X6_read_0 (σ : en_M) : en_R := B_X6_read_0 (LK_X6_read en_FU) [.inr (10, 6, 0, 0), .inr (1, 8, 0, 0)] [] en_zz σ
set_option maxRecDepth 400000 in
set_option maxHeartbeats 4000000 in
theorem t_X6_read_0 (σ : en_M) : T_X6_read_0 σ = (if (σ 1 1) = 0 then (en_ri (0 : Int32) (en_up σ 10 4 (0 : Int32))) else ((O_X6_readExpression [.inr (10, 6, 0, 0), .inr (1, 8, 0, 0), .inl (0 : Int32)] (en_up (en_up σ 10 6 (0 : Int32)) 10 5 (0 : Int32))).bind fun r1 => if r1.1 = 0 then ((O_X11_cannotStand [.inl (r1.2 10 6)] r1.2).bind fun r2 => en_ri r2.1 r2.2) else ((O_X6_peek [.inr (10, 6, 0, 0), .inr (1, 8, 0, 0)] r1.2).bind fun r3 => if r3.1 = (-1 : Int32) then (if (40 : Int32) < 0 ∨ (0 : Int32) < 0 ∨ (0 : Int32) < 0 then none else if (0 : Int32).toNatClampNeg + (40 : Int32).toNatClampNeg ≤ 40 ∧ (0 : Int32).toNatClampNeg + (40 : Int32).toNatClampNeg ≤ 40 then (en_ri (0 : Int32) (en_up (en_cp r3.2 12 11 (0 : Int32).toNatClampNeg (0 : Int32).toNatClampNeg (40 : Int32).toNatClampNeg) 10 4 (r3.2 10 5))) else none) else ((O_X11_cannotStand [.inl (r3.2 10 6)] r3.2).bind fun r4 => en_ri r4.1 r4.2)))) := rfl
noncomputable def P_X6_read : List en_V → en_M → Option (Int32 × en_M) := fun av σ => match av with
  | [.inr (10, 6, 0, 0), .inr (1, 8, 0, 0)] => en_oi (T_X6_read_0 σ)
  | _ => none
theorem ox_X6_read : ∃ f, f = P_X6_read := ⟨_, rfl⟩
noncomputable def O_X6_read : List en_V → en_M → Option (Int32 × en_M) := Classical.choose ox_X6_read
theorem oe_X6_read : O_X6_read = P_X6_read := Classical.choose_spec ox_X6_read
theorem o_X6_read (σ : en_M) : O_X6_read [.inr (10, 6, 0, 0), .inr (1, 8, 0, 0)] σ = en_oi (T_X6_read_0 σ) := by rw [oe_X6_read]; rfl
theorem i_X6_read (G : en_G) (hst : G.2.2.2.2.2 = true) : en_I G 255 yX6_read cX6_read 2 (some .int) 0 0 (en_wi (O_X6_read)) := en_of_i (M := M_X6_read) hst (s_X6_read_0 G hst _ (l_X6_read G hst en_FU)) (plainFor_of_name (by decide +kernel)) rfl rfl rfl (Or.inl ⟨rfl, rfl⟩) (fun av σ x σ' h => by
  rw [oe_X6_read] at h; unfold P_X6_read at h
  split at h
  · exact ⟨(Nat.le_of_ble_eq_true rfl), en_oi_some h⟩
  · cases h)
-- EachMayMissOne$Rule.worked(III)I
def M_X6_worked : en_Me := (cX6_worked, RX6, 3, false, 1, false)
theorem cs_X6_worked : en_cs yX6_worked cX6_worked 3 (some .int) 3 := ⟨wm_1021, wm_956, ⟨(by decide +kernel), (by decide +kernel), (by decide +kernel)⟩, (Nat.le_of_ble_eq_true rfl)⟩
noncomputable def B_X6_worked_116 (kc : Nat → en_B) : en_B := op_iret
set_option maxRecDepth 20000 in
theorem s_X6_worked_116 (G : en_G) (hst : G.2.2.2.2.2 = true) (kc : Nat → en_B) (hk : ∀ t, en_Snd G M_X6_worked t (kc t)) : en_Snd G M_X6_worked 116 (B_X6_worked_116 kc) := (sn_iret (by decide +kernel) rfl)
noncomputable def B_X6_worked_115 (kc : Nat → en_B) : en_B := (op_const (0 : Int32) (B_X6_worked_116 kc))
set_option maxRecDepth 20000 in
theorem s_X6_worked_115 (G : en_G) (hst : G.2.2.2.2.2 = true) (kc : Nat → en_B) (hk : ∀ t, en_Snd G M_X6_worked t (kc t)) : en_Snd G M_X6_worked 115 (B_X6_worked_115 kc) := (sn_iconst (n := 0) (v := 0) (by decide +kernel) rfl (s_X6_worked_116 G hst kc hk))
noncomputable def B_X6_worked_106 (kc : Nat → en_B) : en_B := (op_iload 1 (op_iload 2 (op_iceq (op_const (1 : Int32) (B_X6_worked_116 kc)) (B_X6_worked_115 kc))))
set_option maxRecDepth 20000 in
theorem s_X6_worked_106 (G : en_G) (hst : G.2.2.2.2.2 = true) (kc : Nat → en_B) (hk : ∀ t, en_Snd G M_X6_worked t (kc t)) : en_Snd G M_X6_worked 106 (B_X6_worked_106 kc) := (sn_iload_n (i := 1) (n := 1) (by decide +kernel) rfl (sn_iload_n (i := 2) (n := 2) (by decide +kernel) rfl (sn_icne (off := 7) (tgt := 115) (by decide +kernel) rfl (s_X6_worked_115 G hst kc hk) (sn_iconst (n := 1) (v := 1) (by decide +kernel) rfl (sn_goto (off := 4) (tgt := 116) (by decide +kernel) rfl (s_X6_worked_116 G hst kc hk))))))
noncomputable def B_X6_worked_105 (kc : Nat → en_B) : en_B := op_iret
set_option maxRecDepth 20000 in
theorem s_X6_worked_105 (G : en_G) (hst : G.2.2.2.2.2 = true) (kc : Nat → en_B) (hk : ∀ t, en_Snd G M_X6_worked t (kc t)) : en_Snd G M_X6_worked 105 (B_X6_worked_105 kc) := (sn_iret (by decide +kernel) rfl)
noncomputable def B_X6_worked_104 (kc : Nat → en_B) : en_B := (op_const (0 : Int32) (B_X6_worked_105 kc))
set_option maxRecDepth 20000 in
theorem s_X6_worked_104 (G : en_G) (hst : G.2.2.2.2.2 = true) (kc : Nat → en_B) (hk : ∀ t, en_Snd G M_X6_worked t (kc t)) : en_Snd G M_X6_worked 104 (B_X6_worked_104 kc) := (sn_iconst (n := 0) (v := 0) (by decide +kernel) rfl (s_X6_worked_105 G hst kc hk))
noncomputable def B_X6_worked_95 (kc : Nat → en_B) : en_B := (op_iload 1 (op_iload 2 (op_icgt (op_const (1 : Int32) (B_X6_worked_105 kc)) (B_X6_worked_104 kc))))
set_option maxRecDepth 20000 in
theorem s_X6_worked_95 (G : en_G) (hst : G.2.2.2.2.2 = true) (kc : Nat → en_B) (hk : ∀ t, en_Snd G M_X6_worked t (kc t)) : en_Snd G M_X6_worked 95 (B_X6_worked_95 kc) := (sn_iload_n (i := 1) (n := 1) (by decide +kernel) rfl (sn_iload_n (i := 2) (n := 2) (by decide +kernel) rfl (sn_icle (off := 7) (tgt := 104) (by decide +kernel) rfl (s_X6_worked_104 G hst kc hk) (sn_iconst (n := 1) (v := 1) (by decide +kernel) rfl (sn_goto (off := 4) (tgt := 105) (by decide +kernel) rfl (s_X6_worked_105 G hst kc hk))))))
noncomputable def B_X6_worked_94 (kc : Nat → en_B) : en_B := op_iret
set_option maxRecDepth 20000 in
theorem s_X6_worked_94 (G : en_G) (hst : G.2.2.2.2.2 = true) (kc : Nat → en_B) (hk : ∀ t, en_Snd G M_X6_worked t (kc t)) : en_Snd G M_X6_worked 94 (B_X6_worked_94 kc) := (sn_iret (by decide +kernel) rfl)
noncomputable def B_X6_worked_93 (kc : Nat → en_B) : en_B := (op_const (0 : Int32) (B_X6_worked_94 kc))
set_option maxRecDepth 20000 in
theorem s_X6_worked_93 (G : en_G) (hst : G.2.2.2.2.2 = true) (kc : Nat → en_B) (hk : ∀ t, en_Snd G M_X6_worked t (kc t)) : en_Snd G M_X6_worked 93 (B_X6_worked_93 kc) := (sn_iconst (n := 0) (v := 0) (by decide +kernel) rfl (s_X6_worked_94 G hst kc hk))
noncomputable def B_X6_worked_84 (kc : Nat → en_B) : en_B := (op_iload 1 (op_iload 2 (op_iclt (op_const (1 : Int32) (B_X6_worked_94 kc)) (B_X6_worked_93 kc))))
set_option maxRecDepth 20000 in
theorem s_X6_worked_84 (G : en_G) (hst : G.2.2.2.2.2 = true) (kc : Nat → en_B) (hk : ∀ t, en_Snd G M_X6_worked t (kc t)) : en_Snd G M_X6_worked 84 (B_X6_worked_84 kc) := (sn_iload_n (i := 1) (n := 1) (by decide +kernel) rfl (sn_iload_n (i := 2) (n := 2) (by decide +kernel) rfl (sn_icge (off := 7) (tgt := 93) (by decide +kernel) rfl (s_X6_worked_93 G hst kc hk) (sn_iconst (n := 1) (v := 1) (by decide +kernel) rfl (sn_goto (off := 4) (tgt := 94) (by decide +kernel) rfl (s_X6_worked_94 G hst kc hk))))))
noncomputable def B_X6_worked_83 (kc : Nat → en_B) : en_B := op_iret
set_option maxRecDepth 20000 in
theorem s_X6_worked_83 (G : en_G) (hst : G.2.2.2.2.2 = true) (kc : Nat → en_B) (hk : ∀ t, en_Snd G M_X6_worked t (kc t)) : en_Snd G M_X6_worked 83 (B_X6_worked_83 kc) := (sn_iret (by decide +kernel) rfl)
noncomputable def B_X6_worked_80 (kc : Nat → en_B) : en_B := (op_iload 1 (op_iload 2 (op_div (fun (x y : Int32) => x / y) (B_X6_worked_83 kc))))
set_option maxRecDepth 20000 in
theorem s_X6_worked_80 (G : en_G) (hst : G.2.2.2.2.2 = true) (kc : Nat → en_B) (hk : ∀ t, en_Snd G M_X6_worked t (kc t)) : en_Snd G M_X6_worked 80 (B_X6_worked_80 kc) := (sn_iload_n (i := 1) (n := 1) (by decide +kernel) rfl (sn_iload_n (i := 2) (n := 2) (by decide +kernel) rfl (sn_idiv (by decide +kernel) (s_X6_worked_83 G hst kc hk))))
noncomputable def B_X6_worked_72 (kc : Nat → en_B) : en_B := (op_iload 2 (op_ifeq (op_const (0 : Int32) (B_X6_worked_83 kc)) (B_X6_worked_80 kc)))
set_option maxRecDepth 20000 in
theorem s_X6_worked_72 (G : en_G) (hst : G.2.2.2.2.2 = true) (kc : Nat → en_B) (hk : ∀ t, en_Snd G M_X6_worked t (kc t)) : en_Snd G M_X6_worked 72 (B_X6_worked_72 kc) := (sn_iload_n (i := 2) (n := 2) (by decide +kernel) rfl (sn_ifne (off := 7) (tgt := 80) (by decide +kernel) rfl (s_X6_worked_80 G hst kc hk) (sn_iconst (n := 0) (v := 0) (by decide +kernel) rfl (sn_goto (off := 6) (tgt := 83) (by decide +kernel) rfl (s_X6_worked_83 G hst kc hk)))))
noncomputable def B_X6_worked_68 (kc : Nat → en_B) : en_B := (op_iload 1 (op_iload 2 (op_bin (fun (x y : Int32) => x * y) op_iret)))
set_option maxRecDepth 20000 in
theorem s_X6_worked_68 (G : en_G) (hst : G.2.2.2.2.2 = true) (kc : Nat → en_B) (hk : ∀ t, en_Snd G M_X6_worked t (kc t)) : en_Snd G M_X6_worked 68 (B_X6_worked_68 kc) := (sn_iload_n (i := 1) (n := 1) (by decide +kernel) rfl (sn_iload_n (i := 2) (n := 2) (by decide +kernel) rfl (sn_imul (by decide +kernel) (sn_iret (by decide +kernel) rfl))))
noncomputable def B_X6_worked_64 (kc : Nat → en_B) : en_B := (op_iload 1 (op_iload 2 (op_bin (fun (x y : Int32) => x - y) op_iret)))
set_option maxRecDepth 20000 in
theorem s_X6_worked_64 (G : en_G) (hst : G.2.2.2.2.2 = true) (kc : Nat → en_B) (hk : ∀ t, en_Snd G M_X6_worked t (kc t)) : en_Snd G M_X6_worked 64 (B_X6_worked_64 kc) := (sn_iload_n (i := 1) (n := 1) (by decide +kernel) rfl (sn_iload_n (i := 2) (n := 2) (by decide +kernel) rfl (sn_isub (by decide +kernel) (sn_iret (by decide +kernel) rfl))))
noncomputable def B_X6_worked_60 (kc : Nat → en_B) : en_B := (op_iload 1 (op_iload 2 (op_bin (fun (x y : Int32) => x + y) op_iret)))
set_option maxRecDepth 20000 in
theorem s_X6_worked_60 (G : en_G) (hst : G.2.2.2.2.2 = true) (kc : Nat → en_B) (hk : ∀ t, en_Snd G M_X6_worked t (kc t)) : en_Snd G M_X6_worked 60 (B_X6_worked_60 kc) := (sn_iload_n (i := 1) (n := 1) (by decide +kernel) rfl (sn_iload_n (i := 2) (n := 2) (by decide +kernel) rfl (sn_iadd (by decide +kernel) (sn_iret (by decide +kernel) rfl))))
noncomputable def B_X6_worked_0 (kc : Nat → en_B) : en_B := (op_iload 0 (op_sw [((42 : Int32), (B_X6_worked_68 kc)), ((43 : Int32), (B_X6_worked_60 kc)), ((45 : Int32), (B_X6_worked_64 kc)), ((47 : Int32), (B_X6_worked_72 kc)), ((60 : Int32), (B_X6_worked_84 kc)), ((62 : Int32), (B_X6_worked_95 kc))] (B_X6_worked_106 kc)))
set_option maxRecDepth 20000 in
theorem s_X6_worked_0 (G : en_G) (hst : G.2.2.2.2.2 = true) (kc : Nat → en_B) (hk : ∀ t, en_Snd G M_X6_worked t (kc t)) : en_Snd G M_X6_worked 0 (B_X6_worked_0 kc) := (sn_iload_n (i := 0) (n := 0) (by decide +kernel) rfl (sn_lsw [(42, 67), (43, 59), (45, 63), (47, 71), (60, 83), (62, 94)] (ps := #[(42, 67), (43, 59), (45, 63), (47, 71), (60, 83), (62, 94)]) (len := 59) (dflt := 105) (dt := 106) (by decide +kernel) (by decide) rfl rfl ⟨(s_X6_worked_106 G hst kc hk), ⟨⟨rfl, 68, rfl, (s_X6_worked_68 G hst kc hk)⟩, ⟨⟨rfl, 60, rfl, (s_X6_worked_60 G hst kc hk)⟩, ⟨⟨rfl, 64, rfl, (s_X6_worked_64 G hst kc hk)⟩, ⟨⟨rfl, 72, rfl, (s_X6_worked_72 G hst kc hk)⟩, ⟨⟨rfl, 84, rfl, (s_X6_worked_84 G hst kc hk)⟩, ⟨⟨rfl, 95, rfl, (s_X6_worked_95 G hst kc hk)⟩, trivial⟩⟩⟩⟩⟩⟩⟩))
noncomputable def LK_X6_worked : Nat → Nat → en_B
  | 0, _ => en_no
  | n + 1, t => en_no
theorem l_X6_worked (G : en_G) (hst : G.2.2.2.2.2 = true) : ∀ n t, en_Snd G M_X6_worked t (LK_X6_worked n t)
  | 0, _ => sn_no
  | n + 1, t => by
    show en_Snd G M_X6_worked t (en_no)
    exact sn_no
noncomputable def T_X6_worked_0 (x0 : Int32) (x1 : Int32) (x2 : Int32) (σ : en_M) : en_R := B_X6_worked_0 (LK_X6_worked en_FU) [.inl x0, .inl x1, .inl x2] [] en_zz σ
set_option maxRecDepth 400000 in
set_option maxHeartbeats 4000000 in
theorem t_X6_worked_0 (x0 : Int32) (x1 : Int32) (x2 : Int32) (σ : en_M) : T_X6_worked_0 x0 x1 x2 σ = ((if x0 = (42 : Int32) then (en_ri (x1 * x2) σ) else (if x0 = (43 : Int32) then (en_ri (x1 + x2) σ) else (if x0 = (45 : Int32) then (en_ri (x1 - x2) σ) else (if x0 = (47 : Int32) then (if x2 = 0 then (en_ri (0 : Int32) σ) else (if x2 = 0 then none else (en_ri (x1 / x2) σ))) else (if x0 = (60 : Int32) then (if x1 < x2 then (en_ri (1 : Int32) σ) else (en_ri (0 : Int32) σ)) else (if x0 = (62 : Int32) then (if x2 < x1 then (en_ri (1 : Int32) σ) else (en_ri (0 : Int32) σ)) else (if x1 = x2 then (en_ri (1 : Int32) σ) else (en_ri (0 : Int32) σ))))))))) := rfl
noncomputable def P_X6_worked : List en_V → en_M → Option (Int32 × en_M) := fun av σ => match av with
  | [.inl x0, .inl x1, .inl x2] => en_oi (T_X6_worked_0 x0 x1 x2 σ)
  | _ => none
theorem ox_X6_worked : ∃ f, f = P_X6_worked := ⟨_, rfl⟩
noncomputable def O_X6_worked : List en_V → en_M → Option (Int32 × en_M) := Classical.choose ox_X6_worked
theorem oe_X6_worked : O_X6_worked = P_X6_worked := Classical.choose_spec ox_X6_worked
theorem o_X6_worked (x0 : Int32) (x1 : Int32) (x2 : Int32) (σ : en_M) : O_X6_worked [.inl x0, .inl x1, .inl x2] σ = en_oi (T_X6_worked_0 x0 x1 x2 σ) := by rw [oe_X6_worked]; rfl
theorem i_X6_worked (G : en_G) (hst : G.2.2.2.2.2 = true) : en_I G 1 yX6_worked cX6_worked 3 (some .int) 0 0 (en_wi (O_X6_worked)) := en_of_i (M := M_X6_worked) hst (s_X6_worked_0 G hst _ (l_X6_worked G hst en_FU)) (plainFor_of_name (by decide +kernel)) rfl rfl rfl (Or.inl ⟨rfl, rfl⟩) (fun av σ x σ' h => by
  rw [oe_X6_worked] at h; unfold P_X6_worked at h
  split at h
  · exact ⟨(Nat.le_of_ble_eq_true rfl), en_oi_some h⟩
  · cases h)
-- EachMayMissOne$Rule.value()I
def M_X6_value : en_Me := (cX6_value, RX6, 4, false, 2, false)
theorem cs_X6_value : en_cs yX6_value cX6_value 4 (some .int) 0 := ⟨wm_1017, wm_956, ⟨(by decide +kernel), (by decide +kernel), (by decide +kernel)⟩, (Nat.le_of_ble_eq_true rfl)⟩
noncomputable def B_X6_value_153 (kc : Nat → en_B) : en_B := (op_aload 0 (op_gets 6 3 (20, 40, 0) (op_const (0 : Int32) (op_ald 20 op_iret))))
set_option maxRecDepth 20000 in
theorem s_X6_value_153 (G : en_G) (hst : G.2.2.2.2.2 = true) (kc : Nat → en_B) (hk : ∀ t, en_Snd G M_X6_value t (kc t)) : en_Snd G M_X6_value 153 (B_X6_value_153 kc) := (sn_aload_n (i := 0) (n := 0) (by decide +kernel) rfl (sn_gets (ci := 6) (j := 2) (off := 3) hst en_c6 of_6_3 (Nat.le_of_ble_eq_true rfl) (by decide +kernel) wm_960 (Nat.le_of_ble_eq_true rfl) rfl (sn_iconst (n := 0) (v := 0) (by decide +kernel) rfl (sn_iald (by decide +kernel) (sn_iret (by decide +kernel) rfl)))))
noncomputable def B_X6_value_147 (kc : Nat → en_B) : en_B := (op_iinc 2 (1 : Int32) (kc 22))
set_option maxRecDepth 20000 in
theorem s_X6_value_147 (G : en_G) (hst : G.2.2.2.2.2 = true) (kc : Nat → en_B) (hk : ∀ t, en_Snd G M_X6_value t (kc t)) : en_Snd G M_X6_value 147 (B_X6_value_147 kc) := (sn_iinc (i := 2) (n := 1) (v := 1) (by decide +kernel) rfl (sn_goto (off := -128) (tgt := 22) (by decide +kernel) rfl (hk 22)))
noncomputable def B_X6_value_109 (kc : Nat → en_B) : en_B := (op_iload 1 (op_const (2 : Int32) (op_iclt (B_X6_value_147 kc) (op_iinc 1 (-1 : Int32) (op_aload 0 (op_gets 6 3 (20, 40, 0) (op_iload 1 (op_const (1 : Int32) (op_bin (fun (x y : Int32) => x - y) (op_iload 3 (op_const (2000 : Int32) (op_bin (fun (x y : Int32) => x - y) (op_aload 0 (op_gets 6 3 (20, 40, 0) (op_iload 1 (op_const (1 : Int32) (op_bin (fun (x y : Int32) => x - y) (op_ald 20 (op_aload 0 (op_gets 6 3 (20, 40, 0) (op_iload 1 (op_ald 20 (op_calli O_X6_worked 3 (op_ast 20 (fun (x : Int32) => x) (B_X6_value_147 kc)))))))))))))))))))))))))
set_option maxRecDepth 20000 in
theorem s_X6_value_109 (G : en_G) (hst : G.2.2.2.2.2 = true) (kc : Nat → en_B) (hk : ∀ t, en_Snd G M_X6_value t (kc t)) : en_Snd G M_X6_value 109 (B_X6_value_109 kc) := (sn_iload_n (i := 1) (n := 1) (by decide +kernel) rfl (sn_iconst (n := 2) (v := 2) (by decide +kernel) rfl (sn_iclt (off := 36) (tgt := 147) (by decide +kernel) rfl (s_X6_value_147 G hst kc hk) (sn_iinc (i := 1) (n := -1) (v := -1) (by decide +kernel) rfl (sn_aload_n (i := 0) (n := 0) (by decide +kernel) rfl (sn_gets (ci := 6) (j := 2) (off := 3) hst en_c6 of_6_3 (Nat.le_of_ble_eq_true rfl) (by decide +kernel) wm_960 (Nat.le_of_ble_eq_true rfl) rfl (sn_iload_n (i := 1) (n := 1) (by decide +kernel) rfl (sn_iconst (n := 1) (v := 1) (by decide +kernel) rfl (sn_isub (by decide +kernel) (sn_iload_n (i := 3) (n := 3) (by decide +kernel) rfl (sn_sipush (n := 2000) (v := 2000) (by decide +kernel) rfl (sn_isub (by decide +kernel) (sn_aload_n (i := 0) (n := 0) (by decide +kernel) rfl (sn_gets (ci := 6) (j := 2) (off := 3) hst en_c6 of_6_3 (Nat.le_of_ble_eq_true rfl) (by decide +kernel) wm_960 (Nat.le_of_ble_eq_true rfl) rfl (sn_iload_n (i := 1) (n := 1) (by decide +kernel) rfl (sn_iconst (n := 1) (v := 1) (by decide +kernel) rfl (sn_isub (by decide +kernel) (sn_iald (by decide +kernel) (sn_aload_n (i := 0) (n := 0) (by decide +kernel) rfl (sn_gets (ci := 6) (j := 2) (off := 3) hst en_c6 of_6_3 (Nat.le_of_ble_eq_true rfl) (by decide +kernel) wm_960 (Nat.le_of_ble_eq_true rfl) rfl (sn_iload_n (i := 1) (n := 1) (by decide +kernel) rfl (sn_iald (by decide +kernel) (sn_callSi (n := 3) (idx := 93) (i_X6_worked G hst) (Nat.le_of_ble_eq_true rfl) cs_X6_worked ⟨wm_1022, Or.inl wm_1020⟩ (by decide +kernel) (sn_iast (by decide +kernel) (s_X6_value_147 G hst kc hk)))))))))))))))))))))))))
noncomputable def B_X6_value_77 (kc : Nat → en_B) : en_B := (op_iload 3 (op_const (1100 : Int32) (op_iceq (op_iload 1 (op_const (1 : Int32) (op_iclt (B_X6_value_109 kc) (op_aload 0 (op_gets 6 3 (20, 40, 0) (op_iload 1 (op_const (1 : Int32) (op_bin (fun (x y : Int32) => x - y) (op_aload 0 (op_gets 6 3 (20, 40, 0) (op_iload 1 (op_const (1 : Int32) (op_bin (fun (x y : Int32) => x - y) (op_ald 20 (op_un (fun (x : Int32) => -x) (op_ast 20 (fun (x : Int32) => x) (B_X6_value_147 kc))))))))))))))))) (B_X6_value_109 kc))))
set_option maxRecDepth 20000 in
theorem s_X6_value_77 (G : en_G) (hst : G.2.2.2.2.2 = true) (kc : Nat → en_B) (hk : ∀ t, en_Snd G M_X6_value t (kc t)) : en_Snd G M_X6_value 77 (B_X6_value_77 kc) := (sn_iload_n (i := 3) (n := 3) (by decide +kernel) rfl (sn_sipush (n := 1100) (v := 1100) (by decide +kernel) rfl (sn_icne (off := 28) (tgt := 109) (by decide +kernel) rfl (s_X6_value_109 G hst kc hk) (sn_iload_n (i := 1) (n := 1) (by decide +kernel) rfl (sn_iconst (n := 1) (v := 1) (by decide +kernel) rfl (sn_iclt (off := 23) (tgt := 109) (by decide +kernel) rfl (s_X6_value_109 G hst kc hk) (sn_aload_n (i := 0) (n := 0) (by decide +kernel) rfl (sn_gets (ci := 6) (j := 2) (off := 3) hst en_c6 of_6_3 (Nat.le_of_ble_eq_true rfl) (by decide +kernel) wm_960 (Nat.le_of_ble_eq_true rfl) rfl (sn_iload_n (i := 1) (n := 1) (by decide +kernel) rfl (sn_iconst (n := 1) (v := 1) (by decide +kernel) rfl (sn_isub (by decide +kernel) (sn_aload_n (i := 0) (n := 0) (by decide +kernel) rfl (sn_gets (ci := 6) (j := 2) (off := 3) hst en_c6 of_6_3 (Nat.le_of_ble_eq_true rfl) (by decide +kernel) wm_960 (Nat.le_of_ble_eq_true rfl) rfl (sn_iload_n (i := 1) (n := 1) (by decide +kernel) rfl (sn_iconst (n := 1) (v := 1) (by decide +kernel) rfl (sn_isub (by decide +kernel) (sn_iald (by decide +kernel) (sn_ineg (by decide +kernel) (sn_iast (by decide +kernel) (sn_goto (off := 41) (tgt := 147) (by decide +kernel) rfl (s_X6_value_147 G hst kc hk)))))))))))))))))))))
noncomputable def B_X6_value_70 (kc : Nat → en_B) : en_B := (op_ast 20 (fun (x : Int32) => x) (op_iinc 1 (1 : Int32) (B_X6_value_147 kc)))
set_option maxRecDepth 20000 in
theorem s_X6_value_70 (G : en_G) (hst : G.2.2.2.2.2 = true) (kc : Nat → en_B) (hk : ∀ t, en_Snd G M_X6_value t (kc t)) : en_Snd G M_X6_value 70 (B_X6_value_70 kc) := (sn_iast (by decide +kernel) (sn_iinc (i := 1) (n := 1) (v := 1) (by decide +kernel) rfl (sn_goto (off := 73) (tgt := 147) (by decide +kernel) rfl (s_X6_value_147 G hst kc hk))))
noncomputable def B_X6_value_60 (kc : Nat → en_B) : en_B := (op_aload 0 (op_gets 6 4 (20, 7, 0) (op_iload 3 (op_const (1000 : Int32) (op_bin (fun (x y : Int32) => x - y) (op_ald 20 (B_X6_value_70 kc)))))))
set_option maxRecDepth 20000 in
theorem s_X6_value_60 (G : en_G) (hst : G.2.2.2.2.2 = true) (kc : Nat → en_B) (hk : ∀ t, en_Snd G M_X6_value t (kc t)) : en_Snd G M_X6_value 60 (B_X6_value_60 kc) := (sn_aload_n (i := 0) (n := 0) (by decide +kernel) rfl (sn_gets (ci := 6) (j := 3) (off := 4) hst en_c6 of_6_4 (Nat.le_of_ble_eq_true rfl) (by decide +kernel) wm_966 (Nat.le_of_ble_eq_true rfl) rfl (sn_iload_n (i := 3) (n := 3) (by decide +kernel) rfl (sn_sipush (n := 1000) (v := 1000) (by decide +kernel) rfl (sn_isub (by decide +kernel) (sn_iald (by decide +kernel) (s_X6_value_70 G hst kc hk)))))))
noncomputable def B_X6_value_22 (kc : Nat → en_B) : en_B := (op_iload 2 (op_aload 0 (op_geti 6 4 (op_iclt (op_aload 0 (op_gets 6 1 (20, 40, 0) (op_iload 2 (op_ald 20 (op_istore 3 (op_iload 3 (op_const (1100 : Int32) (op_iclt (op_aload 0 (op_gets 6 3 (20, 40, 0) (op_iload 1 (op_iload 3 (op_const (1000 : Int32) (op_iclt (op_iload 3 (B_X6_value_70 kc)) (B_X6_value_60 kc))))))) (B_X6_value_77 kc))))))))) (B_X6_value_153 kc)))))
set_option maxRecDepth 20000 in
theorem s_X6_value_22 (G : en_G) (hst : G.2.2.2.2.2 = true) (kc : Nat → en_B) (hk : ∀ t, en_Snd G M_X6_value t (kc t)) : en_Snd G M_X6_value 22 (B_X6_value_22 kc) := (sn_iload_n (i := 2) (n := 2) (by decide +kernel) rfl (sn_aload_n (i := 0) (n := 0) (by decide +kernel) rfl (sn_geti (ci := 6) (j := 4) en_c6 (by decide +kernel) wm_971 (Nat.le_of_ble_eq_true rfl) rfl (sn_icge (off := 126) (tgt := 153) (by decide +kernel) rfl (s_X6_value_153 G hst kc hk) (sn_aload_n (i := 0) (n := 0) (by decide +kernel) rfl (sn_gets (ci := 6) (j := 0) (off := 1) hst en_c6 of_6_1 (Nat.le_of_ble_eq_true rfl) (by decide +kernel) wm_958 (Nat.le_of_ble_eq_true rfl) rfl (sn_iload_n (i := 2) (n := 2) (by decide +kernel) rfl (sn_iald (by decide +kernel) (sn_istore_n (i := 3) (n := 3) (by decide +kernel) rfl (Nat.le_of_ble_eq_true rfl) (sn_iload_n (i := 3) (n := 3) (by decide +kernel) rfl (sn_sipush (n := 1100) (v := 1100) (by decide +kernel) rfl (sn_icge (off := 36) (tgt := 77) (by decide +kernel) rfl (s_X6_value_77 G hst kc hk) (sn_aload_n (i := 0) (n := 0) (by decide +kernel) rfl (sn_gets (ci := 6) (j := 2) (off := 3) hst en_c6 of_6_3 (Nat.le_of_ble_eq_true rfl) (by decide +kernel) wm_960 (Nat.le_of_ble_eq_true rfl) rfl (sn_iload_n (i := 1) (n := 1) (by decide +kernel) rfl (sn_iload_n (i := 3) (n := 3) (by decide +kernel) rfl (sn_sipush (n := 1000) (v := 1000) (by decide +kernel) rfl (sn_icge (off := 7) (tgt := 60) (by decide +kernel) rfl (s_X6_value_60 G hst kc hk) (sn_iload_n (i := 3) (n := 3) (by decide +kernel) rfl (sn_goto (off := 13) (tgt := 70) (by decide +kernel) rfl (s_X6_value_70 G hst kc hk)))))))))))))))))))))
noncomputable def B_X6_value_18 (kc : Nat → en_B) : en_B := (op_const (0 : Int32) (op_istore 1 (op_const (0 : Int32) (op_istore 2 (kc 22)))))
set_option maxRecDepth 20000 in
theorem s_X6_value_18 (G : en_G) (hst : G.2.2.2.2.2 = true) (kc : Nat → en_B) (hk : ∀ t, en_Snd G M_X6_value t (kc t)) : en_Snd G M_X6_value 18 (B_X6_value_18 kc) := (sn_iconst (n := 0) (v := 0) (by decide +kernel) rfl (sn_istore_n (i := 1) (n := 1) (by decide +kernel) rfl (Nat.le_of_ble_eq_true rfl) (sn_iconst (n := 0) (v := 0) (by decide +kernel) rfl (sn_istore_n (i := 2) (n := 2) (by decide +kernel) rfl (Nat.le_of_ble_eq_true rfl) (hk 22)))))
noncomputable def B_X6_value_0 (kc : Nat → en_B) : en_B := (op_aload 0 (op_geti 6 4 (op_ifeq (op_aload 0 (op_gets 6 4 (20, 7, 0) (op_const (0 : Int32) (op_ald 20 (op_const (2 : Int32) (op_div (fun (x y : Int32) => x / y) (op_const (1 : Int32) (op_bin (fun (x y : Int32) => x + y) op_iret)))))))) (B_X6_value_18 kc))))
set_option maxRecDepth 20000 in
theorem s_X6_value_0 (G : en_G) (hst : G.2.2.2.2.2 = true) (kc : Nat → en_B) (hk : ∀ t, en_Snd G M_X6_value t (kc t)) : en_Snd G M_X6_value 0 (B_X6_value_0 kc) := (sn_aload_n (i := 0) (n := 0) (by decide +kernel) rfl (sn_geti (ci := 6) (j := 4) en_c6 (by decide +kernel) wm_971 (Nat.le_of_ble_eq_true rfl) rfl (sn_ifne (off := 14) (tgt := 18) (by decide +kernel) rfl (s_X6_value_18 G hst kc hk) (sn_aload_n (i := 0) (n := 0) (by decide +kernel) rfl (sn_gets (ci := 6) (j := 3) (off := 4) hst en_c6 of_6_4 (Nat.le_of_ble_eq_true rfl) (by decide +kernel) wm_966 (Nat.le_of_ble_eq_true rfl) rfl (sn_iconst (n := 0) (v := 0) (by decide +kernel) rfl (sn_iald (by decide +kernel) (sn_iconst (n := 2) (v := 2) (by decide +kernel) rfl (sn_idiv (by decide +kernel) (sn_iconst (n := 1) (v := 1) (by decide +kernel) rfl (sn_iadd (by decide +kernel) (sn_iret (by decide +kernel) rfl))))))))))))
noncomputable def LK_X6_value : Nat → Nat → en_B
  | 0, _ => en_no
  | n + 1, t => if t = 22 then B_X6_value_22 (LK_X6_value n) else en_no
theorem l_X6_value (G : en_G) (hst : G.2.2.2.2.2 = true) : ∀ n t, en_Snd G M_X6_value t (LK_X6_value n t)
  | 0, _ => sn_no
  | n + 1, t => by
    show en_Snd G M_X6_value t (if t = 22 then B_X6_value_22 (LK_X6_value n) else en_no)
    by_cases h_22 : t = 22
    · rw [if_pos h_22, h_22]; exact s_X6_value_22 G hst _ (l_X6_value G hst n)
    rw [if_neg h_22]
    exact sn_no
noncomputable def T_X6_value_0 (σ : en_M) : en_R := B_X6_value_0 (LK_X6_value en_FU) [.inr (10, 6, 0, 0), en_un, en_un, en_un] [] en_zz σ
noncomputable def T_X6_value_22 (n : Nat) (x1 : Int32) (x2 : Int32) (u3 : en_V) (σ : en_M) : en_R := LK_X6_value n 22 [.inr (10, 6, 0, 0), .inl x1, .inl x2, u3] [] en_zz σ
set_option maxRecDepth 400000 in
set_option maxHeartbeats 4000000 in
theorem t_X6_value_0 (σ : en_M) : T_X6_value_0 σ = (if (σ 10 4) = 0 then ((en_ix (0 : Int32) 7).bind fun j1 => if (2 : Int32) = 0 then none else (en_ri (((σ 14 j1) / (2 : Int32)) + (1 : Int32)) σ)) else (T_X6_value_22 en_FU (0 : Int32) (0 : Int32) (en_un) σ)) := rfl
set_option maxRecDepth 400000 in
set_option maxHeartbeats 4000000 in
theorem t_X6_value_22 (n : Nat) (x1 : Int32) (x2 : Int32) (u3 : en_V) (σ : en_M) : T_X6_value_22 (n + 1) x1 x2 u3 σ = (if x2 < (σ 10 4) then ((en_ix x2 40).bind fun j3 => if (σ 11 j3) < (1100 : Int32) then (if (σ 11 j3) < (1000 : Int32) then ((en_ix x1 40).bind fun j16 => T_X6_value_22 n (x1 + (1 : Int32)) (x2 + (1 : Int32)) (.inl (σ 11 j3)) (en_up σ 13 j16 (σ 11 j3))) else ((en_ix ((σ 11 j3) - (1000 : Int32)) 7).bind fun j14 => (en_ix x1 40).bind fun j15 => T_X6_value_22 n (x1 + (1 : Int32)) (x2 + (1 : Int32)) (.inl (σ 11 j3)) (en_up σ 13 j15 (σ 14 j14)))) else (if (σ 11 j3) = (1100 : Int32) then (if x1 < (1 : Int32) then (if x1 < (2 : Int32) then (T_X6_value_22 n x1 (x2 + (1 : Int32)) (.inl (σ 11 j3)) σ) else ((en_ix ((x1 + (-1 : Int32)) - (1 : Int32)) 40).bind fun j8 => (en_ix (x1 + (-1 : Int32)) 40).bind fun j9 => (O_X6_worked [.inl ((σ 11 j3) - (2000 : Int32)), .inl (σ 13 j8), .inl (σ 13 j9)] σ).bind fun r10 => (en_ix ((x1 + (-1 : Int32)) - (1 : Int32)) 40).bind fun j11 => T_X6_value_22 n (x1 + (-1 : Int32)) (x2 + (1 : Int32)) (.inl (σ 11 j3)) (en_up r10.2 13 j11 r10.1))) else ((en_ix (x1 - (1 : Int32)) 40).bind fun j12 => (en_ix (x1 - (1 : Int32)) 40).bind fun j13 => T_X6_value_22 n x1 (x2 + (1 : Int32)) (.inl (σ 11 j3)) (en_up σ 13 j13 (-(σ 13 j12))))) else (if x1 < (2 : Int32) then (T_X6_value_22 n x1 (x2 + (1 : Int32)) (.inl (σ 11 j3)) σ) else ((en_ix ((x1 + (-1 : Int32)) - (1 : Int32)) 40).bind fun j4 => (en_ix (x1 + (-1 : Int32)) 40).bind fun j5 => (O_X6_worked [.inl ((σ 11 j3) - (2000 : Int32)), .inl (σ 13 j4), .inl (σ 13 j5)] σ).bind fun r6 => (en_ix ((x1 + (-1 : Int32)) - (1 : Int32)) 40).bind fun j7 => T_X6_value_22 n (x1 + (-1 : Int32)) (x2 + (1 : Int32)) (.inl (σ 11 j3)) (en_up r6.2 13 j7 r6.1))))) else ((en_ix (0 : Int32) 40).bind fun j2 => en_ri (σ 13 j2) σ)) := rfl
noncomputable def P_X6_value : List en_V → en_M → Option (Int32 × en_M) := fun av σ => match av with
  | [.inr (10, 6, 0, 0)] => en_oi (T_X6_value_0 σ)
  | _ => none
theorem ox_X6_value : ∃ f, f = P_X6_value := ⟨_, rfl⟩
noncomputable def O_X6_value : List en_V → en_M → Option (Int32 × en_M) := Classical.choose ox_X6_value
theorem oe_X6_value : O_X6_value = P_X6_value := Classical.choose_spec ox_X6_value
theorem o_X6_value (σ : en_M) : O_X6_value [.inr (10, 6, 0, 0)] σ = en_oi (T_X6_value_0 σ) := by rw [oe_X6_value]; rfl
theorem i_X6_value (G : en_G) (hst : G.2.2.2.2.2 = true) : en_I G 2 yX6_value cX6_value 4 (some .int) 0 0 (en_wi (O_X6_value)) := en_of_i (M := M_X6_value) hst (s_X6_value_0 G hst _ (l_X6_value G hst en_FU)) (plainFor_of_name (by decide +kernel)) rfl rfl rfl (Or.inl ⟨rfl, rfl⟩) (fun av σ x σ' h => by
  rw [oe_X6_value] at h; unfold P_X6_value at h
  split at h
  · exact ⟨(Nat.le_of_ble_eq_true rfl), en_oi_some h⟩
  · cases h)
-- EachMayMissOne$Tower.readWeights(LEachMayMissOne$Text;)I
def M_X10_readWeights : en_Me := (cX10_readWeights, RX10, 5, false, 2, false)
theorem cs_X10_readWeights : en_cs yX10_readWeights cX10_readWeights 5 (some .int) 1 := ⟨wm_1107, wm_16, ⟨(by decide +kernel), (by decide +kernel), (by decide +kernel)⟩, (Nat.le_of_ble_eq_true rfl)⟩
noncomputable def B_X10_readWeights_132 (kc : Nat → en_B) : en_B := (op_aload 0 (op_gets 10 2 (0, 0, 0) (op_rcv 0 0 (op_callv O_X0_useX 1 (op_iload 2 op_iret)))))
set_option maxRecDepth 20000 in
theorem s_X10_readWeights_132 (G : en_G) (hst : G.2.2.2.2.2 = true) (kc : Nat → en_B) (hk : ∀ t, en_Snd G M_X10_readWeights t (kc t)) : en_Snd G M_X10_readWeights 132 (B_X10_readWeights_132 kc) := (sn_aload_n (i := 0) (n := 0) (by decide +kernel) rfl (sn_gets (ci := 10) (j := 1) (off := 2) hst en_c10 of_10_2 (Nat.le_of_ble_eq_true rfl) (by decide +kernel) wm_1099 (Nat.le_of_ble_eq_true rfl) rfl (sn_callVv (n := 0) (idx := 52) (ci := 0) (i_X0_useX G hst) (Nat.le_of_ble_eq_true rfl) cs_X0_useX ⟨wm_745, wm_746, wm_1113⟩ ⟨⟨_, rfl, rfl⟩, (Nat.le_of_ble_eq_true rfl)⟩ (by decide +kernel) (sn_iload_n (i := 2) (n := 2) (by decide +kernel) rfl (sn_iret (by decide +kernel) rfl)))))
noncomputable def B_X10_readWeights_123 (kc : Nat → en_B) : en_B := (op_puti 10 4 (op_iinc 4 (1 : Int32) (kc 70)))
set_option maxRecDepth 20000 in
theorem s_X10_readWeights_123 (G : en_G) (hst : G.2.2.2.2.2 = true) (kc : Nat → en_B) (hk : ∀ t, en_Snd G M_X10_readWeights t (kc t)) : en_Snd G M_X10_readWeights 123 (B_X10_readWeights_123 kc) := (sn_puti (ci := 10) (j := 4) en_c10 (by decide +kernel) wm_1104 (Nat.le_of_ble_eq_true rfl) rfl rfl rfl (sn_iinc (i := 4) (n := 1) (v := 1) (by decide +kernel) rfl (sn_goto (off := -59) (tgt := 70) (by decide +kernel) rfl (hk 70))))
noncomputable def B_X10_readWeights_119 (kc : Nat → en_B) : en_B := (op_aload 0 (op_geti 10 4 (B_X10_readWeights_123 kc)))
set_option maxRecDepth 20000 in
theorem s_X10_readWeights_119 (G : en_G) (hst : G.2.2.2.2.2 = true) (kc : Nat → en_B) (hk : ∀ t, en_Snd G M_X10_readWeights t (kc t)) : en_Snd G M_X10_readWeights 119 (B_X10_readWeights_119 kc) := (sn_aload_n (i := 0) (n := 0) (by decide +kernel) rfl (sn_geti (ci := 10) (j := 4) en_c10 (by decide +kernel) wm_1104 (Nat.le_of_ble_eq_true rfl) rfl (s_X10_readWeights_123 G hst kc hk)))
noncomputable def B_X10_readWeights_70 (kc : Nat → en_B) : en_B := (op_iload 4 (op_iload 2 (op_iclt (op_aload 0 (op_gets 10 1 (20, 7, 0) (op_iload 4 (op_aload 1 (op_iload 4 (op_const (7 : Int32) (op_rcv 8 2 (op_calli O_X8_at 3 (op_const (48 : Int32) (op_bin (fun (x y : Int32) => x - y) (op_ast 20 (fun (x : Int32) => x) (op_aload 0 (op_aload 0 (op_gets 10 1 (20, 7, 0) (op_iload 4 (op_ald 20 (op_aload 0 (op_gets 10 1 (20, 7, 0) (op_aload 0 (op_geti 10 4 (op_ald 20 (op_iclt (B_X10_readWeights_119 kc) (op_iload 4 (B_X10_readWeights_123 kc)))))))))))))))))))))))) (B_X10_readWeights_132 kc))))
set_option maxRecDepth 20000 in
theorem s_X10_readWeights_70 (G : en_G) (hst : G.2.2.2.2.2 = true) (kc : Nat → en_B) (hk : ∀ t, en_Snd G M_X10_readWeights t (kc t)) : en_Snd G M_X10_readWeights 70 (B_X10_readWeights_70 kc) := (sn_iload (i := 4) (by decide +kernel) (sn_iload_n (i := 2) (n := 2) (by decide +kernel) rfl (sn_icge (off := 59) (tgt := 132) (by decide +kernel) rfl (s_X10_readWeights_132 G hst kc hk) (sn_aload_n (i := 0) (n := 0) (by decide +kernel) rfl (sn_gets (ci := 10) (j := 0) (off := 1) hst en_c10 of_10_1 (Nat.le_of_ble_eq_true rfl) (by decide +kernel) wm_1095 (Nat.le_of_ble_eq_true rfl) rfl (sn_iload (i := 4) (by decide +kernel) (sn_aload_n (i := 1) (n := 1) (by decide +kernel) rfl (sn_iload (i := 4) (by decide +kernel) (sn_bipush (n := 7) (v := 7) (by decide +kernel) rfl (sn_callVi (n := 2) (idx := 39) (ci := 8) (i_X8_at G hst) (Nat.le_of_ble_eq_true rfl) cs_X8_at ⟨wm_1079, wm_1080, wm_1110⟩ ⟨⟨_, rfl, rfl⟩, (Nat.le_of_ble_eq_true rfl)⟩ (by decide +kernel) (sn_bipush (n := 48) (v := 48) (by decide +kernel) rfl (sn_isub (by decide +kernel) (sn_iast (by decide +kernel) (sn_aload_n (i := 0) (n := 0) (by decide +kernel) rfl (sn_aload_n (i := 0) (n := 0) (by decide +kernel) rfl (sn_gets (ci := 10) (j := 0) (off := 1) hst en_c10 of_10_1 (Nat.le_of_ble_eq_true rfl) (by decide +kernel) wm_1095 (Nat.le_of_ble_eq_true rfl) rfl (sn_iload (i := 4) (by decide +kernel) (sn_iald (by decide +kernel) (sn_aload_n (i := 0) (n := 0) (by decide +kernel) rfl (sn_gets (ci := 10) (j := 0) (off := 1) hst en_c10 of_10_1 (Nat.le_of_ble_eq_true rfl) (by decide +kernel) wm_1095 (Nat.le_of_ble_eq_true rfl) rfl (sn_aload_n (i := 0) (n := 0) (by decide +kernel) rfl (sn_geti (ci := 10) (j := 4) en_c10 (by decide +kernel) wm_1104 (Nat.le_of_ble_eq_true rfl) rfl (sn_iald (by decide +kernel) (sn_iclt (off := 8) (tgt := 119) (by decide +kernel) rfl (s_X10_readWeights_119 G hst kc hk) (sn_iload (i := 4) (by decide +kernel) (sn_goto (off := 7) (tgt := 123) (by decide +kernel) rfl (s_X10_readWeights_123 G hst kc hk)))))))))))))))))))))))))))
noncomputable def B_X10_readWeights_57 (kc : Nat → en_B) : en_B := (op_aload 0 (op_iload 2 (op_puti 10 3 (op_aload 0 (op_const (0 : Int32) (op_puti 10 4 (op_const (0 : Int32) (op_istore 4 (kc 70)))))))))
set_option maxRecDepth 20000 in
theorem s_X10_readWeights_57 (G : en_G) (hst : G.2.2.2.2.2 = true) (kc : Nat → en_B) (hk : ∀ t, en_Snd G M_X10_readWeights t (kc t)) : en_Snd G M_X10_readWeights 57 (B_X10_readWeights_57 kc) := (sn_aload_n (i := 0) (n := 0) (by decide +kernel) rfl (sn_iload_n (i := 2) (n := 2) (by decide +kernel) rfl (sn_puti (ci := 10) (j := 3) en_c10 (by decide +kernel) wm_1112 (Nat.le_of_ble_eq_true rfl) rfl rfl rfl (sn_aload_n (i := 0) (n := 0) (by decide +kernel) rfl (sn_iconst (n := 0) (v := 0) (by decide +kernel) rfl (sn_puti (ci := 10) (j := 4) en_c10 (by decide +kernel) wm_1104 (Nat.le_of_ble_eq_true rfl) rfl rfl rfl (sn_iconst (n := 0) (v := 0) (by decide +kernel) rfl (sn_istore (i := 4) (by decide +kernel) (Nat.le_of_ble_eq_true rfl) (hk 70)))))))))
noncomputable def B_X10_readWeights_52 (kc : Nat → en_B) : en_B := (op_iload 2 (op_calli O_X11_cannotStand 1 op_iret))
set_option maxRecDepth 20000 in
theorem s_X10_readWeights_52 (G : en_G) (hst : G.2.2.2.2.2 = true) (kc : Nat → en_B) (hk : ∀ t, en_Snd G M_X10_readWeights t (kc t)) : en_Snd G M_X10_readWeights 52 (B_X10_readWeights_52 kc) := (sn_iload_n (i := 2) (n := 2) (by decide +kernel) rfl (sn_callSi (n := 1) (idx := 45) (i_X11_cannotStand G hst) (Nat.le_of_ble_eq_true rfl) cs_X11_cannotStand ⟨wm_274, Or.inr (by decide +kernel)⟩ (by decide +kernel) (sn_iret (by decide +kernel) rfl)))
noncomputable def B_X10_readWeights_42 (kc : Nat → en_B) : en_B := (op_iload 3 (op_const (-1 : Int32) (op_iceq (op_iload 2 (op_const (3 : Int32) (op_iclt (B_X10_readWeights_52 kc) (B_X10_readWeights_57 kc)))) (B_X10_readWeights_52 kc))))
set_option maxRecDepth 20000 in
theorem s_X10_readWeights_42 (G : en_G) (hst : G.2.2.2.2.2 = true) (kc : Nat → en_B) (hk : ∀ t, en_Snd G M_X10_readWeights t (kc t)) : en_Snd G M_X10_readWeights 42 (B_X10_readWeights_42 kc) := (sn_iload_n (i := 3) (n := 3) (by decide +kernel) rfl (sn_iconst (n := -1) (v := -1) (by decide +kernel) rfl (sn_icne (off := 8) (tgt := 52) (by decide +kernel) rfl (s_X10_readWeights_52 G hst kc hk) (sn_iload_n (i := 2) (n := 2) (by decide +kernel) rfl (sn_iconst (n := 3) (v := 3) (by decide +kernel) rfl (sn_icge (off := 8) (tgt := 57) (by decide +kernel) rfl (s_X10_readWeights_57 G hst kc hk) (s_X10_readWeights_52 G hst kc hk)))))))
noncomputable def B_X10_readWeights_10 (kc : Nat → en_B) : en_B := (op_iload 2 (op_const (7 : Int32) (op_iclt (op_iload 3 (op_const (49 : Int32) (op_iclt (B_X10_readWeights_42 kc) (op_iload 3 (op_const (57 : Int32) (op_icgt (B_X10_readWeights_42 kc) (op_iinc 2 (1 : Int32) (op_aload 1 (op_iload 2 (op_const (7 : Int32) (op_rcv 8 2 (op_calli O_X8_at 3 (op_istore 3 (kc 10)))))))))))))) (B_X10_readWeights_42 kc))))
set_option maxRecDepth 20000 in
theorem s_X10_readWeights_10 (G : en_G) (hst : G.2.2.2.2.2 = true) (kc : Nat → en_B) (hk : ∀ t, en_Snd G M_X10_readWeights t (kc t)) : en_Snd G M_X10_readWeights 10 (B_X10_readWeights_10 kc) := (sn_iload_n (i := 2) (n := 2) (by decide +kernel) rfl (sn_bipush (n := 7) (v := 7) (by decide +kernel) rfl (sn_icge (off := 29) (tgt := 42) (by decide +kernel) rfl (s_X10_readWeights_42 G hst kc hk) (sn_iload_n (i := 3) (n := 3) (by decide +kernel) rfl (sn_bipush (n := 49) (v := 49) (by decide +kernel) rfl (sn_iclt (off := 23) (tgt := 42) (by decide +kernel) rfl (s_X10_readWeights_42 G hst kc hk) (sn_iload_n (i := 3) (n := 3) (by decide +kernel) rfl (sn_bipush (n := 57) (v := 57) (by decide +kernel) rfl (sn_icgt (off := 17) (tgt := 42) (by decide +kernel) rfl (s_X10_readWeights_42 G hst kc hk) (sn_iinc (i := 2) (n := 1) (v := 1) (by decide +kernel) rfl (sn_aload_n (i := 1) (n := 1) (by decide +kernel) rfl (sn_iload_n (i := 2) (n := 2) (by decide +kernel) rfl (sn_bipush (n := 7) (v := 7) (by decide +kernel) rfl (sn_callVi (n := 2) (idx := 39) (ci := 8) (i_X8_at G hst) (Nat.le_of_ble_eq_true rfl) cs_X8_at ⟨wm_1079, wm_1080, wm_1110⟩ ⟨⟨_, rfl, rfl⟩, (Nat.le_of_ble_eq_true rfl)⟩ (by decide +kernel) (sn_istore_n (i := 3) (n := 3) (by decide +kernel) rfl (Nat.le_of_ble_eq_true rfl) (sn_goto (off := -29) (tgt := 10) (by decide +kernel) rfl (hk 10)))))))))))))))))
noncomputable def B_X10_readWeights_0 (kc : Nat → en_B) : en_B := (op_const (0 : Int32) (op_istore 2 (op_aload 1 (op_iload 2 (op_const (7 : Int32) (op_rcv 8 2 (op_calli O_X8_at 3 (op_istore 3 (kc 10)))))))))
set_option maxRecDepth 20000 in
theorem s_X10_readWeights_0 (G : en_G) (hst : G.2.2.2.2.2 = true) (kc : Nat → en_B) (hk : ∀ t, en_Snd G M_X10_readWeights t (kc t)) : en_Snd G M_X10_readWeights 0 (B_X10_readWeights_0 kc) := (sn_iconst (n := 0) (v := 0) (by decide +kernel) rfl (sn_istore_n (i := 2) (n := 2) (by decide +kernel) rfl (Nat.le_of_ble_eq_true rfl) (sn_aload_n (i := 1) (n := 1) (by decide +kernel) rfl (sn_iload_n (i := 2) (n := 2) (by decide +kernel) rfl (sn_bipush (n := 7) (v := 7) (by decide +kernel) rfl (sn_callVi (n := 2) (idx := 39) (ci := 8) (i_X8_at G hst) (Nat.le_of_ble_eq_true rfl) cs_X8_at ⟨wm_1079, wm_1080, wm_1110⟩ ⟨⟨_, rfl, rfl⟩, (Nat.le_of_ble_eq_true rfl)⟩ (by decide +kernel) (sn_istore_n (i := 3) (n := 3) (by decide +kernel) rfl (Nat.le_of_ble_eq_true rfl) (hk 10))))))))
noncomputable def LK_X10_readWeights : Nat → Nat → en_B
  | 0, _ => en_no
  | n + 1, t => if t = 10 then B_X10_readWeights_10 (LK_X10_readWeights n) else if t = 70 then B_X10_readWeights_70 (LK_X10_readWeights n) else en_no
theorem l_X10_readWeights (G : en_G) (hst : G.2.2.2.2.2 = true) : ∀ n t, en_Snd G M_X10_readWeights t (LK_X10_readWeights n t)
  | 0, _ => sn_no
  | n + 1, t => by
    show en_Snd G M_X10_readWeights t (if t = 10 then B_X10_readWeights_10 (LK_X10_readWeights n) else if t = 70 then B_X10_readWeights_70 (LK_X10_readWeights n) else en_no)
    by_cases h_10 : t = 10
    · rw [if_pos h_10, h_10]; exact s_X10_readWeights_10 G hst _ (l_X10_readWeights G hst n)
    rw [if_neg h_10]
    by_cases h_70 : t = 70
    · rw [if_pos h_70, h_70]; exact s_X10_readWeights_70 G hst _ (l_X10_readWeights G hst n)
    rw [if_neg h_70]
    exact sn_no
noncomputable def T_X10_readWeights_0 (σ : en_M) : en_R := B_X10_readWeights_0 (LK_X10_readWeights en_FU) [.inr (5, 10, 0, 0), .inr (1, 8, 0, 0), en_un, en_un, en_un] [] en_zz σ
noncomputable def T_X10_readWeights_10 (n : Nat) (x2 : Int32) (x3 : Int32) (σ : en_M) : en_R := LK_X10_readWeights n 10 [.inr (5, 10, 0, 0), .inr (1, 8, 0, 0), .inl x2, .inl x3, en_un] [] en_zz σ
noncomputable def T_X10_readWeights_70 (n : Nat) (x2 : Int32) (x3 : Int32) (x4 : Int32) (σ : en_M) : en_R := LK_X10_readWeights n 70 [.inr (5, 10, 0, 0), .inr (1, 8, 0, 0), .inl x2, .inl x3, .inl x4] [] en_zz σ
set_option maxRecDepth 400000 in
set_option maxHeartbeats 4000000 in
theorem t_X10_readWeights_0 (σ : en_M) : T_X10_readWeights_0 σ = ((O_X8_at [.inr (1, 8, 0, 0), .inl (0 : Int32), .inl (7 : Int32)] σ).bind fun r1 => T_X10_readWeights_10 en_FU (0 : Int32) r1.1 r1.2) := rfl
set_option maxRecDepth 400000 in
set_option maxHeartbeats 4000000 in
theorem t_X10_readWeights_10 (n : Nat) (x2 : Int32) (x3 : Int32) (σ : en_M) : T_X10_readWeights_10 (n + 1) x2 x3 σ = (if x2 < (7 : Int32) then (if x3 < (49 : Int32) then (if x3 = (-1 : Int32) then (if x2 < (3 : Int32) then ((O_X11_cannotStand [.inl x2] σ).bind fun r5 => en_ri r5.1 r5.2) else (T_X10_readWeights_70 n x2 x3 (0 : Int32) (en_up (en_up σ 5 3 x2) 5 4 (0 : Int32)))) else ((O_X11_cannotStand [.inl x2] σ).bind fun r4 => en_ri r4.1 r4.2)) else (if (57 : Int32) < x3 then (if x3 = (-1 : Int32) then (if x2 < (3 : Int32) then ((O_X11_cannotStand [.inl x2] σ).bind fun r7 => en_ri r7.1 r7.2) else (T_X10_readWeights_70 n x2 x3 (0 : Int32) (en_up (en_up σ 5 3 x2) 5 4 (0 : Int32)))) else ((O_X11_cannotStand [.inl x2] σ).bind fun r6 => en_ri r6.1 r6.2)) else ((O_X8_at [.inr (1, 8, 0, 0), .inl (x2 + (1 : Int32)), .inl (7 : Int32)] σ).bind fun r8 => T_X10_readWeights_10 n (x2 + (1 : Int32)) r8.1 r8.2))) else (if x3 = (-1 : Int32) then (if x2 < (3 : Int32) then ((O_X11_cannotStand [.inl x2] σ).bind fun r3 => en_ri r3.1 r3.2) else (T_X10_readWeights_70 n x2 x3 (0 : Int32) (en_up (en_up σ 5 3 x2) 5 4 (0 : Int32)))) else ((O_X11_cannotStand [.inl x2] σ).bind fun r2 => en_ri r2.1 r2.2))) := rfl
set_option maxRecDepth 400000 in
set_option maxHeartbeats 4000000 in
theorem t_X10_readWeights_70 (n : Nat) (x2 : Int32) (x3 : Int32) (x4 : Int32) (σ : en_M) : T_X10_readWeights_70 (n + 1) x2 x3 x4 σ = (if x4 < x2 then ((O_X8_at [.inr (1, 8, 0, 0), .inl x4, .inl (7 : Int32)] σ).bind fun r10 => (en_ix x4 7).bind fun j11 => (en_ix x4 7).bind fun j12 => (en_ix (r10.2 5 4) 7).bind fun j13 => if ((en_up r10.2 6 j11 (r10.1 - (48 : Int32))) 6 j12) < ((en_up r10.2 6 j11 (r10.1 - (48 : Int32))) 6 j13) then (T_X10_readWeights_70 n x2 x3 (x4 + (1 : Int32)) (en_up (en_up r10.2 6 j11 (r10.1 - (48 : Int32))) 5 4 (r10.2 5 4))) else (T_X10_readWeights_70 n x2 x3 (x4 + (1 : Int32)) (en_up (en_up r10.2 6 j11 (r10.1 - (48 : Int32))) 5 4 x4))) else ((O_X0_useX [.inr (7, 0, 0, 0)] σ).bind fun r9 => en_ri x2 r9)) := rfl
noncomputable def P_X10_readWeights : List en_V → en_M → Option (Int32 × en_M) := fun av σ => match av with
  | [.inr (5, 10, 0, 0), .inr (1, 8, 0, 0)] => en_oi (T_X10_readWeights_0 σ)
  | _ => none
theorem ox_X10_readWeights : ∃ f, f = P_X10_readWeights := ⟨_, rfl⟩
noncomputable def O_X10_readWeights : List en_V → en_M → Option (Int32 × en_M) := Classical.choose ox_X10_readWeights
theorem oe_X10_readWeights : O_X10_readWeights = P_X10_readWeights := Classical.choose_spec ox_X10_readWeights
theorem o_X10_readWeights (σ : en_M) : O_X10_readWeights [.inr (5, 10, 0, 0), .inr (1, 8, 0, 0)] σ = en_oi (T_X10_readWeights_0 σ) := by rw [oe_X10_readWeights]; rfl
theorem i_X10_readWeights (G : en_G) (hst : G.2.2.2.2.2 = true) : en_I G 2 yX10_readWeights cX10_readWeights 5 (some .int) 0 0 (en_wi (O_X10_readWeights)) := en_of_i (M := M_X10_readWeights) hst (s_X10_readWeights_0 G hst _ (l_X10_readWeights G hst en_FU)) (plainFor_of_name (by decide +kernel)) rfl rfl rfl (Or.inl ⟨rfl, rfl⟩) (fun av σ x σ' h => by
  rw [oe_X10_readWeights] at h; unfold P_X10_readWeights at h
  split at h
  · exact ⟨(Nat.le_of_ble_eq_true rfl), en_oi_some h⟩
  · cases h)
-- EachMayMissOne$Tower.hasRinger(I)Z
def M_X10_hasRinger : en_Me := (cX10_hasRinger, RX10, 2, false, 1, true)
theorem cs_X10_hasRinger : en_cs yX10_hasRinger cX10_hasRinger 2 (some .boolean) 1 := ⟨wm_1114, wm_16, ⟨(by decide +kernel), (by decide +kernel), (by decide +kernel)⟩, (Nat.le_of_ble_eq_true rfl)⟩
noncomputable def B_X10_hasRinger_17 (kc : Nat → en_B) : en_B := op_zret
set_option maxRecDepth 20000 in
theorem s_X10_hasRinger_17 (G : en_G) (hst : G.2.2.2.2.2 = true) (kc : Nat → en_B) (hk : ∀ t, en_Snd G M_X10_hasRinger t (kc t)) : en_Snd G M_X10_hasRinger 17 (B_X10_hasRinger_17 kc) := (sn_zret (by decide +kernel))
noncomputable def B_X10_hasRinger_16 (kc : Nat → en_B) : en_B := (op_const (0 : Int32) (B_X10_hasRinger_17 kc))
set_option maxRecDepth 20000 in
theorem s_X10_hasRinger_16 (G : en_G) (hst : G.2.2.2.2.2 = true) (kc : Nat → en_B) (hk : ∀ t, en_Snd G M_X10_hasRinger t (kc t)) : en_Snd G M_X10_hasRinger 16 (B_X10_hasRinger_16 kc) := (sn_iconst (n := 0) (v := 0) (by decide +kernel) rfl (s_X10_hasRinger_17 G hst kc hk))
noncomputable def B_X10_hasRinger_0 (kc : Nat → en_B) : en_B := (op_iload 1 (op_iflt (B_X10_hasRinger_16 kc) (op_iload 1 (op_aload 0 (op_geti 10 3 (op_iclt (op_const (1 : Int32) (B_X10_hasRinger_17 kc)) (B_X10_hasRinger_16 kc)))))))
set_option maxRecDepth 20000 in
theorem s_X10_hasRinger_0 (G : en_G) (hst : G.2.2.2.2.2 = true) (kc : Nat → en_B) (hk : ∀ t, en_Snd G M_X10_hasRinger t (kc t)) : en_Snd G M_X10_hasRinger 0 (B_X10_hasRinger_0 kc) := (sn_iload_n (i := 1) (n := 1) (by decide +kernel) rfl (sn_iflt (off := 15) (tgt := 16) (by decide +kernel) rfl (s_X10_hasRinger_16 G hst kc hk) (sn_iload_n (i := 1) (n := 1) (by decide +kernel) rfl (sn_aload_n (i := 0) (n := 0) (by decide +kernel) rfl (sn_geti (ci := 10) (j := 3) en_c10 (by decide +kernel) wm_1112 (Nat.le_of_ble_eq_true rfl) rfl (sn_icge (off := 7) (tgt := 16) (by decide +kernel) rfl (s_X10_hasRinger_16 G hst kc hk) (sn_iconst (n := 1) (v := 1) (by decide +kernel) rfl (sn_goto (off := 4) (tgt := 17) (by decide +kernel) rfl (s_X10_hasRinger_17 G hst kc hk)))))))))
noncomputable def LK_X10_hasRinger : Nat → Nat → en_B
  | 0, _ => en_no
  | n + 1, t => en_no
theorem l_X10_hasRinger (G : en_G) (hst : G.2.2.2.2.2 = true) : ∀ n t, en_Snd G M_X10_hasRinger t (LK_X10_hasRinger n t)
  | 0, _ => sn_no
  | n + 1, t => by
    show en_Snd G M_X10_hasRinger t (en_no)
    exact sn_no
noncomputable def T_X10_hasRinger_0 (x1 : Int32) (σ : en_M) : en_R := B_X10_hasRinger_0 (LK_X10_hasRinger en_FU) [.inr (5, 10, 0, 0), .inl x1] [] en_zz σ
set_option maxRecDepth 400000 in
set_option maxHeartbeats 4000000 in
theorem t_X10_hasRinger_0 (x1 : Int32) (σ : en_M) : T_X10_hasRinger_0 x1 σ = (if x1 < 0 then (if (0 : Int32) = 0 ∨ (0 : Int32) = 1 then en_ri (0 : Int32) σ else none) else (if x1 < (σ 5 3) then (if (1 : Int32) = 0 ∨ (1 : Int32) = 1 then en_ri (1 : Int32) σ else none) else (if (0 : Int32) = 0 ∨ (0 : Int32) = 1 then en_ri (0 : Int32) σ else none))) := rfl
noncomputable def P_X10_hasRinger : List en_V → en_M → Option (Int32 × en_M) := fun av σ => match av with
  | [.inr (5, 10, 0, 0), .inl x1] => en_oi (T_X10_hasRinger_0 x1 σ)
  | _ => none
theorem ox_X10_hasRinger : ∃ f, f = P_X10_hasRinger := ⟨_, rfl⟩
noncomputable def O_X10_hasRinger : List en_V → en_M → Option (Int32 × en_M) := Classical.choose ox_X10_hasRinger
theorem oe_X10_hasRinger : O_X10_hasRinger = P_X10_hasRinger := Classical.choose_spec ox_X10_hasRinger
theorem o_X10_hasRinger (x1 : Int32) (σ : en_M) : O_X10_hasRinger [.inr (5, 10, 0, 0), .inl x1] σ = en_oi (T_X10_hasRinger_0 x1 σ) := by rw [oe_X10_hasRinger]; rfl
theorem i_X10_hasRinger (G : en_G) (hst : G.2.2.2.2.2 = true) : en_I G 1 yX10_hasRinger cX10_hasRinger 2 (some .boolean) 0 0 (en_wi (O_X10_hasRinger)) := en_of_i (M := M_X10_hasRinger) hst (s_X10_hasRinger_0 G hst _ (l_X10_hasRinger G hst en_FU)) (plainFor_of_name (by decide +kernel)) rfl rfl rfl (Or.inr ⟨Or.inl rfl, rfl⟩) (fun av σ x σ' h => by
  rw [oe_X10_hasRinger] at h; unfold P_X10_hasRinger at h
  split at h
  · exact ⟨(Nat.le_of_ble_eq_true rfl), en_oi_some h⟩
  · cases h)
-- EachMayMissOne$Tower.hasTwo(II)Z
def M_X10_hasTwo : en_Me := (cX10_hasTwo, RX10, 3, false, 2, true)
theorem cs_X10_hasTwo : en_cs yX10_hasTwo cX10_hasTwo 3 (some .boolean) 2 := ⟨wm_1117, wm_16, ⟨(by decide +kernel), (by decide +kernel), (by decide +kernel)⟩, (Nat.le_of_ble_eq_true rfl)⟩
noncomputable def B_X10_hasTwo_26 (kc : Nat → en_B) : en_B := op_zret
set_option maxRecDepth 20000 in
theorem s_X10_hasTwo_26 (G : en_G) (hst : G.2.2.2.2.2 = true) (kc : Nat → en_B) (hk : ∀ t, en_Snd G M_X10_hasTwo t (kc t)) : en_Snd G M_X10_hasTwo 26 (B_X10_hasTwo_26 kc) := (sn_zret (by decide +kernel))
noncomputable def B_X10_hasTwo_25 (kc : Nat → en_B) : en_B := (op_const (0 : Int32) (B_X10_hasTwo_26 kc))
set_option maxRecDepth 20000 in
theorem s_X10_hasTwo_25 (G : en_G) (hst : G.2.2.2.2.2 = true) (kc : Nat → en_B) (hk : ∀ t, en_Snd G M_X10_hasTwo t (kc t)) : en_Snd G M_X10_hasTwo 25 (B_X10_hasTwo_25 kc) := (sn_iconst (n := 0) (v := 0) (by decide +kernel) rfl (s_X10_hasTwo_26 G hst kc hk))
noncomputable def B_X10_hasTwo_0 (kc : Nat → en_B) : en_B := (op_aload 0 (op_iload 1 (op_rcv 10 1 (op_calli O_X10_hasRinger 2 (op_ifeq (B_X10_hasTwo_25 kc) (op_aload 0 (op_iload 2 (op_rcv 10 1 (op_calli O_X10_hasRinger 2 (op_ifeq (B_X10_hasTwo_25 kc) (op_iload 1 (op_iload 2 (op_iceq (B_X10_hasTwo_25 kc) (op_const (1 : Int32) (B_X10_hasTwo_26 kc)))))))))))))))
set_option maxRecDepth 20000 in
theorem s_X10_hasTwo_0 (G : en_G) (hst : G.2.2.2.2.2 = true) (kc : Nat → en_B) (hk : ∀ t, en_Snd G M_X10_hasTwo t (kc t)) : en_Snd G M_X10_hasTwo 0 (B_X10_hasTwo_0 kc) := (sn_aload_n (i := 0) (n := 0) (by decide +kernel) rfl (sn_iload_n (i := 1) (n := 1) (by decide +kernel) rfl (sn_callVi (n := 1) (idx := 55) (ci := 10) (i_X10_hasRinger G hst) (Nat.le_of_ble_eq_true rfl) cs_X10_hasRinger ⟨wm_1115, wm_1116, wm_1120⟩ ⟨⟨_, rfl, rfl⟩, (Nat.le_of_ble_eq_true rfl)⟩ (by decide +kernel) (sn_ifeq (off := 20) (tgt := 25) (by decide +kernel) rfl (s_X10_hasTwo_25 G hst kc hk) (sn_aload_n (i := 0) (n := 0) (by decide +kernel) rfl (sn_iload_n (i := 2) (n := 2) (by decide +kernel) rfl (sn_callVi (n := 1) (idx := 55) (ci := 10) (i_X10_hasRinger G hst) (Nat.le_of_ble_eq_true rfl) cs_X10_hasRinger ⟨wm_1115, wm_1116, wm_1120⟩ ⟨⟨_, rfl, rfl⟩, (Nat.le_of_ble_eq_true rfl)⟩ (by decide +kernel) (sn_ifeq (off := 12) (tgt := 25) (by decide +kernel) rfl (s_X10_hasTwo_25 G hst kc hk) (sn_iload_n (i := 1) (n := 1) (by decide +kernel) rfl (sn_iload_n (i := 2) (n := 2) (by decide +kernel) rfl (sn_iceq (off := 7) (tgt := 25) (by decide +kernel) rfl (s_X10_hasTwo_25 G hst kc hk) (sn_iconst (n := 1) (v := 1) (by decide +kernel) rfl (sn_goto (off := 4) (tgt := 26) (by decide +kernel) rfl (s_X10_hasTwo_26 G hst kc hk))))))))))))))
noncomputable def LK_X10_hasTwo : Nat → Nat → en_B
  | 0, _ => en_no
  | n + 1, t => en_no
theorem l_X10_hasTwo (G : en_G) (hst : G.2.2.2.2.2 = true) : ∀ n t, en_Snd G M_X10_hasTwo t (LK_X10_hasTwo n t)
  | 0, _ => sn_no
  | n + 1, t => by
    show en_Snd G M_X10_hasTwo t (en_no)
    exact sn_no
noncomputable def T_X10_hasTwo_0 (x1 : Int32) (x2 : Int32) (σ : en_M) : en_R := B_X10_hasTwo_0 (LK_X10_hasTwo en_FU) [.inr (5, 10, 0, 0), .inl x1, .inl x2] [] en_zz σ
set_option maxRecDepth 400000 in
set_option maxHeartbeats 4000000 in
theorem t_X10_hasTwo_0 (x1 : Int32) (x2 : Int32) (σ : en_M) : T_X10_hasTwo_0 x1 x2 σ = ((O_X10_hasRinger [.inr (5, 10, 0, 0), .inl x1] σ).bind fun r1 => if r1.1 = 0 then (if (0 : Int32) = 0 ∨ (0 : Int32) = 1 then en_ri (0 : Int32) r1.2 else none) else ((O_X10_hasRinger [.inr (5, 10, 0, 0), .inl x2] r1.2).bind fun r2 => if r2.1 = 0 then (if (0 : Int32) = 0 ∨ (0 : Int32) = 1 then en_ri (0 : Int32) r2.2 else none) else (if x1 = x2 then (if (0 : Int32) = 0 ∨ (0 : Int32) = 1 then en_ri (0 : Int32) r2.2 else none) else (if (1 : Int32) = 0 ∨ (1 : Int32) = 1 then en_ri (1 : Int32) r2.2 else none)))) := rfl
noncomputable def P_X10_hasTwo : List en_V → en_M → Option (Int32 × en_M) := fun av σ => match av with
  | [.inr (5, 10, 0, 0), .inl x1, .inl x2] => en_oi (T_X10_hasTwo_0 x1 x2 σ)
  | _ => none
theorem ox_X10_hasTwo : ∃ f, f = P_X10_hasTwo := ⟨_, rfl⟩
noncomputable def O_X10_hasTwo : List en_V → en_M → Option (Int32 × en_M) := Classical.choose ox_X10_hasTwo
theorem oe_X10_hasTwo : O_X10_hasTwo = P_X10_hasTwo := Classical.choose_spec ox_X10_hasTwo
theorem o_X10_hasTwo (x1 : Int32) (x2 : Int32) (σ : en_M) : O_X10_hasTwo [.inr (5, 10, 0, 0), .inl x1, .inl x2] σ = en_oi (T_X10_hasTwo_0 x1 x2 σ) := by rw [oe_X10_hasTwo]; rfl
theorem i_X10_hasTwo (G : en_G) (hst : G.2.2.2.2.2 = true) : en_I G 2 yX10_hasTwo cX10_hasTwo 3 (some .boolean) 0 0 (en_wi (O_X10_hasTwo)) := en_of_i (M := M_X10_hasTwo) hst (s_X10_hasTwo_0 G hst _ (l_X10_hasTwo G hst en_FU)) (plainFor_of_name (by decide +kernel)) rfl rfl rfl (Or.inr ⟨Or.inl rfl, rfl⟩) (fun av σ x σ' h => by
  rw [oe_X10_hasTwo] at h; unfold P_X10_hasTwo at h
  split at h
  · exact ⟨(Nat.le_of_ble_eq_true rfl), en_oi_some h⟩
  · cases h)
-- EachMayMissOne$Tower.hasAll(I)Z
def M_X10_hasAll : en_Me := (cX10_hasAll, RX10, 2, false, 1, true)
theorem cs_X10_hasAll : en_cs yX10_hasAll cX10_hasAll 2 (some .boolean) 1 := ⟨wm_1121, wm_16, ⟨(by decide +kernel), (by decide +kernel), (by decide +kernel)⟩, (Nat.le_of_ble_eq_true rfl)⟩
noncomputable def B_X10_hasAll_19 (kc : Nat → en_B) : en_B := op_zret
set_option maxRecDepth 20000 in
theorem s_X10_hasAll_19 (G : en_G) (hst : G.2.2.2.2.2 = true) (kc : Nat → en_B) (hk : ∀ t, en_Snd G M_X10_hasAll t (kc t)) : en_Snd G M_X10_hasAll 19 (B_X10_hasAll_19 kc) := (sn_zret (by decide +kernel))
noncomputable def B_X10_hasAll_18 (kc : Nat → en_B) : en_B := (op_const (0 : Int32) (B_X10_hasAll_19 kc))
set_option maxRecDepth 20000 in
theorem s_X10_hasAll_18 (G : en_G) (hst : G.2.2.2.2.2 = true) (kc : Nat → en_B) (hk : ∀ t, en_Snd G M_X10_hasAll t (kc t)) : en_Snd G M_X10_hasAll 18 (B_X10_hasAll_18 kc) := (sn_iconst (n := 0) (v := 0) (by decide +kernel) rfl (s_X10_hasAll_19 G hst kc hk))
noncomputable def B_X10_hasAll_0 (kc : Nat → en_B) : en_B := (op_iload 1 (op_iflt (B_X10_hasAll_18 kc) (op_iload 1 (op_const (1 : Int32) (op_aload 0 (op_geti 10 3 (op_bin en_shl (op_iclt (op_const (1 : Int32) (B_X10_hasAll_19 kc)) (B_X10_hasAll_18 kc)))))))))
set_option maxRecDepth 20000 in
theorem s_X10_hasAll_0 (G : en_G) (hst : G.2.2.2.2.2 = true) (kc : Nat → en_B) (hk : ∀ t, en_Snd G M_X10_hasAll t (kc t)) : en_Snd G M_X10_hasAll 0 (B_X10_hasAll_0 kc) := (sn_iload_n (i := 1) (n := 1) (by decide +kernel) rfl (sn_iflt (off := 17) (tgt := 18) (by decide +kernel) rfl (s_X10_hasAll_18 G hst kc hk) (sn_iload_n (i := 1) (n := 1) (by decide +kernel) rfl (sn_iconst (n := 1) (v := 1) (by decide +kernel) rfl (sn_aload_n (i := 0) (n := 0) (by decide +kernel) rfl (sn_geti (ci := 10) (j := 3) en_c10 (by decide +kernel) wm_1112 (Nat.le_of_ble_eq_true rfl) rfl (sn_ishl (by decide +kernel) (sn_icge (off := 7) (tgt := 18) (by decide +kernel) rfl (s_X10_hasAll_18 G hst kc hk) (sn_iconst (n := 1) (v := 1) (by decide +kernel) rfl (sn_goto (off := 4) (tgt := 19) (by decide +kernel) rfl (s_X10_hasAll_19 G hst kc hk)))))))))))
noncomputable def LK_X10_hasAll : Nat → Nat → en_B
  | 0, _ => en_no
  | n + 1, t => en_no
theorem l_X10_hasAll (G : en_G) (hst : G.2.2.2.2.2 = true) : ∀ n t, en_Snd G M_X10_hasAll t (LK_X10_hasAll n t)
  | 0, _ => sn_no
  | n + 1, t => by
    show en_Snd G M_X10_hasAll t (en_no)
    exact sn_no
noncomputable def T_X10_hasAll_0 (x1 : Int32) (σ : en_M) : en_R := B_X10_hasAll_0 (LK_X10_hasAll en_FU) [.inr (5, 10, 0, 0), .inl x1] [] en_zz σ
set_option maxRecDepth 400000 in
set_option maxHeartbeats 4000000 in
theorem t_X10_hasAll_0 (x1 : Int32) (σ : en_M) : T_X10_hasAll_0 x1 σ = (if x1 < 0 then (if (0 : Int32) = 0 ∨ (0 : Int32) = 1 then en_ri (0 : Int32) σ else none) else (if x1 < (en_shl (1 : Int32) (σ 5 3)) then (if (1 : Int32) = 0 ∨ (1 : Int32) = 1 then en_ri (1 : Int32) σ else none) else (if (0 : Int32) = 0 ∨ (0 : Int32) = 1 then en_ri (0 : Int32) σ else none))) := rfl
noncomputable def P_X10_hasAll : List en_V → en_M → Option (Int32 × en_M) := fun av σ => match av with
  | [.inr (5, 10, 0, 0), .inl x1] => en_oi (T_X10_hasAll_0 x1 σ)
  | _ => none
theorem ox_X10_hasAll : ∃ f, f = P_X10_hasAll := ⟨_, rfl⟩
noncomputable def O_X10_hasAll : List en_V → en_M → Option (Int32 × en_M) := Classical.choose ox_X10_hasAll
theorem oe_X10_hasAll : O_X10_hasAll = P_X10_hasAll := Classical.choose_spec ox_X10_hasAll
theorem o_X10_hasAll (x1 : Int32) (σ : en_M) : O_X10_hasAll [.inr (5, 10, 0, 0), .inl x1] σ = en_oi (T_X10_hasAll_0 x1 σ) := by rw [oe_X10_hasAll]; rfl
theorem i_X10_hasAll (G : en_G) (hst : G.2.2.2.2.2 = true) : en_I G 1 yX10_hasAll cX10_hasAll 2 (some .boolean) 0 0 (en_wi (O_X10_hasAll)) := en_of_i (M := M_X10_hasAll) hst (s_X10_hasAll_0 G hst _ (l_X10_hasAll G hst en_FU)) (plainFor_of_name (by decide +kernel)) rfl rfl rfl (Or.inr ⟨Or.inl rfl, rfl⟩) (fun av σ x σ' h => by
  rw [oe_X10_hasAll] at h; unfold P_X10_hasAll at h
  split at h
  · exact ⟨(Nat.le_of_ble_eq_true rfl), en_oi_some h⟩
  · cases h)
