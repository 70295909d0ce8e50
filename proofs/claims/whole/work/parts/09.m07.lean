-- EachMayMissOne$Night.read(LEachMayMissOne$Text;)I
def M_X2_read : en_Me := (cX2_read, RX2, 5, false, 4, false)
theorem cs_X2_read : en_cs yX2_read cX2_read 5 (some .int) 1 := ⟨wm_784, wm_37, ⟨(by decide +kernel), (by decide +kernel), (by decide +kernel)⟩, (Nat.le_of_ble_eq_true rfl)⟩
noncomputable def B_X2_read_106 (kc : Nat → en_B) : en_B := op_iret
set_option maxRecDepth 20000 in
theorem s_X2_read_106 (G : en_G) (hst : G.2.2.2.2.2 = true) (kc : Nat → en_B) (hk : ∀ t, en_Snd G M_X2_read t (kc t)) : en_Snd G M_X2_read 106 (B_X2_read_106 kc) := (sn_iret (by decide +kernel) rfl)
noncomputable def B_X2_read_102 (kc : Nat → en_B) : en_B := (op_iload 2 (op_calli O_X11_cannotStand 1 (B_X2_read_106 kc)))
set_option maxRecDepth 20000 in
theorem s_X2_read_102 (G : en_G) (hst : G.2.2.2.2.2 = true) (kc : Nat → en_B) (hk : ∀ t, en_Snd G M_X2_read t (kc t)) : en_Snd G M_X2_read 102 (B_X2_read_102 kc) := (sn_iload_n (i := 2) (n := 2) (by decide +kernel) rfl (sn_callSi (n := 1) (idx := 35) (i_X11_cannotStand G hst) (Nat.le_of_ble_eq_true rfl) cs_X11_cannotStand ⟨wm_274, Or.inr (by decide +kernel)⟩ (by decide +kernel) (s_X2_read_106 G hst kc hk)))
noncomputable def B_X2_read_86 (kc : Nat → en_B) : en_B := (op_aload 0 (op_const (0 : Int32) (op_puti 2 2 (op_aload 1 (op_geti 8 1 (op_ifeq (op_const (0 : Int32) (B_X2_read_106 kc)) (B_X2_read_102 kc)))))))
set_option maxRecDepth 20000 in
theorem s_X2_read_86 (G : en_G) (hst : G.2.2.2.2.2 = true) (kc : Nat → en_B) (hk : ∀ t, en_Snd G M_X2_read t (kc t)) : en_Snd G M_X2_read 86 (B_X2_read_86 kc) := (sn_aload_n (i := 0) (n := 0) (by decide +kernel) rfl (sn_iconst (n := 0) (v := 0) (by decide +kernel) rfl (sn_puti (ci := 2) (j := 2) en_c2 (by decide +kernel) wm_787 (Nat.le_of_ble_eq_true rfl) rfl rfl rfl (sn_aload_n (i := 1) (n := 1) (by decide +kernel) rfl (sn_geti (ci := 8) (j := 1) en_c8 (by decide +kernel) wm_788 (Nat.le_of_ble_eq_true rfl) rfl (sn_ifne (off := 7) (tgt := 102) (by decide +kernel) rfl (s_X2_read_102 G hst kc hk) (sn_iconst (n := 0) (v := 0) (by decide +kernel) rfl (sn_goto (off := 7) (tgt := 106) (by decide +kernel) rfl (s_X2_read_106 G hst kc hk)))))))))
noncomputable def B_X2_read_77 (kc : Nat → en_B) : en_B := (op_iinc 2 (1 : Int32) (op_iinc 3 (1 : Int32) (kc 9)))
set_option maxRecDepth 20000 in
theorem s_X2_read_77 (G : en_G) (hst : G.2.2.2.2.2 = true) (kc : Nat → en_B) (hk : ∀ t, en_Snd G M_X2_read t (kc t)) : en_Snd G M_X2_read 77 (B_X2_read_77 kc) := (sn_iinc (i := 2) (n := 1) (v := 1) (by decide +kernel) rfl (sn_iinc (i := 3) (n := 1) (v := 1) (by decide +kernel) rfl (sn_goto (off := -74) (tgt := 9) (by decide +kernel) rfl (hk 9))))
noncomputable def B_X2_read_60 (kc : Nat → en_B) : en_B := (op_iload 4 (op_const (59 : Int32) (op_iceq (B_X2_read_77 kc) (op_aload 0 (op_const (0 : Int32) (op_puti 2 2 (op_iload 2 (op_calli O_X11_cannotStand 1 op_iret))))))))
set_option maxRecDepth 20000 in
theorem s_X2_read_60 (G : en_G) (hst : G.2.2.2.2.2 = true) (kc : Nat → en_B) (hk : ∀ t, en_Snd G M_X2_read t (kc t)) : en_Snd G M_X2_read 60 (B_X2_read_60 kc) := (sn_iload (i := 4) (by decide +kernel) (sn_bipush (n := 59) (v := 59) (by decide +kernel) rfl (sn_iceq (off := 13) (tgt := 77) (by decide +kernel) rfl (s_X2_read_77 G hst kc hk) (sn_aload_n (i := 0) (n := 0) (by decide +kernel) rfl (sn_iconst (n := 0) (v := 0) (by decide +kernel) rfl (sn_puti (ci := 2) (j := 2) en_c2 (by decide +kernel) wm_787 (Nat.le_of_ble_eq_true rfl) rfl rfl rfl (sn_iload_n (i := 2) (n := 2) (by decide +kernel) rfl (sn_callSi (n := 1) (idx := 35) (i_X11_cannotStand G hst) (Nat.le_of_ble_eq_true rfl) cs_X11_cannotStand ⟨wm_274, Or.inr (by decide +kernel)⟩ (by decide +kernel) (sn_iret (by decide +kernel) rfl)))))))))
noncomputable def B_X2_read_40 (kc : Nat → en_B) : en_B := (op_aload 1 (op_iload 2 (op_const (60 : Int32) (op_rcv 8 2 (op_calli O_X8_at 3 (op_istore 4 (op_iload 4 (op_const (-1 : Int32) (op_iceq (op_aload 0 (op_geti 2 2 op_iret)) (B_X2_read_60 kc))))))))))
set_option maxRecDepth 20000 in
theorem s_X2_read_40 (G : en_G) (hst : G.2.2.2.2.2 = true) (kc : Nat → en_B) (hk : ∀ t, en_Snd G M_X2_read t (kc t)) : en_Snd G M_X2_read 40 (B_X2_read_40 kc) := (sn_aload_n (i := 1) (n := 1) (by decide +kernel) rfl (sn_iload_n (i := 2) (n := 2) (by decide +kernel) rfl (sn_bipush (n := 60) (v := 60) (by decide +kernel) rfl (sn_callVi (n := 2) (idx := 31) (ci := 8) (i_X8_at G hst) (Nat.le_of_ble_eq_true rfl) cs_X8_at ⟨wm_1079, wm_1080, wm_790⟩ ⟨⟨_, rfl, rfl⟩, (Nat.le_of_ble_eq_true rfl)⟩ (by decide +kernel) (sn_istore (i := 4) (by decide +kernel) (Nat.le_of_ble_eq_true rfl) (sn_iload (i := 4) (by decide +kernel) (sn_iconst (n := -1) (v := -1) (by decide +kernel) rfl (sn_icne (off := 8) (tgt := 60) (by decide +kernel) rfl (s_X2_read_60 G hst kc hk) (sn_aload_n (i := 0) (n := 0) (by decide +kernel) rfl (sn_geti (ci := 2) (j := 2) en_c2 (by decide +kernel) wm_787 (Nat.le_of_ble_eq_true rfl) rfl (sn_iret (by decide +kernel) rfl)))))))))))
noncomputable def B_X2_read_9 (kc : Nat → en_B) : en_B := (op_iload 3 (op_const (30 : Int32) (op_iclt (op_aload 1 (op_geti 8 1 (op_ifgt (op_aload 0 (op_aload 1 (op_iload 2 (op_rcv 2 2 (op_calli O_X2_readAct 3 (op_istore 2 (op_iload 2 (op_iflt (op_aload 0 (op_const (0 : Int32) (op_puti 2 2 (op_iload 2 op_iret)))) (B_X2_read_40 kc))))))))) (B_X2_read_86 kc)))) (B_X2_read_86 kc))))
set_option maxRecDepth 20000 in
theorem s_X2_read_9 (G : en_G) (hst : G.2.2.2.2.2 = true) (kc : Nat → en_B) (hk : ∀ t, en_Snd G M_X2_read t (kc t)) : en_Snd G M_X2_read 9 (B_X2_read_9 kc) := (sn_iload_n (i := 3) (n := 3) (by decide +kernel) rfl (sn_bipush (n := 30) (v := 30) (by decide +kernel) rfl (sn_icge (off := 74) (tgt := 86) (by decide +kernel) rfl (s_X2_read_86 G hst kc hk) (sn_aload_n (i := 1) (n := 1) (by decide +kernel) rfl (sn_geti (ci := 8) (j := 1) en_c8 (by decide +kernel) wm_788 (Nat.le_of_ble_eq_true rfl) rfl (sn_ifle (off := 67) (tgt := 86) (by decide +kernel) rfl (s_X2_read_86 G hst kc hk) (sn_aload_n (i := 0) (n := 0) (by decide +kernel) rfl (sn_aload_n (i := 1) (n := 1) (by decide +kernel) rfl (sn_iload_n (i := 2) (n := 2) (by decide +kernel) rfl (sn_callVi (n := 2) (idx := 27) (ci := 2) (i_X2_readAct G hst) (Nat.le_of_ble_eq_true rfl) cs_X2_readAct ⟨wm_793, wm_794, wm_789⟩ ⟨⟨_, rfl, rfl⟩, (Nat.le_of_ble_eq_true rfl)⟩ (by decide +kernel) (sn_istore_n (i := 2) (n := 2) (by decide +kernel) rfl (Nat.le_of_ble_eq_true rfl) (sn_iload_n (i := 2) (n := 2) (by decide +kernel) rfl (sn_ifge (off := 10) (tgt := 40) (by decide +kernel) rfl (s_X2_read_40 G hst kc hk) (sn_aload_n (i := 0) (n := 0) (by decide +kernel) rfl (sn_iconst (n := 0) (v := 0) (by decide +kernel) rfl (sn_puti (ci := 2) (j := 2) en_c2 (by decide +kernel) wm_787 (Nat.le_of_ble_eq_true rfl) rfl rfl rfl (sn_iload_n (i := 2) (n := 2) (by decide +kernel) rfl (sn_iret (by decide +kernel) rfl))))))))))))))))))
noncomputable def B_X2_read_0 (kc : Nat → en_B) : en_B := (op_aload 0 (op_const (0 : Int32) (op_puti 2 2 (op_const (0 : Int32) (op_istore 2 (op_const (0 : Int32) (op_istore 3 (kc 9))))))))
set_option maxRecDepth 20000 in
theorem s_X2_read_0 (G : en_G) (hst : G.2.2.2.2.2 = true) (kc : Nat → en_B) (hk : ∀ t, en_Snd G M_X2_read t (kc t)) : en_Snd G M_X2_read 0 (B_X2_read_0 kc) := (sn_aload_n (i := 0) (n := 0) (by decide +kernel) rfl (sn_iconst (n := 0) (v := 0) (by decide +kernel) rfl (sn_puti (ci := 2) (j := 2) en_c2 (by decide +kernel) wm_787 (Nat.le_of_ble_eq_true rfl) rfl rfl rfl (sn_iconst (n := 0) (v := 0) (by decide +kernel) rfl (sn_istore_n (i := 2) (n := 2) (by decide +kernel) rfl (Nat.le_of_ble_eq_true rfl) (sn_iconst (n := 0) (v := 0) (by decide +kernel) rfl (sn_istore_n (i := 3) (n := 3) (by decide +kernel) rfl (Nat.le_of_ble_eq_true rfl) (hk 9))))))))
noncomputable def LK_X2_read : Nat → Nat → en_B
  | 0, _ => en_no
  | n + 1, t => if t = 9 then B_X2_read_9 (LK_X2_read n) else en_no
theorem l_X2_read (G : en_G) (hst : G.2.2.2.2.2 = true) : ∀ n t, en_Snd G M_X2_read t (LK_X2_read n t)
  | 0, _ => sn_no
  | n + 1, t => by
    show en_Snd G M_X2_read t (if t = 9 then B_X2_read_9 (LK_X2_read n) else en_no)
    by_cases h_9 : t = 9
    · rw [if_pos h_9, h_9]; exact s_X2_read_9 G hst _ (l_X2_read G hst n)
    rw [if_neg h_9]
    exact sn_no
noncomputable def T_X2_read_0 (σ : en_M) : en_R := B_X2_read_0 (LK_X2_read en_FU) [.inr (100, 2, 0, 0), .inr (1, 8, 0, 0), en_un, en_un, en_un] [] en_zz σ
noncomputable def T_X2_read_9 (n : Nat) (x2 : Int32) (x3 : Int32) (u4 : en_V) (σ : en_M) : en_R := LK_X2_read n 9 [.inr (100, 2, 0, 0), .inr (1, 8, 0, 0), .inl x2, .inl x3, u4] [] en_zz σ
set_option maxRecDepth 400000 in
set_option maxHeartbeats 4000000 in
theorem t_X2_read_0 (σ : en_M) : T_X2_read_0 σ = (T_X2_read_9 en_FU (0 : Int32) (0 : Int32) (en_un) (en_up σ 100 2 (0 : Int32))) := rfl
set_option maxRecDepth 400000 in
set_option maxHeartbeats 4000000 in
theorem t_X2_read_9 (n : Nat) (x2 : Int32) (x3 : Int32) (u4 : en_V) (σ : en_M) : T_X2_read_9 (n + 1) x2 x3 u4 σ = (if x3 < (30 : Int32) then (if 0 < (σ 1 1) then ((O_X2_readAct [.inr (100, 2, 0, 0), .inr (1, 8, 0, 0), .inl x2] σ).bind fun r3 => if r3.1 < 0 then (en_ri r3.1 (en_up r3.2 100 2 (0 : Int32))) else ((O_X8_at [.inr (1, 8, 0, 0), .inl r3.1, .inl (60 : Int32)] r3.2).bind fun r4 => if r4.1 = (-1 : Int32) then (en_ri (r4.2 100 2) r4.2) else (if r4.1 = (59 : Int32) then (T_X2_read_9 n (r3.1 + (1 : Int32)) (x3 + (1 : Int32)) (.inl r4.1) r4.2) else ((O_X11_cannotStand [.inl r3.1] (en_up r4.2 100 2 (0 : Int32))).bind fun r5 => en_ri r5.1 r5.2)))) else (if (σ 1 1) = 0 then (en_ri (0 : Int32) (en_up σ 100 2 (0 : Int32))) else ((O_X11_cannotStand [.inl x2] (en_up σ 100 2 (0 : Int32))).bind fun r2 => en_ri r2.1 r2.2))) else (if (σ 1 1) = 0 then (en_ri (0 : Int32) (en_up σ 100 2 (0 : Int32))) else ((O_X11_cannotStand [.inl x2] (en_up σ 100 2 (0 : Int32))).bind fun r1 => en_ri r1.1 r1.2))) := rfl
noncomputable def P_X2_read : List en_V → en_M → Option (Int32 × en_M) := fun av σ => match av with
  | [.inr (100, 2, 0, 0), .inr (1, 8, 0, 0)] => en_oi (T_X2_read_0 σ)
  | _ => none
theorem ox_X2_read : ∃ f, f = P_X2_read := ⟨_, rfl⟩
noncomputable def O_X2_read : List en_V → en_M → Option (Int32 × en_M) := Classical.choose ox_X2_read
theorem oe_X2_read : O_X2_read = P_X2_read := Classical.choose_spec ox_X2_read
theorem o_X2_read (σ : en_M) : O_X2_read [.inr (100, 2, 0, 0), .inr (1, 8, 0, 0)] σ = en_oi (T_X2_read_0 σ) := by rw [oe_X2_read]; rfl
theorem i_X2_read (G : en_G) (hst : G.2.2.2.2.2 = true) : en_I G 4 yX2_read cX2_read 5 (some .int) 0 0 (en_wi (O_X2_read)) := en_of_i (M := M_X2_read) hst (s_X2_read_0 G hst _ (l_X2_read G hst en_FU)) (plainFor_of_name (by decide +kernel)) rfl rfl rfl (Or.inl ⟨rfl, rfl⟩) (fun av σ x σ' h => by
  rw [oe_X2_read] at h; unfold P_X2_read at h
  split at h
  · exact ⟨(Nat.le_of_ble_eq_true rfl), en_oi_some h⟩
  · cases h)
-- EachMayMissOne$Pairs.begin(I)V
def M_X3_begin : en_Me := (cX3_begin, RX3, 2, false, 1, false)
theorem cs_X3_begin : en_cs yX3_begin cX3_begin 2 none 1 := ⟨wm_817, wm_47, ⟨(by decide +kernel), (by decide +kernel), (by decide +kernel)⟩, (Nat.le_of_ble_eq_true rfl)⟩
noncomputable def B_X3_begin_0 (kc : Nat → en_B) : en_B := (op_aload 0 (op_iload 1 (op_puti 3 2 op_vret)))
set_option maxRecDepth 20000 in
theorem s_X3_begin_0 (G : en_G) (hst : G.2.2.2.2.2 = true) (kc : Nat → en_B) (hk : ∀ t, en_Snd G M_X3_begin t (kc t)) : en_Snd G M_X3_begin 0 (B_X3_begin_0 kc) := (sn_aload_n (i := 0) (n := 0) (by decide +kernel) rfl (sn_iload_n (i := 1) (n := 1) (by decide +kernel) rfl (sn_puti (ci := 3) (j := 2) en_c3 (by decide +kernel) wm_820 (Nat.le_of_ble_eq_true rfl) rfl rfl rfl (sn_vret (by decide +kernel)))))
noncomputable def LK_X3_begin : Nat → Nat → en_B
  | 0, _ => en_no
  | n + 1, t => en_no
theorem l_X3_begin (G : en_G) (hst : G.2.2.2.2.2 = true) : ∀ n t, en_Snd G M_X3_begin t (LK_X3_begin n t)
  | 0, _ => sn_no
  | n + 1, t => by
    show en_Snd G M_X3_begin t (en_no)
    exact sn_no
noncomputable def T_X3_begin_0 (x1 : Int32) (σ : en_M) : en_R := B_X3_begin_0 (LK_X3_begin en_FU) [.inr (172, 3, 0, 0), .inl x1] [] en_zz σ
set_option maxRecDepth 400000 in
set_option maxHeartbeats 4000000 in
theorem t_X3_begin_0 (x1 : Int32) (σ : en_M) : T_X3_begin_0 x1 σ = (en_rv (en_up σ 172 2 x1)) := rfl
noncomputable def P_X3_begin : List en_V → en_M → Option en_M := fun av σ => match av with
  | [.inr (172, 3, 0, 0), .inl x1] => en_ov (T_X3_begin_0 x1 σ)
  | _ => none
theorem ox_X3_begin : ∃ f, f = P_X3_begin := ⟨_, rfl⟩
noncomputable def O_X3_begin : List en_V → en_M → Option en_M := Classical.choose ox_X3_begin
theorem oe_X3_begin : O_X3_begin = P_X3_begin := Classical.choose_spec ox_X3_begin
theorem o_X3_begin (x1 : Int32) (σ : en_M) : O_X3_begin [.inr (172, 3, 0, 0), .inl x1] σ = en_ov (T_X3_begin_0 x1 σ) := by rw [oe_X3_begin]; rfl
theorem i_X3_begin (G : en_G) (hst : G.2.2.2.2.2 = true) : en_I G 1 yX3_begin cX3_begin 2 none 0 0 (en_wv (O_X3_begin)) := en_of_v (M := M_X3_begin) hst (s_X3_begin_0 G hst _ (l_X3_begin G hst en_FU)) (plainFor_of_name (by decide +kernel)) rfl rfl rfl (fun av σ σ' h => by
  rw [oe_X3_begin] at h; unfold P_X3_begin at h
  split at h
  · exact ⟨(Nat.le_of_ble_eq_true rfl), en_ov_some h⟩
  · cases h)
-- EachMayMissOne$Pairs.both(II)Z
def M_X3_both : en_Me := (cX3_both, RX3, 3, false, 2, true)
theorem cs_X3_both : en_cs yX3_both cX3_both 3 (some .boolean) 2 := ⟨wm_821, wm_47, ⟨(by decide +kernel), (by decide +kernel), (by decide +kernel)⟩, (Nat.le_of_ble_eq_true rfl)⟩
noncomputable def B_X3_both_29 (kc : Nat → en_B) : en_B := op_zret
set_option maxRecDepth 20000 in
theorem s_X3_both_29 (G : en_G) (hst : G.2.2.2.2.2 = true) (kc : Nat → en_B) (hk : ∀ t, en_Snd G M_X3_both t (kc t)) : en_Snd G M_X3_both 29 (B_X3_both_29 kc) := (sn_zret (by decide +kernel))
noncomputable def B_X3_both_28 (kc : Nat → en_B) : en_B := (op_const (0 : Int32) (B_X3_both_29 kc))
set_option maxRecDepth 20000 in
theorem s_X3_both_28 (G : en_G) (hst : G.2.2.2.2.2 = true) (kc : Nat → en_B) (hk : ∀ t, en_Snd G M_X3_both t (kc t)) : en_Snd G M_X3_both 28 (B_X3_both_28 kc) := (sn_iconst (n := 0) (v := 0) (by decide +kernel) rfl (s_X3_both_29 G hst kc hk))
noncomputable def B_X3_both_0 (kc : Nat → en_B) : en_B := (op_aload 0 (op_geti 3 2 (op_iload 1 (op_calli O_X11_bit 2 (op_const (1 : Int32) (op_iceq (op_aload 0 (op_geti 3 2 (op_iload 2 (op_calli O_X11_bit 2 (op_const (1 : Int32) (op_iceq (op_const (1 : Int32) (B_X3_both_29 kc)) (B_X3_both_28 kc))))))) (B_X3_both_28 kc)))))))
set_option maxRecDepth 20000 in
theorem s_X3_both_0 (G : en_G) (hst : G.2.2.2.2.2 = true) (kc : Nat → en_B) (hk : ∀ t, en_Snd G M_X3_both t (kc t)) : en_Snd G M_X3_both 0 (B_X3_both_0 kc) := (sn_aload_n (i := 0) (n := 0) (by decide +kernel) rfl (sn_geti (ci := 3) (j := 2) en_c3 (by decide +kernel) wm_820 (Nat.le_of_ble_eq_true rfl) rfl (sn_iload_n (i := 1) (n := 1) (by decide +kernel) rfl (sn_callSi (n := 2) (idx := 24) (i_X11_bit G hst) (Nat.le_of_ble_eq_true rfl) cs_X11_bit ⟨wm_257, Or.inr (by decide +kernel)⟩ (by decide +kernel) (sn_iconst (n := 1) (v := 1) (by decide +kernel) rfl (sn_icne (off := 19) (tgt := 28) (by decide +kernel) rfl (s_X3_both_28 G hst kc hk) (sn_aload_n (i := 0) (n := 0) (by decide +kernel) rfl (sn_geti (ci := 3) (j := 2) en_c3 (by decide +kernel) wm_820 (Nat.le_of_ble_eq_true rfl) rfl (sn_iload_n (i := 2) (n := 2) (by decide +kernel) rfl (sn_callSi (n := 2) (idx := 24) (i_X11_bit G hst) (Nat.le_of_ble_eq_true rfl) cs_X11_bit ⟨wm_257, Or.inr (by decide +kernel)⟩ (by decide +kernel) (sn_iconst (n := 1) (v := 1) (by decide +kernel) rfl (sn_icne (off := 7) (tgt := 28) (by decide +kernel) rfl (s_X3_both_28 G hst kc hk) (sn_iconst (n := 1) (v := 1) (by decide +kernel) rfl (sn_goto (off := 4) (tgt := 29) (by decide +kernel) rfl (s_X3_both_29 G hst kc hk)))))))))))))))
noncomputable def LK_X3_both : Nat → Nat → en_B
  | 0, _ => en_no
  | n + 1, t => en_no
theorem l_X3_both (G : en_G) (hst : G.2.2.2.2.2 = true) : ∀ n t, en_Snd G M_X3_both t (LK_X3_both n t)
  | 0, _ => sn_no
  | n + 1, t => by
    show en_Snd G M_X3_both t (en_no)
    exact sn_no
noncomputable def T_X3_both_0 (x1 : Int32) (x2 : Int32) (σ : en_M) : en_R := B_X3_both_0 (LK_X3_both en_FU) [.inr (172, 3, 0, 0), .inl x1, .inl x2] [] en_zz σ
set_option maxRecDepth 400000 in
set_option maxHeartbeats 4000000 in
theorem t_X3_both_0 (x1 : Int32) (x2 : Int32) (σ : en_M) : T_X3_both_0 x1 x2 σ = ((O_X11_bit [.inl (σ 172 2), .inl x1] σ).bind fun r1 => if r1.1 = (1 : Int32) then ((O_X11_bit [.inl (r1.2 172 2), .inl x2] r1.2).bind fun r2 => if r2.1 = (1 : Int32) then (if (1 : Int32) = 0 ∨ (1 : Int32) = 1 then en_ri (1 : Int32) r2.2 else none) else (if (0 : Int32) = 0 ∨ (0 : Int32) = 1 then en_ri (0 : Int32) r2.2 else none)) else (if (0 : Int32) = 0 ∨ (0 : Int32) = 1 then en_ri (0 : Int32) r1.2 else none)) := rfl
noncomputable def P_X3_both : List en_V → en_M → Option (Int32 × en_M) := fun av σ => match av with
  | [.inr (172, 3, 0, 0), .inl x1, .inl x2] => en_oi (T_X3_both_0 x1 x2 σ)
  | _ => none
theorem ox_X3_both : ∃ f, f = P_X3_both := ⟨_, rfl⟩
noncomputable def O_X3_both : List en_V → en_M → Option (Int32 × en_M) := Classical.choose ox_X3_both
theorem oe_X3_both : O_X3_both = P_X3_both := Classical.choose_spec ox_X3_both
theorem o_X3_both (x1 : Int32) (x2 : Int32) (σ : en_M) : O_X3_both [.inr (172, 3, 0, 0), .inl x1, .inl x2] σ = en_oi (T_X3_both_0 x1 x2 σ) := by rw [oe_X3_both]; rfl
theorem i_X3_both (G : en_G) (hst : G.2.2.2.2.2 = true) : en_I G 2 yX3_both cX3_both 3 (some .boolean) 0 0 (en_wi (O_X3_both)) := en_of_i (M := M_X3_both) hst (s_X3_both_0 G hst _ (l_X3_both G hst en_FU)) (plainFor_of_name (by decide +kernel)) rfl rfl rfl (Or.inr ⟨Or.inl rfl, rfl⟩) (fun av σ x σ' h => by
  rw [oe_X3_both] at h; unfold P_X3_both at h
  split at h
  · exact ⟨(Nat.le_of_ble_eq_true rfl), en_oi_some h⟩
  · cases h)
-- EachMayMissOne$Pairs.put(III)V
def M_X3_put : en_Me := (cX3_put, RX3, 4, false, 1, false)
theorem cs_X3_put : en_cs yX3_put cX3_put 4 none 3 := ⟨wm_825, wm_47, ⟨(by decide +kernel), (by decide +kernel), (by decide +kernel)⟩, (Nat.le_of_ble_eq_true rfl)⟩
noncomputable def B_X3_put_0 (kc : Nat → en_B) : en_B := (op_aload 0 (op_gets 3 1 (23, 7, 7) (op_iload 1 (op_aldM (op_iload 2 (op_iload 3 (op_ast 20 (fun (x : Int32) => x) (op_aload 0 (op_gets 3 1 (23, 7, 7) (op_iload 2 (op_aldM (op_iload 1 (op_iload 3 (op_ast 20 (fun (x : Int32) => x) op_vret))))))))))))))
set_option maxRecDepth 20000 in
theorem s_X3_put_0 (G : en_G) (hst : G.2.2.2.2.2 = true) (kc : Nat → en_B) (hk : ∀ t, en_Snd G M_X3_put t (kc t)) : en_Snd G M_X3_put 0 (B_X3_put_0 kc) := (sn_aload_n (i := 0) (n := 0) (by decide +kernel) rfl (sn_gets (ci := 3) (j := 0) (off := 1) hst en_c3 of_3_1 (Nat.le_of_ble_eq_true rfl) (by decide +kernel) wm_815 (Nat.le_of_ble_eq_true rfl) rfl (sn_iload_n (i := 1) (n := 1) (by decide +kernel) rfl (sn_aldM hst (by decide +kernel) (sn_iload_n (i := 2) (n := 2) (by decide +kernel) rfl (sn_iload_n (i := 3) (n := 3) (by decide +kernel) rfl (sn_iast (by decide +kernel) (sn_aload_n (i := 0) (n := 0) (by decide +kernel) rfl (sn_gets (ci := 3) (j := 0) (off := 1) hst en_c3 of_3_1 (Nat.le_of_ble_eq_true rfl) (by decide +kernel) wm_815 (Nat.le_of_ble_eq_true rfl) rfl (sn_iload_n (i := 2) (n := 2) (by decide +kernel) rfl (sn_aldM hst (by decide +kernel) (sn_iload_n (i := 1) (n := 1) (by decide +kernel) rfl (sn_iload_n (i := 3) (n := 3) (by decide +kernel) rfl (sn_iast (by decide +kernel) (sn_vret (by decide +kernel))))))))))))))))
noncomputable def LK_X3_put : Nat → Nat → en_B
  | 0, _ => en_no
  | n + 1, t => en_no
theorem l_X3_put (G : en_G) (hst : G.2.2.2.2.2 = true) : ∀ n t, en_Snd G M_X3_put t (LK_X3_put n t)
  | 0, _ => sn_no
  | n + 1, t => by
    show en_Snd G M_X3_put t (en_no)
    exact sn_no
noncomputable def T_X3_put_0 (x1 : Int32) (x2 : Int32) (x3 : Int32) (σ : en_M) : en_R := B_X3_put_0 (LK_X3_put en_FU) [.inr (172, 3, 0, 0), .inl x1, .inl x2, .inl x3] [] en_zz σ
set_option maxRecDepth 400000 in
set_option maxHeartbeats 4000000 in
theorem t_X3_put_0 (x1 : Int32) (x2 : Int32) (x3 : Int32) (σ : en_M) : T_X3_put_0 x1 x2 x3 σ = ((en_ix x1 7).bind fun j1 => (en_ix x2 7).bind fun j2 => (en_ix x2 7).bind fun j3 => (en_ix x1 7).bind fun j4 => en_rv (en_up (en_up σ (173 + 1 + j1) j2 x3) (173 + 1 + j3) j4 x3)) := rfl
noncomputable def P_X3_put : List en_V → en_M → Option en_M := fun av σ => match av with
  | [.inr (172, 3, 0, 0), .inl x1, .inl x2, .inl x3] => en_ov (T_X3_put_0 x1 x2 x3 σ)
  | _ => none
theorem ox_X3_put : ∃ f, f = P_X3_put := ⟨_, rfl⟩
noncomputable def O_X3_put : List en_V → en_M → Option en_M := Classical.choose ox_X3_put
theorem oe_X3_put : O_X3_put = P_X3_put := Classical.choose_spec ox_X3_put
theorem o_X3_put (x1 : Int32) (x2 : Int32) (x3 : Int32) (σ : en_M) : O_X3_put [.inr (172, 3, 0, 0), .inl x1, .inl x2, .inl x3] σ = en_ov (T_X3_put_0 x1 x2 x3 σ) := by rw [oe_X3_put]; rfl
theorem i_X3_put (G : en_G) (hst : G.2.2.2.2.2 = true) : en_I G 1 yX3_put cX3_put 4 none 0 0 (en_wv (O_X3_put)) := en_of_v (M := M_X3_put) hst (s_X3_put_0 G hst _ (l_X3_put G hst en_FU)) (plainFor_of_name (by decide +kernel)) rfl rfl rfl (fun av σ σ' h => by
  rw [oe_X3_put] at h; unfold P_X3_put at h
  split at h
  · exact ⟨(Nat.le_of_ble_eq_true rfl), en_ov_some h⟩
  · cases h)
-- EachMayMissOne.firstOf(I)I
def M_X11_firstOf : en_Me := (cX11_firstOf, RX11, 2, false, 2, false)
theorem cs_X11_firstOf : en_cs yX11_firstOf cX11_firstOf 2 (some .int) 1 := ⟨wm_258, wm_2, ⟨(by decide +kernel), (by decide +kernel), (by decide +kernel)⟩, (Nat.le_of_ble_eq_true rfl)⟩
noncomputable def B_X11_firstOf_25 (kc : Nat → en_B) : en_B := (op_const (-1 : Int32) op_iret)
set_option maxRecDepth 20000 in
theorem s_X11_firstOf_25 (G : en_G) (hst : G.2.2.2.2.2 = true) (kc : Nat → en_B) (hk : ∀ t, en_Snd G M_X11_firstOf t (kc t)) : en_Snd G M_X11_firstOf 25 (B_X11_firstOf_25 kc) := (sn_iconst (n := -1) (v := -1) (by decide +kernel) rfl (sn_iret (by decide +kernel) rfl))
noncomputable def B_X11_firstOf_19 (kc : Nat → en_B) : en_B := (op_iinc 1 (1 : Int32) (kc 2))
set_option maxRecDepth 20000 in
theorem s_X11_firstOf_19 (G : en_G) (hst : G.2.2.2.2.2 = true) (kc : Nat → en_B) (hk : ∀ t, en_Snd G M_X11_firstOf t (kc t)) : en_Snd G M_X11_firstOf 19 (B_X11_firstOf_19 kc) := (sn_iinc (i := 1) (n := 1) (v := 1) (by decide +kernel) rfl (sn_goto (off := -20) (tgt := 2) (by decide +kernel) rfl (hk 2)))
noncomputable def B_X11_firstOf_2 (kc : Nat → en_B) : en_B := (op_iload 1 (op_const (7 : Int32) (op_iclt (op_iload 0 (op_iload 1 (op_calli O_X11_bit 2 (op_const (1 : Int32) (op_iceq (op_iload 1 op_iret) (B_X11_firstOf_19 kc)))))) (B_X11_firstOf_25 kc))))
set_option maxRecDepth 20000 in
theorem s_X11_firstOf_2 (G : en_G) (hst : G.2.2.2.2.2 = true) (kc : Nat → en_B) (hk : ∀ t, en_Snd G M_X11_firstOf t (kc t)) : en_Snd G M_X11_firstOf 2 (B_X11_firstOf_2 kc) := (sn_iload_n (i := 1) (n := 1) (by decide +kernel) rfl (sn_bipush (n := 7) (v := 7) (by decide +kernel) rfl (sn_icge (off := 20) (tgt := 25) (by decide +kernel) rfl (s_X11_firstOf_25 G hst kc hk) (sn_iload_n (i := 0) (n := 0) (by decide +kernel) rfl (sn_iload_n (i := 1) (n := 1) (by decide +kernel) rfl (sn_callSi (n := 2) (idx := 163) (i_X11_bit G hst) (Nat.le_of_ble_eq_true rfl) cs_X11_bit ⟨wm_257, Or.inl wm_92⟩ (by decide +kernel) (sn_iconst (n := 1) (v := 1) (by decide +kernel) rfl (sn_icne (off := 5) (tgt := 19) (by decide +kernel) rfl (s_X11_firstOf_19 G hst kc hk) (sn_iload_n (i := 1) (n := 1) (by decide +kernel) rfl (sn_iret (by decide +kernel) rfl))))))))))
noncomputable def B_X11_firstOf_0 (kc : Nat → en_B) : en_B := (op_const (0 : Int32) (op_istore 1 (kc 2)))
set_option maxRecDepth 20000 in
theorem s_X11_firstOf_0 (G : en_G) (hst : G.2.2.2.2.2 = true) (kc : Nat → en_B) (hk : ∀ t, en_Snd G M_X11_firstOf t (kc t)) : en_Snd G M_X11_firstOf 0 (B_X11_firstOf_0 kc) := (sn_iconst (n := 0) (v := 0) (by decide +kernel) rfl (sn_istore_n (i := 1) (n := 1) (by decide +kernel) rfl (Nat.le_of_ble_eq_true rfl) (hk 2)))
noncomputable def LK_X11_firstOf : Nat → Nat → en_B
  | 0, _ => en_no
  | n + 1, t => if t = 2 then B_X11_firstOf_2 (LK_X11_firstOf n) else en_no
theorem l_X11_firstOf (G : en_G) (hst : G.2.2.2.2.2 = true) : ∀ n t, en_Snd G M_X11_firstOf t (LK_X11_firstOf n t)
  | 0, _ => sn_no
  | n + 1, t => by
    show en_Snd G M_X11_firstOf t (if t = 2 then B_X11_firstOf_2 (LK_X11_firstOf n) else en_no)
    by_cases h_2 : t = 2
    · rw [if_pos h_2, h_2]; exact s_X11_firstOf_2 G hst _ (l_X11_firstOf G hst n)
    rw [if_neg h_2]
    exact sn_no
noncomputable def T_X11_firstOf_0 (x0 : Int32) (σ : en_M) : en_R := B_X11_firstOf_0 (LK_X11_firstOf en_FU) [.inl x0, en_un] [] en_zz σ
noncomputable def T_X11_firstOf_2 (n : Nat) (x0 : Int32) (x1 : Int32) (σ : en_M) : en_R := LK_X11_firstOf n 2 [.inl x0, .inl x1] [] en_zz σ
set_option maxRecDepth 400000 in
set_option maxHeartbeats 4000000 in
theorem t_X11_firstOf_0 (x0 : Int32) (σ : en_M) : T_X11_firstOf_0 x0 σ = (T_X11_firstOf_2 en_FU x0 (0 : Int32) σ) := rfl
set_option maxRecDepth 400000 in
set_option maxHeartbeats 4000000 in
theorem t_X11_firstOf_2 (n : Nat) (x0 : Int32) (x1 : Int32) (σ : en_M) : T_X11_firstOf_2 (n + 1) x0 x1 σ = (if x1 < (7 : Int32) then ((O_X11_bit [.inl x0, .inl x1] σ).bind fun r1 => if r1.1 = (1 : Int32) then (en_ri x1 r1.2) else (T_X11_firstOf_2 n x0 (x1 + (1 : Int32)) r1.2)) else (en_ri (-1 : Int32) σ)) := rfl
noncomputable def P_X11_firstOf : List en_V → en_M → Option (Int32 × en_M) := fun av σ => match av with
  | [.inl x0] => en_oi (T_X11_firstOf_0 x0 σ)
  | _ => none
theorem ox_X11_firstOf : ∃ f, f = P_X11_firstOf := ⟨_, rfl⟩
noncomputable def O_X11_firstOf : List en_V → en_M → Option (Int32 × en_M) := Classical.choose ox_X11_firstOf
theorem oe_X11_firstOf : O_X11_firstOf = P_X11_firstOf := Classical.choose_spec ox_X11_firstOf
theorem o_X11_firstOf (x0 : Int32) (σ : en_M) : O_X11_firstOf [.inl x0] σ = en_oi (T_X11_firstOf_0 x0 σ) := by rw [oe_X11_firstOf]; rfl
theorem i_X11_firstOf (G : en_G) (hst : G.2.2.2.2.2 = true) : en_I G 2 yX11_firstOf cX11_firstOf 2 (some .int) 0 0 (en_wi (O_X11_firstOf)) := en_of_i (M := M_X11_firstOf) hst (s_X11_firstOf_0 G hst _ (l_X11_firstOf G hst en_FU)) (plainFor_of_name (by decide +kernel)) rfl rfl rfl (Or.inl ⟨rfl, rfl⟩) (fun av σ x σ' h => by
  rw [oe_X11_firstOf] at h; unfold P_X11_firstOf at h
  split at h
  · exact ⟨(Nat.le_of_ble_eq_true rfl), en_oi_some h⟩
  · cases h)
-- EachMayMissOne$Pairs.withPartner(III)I
def M_X3_withPartner : en_Me := (cX3_withPartner, RX3, 5, false, 2, false)
theorem cs_X3_withPartner : en_cs yX3_withPartner cX3_withPartner 5 (some .int) 3 := ⟨wm_846, wm_47, ⟨(by decide +kernel), (by decide +kernel), (by decide +kernel)⟩, (Nat.le_of_ble_eq_true rfl)⟩
noncomputable def B_X3_withPartner_47 (kc : Nat → en_B) : en_B := (op_aload 0 (op_gets 3 1 (23, 7, 7) (op_iload 2 (op_aldM (op_iload 3 (op_ald 20 (op_aload 0 (op_gets 3 9 (20, 128, 0) (op_iload 4 (op_const (1 : Int32) (op_iload 3 (op_bin en_shl (op_const (-1 : Int32) (op_bin (fun (x y : Int32) => x ^^^ y) (op_bin (fun (x y : Int32) => x &&& y) (op_ald 20 (op_bin (fun (x y : Int32) => x + y) op_iret)))))))))))))))))
set_option maxRecDepth 20000 in
theorem s_X3_withPartner_47 (G : en_G) (hst : G.2.2.2.2.2 = true) (kc : Nat → en_B) (hk : ∀ t, en_Snd G M_X3_withPartner t (kc t)) : en_Snd G M_X3_withPartner 47 (B_X3_withPartner_47 kc) := (sn_aload_n (i := 0) (n := 0) (by decide +kernel) rfl (sn_gets (ci := 3) (j := 0) (off := 1) hst en_c3 of_3_1 (Nat.le_of_ble_eq_true rfl) (by decide +kernel) wm_815 (Nat.le_of_ble_eq_true rfl) rfl (sn_iload_n (i := 2) (n := 2) (by decide +kernel) rfl (sn_aldM hst (by decide +kernel) (sn_iload_n (i := 3) (n := 3) (by decide +kernel) rfl (sn_iald (by decide +kernel) (sn_aload_n (i := 0) (n := 0) (by decide +kernel) rfl (sn_gets (ci := 3) (j := 1) (off := 9) hst en_c3 of_3_9 (Nat.le_of_ble_eq_true rfl) (by decide +kernel) wm_816 (Nat.le_of_ble_eq_true rfl) rfl (sn_iload (i := 4) (by decide +kernel) (sn_iconst (n := 1) (v := 1) (by decide +kernel) rfl (sn_iload_n (i := 3) (n := 3) (by decide +kernel) rfl (sn_ishl (by decide +kernel) (sn_iconst (n := -1) (v := -1) (by decide +kernel) rfl (sn_ixor (by decide +kernel) (sn_iand (by decide +kernel) (sn_iald (by decide +kernel) (sn_iadd (by decide +kernel) (sn_iret (by decide +kernel) rfl))))))))))))))))))
noncomputable def B_X3_withPartner_36 (kc : Nat → en_B) : en_B := (op_iload 4 (op_iload 3 (op_calli O_X11_bit 2 (op_ifeq (op_const (-1 : Int32) op_iret) (B_X3_withPartner_47 kc)))))
set_option maxRecDepth 20000 in
theorem s_X3_withPartner_36 (G : en_G) (hst : G.2.2.2.2.2 = true) (kc : Nat → en_B) (hk : ∀ t, en_Snd G M_X3_withPartner t (kc t)) : en_Snd G M_X3_withPartner 36 (B_X3_withPartner_36 kc) := (sn_iload (i := 4) (by decide +kernel) (sn_iload_n (i := 3) (n := 3) (by decide +kernel) rfl (sn_callSi (n := 2) (idx := 24) (i_X11_bit G hst) (Nat.le_of_ble_eq_true rfl) cs_X11_bit ⟨wm_257, Or.inr (by decide +kernel)⟩ (by decide +kernel) (sn_ifne (off := 5) (tgt := 47) (by decide +kernel) rfl (s_X3_withPartner_47 G hst kc hk) (sn_iconst (n := -1) (v := -1) (by decide +kernel) rfl (sn_iret (by decide +kernel) rfl))))))
noncomputable def B_X3_withPartner_35 (kc : Nat → en_B) : en_B := op_iret
set_option maxRecDepth 20000 in
theorem s_X3_withPartner_35 (G : en_G) (hst : G.2.2.2.2.2 = true) (kc : Nat → en_B) (hk : ∀ t, en_Snd G M_X3_withPartner t (kc t)) : en_Snd G M_X3_withPartner 35 (B_X3_withPartner_35 kc) := (sn_iret (by decide +kernel) rfl)
noncomputable def B_X3_withPartner_34 (kc : Nat → en_B) : en_B := (op_const (-1 : Int32) (B_X3_withPartner_35 kc))
set_option maxRecDepth 20000 in
theorem s_X3_withPartner_34 (G : en_G) (hst : G.2.2.2.2.2 = true) (kc : Nat → en_B) (hk : ∀ t, en_Snd G M_X3_withPartner t (kc t)) : en_Snd G M_X3_withPartner 34 (B_X3_withPartner_34 kc) := (sn_iconst (n := -1) (v := -1) (by decide +kernel) rfl (s_X3_withPartner_35 G hst kc hk))
noncomputable def B_X3_withPartner_0 (kc : Nat → en_B) : en_B := (op_iload 1 (op_const (1 : Int32) (op_iload 2 (op_bin en_shl (op_const (-1 : Int32) (op_bin (fun (x y : Int32) => x ^^^ y) (op_bin (fun (x y : Int32) => x &&& y) (op_istore 4 (op_iload 3 (op_const (-1 : Int32) (op_iceq (op_iload 1 (op_calli O_J6_bitCount_0f7a4 1 (op_const (2 : Int32) (op_div (fun (x y : Int32) => x - x / y * y) (op_const (1 : Int32) (op_iceq (op_aload 0 (op_gets 3 9 (20, 128, 0) (op_iload 4 (op_ald 20 (B_X3_withPartner_35 kc))))) (B_X3_withPartner_34 kc))))))) (B_X3_withPartner_36 kc))))))))))))
set_option maxRecDepth 20000 in
theorem s_X3_withPartner_0 (G : en_G) (hst : G.2.2.2.2.2 = true) (kc : Nat → en_B) (hk : ∀ t, en_Snd G M_X3_withPartner t (kc t)) : en_Snd G M_X3_withPartner 0 (B_X3_withPartner_0 kc) := (sn_iload_n (i := 1) (n := 1) (by decide +kernel) rfl (sn_iconst (n := 1) (v := 1) (by decide +kernel) rfl (sn_iload_n (i := 2) (n := 2) (by decide +kernel) rfl (sn_ishl (by decide +kernel) (sn_iconst (n := -1) (v := -1) (by decide +kernel) rfl (sn_ixor (by decide +kernel) (sn_iand (by decide +kernel) (sn_istore (i := 4) (by decide +kernel) (Nat.le_of_ble_eq_true rfl) (sn_iload_n (i := 3) (n := 3) (by decide +kernel) rfl (sn_iconst (n := -1) (v := -1) (by decide +kernel) rfl (sn_icne (off := 25) (tgt := 36) (by decide +kernel) rfl (s_X3_withPartner_36 G hst kc hk) (sn_iload_n (i := 1) (n := 1) (by decide +kernel) rfl (sn_callSi (n := 1) (idx := 62) (i_J6_bitCount_0f7a4 G hst) (Nat.le_of_ble_eq_true rfl) cs_J6_bitCount_0f7a4 ⟨wm_511, Or.inl wm_849⟩ (by decide +kernel) (sn_iconst (n := 2) (v := 2) (by decide +kernel) rfl (sn_irem (by decide +kernel) (sn_iconst (n := 1) (v := 1) (by decide +kernel) rfl (sn_icne (off := 13) (tgt := 34) (by decide +kernel) rfl (s_X3_withPartner_34 G hst kc hk) (sn_aload_n (i := 0) (n := 0) (by decide +kernel) rfl (sn_gets (ci := 3) (j := 1) (off := 9) hst en_c3 of_3_9 (Nat.le_of_ble_eq_true rfl) (by decide +kernel) wm_816 (Nat.le_of_ble_eq_true rfl) rfl (sn_iload (i := 4) (by decide +kernel) (sn_iald (by decide +kernel) (sn_goto (off := 4) (tgt := 35) (by decide +kernel) rfl (s_X3_withPartner_35 G hst kc hk)))))))))))))))))))))))
noncomputable def LK_X3_withPartner : Nat → Nat → en_B
  | 0, _ => en_no
  | n + 1, t => en_no
theorem l_X3_withPartner (G : en_G) (hst : G.2.2.2.2.2 = true) : ∀ n t, en_Snd G M_X3_withPartner t (LK_X3_withPartner n t)
  | 0, _ => sn_no
  | n + 1, t => by
    show en_Snd G M_X3_withPartner t (en_no)
    exact sn_no
noncomputable def T_X3_withPartner_0 (x1 : Int32) (x2 : Int32) (x3 : Int32) (σ : en_M) : en_R := B_X3_withPartner_0 (LK_X3_withPartner en_FU) [.inr (172, 3, 0, 0), .inl x1, .inl x2, .inl x3, en_un] [] en_zz σ
set_option maxRecDepth 400000 in
set_option maxHeartbeats 4000000 in
theorem t_X3_withPartner_0 (x1 : Int32) (x2 : Int32) (x3 : Int32) (σ : en_M) : T_X3_withPartner_0 x1 x2 x3 σ = (if x3 = (-1 : Int32) then ((O_J6_bitCount_0f7a4 [.inl x1] σ).bind fun r5 => if (2 : Int32) = 0 then none else (if (r5.1 - r5.1 / (2 : Int32) * (2 : Int32)) = (1 : Int32) then ((en_ix (x1 &&& ((en_shl (1 : Int32) x2) ^^^ (-1 : Int32))) 128).bind fun j6 => en_ri (r5.2 181 j6) r5.2) else (en_ri (-1 : Int32) r5.2))) else ((O_X11_bit [.inl (x1 &&& ((en_shl (1 : Int32) x2) ^^^ (-1 : Int32))), .inl x3] σ).bind fun r1 => if r1.1 = 0 then (en_ri (-1 : Int32) r1.2) else ((en_ix x2 7).bind fun j2 => (en_ix x3 7).bind fun j3 => (en_ix ((x1 &&& ((en_shl (1 : Int32) x2) ^^^ (-1 : Int32))) &&& ((en_shl (1 : Int32) x3) ^^^ (-1 : Int32))) 128).bind fun j4 => en_ri ((r1.2 (173 + 1 + j2) j3) + (r1.2 181 j4)) r1.2))) := rfl
noncomputable def P_X3_withPartner : List en_V → en_M → Option (Int32 × en_M) := fun av σ => match av with
  | [.inr (172, 3, 0, 0), .inl x1, .inl x2, .inl x3] => en_oi (T_X3_withPartner_0 x1 x2 x3 σ)
  | _ => none
theorem ox_X3_withPartner : ∃ f, f = P_X3_withPartner := ⟨_, rfl⟩
noncomputable def O_X3_withPartner : List en_V → en_M → Option (Int32 × en_M) := Classical.choose ox_X3_withPartner
theorem oe_X3_withPartner : O_X3_withPartner = P_X3_withPartner := Classical.choose_spec ox_X3_withPartner
theorem o_X3_withPartner (x1 : Int32) (x2 : Int32) (x3 : Int32) (σ : en_M) : O_X3_withPartner [.inr (172, 3, 0, 0), .inl x1, .inl x2, .inl x3] σ = en_oi (T_X3_withPartner_0 x1 x2 x3 σ) := by rw [oe_X3_withPartner]; rfl
theorem i_X3_withPartner (G : en_G) (hst : G.2.2.2.2.2 = true) : en_I G 2 yX3_withPartner cX3_withPartner 5 (some .int) 0 0 (en_wi (O_X3_withPartner)) := en_of_i (M := M_X3_withPartner) hst (s_X3_withPartner_0 G hst _ (l_X3_withPartner G hst en_FU)) (plainFor_of_name (by decide +kernel)) rfl rfl rfl (Or.inl ⟨rfl, rfl⟩) (fun av σ x σ' h => by
  rw [oe_X3_withPartner] at h; unfold P_X3_withPartner at h
  split at h
  · exact ⟨(Nat.le_of_ble_eq_true rfl), en_oi_some h⟩
  · cases h)
-- EachMayMissOne$Pairs.bestOf(I)I
def M_X3_bestOf : en_Me := (cX3_bestOf, RX3, 5, false, 3, false)
theorem cs_X3_bestOf : en_cs yX3_bestOf cX3_bestOf 5 (some .int) 1 := ⟨wm_837, wm_47, ⟨(by decide +kernel), (by decide +kernel), (by decide +kernel)⟩, (Nat.le_of_ble_eq_true rfl)⟩
noncomputable def B_X3_bestOf_36 (kc : Nat → en_B) : en_B := (op_iload 3 op_iret)
set_option maxRecDepth 20000 in
theorem s_X3_bestOf_36 (G : en_G) (hst : G.2.2.2.2.2 = true) (kc : Nat → en_B) (hk : ∀ t, en_Snd G M_X3_bestOf t (kc t)) : en_Snd G M_X3_bestOf 36 (B_X3_bestOf_36 kc) := (sn_iload_n (i := 3) (n := 3) (by decide +kernel) rfl (sn_iret (by decide +kernel) rfl))
noncomputable def B_X3_bestOf_10 (kc : Nat → en_B) : en_B := (op_iload 4 (op_const (7 : Int32) (op_iclt (op_iload 3 (op_aload 0 (op_iload 1 (op_iload 2 (op_iload 4 (op_rcv 3 3 (op_calli O_X3_withPartner 4 (op_calli O_J9_max_7cf53 2 (op_istore 3 (op_iinc 4 (1 : Int32) (kc 10))))))))))) (B_X3_bestOf_36 kc))))
set_option maxRecDepth 20000 in
theorem s_X3_bestOf_10 (G : en_G) (hst : G.2.2.2.2.2 = true) (kc : Nat → en_B) (hk : ∀ t, en_Snd G M_X3_bestOf t (kc t)) : en_Snd G M_X3_bestOf 10 (B_X3_bestOf_10 kc) := (sn_iload (i := 4) (by decide +kernel) (sn_bipush (n := 7) (v := 7) (by decide +kernel) rfl (sn_icge (off := 22) (tgt := 36) (by decide +kernel) rfl (s_X3_bestOf_36 G hst kc hk) (sn_iload_n (i := 3) (n := 3) (by decide +kernel) rfl (sn_aload_n (i := 0) (n := 0) (by decide +kernel) rfl (sn_iload_n (i := 1) (n := 1) (by decide +kernel) rfl (sn_iload_n (i := 2) (n := 2) (by decide +kernel) rfl (sn_iload (i := 4) (by decide +kernel) (sn_callVi (n := 3) (idx := 54) (ci := 3) (i_X3_withPartner G hst) (Nat.le_of_ble_eq_true rfl) cs_X3_withPartner ⟨wm_847, wm_848, wm_841⟩ ⟨⟨_, rfl, rfl⟩, (Nat.le_of_ble_eq_true rfl)⟩ (by decide +kernel) (sn_callSi (n := 2) (idx := 57) (i_J9_max_7cf53 G hst) (Nat.le_of_ble_eq_true rfl) cs_J9_max_7cf53 ⟨wm_267, Or.inl wm_842⟩ (by decide +kernel) (sn_istore_n (i := 3) (n := 3) (by decide +kernel) rfl (Nat.le_of_ble_eq_true rfl) (sn_iinc (i := 4) (n := 1) (v := 1) (by decide +kernel) rfl (sn_goto (off := -23) (tgt := 10) (by decide +kernel) rfl (hk 10))))))))))))))
noncomputable def B_X3_bestOf_0 (kc : Nat → en_B) : en_B := (op_iload 1 (op_calli O_X11_firstOf 1 (op_istore 2 (op_const (0 : Int32) (op_istore 3 (op_const (-1 : Int32) (op_istore 4 (kc 10))))))))
set_option maxRecDepth 20000 in
theorem s_X3_bestOf_0 (G : en_G) (hst : G.2.2.2.2.2 = true) (kc : Nat → en_B) (hk : ∀ t, en_Snd G M_X3_bestOf t (kc t)) : en_Snd G M_X3_bestOf 0 (B_X3_bestOf_0 kc) := (sn_iload_n (i := 1) (n := 1) (by decide +kernel) rfl (sn_callSi (n := 1) (idx := 51) (i_X11_firstOf G hst) (Nat.le_of_ble_eq_true rfl) cs_X11_firstOf ⟨wm_259, Or.inr (by decide +kernel)⟩ (by decide +kernel) (sn_istore_n (i := 2) (n := 2) (by decide +kernel) rfl (Nat.le_of_ble_eq_true rfl) (sn_iconst (n := 0) (v := 0) (by decide +kernel) rfl (sn_istore_n (i := 3) (n := 3) (by decide +kernel) rfl (Nat.le_of_ble_eq_true rfl) (sn_iconst (n := -1) (v := -1) (by decide +kernel) rfl (sn_istore (i := 4) (by decide +kernel) (Nat.le_of_ble_eq_true rfl) (hk 10))))))))
noncomputable def LK_X3_bestOf : Nat → Nat → en_B
  | 0, _ => en_no
  | n + 1, t => if t = 10 then B_X3_bestOf_10 (LK_X3_bestOf n) else en_no
theorem l_X3_bestOf (G : en_G) (hst : G.2.2.2.2.2 = true) : ∀ n t, en_Snd G M_X3_bestOf t (LK_X3_bestOf n t)
  | 0, _ => sn_no
  | n + 1, t => by
    show en_Snd G M_X3_bestOf t (if t = 10 then B_X3_bestOf_10 (LK_X3_bestOf n) else en_no)
    by_cases h_10 : t = 10
    · rw [if_pos h_10, h_10]; exact s_X3_bestOf_10 G hst _ (l_X3_bestOf G hst n)
    rw [if_neg h_10]
    exact sn_no
noncomputable def T_X3_bestOf_0 (x1 : Int32) (σ : en_M) : en_R := B_X3_bestOf_0 (LK_X3_bestOf en_FU) [.inr (172, 3, 0, 0), .inl x1, en_un, en_un, en_un] [] en_zz σ
noncomputable def T_X3_bestOf_10 (n : Nat) (x1 : Int32) (x2 : Int32) (x3 : Int32) (x4 : Int32) (σ : en_M) : en_R := LK_X3_bestOf n 10 [.inr (172, 3, 0, 0), .inl x1, .inl x2, .inl x3, .inl x4] [] en_zz σ
set_option maxRecDepth 400000 in
set_option maxHeartbeats 4000000 in
theorem t_X3_bestOf_0 (x1 : Int32) (σ : en_M) : T_X3_bestOf_0 x1 σ = ((O_X11_firstOf [.inl x1] σ).bind fun r1 => T_X3_bestOf_10 en_FU x1 r1.1 (0 : Int32) (-1 : Int32) r1.2) := rfl
set_option maxRecDepth 400000 in
set_option maxHeartbeats 4000000 in
theorem t_X3_bestOf_10 (n : Nat) (x1 : Int32) (x2 : Int32) (x3 : Int32) (x4 : Int32) (σ : en_M) : T_X3_bestOf_10 (n + 1) x1 x2 x3 x4 σ = (if x4 < (7 : Int32) then ((O_X3_withPartner [.inr (172, 3, 0, 0), .inl x1, .inl x2, .inl x4] σ).bind fun r2 => (O_J9_max_7cf53 [.inl x3, .inl r2.1] r2.2).bind fun r3 => T_X3_bestOf_10 n x1 x2 r3.1 (x4 + (1 : Int32)) r3.2) else (en_ri x3 σ)) := rfl
noncomputable def P_X3_bestOf : List en_V → en_M → Option (Int32 × en_M) := fun av σ => match av with
  | [.inr (172, 3, 0, 0), .inl x1] => en_oi (T_X3_bestOf_0 x1 σ)
  | _ => none
theorem ox_X3_bestOf : ∃ f, f = P_X3_bestOf := ⟨_, rfl⟩
noncomputable def O_X3_bestOf : List en_V → en_M → Option (Int32 × en_M) := Classical.choose ox_X3_bestOf
theorem oe_X3_bestOf : O_X3_bestOf = P_X3_bestOf := Classical.choose_spec ox_X3_bestOf
theorem o_X3_bestOf (x1 : Int32) (σ : en_M) : O_X3_bestOf [.inr (172, 3, 0, 0), .inl x1] σ = en_oi (T_X3_bestOf_0 x1 σ) := by rw [oe_X3_bestOf]; rfl
theorem i_X3_bestOf (G : en_G) (hst : G.2.2.2.2.2 = true) : en_I G 3 yX3_bestOf cX3_bestOf 5 (some .int) 0 0 (en_wi (O_X3_bestOf)) := en_of_i (M := M_X3_bestOf) hst (s_X3_bestOf_0 G hst _ (l_X3_bestOf G hst en_FU)) (plainFor_of_name (by decide +kernel)) rfl rfl rfl (Or.inl ⟨rfl, rfl⟩) (fun av σ x σ' h => by
  rw [oe_X3_bestOf] at h; unfold P_X3_bestOf at h
  split at h
  · exact ⟨(Nat.le_of_ble_eq_true rfl), en_oi_some h⟩
  · cases h)
-- EachMayMissOne$Pairs.leastPartner(II)I
def M_X3_leastPartner : en_Me := (cX3_leastPartner, RX3, 4, false, 3, false)
theorem cs_X3_leastPartner : en_cs yX3_leastPartner cX3_leastPartner 4 (some .int) 2 := ⟨wm_843, wm_47, ⟨(by decide +kernel), (by decide +kernel), (by decide +kernel)⟩, (Nat.le_of_ble_eq_true rfl)⟩
noncomputable def B_X3_leastPartner_30 (kc : Nat → en_B) : en_B := (op_iload 3 op_iret)
set_option maxRecDepth 20000 in
theorem s_X3_leastPartner_30 (G : en_G) (hst : G.2.2.2.2.2 = true) (kc : Nat → en_B) (hk : ∀ t, en_Snd G M_X3_leastPartner t (kc t)) : en_Snd G M_X3_leastPartner 30 (B_X3_leastPartner_30 kc) := (sn_iload_n (i := 3) (n := 3) (by decide +kernel) rfl (sn_iret (by decide +kernel) rfl))
noncomputable def B_X3_leastPartner_2 (kc : Nat → en_B) : en_B := (op_iload 3 (op_const (6 : Int32) (op_iclt (op_aload 0 (op_iload 1 (op_iload 2 (op_iload 3 (op_rcv 3 3 (op_calli O_X3_withPartner 4 (op_aload 0 (op_gets 3 9 (20, 128, 0) (op_iload 1 (op_ald 20 (op_iceq (B_X3_leastPartner_30 kc) (op_iinc 3 (1 : Int32) (kc 2))))))))))))) (B_X3_leastPartner_30 kc))))
set_option maxRecDepth 20000 in
theorem s_X3_leastPartner_2 (G : en_G) (hst : G.2.2.2.2.2 = true) (kc : Nat → en_B) (hk : ∀ t, en_Snd G M_X3_leastPartner t (kc t)) : en_Snd G M_X3_leastPartner 2 (B_X3_leastPartner_2 kc) := (sn_iload_n (i := 3) (n := 3) (by decide +kernel) rfl (sn_bipush (n := 6) (v := 6) (by decide +kernel) rfl (sn_icge (off := 25) (tgt := 30) (by decide +kernel) rfl (s_X3_leastPartner_30 G hst kc hk) (sn_aload_n (i := 0) (n := 0) (by decide +kernel) rfl (sn_iload_n (i := 1) (n := 1) (by decide +kernel) rfl (sn_iload_n (i := 2) (n := 2) (by decide +kernel) rfl (sn_iload_n (i := 3) (n := 3) (by decide +kernel) rfl (sn_callVi (n := 3) (idx := 54) (ci := 3) (i_X3_withPartner G hst) (Nat.le_of_ble_eq_true rfl) cs_X3_withPartner ⟨wm_847, wm_848, wm_841⟩ ⟨⟨_, rfl, rfl⟩, (Nat.le_of_ble_eq_true rfl)⟩ (by decide +kernel) (sn_aload_n (i := 0) (n := 0) (by decide +kernel) rfl (sn_gets (ci := 3) (j := 1) (off := 9) hst en_c3 of_3_9 (Nat.le_of_ble_eq_true rfl) (by decide +kernel) wm_816 (Nat.le_of_ble_eq_true rfl) rfl (sn_iload_n (i := 1) (n := 1) (by decide +kernel) rfl (sn_iald (by decide +kernel) (sn_iceq (off := 9) (tgt := 30) (by decide +kernel) rfl (s_X3_leastPartner_30 G hst kc hk) (sn_iinc (i := 3) (n := 1) (v := 1) (by decide +kernel) rfl (sn_goto (off := -25) (tgt := 2) (by decide +kernel) rfl (hk 2))))))))))))))))
noncomputable def B_X3_leastPartner_0 (kc : Nat → en_B) : en_B := (op_const (-1 : Int32) (op_istore 3 (kc 2)))
set_option maxRecDepth 20000 in
theorem s_X3_leastPartner_0 (G : en_G) (hst : G.2.2.2.2.2 = true) (kc : Nat → en_B) (hk : ∀ t, en_Snd G M_X3_leastPartner t (kc t)) : en_Snd G M_X3_leastPartner 0 (B_X3_leastPartner_0 kc) := (sn_iconst (n := -1) (v := -1) (by decide +kernel) rfl (sn_istore_n (i := 3) (n := 3) (by decide +kernel) rfl (Nat.le_of_ble_eq_true rfl) (hk 2)))
noncomputable def LK_X3_leastPartner : Nat → Nat → en_B
  | 0, _ => en_no
  | n + 1, t => if t = 2 then B_X3_leastPartner_2 (LK_X3_leastPartner n) else en_no
theorem l_X3_leastPartner (G : en_G) (hst : G.2.2.2.2.2 = true) : ∀ n t, en_Snd G M_X3_leastPartner t (LK_X3_leastPartner n t)
  | 0, _ => sn_no
  | n + 1, t => by
    show en_Snd G M_X3_leastPartner t (if t = 2 then B_X3_leastPartner_2 (LK_X3_leastPartner n) else en_no)
    by_cases h_2 : t = 2
    · rw [if_pos h_2, h_2]; exact s_X3_leastPartner_2 G hst _ (l_X3_leastPartner G hst n)
    rw [if_neg h_2]
    exact sn_no
noncomputable def T_X3_leastPartner_0 (x1 : Int32) (x2 : Int32) (σ : en_M) : en_R := B_X3_leastPartner_0 (LK_X3_leastPartner en_FU) [.inr (172, 3, 0, 0), .inl x1, .inl x2, en_un] [] en_zz σ
noncomputable def T_X3_leastPartner_2 (n : Nat) (x1 : Int32) (x2 : Int32) (x3 : Int32) (σ : en_M) : en_R := LK_X3_leastPartner n 2 [.inr (172, 3, 0, 0), .inl x1, .inl x2, .inl x3] [] en_zz σ
set_option maxRecDepth 400000 in
set_option maxHeartbeats 4000000 in
theorem t_X3_leastPartner_0 (x1 : Int32) (x2 : Int32) (σ : en_M) : T_X3_leastPartner_0 x1 x2 σ = (T_X3_leastPartner_2 en_FU x1 x2 (-1 : Int32) σ) := rfl
set_option maxRecDepth 400000 in
set_option maxHeartbeats 4000000 in
theorem t_X3_leastPartner_2 (n : Nat) (x1 : Int32) (x2 : Int32) (x3 : Int32) (σ : en_M) : T_X3_leastPartner_2 (n + 1) x1 x2 x3 σ = (if x3 < (6 : Int32) then ((O_X3_withPartner [.inr (172, 3, 0, 0), .inl x1, .inl x2, .inl x3] σ).bind fun r1 => (en_ix x1 128).bind fun j2 => if r1.1 = (r1.2 181 j2) then (en_ri x3 r1.2) else (T_X3_leastPartner_2 n x1 x2 (x3 + (1 : Int32)) r1.2)) else (en_ri x3 σ)) := rfl
noncomputable def P_X3_leastPartner : List en_V → en_M → Option (Int32 × en_M) := fun av σ => match av with
  | [.inr (172, 3, 0, 0), .inl x1, .inl x2] => en_oi (T_X3_leastPartner_0 x1 x2 σ)
  | _ => none
theorem ox_X3_leastPartner : ∃ f, f = P_X3_leastPartner := ⟨_, rfl⟩
noncomputable def O_X3_leastPartner : List en_V → en_M → Option (Int32 × en_M) := Classical.choose ox_X3_leastPartner
theorem oe_X3_leastPartner : O_X3_leastPartner = P_X3_leastPartner := Classical.choose_spec ox_X3_leastPartner
theorem o_X3_leastPartner (x1 : Int32) (x2 : Int32) (σ : en_M) : O_X3_leastPartner [.inr (172, 3, 0, 0), .inl x1, .inl x2] σ = en_oi (T_X3_leastPartner_0 x1 x2 σ) := by rw [oe_X3_leastPartner]; rfl
theorem i_X3_leastPartner (G : en_G) (hst : G.2.2.2.2.2 = true) : en_I G 3 yX3_leastPartner cX3_leastPartner 4 (some .int) 0 0 (en_wi (O_X3_leastPartner)) := en_of_i (M := M_X3_leastPartner) hst (s_X3_leastPartner_0 G hst _ (l_X3_leastPartner G hst en_FU)) (plainFor_of_name (by decide +kernel)) rfl rfl rfl (Or.inl ⟨rfl, rfl⟩) (fun av σ x σ' h => by
  rw [oe_X3_leastPartner] at h; unfold P_X3_leastPartner at h
  split at h
  · exact ⟨(Nat.le_of_ble_eq_true rfl), en_oi_some h⟩
  · cases h)
-- EachMayMissOne$Pairs.match(ILEachMayMissOne$Told;)I
def M_X3_match : en_Me := (cX3_match, RX3, 7, false, 4, false)
theorem cs_X3_match : en_cs yX3_match cX3_match 7 (some .int) 2 := ⟨wm_828, wm_47, ⟨(by decide +kernel), (by decide +kernel), (by decide +kernel)⟩, (Nat.le_of_ble_eq_true rfl)⟩
noncomputable def B_X3_match_158 (kc : Nat → en_B) : en_B := (op_aload 0 (op_gets 3 9 (20, 128, 0) (op_aload 0 (op_geti 3 2 (op_ald 20 op_iret)))))
set_option maxRecDepth 20000 in
theorem s_X3_match_158 (G : en_G) (hst : G.2.2.2.2.2 = true) (kc : Nat → en_B) (hk : ∀ t, en_Snd G M_X3_match t (kc t)) : en_Snd G M_X3_match 158 (B_X3_match_158 kc) := (sn_aload_n (i := 0) (n := 0) (by decide +kernel) rfl (sn_gets (ci := 3) (j := 1) (off := 9) hst en_c3 of_3_9 (Nat.le_of_ble_eq_true rfl) (by decide +kernel) wm_816 (Nat.le_of_ble_eq_true rfl) rfl (sn_aload_n (i := 0) (n := 0) (by decide +kernel) rfl (sn_geti (ci := 3) (j := 2) en_c3 (by decide +kernel) wm_820 (Nat.le_of_ble_eq_true rfl) rfl (sn_iald (by decide +kernel) (sn_iret (by decide +kernel) rfl))))))
noncomputable def B_X3_match_152 (kc : Nat → en_B) : en_B := (op_iinc 5 (1 : Int32) (kc 53))
set_option maxRecDepth 20000 in
theorem s_X3_match_152 (G : en_G) (hst : G.2.2.2.2.2 = true) (kc : Nat → en_B) (hk : ∀ t, en_Snd G M_X3_match t (kc t)) : en_Snd G M_X3_match 152 (B_X3_match_152 kc) := (sn_iinc (i := 5) (n := 1) (v := 1) (by decide +kernel) rfl (sn_goto (off := -102) (tgt := 53) (by decide +kernel) rfl (hk 53)))
noncomputable def B_X3_match_100 (kc : Nat → en_B) : en_B := (op_aload 0 (op_iload 3 (op_iload 5 (op_rcv 3 2 (op_calli O_X3_leastPartner 3 (op_istore 6 (op_iload 3 (op_const (1 : Int32) (op_iload 5 (op_bin en_shl (op_const (-1 : Int32) (op_bin (fun (x y : Int32) => x ^^^ y) (op_bin (fun (x y : Int32) => x &&& y) (op_istore 3 (op_aload 2 (op_iload 6 (op_rcv 9 1 (op_callv O_X9_add 2 (op_iload 6 (op_const (-1 : Int32) (op_iceq (B_X3_match_152 kc) (op_iload 3 (op_const (1 : Int32) (op_iload 6 (op_bin en_shl (op_const (-1 : Int32) (op_bin (fun (x y : Int32) => x ^^^ y) (op_bin (fun (x y : Int32) => x &&& y) (op_istore 3 (op_iload 4 (op_iload 6 (op_iload 5 (op_const (1 : Int32) (op_bin (fun (x y : Int32) => x + y) (op_calli O_X11_withBell 3 (op_istore 4 (B_X3_match_152 kc)))))))))))))))))))))))))))))))))))))
set_option maxRecDepth 20000 in
theorem s_X3_match_100 (G : en_G) (hst : G.2.2.2.2.2 = true) (kc : Nat → en_B) (hk : ∀ t, en_Snd G M_X3_match t (kc t)) : en_Snd G M_X3_match 100 (B_X3_match_100 kc) := (sn_aload_n (i := 0) (n := 0) (by decide +kernel) rfl (sn_iload_n (i := 3) (n := 3) (by decide +kernel) rfl (sn_iload (i := 5) (by decide +kernel) (sn_callVi (n := 2) (idx := 44) (ci := 3) (i_X3_leastPartner G hst) (Nat.le_of_ble_eq_true rfl) cs_X3_leastPartner ⟨wm_844, wm_845, wm_835⟩ ⟨⟨_, rfl, rfl⟩, (Nat.le_of_ble_eq_true rfl)⟩ (by decide +kernel) (sn_istore (i := 6) (by decide +kernel) (Nat.le_of_ble_eq_true rfl) (sn_iload_n (i := 3) (n := 3) (by decide +kernel) rfl (sn_iconst (n := 1) (v := 1) (by decide +kernel) rfl (sn_iload (i := 5) (by decide +kernel) (sn_ishl (by decide +kernel) (sn_iconst (n := -1) (v := -1) (by decide +kernel) rfl (sn_ixor (by decide +kernel) (sn_iand (by decide +kernel) (sn_istore_n (i := 3) (n := 3) (by decide +kernel) rfl (Nat.le_of_ble_eq_true rfl) (sn_aload_n (i := 2) (n := 2) (by decide +kernel) rfl (sn_iload (i := 6) (by decide +kernel) (sn_callVv (n := 1) (idx := 40) (ci := 9) (i_X9_add G hst) (Nat.le_of_ble_eq_true rfl) cs_X9_add ⟨wm_1090, wm_1091, wm_834⟩ ⟨⟨_, rfl, rfl⟩, (Nat.le_of_ble_eq_true rfl)⟩ (by decide +kernel) (sn_iload (i := 6) (by decide +kernel) (sn_iconst (n := -1) (v := -1) (by decide +kernel) rfl (sn_iceq (off := 25) (tgt := 152) (by decide +kernel) rfl (s_X3_match_152 G hst kc hk) (sn_iload_n (i := 3) (n := 3) (by decide +kernel) rfl (sn_iconst (n := 1) (v := 1) (by decide +kernel) rfl (sn_iload (i := 6) (by decide +kernel) (sn_ishl (by decide +kernel) (sn_iconst (n := -1) (v := -1) (by decide +kernel) rfl (sn_ixor (by decide +kernel) (sn_iand (by decide +kernel) (sn_istore_n (i := 3) (n := 3) (by decide +kernel) rfl (Nat.le_of_ble_eq_true rfl) (sn_iload (i := 4) (by decide +kernel) (sn_iload (i := 6) (by decide +kernel) (sn_iload (i := 5) (by decide +kernel) (sn_iconst (n := 1) (v := 1) (by decide +kernel) rfl (sn_iadd (by decide +kernel) (sn_callSi (n := 3) (idx := 47) (i_X11_withBell G hst) (Nat.le_of_ble_eq_true rfl) cs_X11_withBell ⟨wm_278, Or.inr (by decide +kernel)⟩ (by decide +kernel) (sn_istore (i := 4) (by decide +kernel) (Nat.le_of_ble_eq_true rfl) (s_X3_match_152 G hst kc hk)))))))))))))))))))))))))))))))))))
noncomputable def B_X3_match_94 (kc : Nat → en_B) : en_B := (op_rcv 9 1 (op_callv O_X9_add 2 (B_X3_match_152 kc)))
set_option maxRecDepth 20000 in
theorem s_X3_match_94 (G : en_G) (hst : G.2.2.2.2.2 = true) (kc : Nat → en_B) (hk : ∀ t, en_Snd G M_X3_match t (kc t)) : en_Snd G M_X3_match 94 (B_X3_match_94 kc) := (sn_callVv (n := 1) (idx := 40) (ci := 9) (i_X9_add G hst) (Nat.le_of_ble_eq_true rfl) cs_X9_add ⟨wm_1090, wm_1091, wm_834⟩ ⟨⟨_, rfl, rfl⟩, (Nat.le_of_ble_eq_true rfl)⟩ (by decide +kernel) (sn_goto (off := 55) (tgt := 152) (by decide +kernel) rfl (s_X3_match_152 G hst kc hk)))
noncomputable def B_X3_match_85 (kc : Nat → en_B) : en_B := (op_iload 4 (op_iload 5 (op_calli O_X11_bellAt 2 (op_const (1 : Int32) (op_bin (fun (x y : Int32) => x - y) (B_X3_match_94 kc))))))
set_option maxRecDepth 20000 in
theorem s_X3_match_85 (G : en_G) (hst : G.2.2.2.2.2 = true) (kc : Nat → en_B) (hk : ∀ t, en_Snd G M_X3_match t (kc t)) : en_Snd G M_X3_match 85 (B_X3_match_85 kc) := (sn_iload (i := 4) (by decide +kernel) (sn_iload (i := 5) (by decide +kernel) (sn_callSi (n := 2) (idx := 37) (i_X11_bellAt G hst) (Nat.le_of_ble_eq_true rfl) cs_X11_bellAt ⟨wm_276, Or.inr (by decide +kernel)⟩ (by decide +kernel) (sn_iconst (n := 1) (v := 1) (by decide +kernel) rfl (sn_isub (by decide +kernel) (s_X3_match_94 G hst kc hk))))))
noncomputable def B_X3_match_53 (kc : Nat → en_B) : en_B := (op_iload 5 (op_iload 1 (op_iclt (op_iload 3 (op_iload 5 (op_calli O_X11_bit 2 (op_ifeq (op_aload 2 (op_aload 0 (op_geti 3 2 (op_iload 5 (op_calli O_X11_bit 2 (op_ifeq (op_const (-1 : Int32) (B_X3_match_94 kc)) (B_X3_match_85 kc))))))) (B_X3_match_100 kc))))) (B_X3_match_158 kc))))
set_option maxRecDepth 20000 in
theorem s_X3_match_53 (G : en_G) (hst : G.2.2.2.2.2 = true) (kc : Nat → en_B) (hk : ∀ t, en_Snd G M_X3_match t (kc t)) : en_Snd G M_X3_match 53 (B_X3_match_53 kc) := (sn_iload (i := 5) (by decide +kernel) (sn_iload_n (i := 1) (n := 1) (by decide +kernel) rfl (sn_icge (off := 102) (tgt := 158) (by decide +kernel) rfl (s_X3_match_158 G hst kc hk) (sn_iload_n (i := 3) (n := 3) (by decide +kernel) rfl (sn_iload (i := 5) (by decide +kernel) (sn_callSi (n := 2) (idx := 24) (i_X11_bit G hst) (Nat.le_of_ble_eq_true rfl) cs_X11_bit ⟨wm_257, Or.inr (by decide +kernel)⟩ (by decide +kernel) (sn_ifne (off := 35) (tgt := 100) (by decide +kernel) rfl (s_X3_match_100 G hst kc hk) (sn_aload_n (i := 2) (n := 2) (by decide +kernel) rfl (sn_aload_n (i := 0) (n := 0) (by decide +kernel) rfl (sn_geti (ci := 3) (j := 2) en_c3 (by decide +kernel) wm_820 (Nat.le_of_ble_eq_true rfl) rfl (sn_iload (i := 5) (by decide +kernel) (sn_callSi (n := 2) (idx := 24) (i_X11_bit G hst) (Nat.le_of_ble_eq_true rfl) cs_X11_bit ⟨wm_257, Or.inr (by decide +kernel)⟩ (by decide +kernel) (sn_ifne (off := 7) (tgt := 85) (by decide +kernel) rfl (s_X3_match_85 G hst kc hk) (sn_iconst (n := -1) (v := -1) (by decide +kernel) rfl (sn_goto (off := 12) (tgt := 94) (by decide +kernel) rfl (s_X3_match_94 G hst kc hk))))))))))))))))
noncomputable def B_X3_match_38 (kc : Nat → en_B) : en_B := (op_aload 2 (op_rcv 9 0 (op_callv O_X9_begin 1 (op_aload 0 (op_geti 3 2 (op_istore 3 (op_const (0 : Int32) (op_istore 4 (op_const (0 : Int32) (op_istore 5 (kc 53)))))))))))
set_option maxRecDepth 20000 in
theorem s_X3_match_38 (G : en_G) (hst : G.2.2.2.2.2 = true) (kc : Nat → en_B) (hk : ∀ t, en_Snd G M_X3_match t (kc t)) : en_Snd G M_X3_match 38 (B_X3_match_38 kc) := (sn_aload_n (i := 2) (n := 2) (by decide +kernel) rfl (sn_callVv (n := 0) (idx := 32) (ci := 9) (i_X9_begin G hst) (Nat.le_of_ble_eq_true rfl) cs_X9_begin ⟨wm_1086, wm_1087, wm_832⟩ ⟨⟨_, rfl, rfl⟩, (Nat.le_of_ble_eq_true rfl)⟩ (by decide +kernel) (sn_aload_n (i := 0) (n := 0) (by decide +kernel) rfl (sn_geti (ci := 3) (j := 2) en_c3 (by decide +kernel) wm_820 (Nat.le_of_ble_eq_true rfl) rfl (sn_istore_n (i := 3) (n := 3) (by decide +kernel) rfl (Nat.le_of_ble_eq_true rfl) (sn_iconst (n := 0) (v := 0) (by decide +kernel) rfl (sn_istore (i := 4) (by decide +kernel) (Nat.le_of_ble_eq_true rfl) (sn_iconst (n := 0) (v := 0) (by decide +kernel) rfl (sn_istore (i := 5) (by decide +kernel) (Nat.le_of_ble_eq_true rfl) (hk 53))))))))))
noncomputable def B_X3_match_32 (kc : Nat → en_B) : en_B := (op_iinc 3 (1 : Int32) (kc 2))
set_option maxRecDepth 20000 in
theorem s_X3_match_32 (G : en_G) (hst : G.2.2.2.2.2 = true) (kc : Nat → en_B) (hk : ∀ t, en_Snd G M_X3_match t (kc t)) : en_Snd G M_X3_match 32 (B_X3_match_32 kc) := (sn_iinc (i := 3) (n := 1) (v := 1) (by decide +kernel) rfl (sn_goto (off := -33) (tgt := 2) (by decide +kernel) rfl (hk 2)))
noncomputable def B_X3_match_2 (kc : Nat → en_B) : en_B := (op_iload 3 (op_aload 0 (op_geti 3 2 (op_icgt (B_X3_match_38 kc) (op_iload 3 (op_aload 0 (op_geti 3 2 (op_const (-1 : Int32) (op_bin (fun (x y : Int32) => x ^^^ y) (op_bin (fun (x y : Int32) => x &&& y) (op_ifeq (op_aload 0 (op_gets 3 9 (20, 128, 0) (op_iload 3 (op_aload 0 (op_iload 3 (op_rcv 3 1 (op_calli O_X3_bestOf 2 (op_ast 20 (fun (x : Int32) => x) (B_X3_match_32 kc))))))))) (B_X3_match_32 kc))))))))))))
set_option maxRecDepth 20000 in
theorem s_X3_match_2 (G : en_G) (hst : G.2.2.2.2.2 = true) (kc : Nat → en_B) (hk : ∀ t, en_Snd G M_X3_match t (kc t)) : en_Snd G M_X3_match 2 (B_X3_match_2 kc) := (sn_iload_n (i := 3) (n := 3) (by decide +kernel) rfl (sn_aload_n (i := 0) (n := 0) (by decide +kernel) rfl (sn_geti (ci := 3) (j := 2) en_c3 (by decide +kernel) wm_820 (Nat.le_of_ble_eq_true rfl) rfl (sn_icgt (off := 31) (tgt := 38) (by decide +kernel) rfl (s_X3_match_38 G hst kc hk) (sn_iload_n (i := 3) (n := 3) (by decide +kernel) rfl (sn_aload_n (i := 0) (n := 0) (by decide +kernel) rfl (sn_geti (ci := 3) (j := 2) en_c3 (by decide +kernel) wm_820 (Nat.le_of_ble_eq_true rfl) rfl (sn_iconst (n := -1) (v := -1) (by decide +kernel) rfl (sn_ixor (by decide +kernel) (sn_iand (by decide +kernel) (sn_ifne (off := 14) (tgt := 32) (by decide +kernel) rfl (s_X3_match_32 G hst kc hk) (sn_aload_n (i := 0) (n := 0) (by decide +kernel) rfl (sn_gets (ci := 3) (j := 1) (off := 9) hst en_c3 of_3_9 (Nat.le_of_ble_eq_true rfl) (by decide +kernel) wm_816 (Nat.le_of_ble_eq_true rfl) rfl (sn_iload_n (i := 3) (n := 3) (by decide +kernel) rfl (sn_aload_n (i := 0) (n := 0) (by decide +kernel) rfl (sn_iload_n (i := 3) (n := 3) (by decide +kernel) rfl (sn_callVi (n := 1) (idx := 28) (ci := 3) (i_X3_bestOf G hst) (Nat.le_of_ble_eq_true rfl) cs_X3_bestOf ⟨wm_838, wm_839, wm_831⟩ ⟨⟨_, rfl, rfl⟩, (Nat.le_of_ble_eq_true rfl)⟩ (by decide +kernel) (sn_iast (by decide +kernel) (s_X3_match_32 G hst kc hk)))))))))))))))))))
noncomputable def B_X3_match_0 (kc : Nat → en_B) : en_B := (op_const (1 : Int32) (op_istore 3 (kc 2)))
set_option maxRecDepth 20000 in
theorem s_X3_match_0 (G : en_G) (hst : G.2.2.2.2.2 = true) (kc : Nat → en_B) (hk : ∀ t, en_Snd G M_X3_match t (kc t)) : en_Snd G M_X3_match 0 (B_X3_match_0 kc) := (sn_iconst (n := 1) (v := 1) (by decide +kernel) rfl (sn_istore_n (i := 3) (n := 3) (by decide +kernel) rfl (Nat.le_of_ble_eq_true rfl) (hk 2)))
noncomputable def LK_X3_match : Nat → Nat → en_B
  | 0, _ => en_no
  | n + 1, t => if t = 2 then B_X3_match_2 (LK_X3_match n) else if t = 53 then B_X3_match_53 (LK_X3_match n) else en_no
theorem l_X3_match (G : en_G) (hst : G.2.2.2.2.2 = true) : ∀ n t, en_Snd G M_X3_match t (LK_X3_match n t)
  | 0, _ => sn_no
  | n + 1, t => by
    show en_Snd G M_X3_match t (if t = 2 then B_X3_match_2 (LK_X3_match n) else if t = 53 then B_X3_match_53 (LK_X3_match n) else en_no)
    by_cases h_2 : t = 2
    · rw [if_pos h_2, h_2]; exact s_X3_match_2 G hst _ (l_X3_match G hst n)
    rw [if_neg h_2]
    by_cases h_53 : t = 53
    · rw [if_pos h_53, h_53]; exact s_X3_match_53 G hst _ (l_X3_match G hst n)
    rw [if_neg h_53]
    exact sn_no
noncomputable def T_X3_match_0 (x1 : Int32) (σ : en_M) : en_R := B_X3_match_0 (LK_X3_match en_FU) [.inr (172, 3, 0, 0), .inl x1, .inr (3, 9, 0, 0), en_un, en_un, en_un, en_un] [] en_zz σ
noncomputable def T_X3_match_2 (n : Nat) (x1 : Int32) (x3 : Int32) (σ : en_M) : en_R := LK_X3_match n 2 [.inr (172, 3, 0, 0), .inl x1, .inr (3, 9, 0, 0), .inl x3, en_un, en_un, en_un] [] en_zz σ
noncomputable def T_X3_match_53 (n : Nat) (x1 : Int32) (x3 : Int32) (x4 : Int32) (x5 : Int32) (u6 : en_V) (σ : en_M) : en_R := LK_X3_match n 53 [.inr (172, 3, 0, 0), .inl x1, .inr (3, 9, 0, 0), .inl x3, .inl x4, .inl x5, u6] [] en_zz σ
set_option maxRecDepth 400000 in
set_option maxHeartbeats 4000000 in
theorem t_X3_match_0 (x1 : Int32) (σ : en_M) : T_X3_match_0 x1 σ = (T_X3_match_2 en_FU x1 (1 : Int32) σ) := rfl
set_option maxRecDepth 400000 in
set_option maxHeartbeats 4000000 in
theorem t_X3_match_2 (n : Nat) (x1 : Int32) (x3 : Int32) (σ : en_M) : T_X3_match_2 (n + 1) x1 x3 σ = (if (σ 172 2) < x3 then ((O_X9_begin [.inr (3, 9, 0, 0)] σ).bind fun r1 => T_X3_match_53 n x1 (r1 172 2) (0 : Int32) (0 : Int32) (en_un) r1) else (if (x3 &&& ((σ 172 2) ^^^ (-1 : Int32))) = 0 then ((O_X3_bestOf [.inr (172, 3, 0, 0), .inl x3] σ).bind fun r2 => (en_ix x3 128).bind fun j3 => T_X3_match_2 n x1 (x3 + (1 : Int32)) (en_up r2.2 181 j3 r2.1)) else (T_X3_match_2 n x1 (x3 + (1 : Int32)) σ))) := rfl
set_option maxRecDepth 400000 in
set_option maxHeartbeats 4000000 in
theorem t_X3_match_53 (n : Nat) (x1 : Int32) (x3 : Int32) (x4 : Int32) (x5 : Int32) (u6 : en_V) (σ : en_M) : T_X3_match_53 (n + 1) x1 x3 x4 x5 u6 σ = (if x5 < x1 then ((O_X11_bit [.inl x3, .inl x5] σ).bind fun r5 => if r5.1 = 0 then ((O_X11_bit [.inl (r5.2 172 2), .inl x5] r5.2).bind fun r9 => if r9.1 = 0 then ((O_X9_add [.inr (3, 9, 0, 0), .inl (-1 : Int32)] r9.2).bind fun r12 => T_X3_match_53 n x1 x3 x4 (x5 + (1 : Int32)) (u6) r12) else ((O_X11_bellAt [.inl x4, .inl x5] r9.2).bind fun r10 => (O_X9_add [.inr (3, 9, 0, 0), .inl (r10.1 - (1 : Int32))] r10.2).bind fun r11 => T_X3_match_53 n x1 x3 x4 (x5 + (1 : Int32)) (u6) r11)) else ((O_X3_leastPartner [.inr (172, 3, 0, 0), .inl x3, .inl x5] r5.2).bind fun r6 => (O_X9_add [.inr (3, 9, 0, 0), .inl r6.1] r6.2).bind fun r7 => if r6.1 = (-1 : Int32) then (T_X3_match_53 n x1 (x3 &&& ((en_shl (1 : Int32) x5) ^^^ (-1 : Int32))) x4 (x5 + (1 : Int32)) (.inl r6.1) r7) else ((O_X11_withBell [.inl x4, .inl r6.1, .inl (x5 + (1 : Int32))] r7).bind fun r8 => T_X3_match_53 n x1 ((x3 &&& ((en_shl (1 : Int32) x5) ^^^ (-1 : Int32))) &&& ((en_shl (1 : Int32) r6.1) ^^^ (-1 : Int32))) r8.1 (x5 + (1 : Int32)) (.inl r6.1) r8.2))) else ((en_ix (σ 172 2) 128).bind fun j4 => en_ri (σ 181 j4) σ)) := rfl
noncomputable def P_X3_match : List en_V → en_M → Option (Int32 × en_M) := fun av σ => match av with
  | [.inr (172, 3, 0, 0), .inl x1, .inr (3, 9, 0, 0)] => en_oi (T_X3_match_0 x1 σ)
  | _ => none
theorem ox_X3_match : ∃ f, f = P_X3_match := ⟨_, rfl⟩
noncomputable def O_X3_match : List en_V → en_M → Option (Int32 × en_M) := Classical.choose ox_X3_match
theorem oe_X3_match : O_X3_match = P_X3_match := Classical.choose_spec ox_X3_match
theorem o_X3_match (x1 : Int32) (σ : en_M) : O_X3_match [.inr (172, 3, 0, 0), .inl x1, .inr (3, 9, 0, 0)] σ = en_oi (T_X3_match_0 x1 σ) := by rw [oe_X3_match]; rfl
theorem i_X3_match (G : en_G) (hst : G.2.2.2.2.2 = true) : en_I G 4 yX3_match cX3_match 7 (some .int) 0 0 (en_wi (O_X3_match)) := en_of_i (M := M_X3_match) hst (s_X3_match_0 G hst _ (l_X3_match G hst en_FU)) (plainFor_of_name (by decide +kernel)) rfl rfl rfl (Or.inl ⟨rfl, rfl⟩) (fun av σ x σ' h => by
  rw [oe_X3_match] at h; unfold P_X3_match at h
  split at h
  · exact ⟨(Nat.le_of_ble_eq_true rfl), en_oi_some h⟩
  · cases h)
