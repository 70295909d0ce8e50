/-! methods with a handler of their own -/
def en_IC (G : en_G) (d : Nat) (y : MethodName) (bytes : ByteArray) (maxL : Nat) (hh : List (Nat × Nat × Nat × Nat)) (f : List en_V → en_M → Option (Int32 × en_M)) : Prop :=
  ∀ (av : List en_V) (σ : en_M) (r : Int32 × en_M), f av σ = some r → (∀ v ∈ av, en_okv 210 v ∧ en_pl v = true) →
    Met G.1 y (.codeWith y bytes maxL (some .int) hh :: en_wl) { frames := d, cells := 1, slots := 6, locals := 40 * d } (va_Pc (av.map (en_ev G)) (en_P G false 210 σ)) (en_Q G (some r.1, en_zz, r.2)) 1 6 (fun q => G.2.1 ≤ q)
/-- what the method does: the answer put into the long's cell, or 1 for a throw -/
def en_cx (r : en_R) : Option (Int32 × en_M) := match r with
  | some (.inl (some x, _, σ)) => some (0, en_up σ 209 0 x)
  | some (.inr (_, _, _, _, σ)) => some (1, σ)
  | _ => none
theorem en_cx_l {r : en_R} {x : Int32} {z : en_Z} {σ : en_M} (h : r = some (.inl (some x, z, σ))) : en_cx r = some (0, en_up σ 209 0 x) := by rw [h]; rfl
theorem en_cx_r {r : en_R} {q : en_C} (h : r = some (.inr q)) : en_cx r = some (1, q.2.2.2.2) := by rw [h]; rfl
theorem en_ka209 : en_ka 209 = (25, 1, 0) := by decide +kernel
theorem en_ofWC {l : Launch} {y : MethodName} {ws ws' : List Cond} {rm : Room} {Pc : Array Value → State → Prop} {Qc : Array Value → State → Outcome → State → Prop} {mc ms : Nat} {free : Addr → Prop} {cc : ByteArray} {maxL : Nat} {ret : Option FieldType} {hh : List (Nat × Nat × Nat × Nat)}
    (hy : plainFor y = true) (hw : ws = Cond.codeWith y cc maxL ret hh :: ws')
    (body : ∀ p e s m args below meth c s₁, BodyLoose p l y (headSpec ws rm) cc maxL ret e s m args below meth c s₁ → c.maxLocals = maxL → c.exceptionTable.toList = tableOf hh → Pc args s →
      W p l e (headSpec ws rm).room s m args below meth c s.heap [] 0 0 (MQ below Qc args s mc ms free) (entryFrame m args maxL)) : Met l y ws rm Pc Qc mc ms free := by
  refine MetFree.of_bodySF (code := cc) (maxLocals := maxL) (ret := ret) hy ?_ ?_
  · intro args s m h hn
    obtain ⟨m9, meth, c, hn9, h1, h2, h3, h4, h5, h6, h7⟩ := Cond.codeWith_spec (atoms_spec (ws := ws) h _ (by rw [hw]; exact List.mem_cons_self))
    cases Option.some.inj (hn9.symm.trans hn)
    exact ⟨meth, c, h1, h2, h3, h4, h6, h7.1⟩
  · intro p e s m args below meth c s₁ B hml hP _
    have hh0 : s₁.heap = s.heap := by rw [B.state]; rfl
    have ht := vx_table (x := y) B (atoms_spec (ws := ws) B.pre _ (by rw [hw]; exact List.mem_cons_self))
    obtain ⟨t, a1, o, b1, b2, b3⟩ := body p e s m args below meth c s₁ B hml ht hP s₁ hh0 (Stand.of_body B)
    exact ⟨t, o, a1, b1, b2, ⟨b3.1, b3.2⟩⟩
theorem wc_ringer : (.codeWith yL_ringer cL_ringer 5 (some .int) [(0, 10, 13, 13)] : Cond) ∈ en_wl := en_m5 (List.mem_of_getElem? (i := 86) rfl) rfl
theorem wl_ringer : (.methodLink RL 7 yX11_ringer : Cond) ∈ en_wl := en_m5 (List.mem_of_getElem? (i := 88) rfl) rfl
noncomputable def P_L_ringer : List en_V → en_M → Option (Int32 × en_M) := fun av σ => match av with
  | [.inr (0, 11, 0, 0), .inl p0, .inl p1, .inr (209, 25, 1, 0)] => en_cx (R_X11_ringer [.inr (0, 11, 0, 0), .inl p0, .inl p1] σ)
  | _ => none
theorem ox_L_ringer : ∃ f, f = P_L_ringer := ⟨_, rfl⟩
noncomputable def O_L_ringer : List en_V → en_M → Option (Int32 × en_M) := Classical.choose ox_L_ringer
theorem oe_L_ringer : O_L_ringer = P_L_ringer := Classical.choose_spec ox_L_ringer
theorem o_L_ringer (p0 p1 : Int32) (σ : en_M) : O_L_ringer [.inr (0, 11, 0, 0), .inl p0, .inl p1, .inr (209, 25, 1, 0)] σ = en_cx (R_X11_ringer [.inr (0, 11, 0, 0), .inl p0, .inl p1] σ) := by rw [oe_L_ringer]; rfl
set_option maxRecDepth 20000 in
theorem ic_L_ringer (G : en_G) (hnt : G.1.stackTraces = false) (hst : G.2.2.2.2.2 = true) : en_IC G (6 + 1) yL_ringer cL_ringer 5 [(0, 10, 13, 13)] O_L_ringer := by
  intro av σ r hf hav
  rw [oe_L_ringer] at hf
  unfold P_L_ringer at hf
  split at hf
  rotate_left
  · cases hf
  rename_i p0 p1
  refine en_ofWC (cc := cL_ringer) (maxL := 5) (ret := some .int) (hh := [(0, 10, 13, 13)]) (plainFor_of_name (by decide +kernel)) rfl ?_
  intro p e s m args below meth c s₁ B hml htab hv
  obtain ⟨rfl, hP, hK, hN, hb0, ha⟩ := hv
  have hts := atoms_spec (ws := .codeWith yL_ringer cL_ringer 5 (some .int) [(0, 10, 13, 13)] :: en_wl) B.pre
  have hw := fun w h => hts w (List.mem_cons_of_mem _ h)
  have hown : s.vm.findClass RL = some m.cls := findClass_of_methodNamed B.named
  have hlocks := B.notSynchronized
  have hx := B.exec
  have hb := B.bytes
  have hr := B.returns
  have hl := lv_entry ([.inr (0, 11, 0, 0), .inl p0, .inl p1, .inr (209, 25, 1, 0)].map (en_ev G)) (n := 5) (by rw [en_lg]; exact Nat.le_of_ble_eq_true rfl)
  rw [lg_entry_eq]
  generalize (lg_sl ([.inr (0, 11, 0, 0), .inl p0, .inl p1, .inr (209, 25, 1, 0)].map (en_ev G)) ++ List.replicate (5 - (lg_sl ([.inr (0, 11, 0, 0), .inl p0, .inl p1, .inr (209, 25, 1, 0)].map (en_ev G))).length) Slot.unset).toArray = ls at hl ⊢
  have hl : lv_has ls 5 [(0, .ref (G.2.1 + 0)), (1, .int p0), (2, .int p1), (3, .ref (G.2.1 + 209))] := hl
  have hS : va_S (fun q => G.2.1 ≤ q) s.heap s.heap [] := va_S.rf
  refine lv_aload_n hx hb (show decode cL_ringer 0 = .ok (.aload_n 3, 1) by decide +kernel) rfl (lv_at hl 3 rfl) ?_
  refine lv_iconst (v := 0) hx hb (show decode cL_ringer 1 = .ok (.iconst 0, 1) by decide +kernel) (by decide) ?_
  refine lv_aload_n hx hb (show decode cL_ringer 2 = .ok (.aload_n 0, 1) by decide +kernel) rfl (lv_at hl 0 rfl) ?_
  refine lv_iload_n hx hb (show decode cL_ringer 3 = .ok (.iload_n 1, 1) by decide +kernel) rfl (lv_at hl 1 rfl) ?_
  refine lv_iload_n hx hb (show decode cL_ringer 4 = .ok (.iload_n 2, 1) by decide +kernel) rfl (lv_at hl 2 rfl) ?_
  obtain ⟨rr, hrr⟩ : ∃ rr, R_X11_ringer [.inr (0, 11, 0, 0), .inl p0, .inl p1] σ = some rr := by
    cases hR : R_X11_ringer [.inr (0, 11, 0, 0), .inl p0, .inl p1] σ with
    | none => rw [hR] at hf; cases hf
    | some rr => exact ⟨rr, rfl⟩
  have hM := ix_X11_ringer G hnt hst [.inr (0, 11, 0, 0), .inl p0, .inl p1] σ rr hrr (by
    intro v hv
    exact hav v (by
      simp only [List.mem_cons, List.not_mem_nil, or_false] at hv ⊢
      rcases hv with h | h | h <;> simp [h]))
  have hg := en_W_get (b := G.2.1) (cy := G.2.2.2.1) (st := G.2.2.2.2.2) (σ := σ) (sz := 210) (k := 0) (by decide)
  rw [en_ce_o (ci := 11) (by decide +kernel) (by decide)] at hg
  have hrv := va_recv hK hP (ci := 11) (q0 := 0) rfl hg
  have hrun := vx_runV (As := [.int p0, .int p1]) (rest := [.int 0, .ref (G.2.1 + 209)]) (Ts := en_wl) (cells := 0) (slots := 0) (locs := []) (g := F0 m 5 ls ([.int p0, .int p1].reverse ++ .ref (G.2.1 + 0) :: [.int 0, .ref (G.2.1 + 209)])) (p := p) (e := e) (R := { frames := 6 + 1, cells := 1, slots := 6, locals := 40 * (6 + 1) }) (below := below) (meth := meth) ⟨hx, hb, hml, hown, hw⟩ hM ⟨callB_of 2 hw (en_goodin cs_X11_ringer.1) rfl rfl rfl (hw _ cs_X11_ringer.2.1) (hw _ wl_ringer) cs_X11_ringer.2.2.1 ⟨Nat.le_refl _, by have := cs_X11_ringer.2.2.2; show 8 + (_ + 11) + 40 * 6 ≤ 40 * (6 + 1); omega⟩, hw _ wm_82, hw _ wm_83⟩ ⟨en_blind, hrv, fun U hU hW => ⟨rfl, by rw [hU]; exact hP, va_K.moved hW.alike hK, en_N.at hW (by rw [hU]; exact fun _ _ _ => rfl) hN, by rw [hU]; exact hb0, fun q => by cases q⟩⟩ rfl rfl hl.1 rfl (lv_room (Nat.le_of_ble_eq_true rfl)) (show decode cL_ringer 5 = .ok (.invokevirtual 7, 3) by decide +kernel) ⟨Nat.le_refl _, Nat.le_refl _⟩
  intro T hT Xs
  rcases hrun T hT Xs with ⟨v, st₀, t, T', L, h0, X', hLf, e1, e2, ⟨x, σ', hrx, hvx, hP1, hF1⟩, st⟩ | ⟨q9, st₀, t, T', L, E, ce, h0, X', hLf, e1, e2, ⟨pcx, Lx, σ', hrx, hE, hP1, hF1⟩, hce, hcv, hcl, st⟩
  · cases hvx
    subst hrx
    have hf2 : some (0, en_up σ' 209 0 x) = some r := (en_cx_l hrr).symm.trans hf
    cases hf2
    obtain ⟨z1, z2, hS1⟩ := vx_keep (H := s.heap) (A1 := fun q => G.2.1 ≤ q) h0 e1 hS (fun _ _ h => h) (fun _ h => h) hLf hF1
    have hP2 : va_P G.2.2.1 en_cl (en_W G.2.1 G.2.2.2.1 G.2.2.2.2.2 210 σ') T'.heap := by rw [e1]; exact hP1
    have hg2 := en_W_get (b := G.2.1) (cy := G.2.2.2.1) (st := G.2.2.2.2.2) (σ := σ') (sz := 210) (k := 209) (by decide)
    rw [en_ce_l (by rw [en_ka209]), en_ka209] at hg2
    have kW : W p G.1 e { frames := 6 + 1, cells := 1, slots := 6, locals := 40 * (6 + 1) } s m (([.inr (0, 11, 0, 0), .inl p0, .inl p1, .inr (209, 25, 1, 0)] : List en_V).map (en_ev G)).toArray below meth c T'.heap ([] ++ L) (0 + 1) (0 + 6) (MQ below (en_Q G (some 0, en_zz, en_up σ' 209 0 x)) (([.inr (0, 11, 0, 0), .inl p0, .inl p1, .inr (209, 25, 1, 0)] : List en_V).map (en_ev G)).toArray s 1 6 (fun q => G.2.1 ≤ q)) (F0 m 8 ls [.int x, .int 0, .ref (G.2.1 + 209)]) := by
      refine lv_i2l (v := x.toInt64) hx hb (show decode cL_ringer 8 = .ok (.i2l, 1) by decide +kernel) rfl ?_
      refine va_last hx hb hK hP2 en_W_D hS1 209 5 hg2 rfl (i := 0) (by unfold vp_in; decide) (show decode cL_ringer 9 = .ok (.lastore, 1) by decide +kernel) (fun H1 locs1 hP3 hD3 hS3 => ?_)
      rw [en_W_set (σ' := en_up σ' 209 0 x) ?_ en_up_off] at hP3
      · refine lv_goto (tgt := 17) hx hb (show decode cL_ringer 10 = .ok (.goto 7, 3) by decide +kernel) (by decide) ?_
        refine lv_iconst (v := 0) hx hb (show decode cL_ringer 17 = .ok (.iconst 0, 1) by decide +kernel) (by decide) ?_
        exact W.iret (v := 0) hx hb hr (fun t ht hW => ⟨rfl, by rw [ht]; exact hP3, hS3.F ht⟩) hS3.2.2 (show decode cL_ringer 18 = .ok (.ireturn, 1) by decide +kernel)
      · rw [en_ce_l (by rw [en_ka209]), en_ka209]
        refine congrArg (fun f => (Sum.inl (G.2.2.2.1 25, 1, .inr (.inl f)) : va_E)) (funext fun j => ?_)
        by_cases hj : j = 0
        · subst hj; rfl
        · show (if j = (0 : Int32).toNatClampNeg then _ else _) = _
          rw [if_neg (by exact hj)]
          simp [en_up, hj]
    obtain ⟨t2, a1, b1⟩ := kW T' rfl X'
    exact ⟨t2, st t2 a1, b1⟩
  · subst hrx
    have hf2 : some (1, σ') = some r := (en_cx_r hrr).symm.trans hf
    cases hf2
    subst hE
    obtain ⟨z1, z2, hS1⟩ := vx_keep (H := s.heap) (A1 := fun q => G.2.1 ≤ q) h0 e1 hS (fun _ _ h => h) (fun _ h => h) hLf hF1
    have hP2 : va_P G.2.2.1 en_cl (en_W G.2.1 G.2.2.2.1 G.2.2.2.2.2 210 σ') T'.heap := by rw [e1]; exact hP1
    have kW : vx_W p G.1 e { frames := 6 + 1, cells := 1, slots := 6, locals := 40 * (6 + 1) } s m (([.inr (0, 11, 0, 0), .inl p0, .inl p1, .inr (209, 25, 1, 0)] : List en_V).map (en_ev G)).toArray below meth c T'.heap ([] ++ L) (0 + 1) (0 + 6) (MQ below (en_Q G (some 1, en_zz, σ')) (([.inr (0, 11, 0, 0), .inl p0, .inl p1, .inr (209, 25, 1, 0)] : List en_V).map (en_ev G)).toArray s 1 6 (fun q => G.2.1 ≤ q)) (F0 m 5 ls [.int 0, .ref (G.2.1 + 209)]) q9 := by
      refine vx_catch (own := RL) (name := "java/util/NoSuchElementException") hown [] _ [] htab (fun z hz => by cases hz) rfl (by decide) (hw _ wx_3) (va_Nw.use rfl hN.2.2.2.2.2.2.2.2.1) (by rw [e1]; exact hce) hcv hcl ?_
      refine lv_astore (i := 4) (lv' := [(4, .ref q9), (0, .ref (G.2.1 + 0)), (1, .int p0), (2, .int p1), (3, .ref (G.2.1 + 209))]) hx hb (show decode cL_ringer 13 = .ok (.astore 4, 2) by decide +kernel) hl (by decide) rfl (fun ls' h' => ?_)
      refine lv_iconst (v := 1) hx hb (show decode cL_ringer 15 = .ok (.iconst 1, 1) by decide +kernel) (by decide) ?_
      exact W.iret (v := 1) hx hb hr (fun t ht hW => ⟨rfl, by rw [ht]; exact hP2, hS1.F ht⟩) hS1.2.2 (show decode cL_ringer 16 = .ok (.ireturn, 1) by decide +kernel)
    obtain ⟨t2, a1, b1⟩ := kW T' rfl X'
    exact ⟨t2, st.trans a1, b1⟩
theorem wc_bell : (.codeWith yL_bell cL_bell 4 (some .int) [(0, 9, 12, 13)] : Cond) ∈ en_wl := en_m5 (List.mem_of_getElem? (i := 161) rfl) rfl
theorem wl_bell : (.methodLink RL 15 yX11_bell : Cond) ∈ en_wl := en_m5 (List.mem_of_getElem? (i := 162) rfl) rfl
noncomputable def P_L_bell : List en_V → en_M → Option (Int32 × en_M) := fun av σ => match av with
  | [.inr (0, 11, 0, 0), .inl p0, .inr (209, 25, 1, 0)] => en_cx (R_X11_bell [.inr (0, 11, 0, 0), .inl p0] σ)
  | _ => none
theorem ox_L_bell : ∃ f, f = P_L_bell := ⟨_, rfl⟩
noncomputable def O_L_bell : List en_V → en_M → Option (Int32 × en_M) := Classical.choose ox_L_bell
theorem oe_L_bell : O_L_bell = P_L_bell := Classical.choose_spec ox_L_bell
theorem o_L_bell (p0 : Int32) (σ : en_M) : O_L_bell [.inr (0, 11, 0, 0), .inl p0, .inr (209, 25, 1, 0)] σ = en_cx (R_X11_bell [.inr (0, 11, 0, 0), .inl p0] σ) := by rw [oe_L_bell]; rfl
set_option maxRecDepth 20000 in
theorem ic_L_bell (G : en_G) (hnt : G.1.stackTraces = false) (hst : G.2.2.2.2.2 = true) : en_IC G (6 + 1) yL_bell cL_bell 4 [(0, 9, 12, 13)] O_L_bell := by
  intro av σ r hf hav
  rw [oe_L_bell] at hf
  unfold P_L_bell at hf
  split at hf
  rotate_left
  · cases hf
  rename_i p0
  refine en_ofWC (cc := cL_bell) (maxL := 4) (ret := some .int) (hh := [(0, 9, 12, 13)]) (plainFor_of_name (by decide +kernel)) rfl ?_
  intro p e s m args below meth c s₁ B hml htab hv
  obtain ⟨rfl, hP, hK, hN, hb0, ha⟩ := hv
  have hts := atoms_spec (ws := .codeWith yL_bell cL_bell 4 (some .int) [(0, 9, 12, 13)] :: en_wl) B.pre
  have hw := fun w h => hts w (List.mem_cons_of_mem _ h)
  have hown : s.vm.findClass RL = some m.cls := findClass_of_methodNamed B.named
  have hlocks := B.notSynchronized
  have hx := B.exec
  have hb := B.bytes
  have hr := B.returns
  have hl := lv_entry ([.inr (0, 11, 0, 0), .inl p0, .inr (209, 25, 1, 0)].map (en_ev G)) (n := 4) (by rw [en_lg]; exact Nat.le_of_ble_eq_true rfl)
  rw [lg_entry_eq]
  generalize (lg_sl ([.inr (0, 11, 0, 0), .inl p0, .inr (209, 25, 1, 0)].map (en_ev G)) ++ List.replicate (4 - (lg_sl ([.inr (0, 11, 0, 0), .inl p0, .inr (209, 25, 1, 0)].map (en_ev G))).length) Slot.unset).toArray = ls at hl ⊢
  have hl : lv_has ls 4 [(0, .ref (G.2.1 + 0)), (1, .int p0), (2, .ref (G.2.1 + 209))] := hl
  have hS : va_S (fun q => G.2.1 ≤ q) s.heap s.heap [] := va_S.rf
  refine lv_aload_n hx hb (show decode cL_bell 0 = .ok (.aload_n 2, 1) by decide +kernel) rfl (lv_at hl 2 rfl) ?_
  refine lv_iconst (v := 0) hx hb (show decode cL_bell 1 = .ok (.iconst 0, 1) by decide +kernel) (by decide) ?_
  refine lv_aload_n hx hb (show decode cL_bell 2 = .ok (.aload_n 0, 1) by decide +kernel) rfl (lv_at hl 0 rfl) ?_
  refine lv_iload_n hx hb (show decode cL_bell 3 = .ok (.iload_n 1, 1) by decide +kernel) rfl (lv_at hl 1 rfl) ?_
  obtain ⟨rr, hrr⟩ : ∃ rr, R_X11_bell [.inr (0, 11, 0, 0), .inl p0] σ = some rr := by
    cases hR : R_X11_bell [.inr (0, 11, 0, 0), .inl p0] σ with
    | none => rw [hR] at hf; cases hf
    | some rr => exact ⟨rr, rfl⟩
  have hM := ix_X11_bell G hnt hst [.inr (0, 11, 0, 0), .inl p0] σ rr hrr (by
    intro v hv
    exact hav v (by
      simp only [List.mem_cons, List.not_mem_nil, or_false] at hv ⊢
      rcases hv with h | h <;> simp [h]))
  have hg := en_W_get (b := G.2.1) (cy := G.2.2.2.1) (st := G.2.2.2.2.2) (σ := σ) (sz := 210) (k := 0) (by decide)
  rw [en_ce_o (ci := 11) (by decide +kernel) (by decide)] at hg
  have hrv := va_recv hK hP (ci := 11) (q0 := 0) rfl hg
  have hrun := vx_runV (As := [.int p0]) (rest := [.int 0, .ref (G.2.1 + 209)]) (Ts := en_wl) (cells := 0) (slots := 0) (locs := []) (g := F0 m 4 ls ([.int p0].reverse ++ .ref (G.2.1 + 0) :: [.int 0, .ref (G.2.1 + 209)])) (p := p) (e := e) (R := { frames := 6 + 1, cells := 1, slots := 6, locals := 40 * (6 + 1) }) (below := below) (meth := meth) ⟨hx, hb, hml, hown, hw⟩ hM ⟨callB_of 1 hw (en_goodin cs_X11_bell.1) rfl rfl rfl (hw _ cs_X11_bell.2.1) (hw _ wl_bell) cs_X11_bell.2.2.1 ⟨Nat.le_refl _, by have := cs_X11_bell.2.2.2; show 8 + (_ + 11) + 40 * 6 ≤ 40 * (6 + 1); omega⟩, hw _ wm_95, hw _ wm_96⟩ ⟨en_blind, hrv, fun U hU hW => ⟨rfl, by rw [hU]; exact hP, va_K.moved hW.alike hK, en_N.at hW (by rw [hU]; exact fun _ _ _ => rfl) hN, by rw [hU]; exact hb0, fun q => by cases q⟩⟩ rfl rfl hl.1 rfl (lv_room (Nat.le_of_ble_eq_true rfl)) (show decode cL_bell 4 = .ok (.invokevirtual 15, 3) by decide +kernel) ⟨Nat.le_refl _, Nat.le_refl _⟩
  intro T hT Xs
  rcases hrun T hT Xs with ⟨v, st₀, t, T', L, h0, X', hLf, e1, e2, ⟨x, σ', hrx, hvx, hP1, hF1⟩, st⟩ | ⟨q9, st₀, t, T', L, E, ce, h0, X', hLf, e1, e2, ⟨pcx, Lx, σ', hrx, hE, hP1, hF1⟩, hce, hcv, hcl, st⟩
  · cases hvx
    subst hrx
    have hf2 : some (0, en_up σ' 209 0 x) = some r := (en_cx_l hrr).symm.trans hf
    cases hf2
    obtain ⟨z1, z2, hS1⟩ := vx_keep (H := s.heap) (A1 := fun q => G.2.1 ≤ q) h0 e1 hS (fun _ _ h => h) (fun _ h => h) hLf hF1
    have hP2 : va_P G.2.2.1 en_cl (en_W G.2.1 G.2.2.2.1 G.2.2.2.2.2 210 σ') T'.heap := by rw [e1]; exact hP1
    have hg2 := en_W_get (b := G.2.1) (cy := G.2.2.2.1) (st := G.2.2.2.2.2) (σ := σ') (sz := 210) (k := 209) (by decide)
    rw [en_ce_l (by rw [en_ka209]), en_ka209] at hg2
    have kW : W p G.1 e { frames := 6 + 1, cells := 1, slots := 6, locals := 40 * (6 + 1) } s m (([.inr (0, 11, 0, 0), .inl p0, .inr (209, 25, 1, 0)] : List en_V).map (en_ev G)).toArray below meth c T'.heap ([] ++ L) (0 + 1) (0 + 6) (MQ below (en_Q G (some 0, en_zz, en_up σ' 209 0 x)) (([.inr (0, 11, 0, 0), .inl p0, .inr (209, 25, 1, 0)] : List en_V).map (en_ev G)).toArray s 1 6 (fun q => G.2.1 ≤ q)) (F0 m 7 ls [.int x, .int 0, .ref (G.2.1 + 209)]) := by
      refine lv_i2l (v := x.toInt64) hx hb (show decode cL_bell 7 = .ok (.i2l, 1) by decide +kernel) rfl ?_
      refine va_last hx hb hK hP2 en_W_D hS1 209 5 hg2 rfl (i := 0) (by unfold vp_in; decide) (show decode cL_bell 8 = .ok (.lastore, 1) by decide +kernel) (fun H1 locs1 hP3 hD3 hS3 => ?_)
      rw [en_W_set (σ' := en_up σ' 209 0 x) ?_ en_up_off] at hP3
      · refine lv_goto (tgt := 15) hx hb (show decode cL_bell 9 = .ok (.goto 6, 3) by decide +kernel) (by decide) ?_
        refine lv_iconst (v := 0) hx hb (show decode cL_bell 15 = .ok (.iconst 0, 1) by decide +kernel) (by decide) ?_
        exact W.iret (v := 0) hx hb hr (fun t ht hW => ⟨rfl, by rw [ht]; exact hP3, hS3.F ht⟩) hS3.2.2 (show decode cL_bell 16 = .ok (.ireturn, 1) by decide +kernel)
      · rw [en_ce_l (by rw [en_ka209]), en_ka209]
        refine congrArg (fun f => (Sum.inl (G.2.2.2.1 25, 1, .inr (.inl f)) : va_E)) (funext fun j => ?_)
        by_cases hj : j = 0
        · subst hj; rfl
        · show (if j = (0 : Int32).toNatClampNeg then _ else _) = _
          rw [if_neg (by exact hj)]
          simp [en_up, hj]
    obtain ⟨t2, a1, b1⟩ := kW T' rfl X'
    exact ⟨t2, st t2 a1, b1⟩
  · subst hrx
    have hf2 : some (1, σ') = some r := (en_cx_r hrr).symm.trans hf
    cases hf2
    subst hE
    obtain ⟨z1, z2, hS1⟩ := vx_keep (H := s.heap) (A1 := fun q => G.2.1 ≤ q) h0 e1 hS (fun _ _ h => h) (fun _ h => h) hLf hF1
    have hP2 : va_P G.2.2.1 en_cl (en_W G.2.1 G.2.2.2.1 G.2.2.2.2.2 210 σ') T'.heap := by rw [e1]; exact hP1
    have kW : vx_W p G.1 e { frames := 6 + 1, cells := 1, slots := 6, locals := 40 * (6 + 1) } s m (([.inr (0, 11, 0, 0), .inl p0, .inr (209, 25, 1, 0)] : List en_V).map (en_ev G)).toArray below meth c T'.heap ([] ++ L) (0 + 1) (0 + 6) (MQ below (en_Q G (some 1, en_zz, σ')) (([.inr (0, 11, 0, 0), .inl p0, .inr (209, 25, 1, 0)] : List en_V).map (en_ev G)).toArray s 1 6 (fun q => G.2.1 ≤ q)) (F0 m 4 ls [.int 0, .ref (G.2.1 + 209)]) q9 := by
      refine vx_catch (own := RL) (name := "java/util/NoSuchElementException") hown [] _ [] htab (fun z hz => by cases hz) rfl (by decide) (hw _ wx_3) (va_Nw.use rfl hN.2.2.2.2.2.2.2.2.1) (by rw [e1]; exact hce) hcv hcl ?_
      refine lv_astore_n (k := 3) (lv' := [(3, .ref q9), (0, .ref (G.2.1 + 0)), (1, .int p0), (2, .ref (G.2.1 + 209))]) hx hb (show decode cL_bell 12 = .ok (.astore_n 3, 1) by decide +kernel) rfl hl (by decide) rfl (fun ls' h' => ?_)
      refine lv_iconst (v := 1) hx hb (show decode cL_bell 13 = .ok (.iconst 1, 1) by decide +kernel) (by decide) ?_
      exact W.iret (v := 1) hx hb hr (fun t ht hW => ⟨rfl, by rw [ht]; exact hP2, hS1.F ht⟩) hS1.2.2 (show decode cL_bell 14 = .ok (.ireturn, 1) by decide +kernel)
    obtain ⟨t2, a1, b1⟩ := kW T' rfl X'
    exact ⟨t2, st.trans a1, b1⟩
theorem wc_row : (.codeWith yL_row cL_row 4 (some .int) [(0, 9, 12, 13)] : Cond) ∈ en_wl := en_m5 (List.mem_of_getElem? (i := 169) rfl) rfl
theorem wl_row : (.methodLink RL 19 yX11_row : Cond) ∈ en_wl := en_m5 (List.mem_of_getElem? (i := 170) rfl) rfl
noncomputable def P_L_row : List en_V → en_M → Option (Int32 × en_M) := fun av σ => match av with
  | [.inr (0, 11, 0, 0), .inl p0, .inr (209, 25, 1, 0)] => en_cx (R_X11_row [.inr (0, 11, 0, 0), .inl p0] σ)
  | _ => none
theorem ox_L_row : ∃ f, f = P_L_row := ⟨_, rfl⟩
noncomputable def O_L_row : List en_V → en_M → Option (Int32 × en_M) := Classical.choose ox_L_row
theorem oe_L_row : O_L_row = P_L_row := Classical.choose_spec ox_L_row
theorem o_L_row (p0 : Int32) (σ : en_M) : O_L_row [.inr (0, 11, 0, 0), .inl p0, .inr (209, 25, 1, 0)] σ = en_cx (R_X11_row [.inr (0, 11, 0, 0), .inl p0] σ) := by rw [oe_L_row]; rfl
set_option maxRecDepth 20000 in
theorem ic_L_row (G : en_G) (hnt : G.1.stackTraces = false) (hst : G.2.2.2.2.2 = true) : en_IC G (6 + 1) yL_row cL_row 4 [(0, 9, 12, 13)] O_L_row := by
  intro av σ r hf hav
  rw [oe_L_row] at hf
  unfold P_L_row at hf
  split at hf
  rotate_left
  · cases hf
  rename_i p0
  refine en_ofWC (cc := cL_row) (maxL := 4) (ret := some .int) (hh := [(0, 9, 12, 13)]) (plainFor_of_name (by decide +kernel)) rfl ?_
  intro p e s m args below meth c s₁ B hml htab hv
  obtain ⟨rfl, hP, hK, hN, hb0, ha⟩ := hv
  have hts := atoms_spec (ws := .codeWith yL_row cL_row 4 (some .int) [(0, 9, 12, 13)] :: en_wl) B.pre
  have hw := fun w h => hts w (List.mem_cons_of_mem _ h)
  have hown : s.vm.findClass RL = some m.cls := findClass_of_methodNamed B.named
  have hlocks := B.notSynchronized
  have hx := B.exec
  have hb := B.bytes
  have hr := B.returns
  have hl := lv_entry ([.inr (0, 11, 0, 0), .inl p0, .inr (209, 25, 1, 0)].map (en_ev G)) (n := 4) (by rw [en_lg]; exact Nat.le_of_ble_eq_true rfl)
  rw [lg_entry_eq]
  generalize (lg_sl ([.inr (0, 11, 0, 0), .inl p0, .inr (209, 25, 1, 0)].map (en_ev G)) ++ List.replicate (4 - (lg_sl ([.inr (0, 11, 0, 0), .inl p0, .inr (209, 25, 1, 0)].map (en_ev G))).length) Slot.unset).toArray = ls at hl ⊢
  have hl : lv_has ls 4 [(0, .ref (G.2.1 + 0)), (1, .int p0), (2, .ref (G.2.1 + 209))] := hl
  have hS : va_S (fun q => G.2.1 ≤ q) s.heap s.heap [] := va_S.rf
  refine lv_aload_n hx hb (show decode cL_row 0 = .ok (.aload_n 2, 1) by decide +kernel) rfl (lv_at hl 2 rfl) ?_
  refine lv_iconst (v := 0) hx hb (show decode cL_row 1 = .ok (.iconst 0, 1) by decide +kernel) (by decide) ?_
  refine lv_aload_n hx hb (show decode cL_row 2 = .ok (.aload_n 0, 1) by decide +kernel) rfl (lv_at hl 0 rfl) ?_
  refine lv_iload_n hx hb (show decode cL_row 3 = .ok (.iload_n 1, 1) by decide +kernel) rfl (lv_at hl 1 rfl) ?_
  obtain ⟨rr, hrr⟩ : ∃ rr, R_X11_row [.inr (0, 11, 0, 0), .inl p0] σ = some rr := by
    cases hR : R_X11_row [.inr (0, 11, 0, 0), .inl p0] σ with
    | none => rw [hR] at hf; cases hf
    | some rr => exact ⟨rr, rfl⟩
  have hM := ix_X11_row G hnt hst [.inr (0, 11, 0, 0), .inl p0] σ rr hrr (by
    intro v hv
    exact hav v (by
      simp only [List.mem_cons, List.not_mem_nil, or_false] at hv ⊢
      rcases hv with h | h <;> simp [h]))
  have hg := en_W_get (b := G.2.1) (cy := G.2.2.2.1) (st := G.2.2.2.2.2) (σ := σ) (sz := 210) (k := 0) (by decide)
  rw [en_ce_o (ci := 11) (by decide +kernel) (by decide)] at hg
  have hrv := va_recv hK hP (ci := 11) (q0 := 0) rfl hg
  have hrun := vx_runV (As := [.int p0]) (rest := [.int 0, .ref (G.2.1 + 209)]) (Ts := en_wl) (cells := 0) (slots := 0) (locs := []) (g := F0 m 4 ls ([.int p0].reverse ++ .ref (G.2.1 + 0) :: [.int 0, .ref (G.2.1 + 209)])) (p := p) (e := e) (R := { frames := 6 + 1, cells := 1, slots := 6, locals := 40 * (6 + 1) }) (below := below) (meth := meth) ⟨hx, hb, hml, hown, hw⟩ hM ⟨callB_of 1 hw (en_goodin cs_X11_row.1) rfl rfl rfl (hw _ cs_X11_row.2.1) (hw _ wl_row) cs_X11_row.2.2.1 ⟨Nat.le_refl _, by have := cs_X11_row.2.2.2; show 8 + (_ + 11) + 40 * 6 ≤ 40 * (6 + 1); omega⟩, hw _ wm_253, hw _ wm_254⟩ ⟨en_blind, hrv, fun U hU hW => ⟨rfl, by rw [hU]; exact hP, va_K.moved hW.alike hK, en_N.at hW (by rw [hU]; exact fun _ _ _ => rfl) hN, by rw [hU]; exact hb0, fun q => by cases q⟩⟩ rfl rfl hl.1 rfl (lv_room (Nat.le_of_ble_eq_true rfl)) (show decode cL_row 4 = .ok (.invokevirtual 19, 3) by decide +kernel) ⟨Nat.le_refl _, Nat.le_refl _⟩
  intro T hT Xs
  rcases hrun T hT Xs with ⟨v, st₀, t, T', L, h0, X', hLf, e1, e2, ⟨x, σ', hrx, hvx, hP1, hF1⟩, st⟩ | ⟨q9, st₀, t, T', L, E, ce, h0, X', hLf, e1, e2, ⟨pcx, Lx, σ', hrx, hE, hP1, hF1⟩, hce, hcv, hcl, st⟩
  · cases hvx
    subst hrx
    have hf2 : some (0, en_up σ' 209 0 x) = some r := (en_cx_l hrr).symm.trans hf
    cases hf2
    obtain ⟨z1, z2, hS1⟩ := vx_keep (H := s.heap) (A1 := fun q => G.2.1 ≤ q) h0 e1 hS (fun _ _ h => h) (fun _ h => h) hLf hF1
    have hP2 : va_P G.2.2.1 en_cl (en_W G.2.1 G.2.2.2.1 G.2.2.2.2.2 210 σ') T'.heap := by rw [e1]; exact hP1
    have hg2 := en_W_get (b := G.2.1) (cy := G.2.2.2.1) (st := G.2.2.2.2.2) (σ := σ') (sz := 210) (k := 209) (by decide)
    rw [en_ce_l (by rw [en_ka209]), en_ka209] at hg2
    have kW : W p G.1 e { frames := 6 + 1, cells := 1, slots := 6, locals := 40 * (6 + 1) } s m (([.inr (0, 11, 0, 0), .inl p0, .inr (209, 25, 1, 0)] : List en_V).map (en_ev G)).toArray below meth c T'.heap ([] ++ L) (0 + 1) (0 + 6) (MQ below (en_Q G (some 0, en_zz, en_up σ' 209 0 x)) (([.inr (0, 11, 0, 0), .inl p0, .inr (209, 25, 1, 0)] : List en_V).map (en_ev G)).toArray s 1 6 (fun q => G.2.1 ≤ q)) (F0 m 7 ls [.int x, .int 0, .ref (G.2.1 + 209)]) := by
      refine lv_i2l (v := x.toInt64) hx hb (show decode cL_row 7 = .ok (.i2l, 1) by decide +kernel) rfl ?_
      refine va_last hx hb hK hP2 en_W_D hS1 209 5 hg2 rfl (i := 0) (by unfold vp_in; decide) (show decode cL_row 8 = .ok (.lastore, 1) by decide +kernel) (fun H1 locs1 hP3 hD3 hS3 => ?_)
      rw [en_W_set (σ' := en_up σ' 209 0 x) ?_ en_up_off] at hP3
      · refine lv_goto (tgt := 15) hx hb (show decode cL_row 9 = .ok (.goto 6, 3) by decide +kernel) (by decide) ?_
        refine lv_iconst (v := 0) hx hb (show decode cL_row 15 = .ok (.iconst 0, 1) by decide +kernel) (by decide) ?_
        exact W.iret (v := 0) hx hb hr (fun t ht hW => ⟨rfl, by rw [ht]; exact hP3, hS3.F ht⟩) hS3.2.2 (show decode cL_row 16 = .ok (.ireturn, 1) by decide +kernel)
      · rw [en_ce_l (by rw [en_ka209]), en_ka209]
        refine congrArg (fun f => (Sum.inl (G.2.2.2.1 25, 1, .inr (.inl f)) : va_E)) (funext fun j => ?_)
        by_cases hj : j = 0
        · subst hj; rfl
        · show (if j = (0 : Int32).toNatClampNeg then _ else _) = _
          rw [if_neg (by exact hj)]
          simp [en_up, hj]
    obtain ⟨t2, a1, b1⟩ := kW T' rfl X'
    exact ⟨t2, st t2 a1, b1⟩
  · subst hrx
    have hf2 : some (1, σ') = some r := (en_cx_r hrr).symm.trans hf
    cases hf2
    subst hE
    obtain ⟨z1, z2, hS1⟩ := vx_keep (H := s.heap) (A1 := fun q => G.2.1 ≤ q) h0 e1 hS (fun _ _ h => h) (fun _ h => h) hLf hF1
    have hP2 : va_P G.2.2.1 en_cl (en_W G.2.1 G.2.2.2.1 G.2.2.2.2.2 210 σ') T'.heap := by rw [e1]; exact hP1
    have kW : vx_W p G.1 e { frames := 6 + 1, cells := 1, slots := 6, locals := 40 * (6 + 1) } s m (([.inr (0, 11, 0, 0), .inl p0, .inr (209, 25, 1, 0)] : List en_V).map (en_ev G)).toArray below meth c T'.heap ([] ++ L) (0 + 1) (0 + 6) (MQ below (en_Q G (some 1, en_zz, σ')) (([.inr (0, 11, 0, 0), .inl p0, .inr (209, 25, 1, 0)] : List en_V).map (en_ev G)).toArray s 1 6 (fun q => G.2.1 ≤ q)) (F0 m 4 ls [.int 0, .ref (G.2.1 + 209)]) q9 := by
      refine vx_catch (own := RL) (name := "java/util/NoSuchElementException") hown [] _ [] htab (fun z hz => by cases hz) rfl (by decide) (hw _ wx_3) (va_Nw.use rfl hN.2.2.2.2.2.2.2.2.1) (by rw [e1]; exact hce) hcv hcl ?_
      refine lv_astore_n (k := 3) (lv' := [(3, .ref q9), (0, .ref (G.2.1 + 0)), (1, .int p0), (2, .ref (G.2.1 + 209))]) hx hb (show decode cL_row 12 = .ok (.astore_n 3, 1) by decide +kernel) rfl hl (by decide) rfl (fun ls' h' => ?_)
      refine lv_iconst (v := 1) hx hb (show decode cL_row 13 = .ok (.iconst 1, 1) by decide +kernel) (by decide) ?_
      exact W.iret (v := 1) hx hb hr (fun t ht hW => ⟨rfl, by rw [ht]; exact hP2, hS1.F ht⟩) hS1.2.2 (show decode cL_row 14 = .ok (.ireturn, 1) by decide +kernel)
    obtain ⟨t2, a1, b1⟩ := kW T' rfl X'
    exact ⟨t2, st.trans a1, b1⟩
