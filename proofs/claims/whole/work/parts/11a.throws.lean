/-! methods that throw -/
def en_z1 : en_Z := (210, 1, 6)
def en_ri1 (x : Int32) (σ : en_M) : en_R := some (.inl (some x, en_z1, σ))
def en_tr (pc : Nat) (L : List en_V) (σ : en_M) : en_R := some (.inr (pc, L, [], en_z1, σ))
def en_sx (ps : List Nat) (r : en_R) : en_R := match r with
  | some (.inl (some x, (210, 1, 6), σ)) => some (.inl (some x, (210, 1, 6), σ))
  | some (.inr (pc, L, [], (210, 1, 6), σ)) => if pc ∈ ps then some (.inr (pc, L, [], (210, 1, 6), σ)) else none
  | _ => none
theorem en_sx_of {ps : List Nat} {r : en_R} {rr : en_T ⊕ en_C} (h : en_sx ps r = some rr) : r = some rr ∧ ((∃ x σ, rr = .inl (some x, en_z1, σ)) ∨ ∃ pc L σ, rr = .inr (pc, L, [], en_z1, σ) ∧ pc ∈ ps) := by
  unfold en_sx at h
  split at h
  · cases h; exact ⟨rfl, Or.inl ⟨_, _, rfl⟩⟩
  · split at h
    · rename_i hp
      cases h; exact ⟨rfl, Or.inr ⟨_, _, _, rfl, hp⟩⟩
    · cases h
  · cases h
def en_QX (G : en_G) (rr : en_T ⊕ en_C) : Array Value → State → Outcome → State → Prop := fun _ st o t => ∃ x σ', rr = .inl (some x, en_z1, σ') ∧ o = .returned (some (.int x)) ∧ va_P G.2.2.1 en_cl (en_W G.2.1 G.2.2.2.1 G.2.2.2.2.2 210 σ') t.heap ∧ va_F (fun q => G.2.1 ≤ q) st t
def en_XX (G : en_G) (rr : en_T ⊕ en_C) : String → State → State → Prop := fun E st t => ∃ pc L σ', rr = .inr (pc, L, [], en_z1, σ') ∧ E = "java/util/NoSuchElementException" ∧ va_P G.2.2.1 en_cl (en_W G.2.1 G.2.2.2.1 G.2.2.2.2.2 210 σ') t.heap ∧ va_F (fun q => G.2.1 ≤ q) st t
def en_IX (G : en_G) (d : Nat) (y : MethodName) (bytes : ByteArray) (maxL : Nat) (f : List en_V → en_M → en_R) : Prop :=
  ∀ (av : List en_V) (σ : en_M) (rr : en_T ⊕ en_C), f av σ = some rr → (∀ v ∈ av, en_okv 210 v ∧ en_pl v = true) →
    vx_Met G.1 y (.code y bytes maxL (some .int) :: en_wl) { frames := d, cells := 1, slots := 6, locals := 40 * d } (va_Pc (av.map (en_ev G)) (en_P G false 210 σ)) (en_QX G rr) (en_XX G rr) 1 6 (fun q => G.2.1 ≤ q)
def en_site (c : ByteArray) (pc : Nat) : Prop := decode c pc = .ok (.new 134, 3) ∧ decode c (pc + 3) = .ok (.dup, 1) ∧
  ((∃ is : Nat, (is = 136 ∨ is = 170 ∨ is = 172) ∧ decode c (pc + 4) = .ok (.ldc is, 2) ∧ decode c (pc + 6) = .ok (.invokespecial 138, 3) ∧ decode c (pc + 9) = .ok (.athrow, 1)) ∨
   (decode c (pc + 4) = .ok (.ldc_w 338, 3) ∧ decode c (pc + 7) = .ok (.invokespecial 138, 3) ∧ decode c (pc + 10) = .ok (.athrow, 1)))
theorem en_throw {G : en_G} {M : en_Me} {p : Program} {ee : Env} {R : Room} {s : State} {m : MethodId} {args : Array Value} {below : List Frame} {meth : Method} {c : Code} {al : Bool} {rr : en_T ⊕ en_C} {pc : Nat} {L : List en_V} {σ : en_M} {H : Heap} {locs : List Loc} {cells slots : Nat} {ls : Array Slot} {Qc : Array Value → State → Outcome → State → Prop}
    (hnt : G.1.stackTraces = false) (hown : M.2.1 = RX11) (X : en_X G M p R s m args meth c) (hs : en_site M.1 pc) (ht : ∀ x ∈ c.exceptionTable.toList, False) (hlocks : meth.locks = false) (hrr : rr = .inr (pc, L, [], en_z1, σ)) (hR : R.cells = 1) (hR2 : R.slots = 6) (hRf : 5 < R.frames) (hRl : 100 ≤ R.locals)
    (hH : en_Hp G al R s en_z1 σ H locs cells slots) (hls : ls.size = c.maxLocals) (hw1 : (.classLink RX11 134 "java/util/NoSuchElementException" : Cond) ∈ en_wl) (hw2 : (.initialized "java/util/NoSuchElementException" : Cond) ∈ en_wl) :
    W p G.1 ee R s m args below meth c H locs cells slots (vx_MQ below Qc (en_XX G rr) args s 1 6 (fun q => G.2.1 ≤ q)) (F0 m pc ls []) := by
  have hE := X.2.2.2.2.2.2.2.2.1.2.2.2
  have ho := X.2.2.2.1
  rw [hown] at ho
  have hc0 : cells + 1 ≤ R.cells := hH.2.2.2.1
  have hs0 : slots + 6 ≤ R.slots := hH.2.2.2.2.1
  have hx : ∀ t : State, s.vm.Alike t.vm → H.size ≤ t.heap.size → (∀ q : Nat, q < H.size → t.heap[q]? = H[q]?) → en_XX G rr "java/util/NoSuchElementException" s t := fun t hv hz hq =>
    ⟨pc, L, σ, hrr, rfl, hH.1.kept (fun k x hx => hq x.1 ((hH.1 k x hx).lt)), Nat.le_trans hH.2.1.1 hz, fun q h1 h2 => (hq q (Nat.lt_of_lt_of_le h1 hH.2.1.1)).trans (hH.2.1.2.1 q h1 h2)⟩
  obtain ⟨d0, d3, hs⟩ := hs
  rcases hs with ⟨is, his, d4, d6, d9⟩ | ⟨d4, d7, d10⟩
  · obtain ⟨text, sa, hstr⟩ : ∃ text sa, vk_R RX11 is text sa s := by
      obtain ⟨⟨-, ⟨a, h1⟩, ⟨b, h2⟩, ⟨d, h3⟩, -⟩, -⟩ := hE
      rcases his with q | q | q <;> subst q
      · exact ⟨_, a, h1⟩
      · exact ⟨_, b, h2⟩
      · exact ⟨_, d, h3⟩
    exact en_throwN X.1 X.2.1 hnt ho (X.2.2.2.2.1 _ hw1) (X.2.2.2.2.1 _ hw2) hstr (en_y_all X.2.2.2.2.1 hE) hE.2.2.2.1 hE.2.2.2.2.1 hH.2.1 hls d0 d3 (Or.inl ⟨d4, rfl⟩) d6 d9 ht hRf (by omega) hc0 hs0 hlocks hx hH.2.1.2.2 (by omega) (by omega)
  · obtain ⟨sa, hstr⟩ := hE.1.2.2.2.2
    exact en_throwN X.1 X.2.1 hnt ho (X.2.2.2.2.1 _ hw1) (X.2.2.2.2.1 _ hw2) hstr (en_y_all X.2.2.2.2.1 hE) hE.2.2.2.1 hE.2.2.2.2.1 hH.2.1 hls d0 d3 (Or.inr ⟨d4, rfl⟩) d7 d10 ht hRf (by omega) hc0 hs0 hlocks hx hH.2.1.2.2 (by omega) (by omega)
theorem en_of_x {G : en_G} {M : en_Me} {y : MethodName} {maxL : Nat} {f : List en_V → en_M → en_R} {B : en_B} {ps : List Nat} (hnt : G.1.stackTraces = false) (hst : G.2.2.2.2.2 = true) (hB : en_Snd G M 0 B) (hcls : plainName y.cls = true) (hown : M.2.1 = y.cls) (hown2 : M.2.1 = RX11) (hml : M.2.2.1 = maxL) (hini : M.2.2.2.1 = false) (hzb : M.2.2.2.2.2 = false) (hdp : 6 ≤ M.2.2.2.2.1)
    (hw1 : (.classLink RX11 134 "java/util/NoSuchElementException" : Cond) ∈ en_wl) (hw2 : (.initialized "java/util/NoSuchElementException" : Cond) ∈ en_wl) (hps : ∀ pc ∈ ps, en_site M.1 pc)
    (hf : ∀ av σ rr, f av σ = some rr → av.length ≤ maxL ∧ en_sx ps (B (en_pad maxL av) [] en_z1 σ) = some rr) : en_IX G M.2.2.2.2.1 y M.1 maxL f := by
  intro av σ rr hfa hav
  obtain ⟨hlen, hsx⟩ := hf av σ rr hfa
  obtain ⟨hBr, hsh⟩ := en_sx_of hsx
  refine vx_ofW (cc := M.1) (maxL := maxL) (ret := some .int) hcls rfl ?_
  intro p e s m args below meth c s₁ B9 hmlc htab hv
  obtain ⟨rfl, hP, hK, hN, hb, ha⟩ := hv
  have hts := atoms_spec (ws := .code y M.1 maxL (some .int) :: en_wl) B9.pre
  have hownc : s.vm.findClass y.cls = some m.cls := findClass_of_methodNamed B9.named
  have hX : en_X G M p { frames := M.2.2.2.2.1, cells := 1, slots := 6, locals := 40 * M.2.2.2.2.1 } s m (av.map (en_ev G)).toArray meth c :=
    ⟨B9.exec, B9.bytes, by rw [hml]; exact hmlc, by rw [hown]; exact hownc, fun w hw => hts w (List.mem_cons_of_mem _ hw), fun q => (by rw [hini] at q; cases q), hb, hK, hN, Nat.le_refl _, Nat.le_refl _⟩
  have hle : (lg_sl (av.map (en_ev G))).length ≤ maxL := by rw [en_lg]; simpa using hlen
  have hl := lv_entry (av.map (en_ev G)) (n := maxL) hle
  rw [lg_entry_eq]
  have hlocks := B9.notSynchronized
  refine hB _ _ _ _ _ hBr p e _ s m _ below meth c false _ hX ?_ s.heap [] 0 0 _ ⟨hP, va_S.rf, (fun q => by cases q), Nat.le_of_eq (Nat.zero_add _), Nat.le_of_eq (Nat.zero_add _), (fun q => by rw [hst] at q; cases q), (fun _ => en_KLn.symm)⟩ ?_ (fun _ q => by cases q)
  · rcases hsh with ⟨x, σ', rfl⟩ | ⟨pc, L, σ', rfl, hpc⟩
    · intro H locs cells slots ls pc hH
      refine ⟨fun x2 hx hd hzb => ?_, fun hx hd => by cases hx⟩
      cases hx
      refine vx_ret ?_
      refine W.widen (k := 1) (n := 6) (Nat.le_trans (Nat.le_add_right _ _) hH.2.2.2.1) (Nat.le_trans (Nat.le_add_right _ _) hH.2.2.2.2.1) ?_
      exact W.iret (v := x) B9.exec B9.bytes B9.returns (fun t ht hW => ⟨x, σ', rfl, rfl, by rw [ht]; exact hH.1, hH.2.1.F ht⟩) hH.2.1.2.2 hd
    · intro H locs cells slots ls hH hL hS
      exact en_throw (L := L) hnt hown2 hX (hps pc hpc) htab hlocks rfl rfl rfl (by show 5 < M.2.2.2.2.1; omega) (by show 100 ≤ 40 * M.2.2.2.2.1; omega) hH (by rw [hL.1]; exact hX.2.2.1.symm) hw1 hw2
  · rw [hml]
    refine ⟨hl.1, hl.2.1, by unfold en_pad; rw [List.length_append, List.length_replicate]; omega, fun i v hi => ?_⟩
    unfold en_pad at hi
    by_cases hlt : i < av.length
    · rw [List.getElem?_append_left hlt] at hi
      have hm := hav v (List.mem_of_getElem? hi)
      refine Or.inr ⟨?_, hl.2.2 (i, en_ev G v) (by have := en_lvargs (G := G) (k := 0) hi; rwa [Nat.zero_add] at this)⟩
      cases v with
      | inl x => trivial
      | inr w => exact Or.inr hm.1
    · rw [List.getElem?_append_right (Nat.not_lt.mp hlt)] at hi
      have := List.mem_of_getElem? hi
      rw [List.eq_of_mem_replicate this]
      exact Or.inl ⟨_, rfl, rfl⟩
theorem wx_1 : (.classLink RX11 134 "java/util/NoSuchElementException" : Cond) ∈ en_wl := en_m5 (List.mem_of_getElem? (i := 92) rfl) rfl
theorem wx_2 : (.initialized "java/util/NoSuchElementException" : Cond) ∈ en_wl := en_m1 (List.mem_of_getElem? (i := 25) rfl) rfl
theorem wx_3 : (.classLink RL 13 "java/util/NoSuchElementException" : Cond) ∈ en_wl := en_m5 (List.mem_of_getElem? (i := 87) rfl) rfl
def M_X11_ringer : en_Me := (cX11_ringer, RX11, 3, false, 6, false)
theorem cs_X11_ringer : en_cs yX11_ringer cX11_ringer 3 (some .int) 2 := ⟨wm_81, wm_2, ⟨(by decide +kernel), (by decide +kernel), (by decide +kernel)⟩, (Nat.le_of_ble_eq_true rfl)⟩
noncomputable def B_X11_ringer_142 (kc : Nat → en_B) : en_B := (op_cut 142)
set_option maxRecDepth 20000 in
theorem s_X11_ringer_142 (G : en_G) (hst : G.2.2.2.2.2 = true) (kc : Nat → en_B) (hk : ∀ t, en_Snd G M_X11_ringer t (kc t)) : en_Snd G M_X11_ringer 142 (B_X11_ringer_142 kc) := sn_cut
noncomputable def B_X11_ringer_128 (kc : Nat → en_B) : en_B := (op_aload 0 (op_gets 11 5 (10, 0, 0) (op_aload 0 (op_gets 11 15 (7, 0, 0) (op_iload 1 (op_const (0 : Int32) (op_rcv 10 3 (op_calli O_X10_moreTired 4 op_iret))))))))
set_option maxRecDepth 20000 in
theorem s_X11_ringer_128 (G : en_G) (hst : G.2.2.2.2.2 = true) (kc : Nat → en_B) (hk : ∀ t, en_Snd G M_X11_ringer t (kc t)) : en_Snd G M_X11_ringer 128 (B_X11_ringer_128 kc) := (sn_aload_n (i := 0) (n := 0) (by decide +kernel) rfl (sn_gets (ci := 11) (j := 2) (off := 5) hst en_c11 of_11_5 (Nat.le_of_ble_eq_true rfl) (by decide +kernel) wm_18 (Nat.le_of_ble_eq_true rfl) rfl (sn_aload_n (i := 0) (n := 0) (by decide +kernel) rfl (sn_gets (ci := 11) (j := 3) (off := 15) hst en_c11 of_11_15 (Nat.le_of_ble_eq_true rfl) (by decide +kernel) wm_23 (Nat.le_of_ble_eq_true rfl) rfl (sn_iload_n (i := 1) (n := 1) (by decide +kernel) rfl (sn_iconst (n := 0) (v := 0) (by decide +kernel) rfl (sn_callVi (n := 3) (idx := 166) (ci := 10) (i_X10_moreTired G hst) (Nat.le_of_ble_eq_true rfl) cs_X10_moreTired ⟨wm_1131, wm_1132, wm_93⟩ ⟨⟨_, rfl, rfl⟩, (Nat.le_of_ble_eq_true rfl)⟩ (by decide +kernel) (sn_iret (by decide +kernel) rfl))))))))
noncomputable def B_X11_ringer_116 (kc : Nat → en_B) : en_B := (op_aload 0 (op_gets 11 15 (7, 0, 0) (op_geti 7 7 (op_iload 1 (op_calli O_X11_bit 2 op_iret)))))
set_option maxRecDepth 20000 in
theorem s_X11_ringer_116 (G : en_G) (hst : G.2.2.2.2.2 = true) (kc : Nat → en_B) (hk : ∀ t, en_Snd G M_X11_ringer t (kc t)) : en_Snd G M_X11_ringer 116 (B_X11_ringer_116 kc) := (sn_aload_n (i := 0) (n := 0) (by decide +kernel) rfl (sn_gets (ci := 11) (j := 3) (off := 15) hst en_c11 of_11_15 (Nat.le_of_ble_eq_true rfl) (by decide +kernel) wm_23 (Nat.le_of_ble_eq_true rfl) rfl (sn_geti (ci := 7) (j := 7) en_c7 (by decide +kernel) wm_91 (Nat.le_of_ble_eq_true rfl) rfl (sn_iload_n (i := 1) (n := 1) (by decide +kernel) rfl (sn_callSi (n := 2) (idx := 163) (i_X11_bit G hst) (Nat.le_of_ble_eq_true rfl) cs_X11_bit ⟨wm_257, Or.inl wm_92⟩ (by decide +kernel) (sn_iret (by decide +kernel) rfl))))))
noncomputable def B_X11_ringer_104 (kc : Nat → en_B) : en_B := (op_aload 0 (op_gets 11 15 (7, 0, 0) (op_geti 7 4 (op_iload 1 (op_calli O_X11_placeOf 2 op_iret)))))
set_option maxRecDepth 20000 in
theorem s_X11_ringer_104 (G : en_G) (hst : G.2.2.2.2.2 = true) (kc : Nat → en_B) (hk : ∀ t, en_Snd G M_X11_ringer t (kc t)) : en_Snd G M_X11_ringer 104 (B_X11_ringer_104 kc) := (sn_aload_n (i := 0) (n := 0) (by decide +kernel) rfl (sn_gets (ci := 11) (j := 3) (off := 15) hst en_c11 of_11_15 (Nat.le_of_ble_eq_true rfl) (by decide +kernel) wm_23 (Nat.le_of_ble_eq_true rfl) rfl (sn_geti (ci := 7) (j := 4) en_c7 (by decide +kernel) wm_89 (Nat.le_of_ble_eq_true rfl) rfl (sn_iload_n (i := 1) (n := 1) (by decide +kernel) rfl (sn_callSi (n := 2) (idx := 156) (i_X11_placeOf G hst) (Nat.le_of_ble_eq_true rfl) cs_X11_placeOf ⟨wm_280, Or.inl wm_90⟩ (by decide +kernel) (sn_iret (by decide +kernel) rfl))))))
noncomputable def B_X11_ringer_94 (kc : Nat → en_B) : en_B := (op_aload 0 (op_gets 11 15 (7, 0, 0) (op_gets 7 3 (20, 7, 0) (op_iload 1 (op_ald 20 op_iret)))))
set_option maxRecDepth 20000 in
theorem s_X11_ringer_94 (G : en_G) (hst : G.2.2.2.2.2 = true) (kc : Nat → en_B) (hk : ∀ t, en_Snd G M_X11_ringer t (kc t)) : en_Snd G M_X11_ringer 94 (B_X11_ringer_94 kc) := (sn_aload_n (i := 0) (n := 0) (by decide +kernel) rfl (sn_gets (ci := 11) (j := 3) (off := 15) hst en_c11 of_11_15 (Nat.le_of_ble_eq_true rfl) (by decide +kernel) wm_23 (Nat.le_of_ble_eq_true rfl) rfl (sn_gets (ci := 7) (j := 2) (off := 3) hst en_c7 of_7_3 (Nat.le_of_ble_eq_true rfl) (by decide +kernel) wm_88 (Nat.le_of_ble_eq_true rfl) rfl (sn_iload_n (i := 1) (n := 1) (by decide +kernel) rfl (sn_iald (by decide +kernel) (sn_iret (by decide +kernel) rfl))))))
noncomputable def B_X11_ringer_84 (kc : Nat → en_B) : en_B := (op_aload 0 (op_gets 11 15 (7, 0, 0) (op_gets 7 2 (20, 7, 0) (op_iload 1 (op_ald 20 op_iret)))))
set_option maxRecDepth 20000 in
theorem s_X11_ringer_84 (G : en_G) (hst : G.2.2.2.2.2 = true) (kc : Nat → en_B) (hk : ∀ t, en_Snd G M_X11_ringer t (kc t)) : en_Snd G M_X11_ringer 84 (B_X11_ringer_84 kc) := (sn_aload_n (i := 0) (n := 0) (by decide +kernel) rfl (sn_gets (ci := 11) (j := 3) (off := 15) hst en_c11 of_11_15 (Nat.le_of_ble_eq_true rfl) (by decide +kernel) wm_23 (Nat.le_of_ble_eq_true rfl) rfl (sn_gets (ci := 7) (j := 1) (off := 2) hst en_c7 of_7_2 (Nat.le_of_ble_eq_true rfl) (by decide +kernel) wm_87 (Nat.le_of_ble_eq_true rfl) rfl (sn_iload_n (i := 1) (n := 1) (by decide +kernel) rfl (sn_iald (by decide +kernel) (sn_iret (by decide +kernel) rfl))))))
noncomputable def B_X11_ringer_74 (kc : Nat → en_B) : en_B := (op_aload 0 (op_gets 11 15 (7, 0, 0) (op_gets 7 1 (20, 7, 0) (op_iload 1 (op_ald 20 op_iret)))))
set_option maxRecDepth 20000 in
theorem s_X11_ringer_74 (G : en_G) (hst : G.2.2.2.2.2 = true) (kc : Nat → en_B) (hk : ∀ t, en_Snd G M_X11_ringer t (kc t)) : en_Snd G M_X11_ringer 74 (B_X11_ringer_74 kc) := (sn_aload_n (i := 0) (n := 0) (by decide +kernel) rfl (sn_gets (ci := 11) (j := 3) (off := 15) hst en_c11 of_11_15 (Nat.le_of_ble_eq_true rfl) (by decide +kernel) wm_23 (Nat.le_of_ble_eq_true rfl) rfl (sn_gets (ci := 7) (j := 0) (off := 1) hst en_c7 of_7_1 (Nat.le_of_ble_eq_true rfl) (by decide +kernel) wm_86 (Nat.le_of_ble_eq_true rfl) rfl (sn_iload_n (i := 1) (n := 1) (by decide +kernel) rfl (sn_iald (by decide +kernel) (sn_iret (by decide +kernel) rfl))))))
noncomputable def B_X11_ringer_64 (kc : Nat → en_B) : en_B := (op_aload 0 (op_gets 11 5 (10, 0, 0) (op_gets 10 1 (20, 7, 0) (op_iload 1 (op_ald 20 op_iret)))))
set_option maxRecDepth 20000 in
theorem s_X11_ringer_64 (G : en_G) (hst : G.2.2.2.2.2 = true) (kc : Nat → en_B) (hk : ∀ t, en_Snd G M_X11_ringer t (kc t)) : en_Snd G M_X11_ringer 64 (B_X11_ringer_64 kc) := (sn_aload_n (i := 0) (n := 0) (by decide +kernel) rfl (sn_gets (ci := 11) (j := 2) (off := 5) hst en_c11 of_11_5 (Nat.le_of_ble_eq_true rfl) (by decide +kernel) wm_18 (Nat.le_of_ble_eq_true rfl) rfl (sn_gets (ci := 10) (j := 0) (off := 1) hst en_c10 of_10_1 (Nat.le_of_ble_eq_true rfl) (by decide +kernel) wm_85 (Nat.le_of_ble_eq_true rfl) rfl (sn_iload_n (i := 1) (n := 1) (by decide +kernel) rfl (sn_iald (by decide +kernel) (sn_iret (by decide +kernel) rfl))))))
noncomputable def B_X11_ringer_21 (kc : Nat → en_B) : en_B := (op_iload 2 (op_sw [((0 : Int32), (B_X11_ringer_64 kc)), ((1 : Int32), (B_X11_ringer_74 kc)), ((2 : Int32), (B_X11_ringer_84 kc)), ((3 : Int32), (B_X11_ringer_94 kc)), ((4 : Int32), (B_X11_ringer_104 kc)), ((5 : Int32), (B_X11_ringer_116 kc)), ((6 : Int32), (B_X11_ringer_128 kc))] (B_X11_ringer_142 kc)))
set_option maxRecDepth 20000 in
theorem s_X11_ringer_21 (G : en_G) (hst : G.2.2.2.2.2 = true) (kc : Nat → en_B) (hk : ∀ t, en_Snd G M_X11_ringer t (kc t)) : en_Snd G M_X11_ringer 21 (B_X11_ringer_21 kc) := (sn_iload_n (i := 2) (n := 2) (by decide +kernel) rfl (sn_tsw (offs := #[42, 52, 62, 72, 82, 94, 106]) (len := 42) (dflt := 120) (hi := 6) (dt := 142) (by decide +kernel) rfl (show 7 < 2 ^ 31 by decide) rfl (s_X11_ringer_142 G hst kc hk) (fun i hi => match i, hi with | 0, _ => ⟨rfl, 42, 64, rfl, rfl, (s_X11_ringer_64 G hst kc hk)⟩ | 1, _ => ⟨rfl, 52, 74, rfl, rfl, (s_X11_ringer_74 G hst kc hk)⟩ | 2, _ => ⟨rfl, 62, 84, rfl, rfl, (s_X11_ringer_84 G hst kc hk)⟩ | 3, _ => ⟨rfl, 72, 94, rfl, rfl, (s_X11_ringer_94 G hst kc hk)⟩ | 4, _ => ⟨rfl, 82, 104, rfl, rfl, (s_X11_ringer_104 G hst kc hk)⟩ | 5, _ => ⟨rfl, 94, 116, rfl, rfl, (s_X11_ringer_116 G hst kc hk)⟩ | 6, _ => ⟨rfl, 106, 128, rfl, rfl, (s_X11_ringer_128 G hst kc hk)⟩ | n + 7, h9 => absurd h9 (by simp))))
noncomputable def B_X11_ringer_0 (kc : Nat → en_B) : en_B := (op_aload 0 (op_gets 11 5 (10, 0, 0) (op_iload 1 (op_rcv 10 1 (op_calli O_X10_hasRinger 2 (op_ifeq (op_cut 11) (B_X11_ringer_21 kc)))))))
set_option maxRecDepth 20000 in
theorem s_X11_ringer_0 (G : en_G) (hst : G.2.2.2.2.2 = true) (kc : Nat → en_B) (hk : ∀ t, en_Snd G M_X11_ringer t (kc t)) : en_Snd G M_X11_ringer 0 (B_X11_ringer_0 kc) := (sn_aload_n (i := 0) (n := 0) (by decide +kernel) rfl (sn_gets (ci := 11) (j := 2) (off := 5) hst en_c11 of_11_5 (Nat.le_of_ble_eq_true rfl) (by decide +kernel) wm_18 (Nat.le_of_ble_eq_true rfl) rfl (sn_iload_n (i := 1) (n := 1) (by decide +kernel) rfl (sn_callVi (n := 1) (idx := 131) (ci := 10) (i_X10_hasRinger G hst) (Nat.le_of_ble_eq_true rfl) cs_X10_hasRinger ⟨wm_1115, wm_1116, wm_84⟩ ⟨⟨_, rfl, rfl⟩, (Nat.le_of_ble_eq_true rfl)⟩ (by decide +kernel) (sn_ifne (off := 13) (tgt := 21) (by decide +kernel) rfl (s_X11_ringer_21 G hst kc hk) sn_cut)))))
noncomputable def T_X11_ringer_0 (x1 : Int32) (x2 : Int32) (σ : en_M) : en_R := B_X11_ringer_0 (fun _ => en_no) [.inr (0, 11, 0, 0), .inl x1, .inl x2] [] en_z1 σ
set_option maxRecDepth 400000 in
set_option maxHeartbeats 4000000 in
theorem t_X11_ringer_0 (x1 : Int32) (x2 : Int32) (σ : en_M) : T_X11_ringer_0 x1 x2 σ = ((O_X10_hasRinger [.inr (5, 10, 0, 0), .inl x1] σ).bind fun r1 => if r1.1 = 0 then (en_tr 11 [.inr (0, 11, 0, 0), .inl x1, .inl x2] r1.2) else ((if x2 = (0 : Int32) then ((en_ix x1 7).bind fun j2 => en_ri1 (r1.2 6 j2) r1.2) else (if x2 = (1 : Int32) then ((en_ix x1 7).bind fun j3 => en_ri1 (r1.2 16 j3) r1.2) else (if x2 = (2 : Int32) then ((en_ix x1 7).bind fun j4 => en_ri1 (r1.2 17 j4) r1.2) else (if x2 = (3 : Int32) then ((en_ix x1 7).bind fun j5 => en_ri1 (r1.2 18 j5) r1.2) else (if x2 = (4 : Int32) then ((O_X11_placeOf [.inl (r1.2 15 4), .inl x1] r1.2).bind fun r6 => en_ri1 r6.1 r6.2) else (if x2 = (5 : Int32) then ((O_X11_bit [.inl (r1.2 15 7), .inl x1] r1.2).bind fun r7 => en_ri1 r7.1 r7.2) else (if x2 = (6 : Int32) then ((O_X10_moreTired [.inr (5, 10, 0, 0), .inr (15, 7, 0, 0), .inl x1, .inl (0 : Int32)] r1.2).bind fun r8 => en_ri1 r8.1 r8.2) else (en_tr 142 [.inr (0, 11, 0, 0), .inl x1, .inl x2] r1.2)))))))))) := rfl
noncomputable def R_X11_ringer : List en_V → en_M → en_R := fun av σ => match av with
  | [.inr (0, 11, 0, 0), .inl x1, .inl x2] => en_sx [11, 142] (T_X11_ringer_0 x1 x2 σ)
  | _ => none
theorem ix_X11_ringer (G : en_G) (hnt : G.1.stackTraces = false) (hst : G.2.2.2.2.2 = true) : en_IX G 6 yX11_ringer cX11_ringer 3 R_X11_ringer := en_of_x (M := M_X11_ringer) (ps := [11, 142]) hnt hst (s_X11_ringer_0 G hst _ (fun _ => sn_no)) (by decide +kernel) rfl rfl rfl rfl rfl (Nat.le_of_ble_eq_true rfl) wx_1 wx_2 (List.forall_mem_cons.mpr ⟨⟨(by decide +kernel), (by decide +kernel), Or.inl ⟨136, by decide, (by decide +kernel), (by decide +kernel), (by decide +kernel)⟩⟩, List.forall_mem_cons.mpr ⟨⟨(by decide +kernel), (by decide +kernel), Or.inl ⟨170, by decide, (by decide +kernel), (by decide +kernel), (by decide +kernel)⟩⟩, fun _ h => by cases h⟩⟩) (fun av σ rr h => by
  unfold R_X11_ringer at h
  split at h
  · exact ⟨(Nat.le_of_ble_eq_true rfl), h⟩
  · cases h)
def M_X11_bell : en_Me := (cX11_bell, RX11, 2, false, 6, false)
theorem cs_X11_bell : en_cs yX11_bell cX11_bell 2 (some .int) 1 := ⟨wm_94, wm_2, ⟨(by decide +kernel), (by decide +kernel), (by decide +kernel)⟩, (Nat.le_of_ble_eq_true rfl)⟩
noncomputable def B_X11_bell_21 (kc : Nat → en_B) : en_B := (op_aload 0 (op_gets 11 15 (7, 0, 0) (op_geti 7 4 (op_iload 1 (op_calli O_X11_bellAt 2 op_iret)))))
set_option maxRecDepth 20000 in
theorem s_X11_bell_21 (G : en_G) (hst : G.2.2.2.2.2 = true) (kc : Nat → en_B) (hk : ∀ t, en_Snd G M_X11_bell t (kc t)) : en_Snd G M_X11_bell 21 (B_X11_bell_21 kc) := (sn_aload_n (i := 0) (n := 0) (by decide +kernel) rfl (sn_gets (ci := 11) (j := 3) (off := 15) hst en_c11 of_11_15 (Nat.le_of_ble_eq_true rfl) (by decide +kernel) wm_23 (Nat.le_of_ble_eq_true rfl) rfl (sn_geti (ci := 7) (j := 4) en_c7 (by decide +kernel) wm_89 (Nat.le_of_ble_eq_true rfl) rfl (sn_iload_n (i := 1) (n := 1) (by decide +kernel) rfl (sn_callSi (n := 2) (idx := 174) (i_X11_bellAt G hst) (Nat.le_of_ble_eq_true rfl) cs_X11_bellAt ⟨wm_276, Or.inl wm_97⟩ (by decide +kernel) (sn_iret (by decide +kernel) rfl))))))
noncomputable def B_X11_bell_0 (kc : Nat → en_B) : en_B := (op_aload 0 (op_gets 11 5 (10, 0, 0) (op_iload 1 (op_rcv 10 1 (op_calli O_X10_hasRinger 2 (op_ifeq (op_cut 11) (B_X11_bell_21 kc)))))))
set_option maxRecDepth 20000 in
theorem s_X11_bell_0 (G : en_G) (hst : G.2.2.2.2.2 = true) (kc : Nat → en_B) (hk : ∀ t, en_Snd G M_X11_bell t (kc t)) : en_Snd G M_X11_bell 0 (B_X11_bell_0 kc) := (sn_aload_n (i := 0) (n := 0) (by decide +kernel) rfl (sn_gets (ci := 11) (j := 2) (off := 5) hst en_c11 of_11_5 (Nat.le_of_ble_eq_true rfl) (by decide +kernel) wm_18 (Nat.le_of_ble_eq_true rfl) rfl (sn_iload_n (i := 1) (n := 1) (by decide +kernel) rfl (sn_callVi (n := 1) (idx := 131) (ci := 10) (i_X10_hasRinger G hst) (Nat.le_of_ble_eq_true rfl) cs_X10_hasRinger ⟨wm_1115, wm_1116, wm_84⟩ ⟨⟨_, rfl, rfl⟩, (Nat.le_of_ble_eq_true rfl)⟩ (by decide +kernel) (sn_ifne (off := 13) (tgt := 21) (by decide +kernel) rfl (s_X11_bell_21 G hst kc hk) sn_cut)))))
noncomputable def T_X11_bell_0 (x1 : Int32) (σ : en_M) : en_R := B_X11_bell_0 (fun _ => en_no) [.inr (0, 11, 0, 0), .inl x1] [] en_z1 σ
set_option maxRecDepth 400000 in
set_option maxHeartbeats 4000000 in
theorem t_X11_bell_0 (x1 : Int32) (σ : en_M) : T_X11_bell_0 x1 σ = ((O_X10_hasRinger [.inr (5, 10, 0, 0), .inl x1] σ).bind fun r1 => if r1.1 = 0 then (en_tr 11 [.inr (0, 11, 0, 0), .inl x1] r1.2) else ((O_X11_bellAt [.inl (r1.2 15 4), .inl x1] r1.2).bind fun r2 => en_ri1 r2.1 r2.2)) := rfl
noncomputable def R_X11_bell : List en_V → en_M → en_R := fun av σ => match av with
  | [.inr (0, 11, 0, 0), .inl x1] => en_sx [11] (T_X11_bell_0 x1 σ)
  | _ => none
theorem ix_X11_bell (G : en_G) (hnt : G.1.stackTraces = false) (hst : G.2.2.2.2.2 = true) : en_IX G 6 yX11_bell cX11_bell 2 R_X11_bell := en_of_x (M := M_X11_bell) (ps := [11]) hnt hst (s_X11_bell_0 G hst _ (fun _ => sn_no)) (by decide +kernel) rfl rfl rfl rfl rfl (Nat.le_of_ble_eq_true rfl) wx_1 wx_2 (List.forall_mem_cons.mpr ⟨⟨(by decide +kernel), (by decide +kernel), Or.inl ⟨172, by decide, (by decide +kernel), (by decide +kernel), (by decide +kernel)⟩⟩, fun _ h => by cases h⟩) (fun av σ rr h => by
  unfold R_X11_bell at h
  split at h
  · exact ⟨(Nat.le_of_ble_eq_true rfl), h⟩
  · cases h)
def M_X11_row : en_Me := (cX11_row, RX11, 2, false, 6, false)
theorem cs_X11_row : en_cs yX11_row cX11_row 2 (some .int) 1 := ⟨wm_252, wm_2, ⟨(by decide +kernel), (by decide +kernel), (by decide +kernel)⟩, (Nat.le_of_ble_eq_true rfl)⟩
noncomputable def B_X11_row_26 (kc : Nat → en_B) : en_B := (op_aload 0 (op_gets 11 3 (9, 0, 0) (op_gets 9 1 (20, 16, 0) (op_iload 1 (op_ald 20 op_iret)))))
set_option maxRecDepth 20000 in
theorem s_X11_row_26 (G : en_G) (hst : G.2.2.2.2.2 = true) (kc : Nat → en_B) (hk : ∀ t, en_Snd G M_X11_row t (kc t)) : en_Snd G M_X11_row 26 (B_X11_row_26 kc) := (sn_aload_n (i := 0) (n := 0) (by decide +kernel) rfl (sn_gets (ci := 11) (j := 1) (off := 3) hst en_c11 of_11_3 (Nat.le_of_ble_eq_true rfl) (by decide +kernel) wm_13 (Nat.le_of_ble_eq_true rfl) rfl (sn_gets (ci := 9) (j := 0) (off := 1) hst en_c9 of_9_1 (Nat.le_of_ble_eq_true rfl) (by decide +kernel) wm_255 (Nat.le_of_ble_eq_true rfl) rfl (sn_iload_n (i := 1) (n := 1) (by decide +kernel) rfl (sn_iald (by decide +kernel) (sn_iret (by decide +kernel) rfl))))))
noncomputable def B_X11_row_15 (kc : Nat → en_B) : en_B := (op_cut 15)
set_option maxRecDepth 20000 in
theorem s_X11_row_15 (G : en_G) (hst : G.2.2.2.2.2 = true) (kc : Nat → en_B) (hk : ∀ t, en_Snd G M_X11_row t (kc t)) : en_Snd G M_X11_row 15 (B_X11_row_15 kc) := sn_cut
noncomputable def B_X11_row_0 (kc : Nat → en_B) : en_B := (op_iload 1 (op_iflt (B_X11_row_15 kc) (op_iload 1 (op_aload 0 (op_gets 11 3 (9, 0, 0) (op_geti 9 1 (op_iclt (B_X11_row_26 kc) (B_X11_row_15 kc))))))))
set_option maxRecDepth 20000 in
theorem s_X11_row_0 (G : en_G) (hst : G.2.2.2.2.2 = true) (kc : Nat → en_B) (hk : ∀ t, en_Snd G M_X11_row t (kc t)) : en_Snd G M_X11_row 0 (B_X11_row_0 kc) := (sn_iload_n (i := 1) (n := 1) (by decide +kernel) rfl (sn_iflt (off := 14) (tgt := 15) (by decide +kernel) rfl (s_X11_row_15 G hst kc hk) (sn_iload_n (i := 1) (n := 1) (by decide +kernel) rfl (sn_aload_n (i := 0) (n := 0) (by decide +kernel) rfl (sn_gets (ci := 11) (j := 1) (off := 3) hst en_c11 of_11_3 (Nat.le_of_ble_eq_true rfl) (by decide +kernel) wm_13 (Nat.le_of_ble_eq_true rfl) rfl (sn_geti (ci := 9) (j := 1) en_c9 (by decide +kernel) wm_251 (Nat.le_of_ble_eq_true rfl) rfl (sn_iclt (off := 14) (tgt := 26) (by decide +kernel) rfl (s_X11_row_26 G hst kc hk) (s_X11_row_15 G hst kc hk))))))))
noncomputable def T_X11_row_0 (x1 : Int32) (σ : en_M) : en_R := B_X11_row_0 (fun _ => en_no) [.inr (0, 11, 0, 0), .inl x1] [] en_z1 σ
set_option maxRecDepth 400000 in
set_option maxHeartbeats 4000000 in
theorem t_X11_row_0 (x1 : Int32) (σ : en_M) : T_X11_row_0 x1 σ = (if x1 < 0 then (en_tr 15 [.inr (0, 11, 0, 0), .inl x1] σ) else (if x1 < (σ 3 1) then ((en_ix x1 16).bind fun j1 => en_ri1 (σ 4 j1) σ) else (en_tr 15 [.inr (0, 11, 0, 0), .inl x1] σ))) := rfl
noncomputable def R_X11_row : List en_V → en_M → en_R := fun av σ => match av with
  | [.inr (0, 11, 0, 0), .inl x1] => en_sx [15] (T_X11_row_0 x1 σ)
  | _ => none
theorem ix_X11_row (G : en_G) (hnt : G.1.stackTraces = false) (hst : G.2.2.2.2.2 = true) : en_IX G 6 yX11_row cX11_row 2 R_X11_row := en_of_x (M := M_X11_row) (ps := [15]) hnt hst (s_X11_row_0 G hst _ (fun _ => sn_no)) (by decide +kernel) rfl rfl rfl rfl rfl (Nat.le_of_ble_eq_true rfl) wx_1 wx_2 (List.forall_mem_cons.mpr ⟨⟨(by decide +kernel), (by decide +kernel), Or.inr ⟨(by decide +kernel), (by decide +kernel), (by decide +kernel)⟩⟩, fun _ h => by cases h⟩) (fun av σ rr h => by
  unfold R_X11_row at h
  split at h
  · exact ⟨(Nat.le_of_ble_eq_true rfl), h⟩
  · cases h)
