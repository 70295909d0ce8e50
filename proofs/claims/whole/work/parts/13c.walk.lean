/-! the law, walked: from the entry to its end, over an abstract invariant -/
theorem t_law_gen2 (f g : en_F) (len : Nat) (za zb : Nat × Nat) (σa σb : en_M) (ha : f [.inr (0, 11, 0, 0)] (1, 184, 20159) (en_nr en_s0 0) = some (none, (185, za), σa)) (hb : g [.inr (185, 12, 0, 0)] (186, 23, 10760) (en_nr σa 185) = some (none, (209, zb), σb)) :
    BG_law f g [.inr (0, 30, len, 0), en_un, en_un, en_un, en_un, en_un, en_un] [] (0, 601024, 7293034) en_s0 = some (.inr (23, [.inr (0, 30, len, 0), .inr (0, 11, 0, 0), .inr (185, 12, 0, 0), .inr (209, 25, 1, 0), .inl 0, en_un, en_un], [], (210, 600814, 7262056), en_nr σb 209)) := by
  unfold BG_law
  rw [on_nw (by decide +kernel), on_dup, on_rcv (by decide +kernel)]
  dsimp only
  rw [on_call (r := (none, (185, za), σa)) (by decide +kernel) (by simpa only [List.take, List.reverse_cons, List.reverse_nil, List.nil_append, en_ka0] using ha) rfl rfl]
  dsimp only
  rw [List.drop_one, List.tail_cons, on_astore, on_nw (by decide +kernel), on_dup, on_rcv (by decide +kernel)]
  dsimp only
  rw [on_call (r := (none, (209, zb), σb)) (by decide +kernel) (by simpa only [List.take, List.reverse_cons, List.reverse_nil, List.nil_append, en_ka185] using hb) rfl rfl]
  dsimp only
  rw [List.drop_one, List.tail_cons, on_astore, on_const, on_na (by decide +kernel) (by decide), on_astore, on_const, on_istore]
  dsimp only
  rw [en_ka0, en_ka185, en_ka209]
  rfl
theorem t_law_0z (len : Nat) : B_law_0 [.inr (0, 30, len, 0), en_un, en_un, en_un, en_un, en_un, en_un] [] (0, 601024, 7293034) en_s0 = some (.inr (23, [.inr (0, 30, len, 0), .inr (0, 11, 0, 0), .inr (185, 12, 0, 0), .inr (209, 25, 1, 0), .inl 0, en_un, en_un], [], (210, 600814, 7262056), en_s1)) := by
  obtain ⟨za, ha⟩ := en_ra_e
  obtain ⟨zb, hb⟩ := en_rb_e
  rw [← BG_law_e]
  exact t_law_gen2 _ _ len za zb en_sa en_sb ha hb
theorem en_Hp_z {G : en_G} {s : State} {σ : en_M} {H : Heap} {locs : List Loc} {cells slots : Nat} (h : en_Hp G false room_1 s en_zz σ H locs cells slots) : en_Hp G false room_1 s (210, 601024 - cells, 7293034 - slots) σ H locs cells slots := by
  obtain ⟨h1, h2, h3, h4, h5, h6, h7⟩ := h
  have h4 : cells + 0 ≤ 601024 := h4
  have h5 : slots + 0 ≤ 7293034 := h5
  exact ⟨h1, h2, (fun q => by cases q), (show cells + (601024 - cells) ≤ 601024 by omega), (show slots + (7293034 - slots) ≤ 7293034 by omega), h6, fun q => h7 q⟩
theorem en_Hp_zz {G : en_G} {s : State} {σ : en_M} {H : Heap} {locs : List Loc} {cells slots A B : Nat} (h : en_Hp G false room_1 s (210, A, B) σ H locs cells slots) : en_Hp G false room_1 s en_zz σ H locs cells slots ∧ cells + A ≤ 601024 ∧ slots + B ≤ 7293034 := by
  obtain ⟨h1, h2, h3, h4, h5, h6, h7⟩ := h
  have h4 : cells + A ≤ 601024 := h4
  have h5 : slots + B ≤ 7293034 := h5
  exact ⟨⟨h1, h2, (fun q => by cases q), (show cells + 0 ≤ 601024 by omega), (show slots + 0 ≤ 7293034 by omega), h6, fun q => h7 q⟩, h4, h5⟩
/-- a stretch from one cut to the next, its room kept -/
theorem en_run {G : en_G} {p : Program} {e : Env} {s : State} {m : MethodId} {args : Array Value} {below : List Frame} {meth : Method} {c : Code} {Q : State → Prop} {H : Heap} {locs : List Loc} {cells slots : Nat} {ls : Array Slot} {pc pc' : Nat} {L S L' S' : List en_V} {σ σ' : en_M} {B : en_B}
    (X : en_X G M_law p room_1 s m args meth c) (hs : en_Snd G M_law pc B) (hB : ∀ z, B L S z σ = some (.inr (pc', L', S', z, σ'))) (hH : en_Hp G false room_1 s en_zz σ H locs cells slots) (hL : en_Ls G (en_fo G s) 7 210 L ls) (hS : ∀ v ∈ S, en_ok (en_fo G s) G.2.2.2.2.1.2.1 210 v)
    (k : ∀ (H1 : Heap) (locs1 : List Loc) (cells1 slots1 : Nat) (ls1 : Array Slot), cells1 ≤ cells → slots1 ≤ slots → en_Hp G false room_1 s en_zz σ' H1 locs1 cells1 slots1 → en_Ls G (en_fo G s) 7 210 L' ls1 → (∀ v ∈ S', en_ok (en_fo G s) G.2.2.2.2.1.2.1 210 v) → W p G.1 e room_1 s m args below meth c H1 locs1 cells1 slots1 Q (F0 m pc' ls1 (S'.map (en_ev G)))) :
    W p G.1 e room_1 s m args below meth c H locs cells slots Q (F0 m pc ls (S.map (en_ev G))) := by
  have hz := en_Hp_z hH
  have h4 : cells + 0 ≤ 601024 := hH.2.2.2.1
  have h5 : slots + 0 ≤ 7293034 := hH.2.2.2.2.1
  refine hs L S (210, 601024 - cells, 7293034 - slots) σ _ (hB _) p e room_1 s m args below meth c false Q X ?_ H locs cells slots ls hz hL hS
  intro H1 locs1 cells1 slots1 ls1 hH1 hL1 hS1
  obtain ⟨a1, a2, a3⟩ := en_Hp_zz hH1
  exact k H1 locs1 cells1 slots1 ls1 (by omega) (by omega) a1 hL1 hS1
theorem en_L5_len (len : Nat) (i : Int32) (u5 u6 : en_V) : (en_L5 len i u5 u6).length = 7 := rfl
theorem wz_r1 : (.methodLink RL 48 yL_ringer : Cond) ∈ en_wl := en_m5 (List.mem_of_getElem? (i := 84) rfl) rfl
theorem wz_r2 : (.static yL_ringer : Cond) ∈ en_wl := en_m5 (List.mem_of_getElem? (i := 85) rfl) rfl
theorem wz_b1 : (.methodLink RL 57 yL_bell : Cond) ∈ en_wl := en_m5 (List.mem_of_getElem? (i := 159) rfl) rfl
theorem wz_b2 : (.static yL_bell : Cond) ∈ en_wl := en_m5 (List.mem_of_getElem? (i := 160) rfl) rfl
theorem wz_o1 : (.methodLink RL 199 yL_row : Cond) ∈ en_wl := en_m5 (List.mem_of_getElem? (i := 167) rfl) rfl
theorem wz_o2 : (.static yL_row : Cond) ∈ en_wl := en_m5 (List.mem_of_getElem? (i := 168) rfl) rfl
theorem wz_iL : (.initialized RL : Cond) ∈ en_wl := en_m1 (List.mem_of_getElem? (i := 0) rfl) rfl
def en_Go (l : Launch) (s : State) (D : va_G) (cy : Nat → ClassId) (b L : Nat) (xs : Nat → Int32) (st : Bool) : en_G := (l, s.heap.size, D, cy, (b, L, xs), st)
theorem en_thr_ringer {Inv : Nat → en_M → Prop} (hS : en_st_ringer Inv) {p : Program} {e : Env} {s : State} {m : MethodId} {args : Array Value} {below : List Frame} {meth : Method} {cd : Code} {Q : State → Prop} {l : Launch} (hnt : l.stackTraces = false) {D : va_G} {cy : Nat → ClassId} {b L : Nat} {xs : Nat → Int32} {c : Nat} (hc : c < 512) (hl : L ≤ 2560) (h5 : 5 * c + 5 ≤ L)
    (X : en_X (en_Go l s D cy b L xs true) M_law p room_1 s m args meth cd) {σ : en_M} (hI : Inv c σ) {u5 u6 : en_V} {H : Heap} {locs : List Loc} {cells slots : Nat} {ls : Array Slot} (b1 : cells ≤ 210 + c) (b2 : slots ≤ 30978 + 6 * c)
    (hH : en_Hp (en_Go l s D cy b L xs true) false room_1 s en_zz σ H locs cells slots) (hL : en_Ls (en_Go l s D cy b L xs true) (en_fo (en_Go l s D cy b L xs true) s) 7 210 (en_L5 L (Int32.ofNat (5 * c)) u5 u6) ls) (hSv : ∀ v ∈ ([.inr (209, 25, 1, 0), .inl (xs (5 * c + 2)), .inl (xs (5 * c + 1)), .inr (0, 11, 0, 0)] : List en_V), en_ok (en_fo (en_Go l s D cy b L xs true) s) L 210 v)
    (k : ∀ (σ' : en_M) (H1 : Heap) (locs1 : List Loc) (cells1 slots1 : Nat) (ls1 : Array Slot) (v5 v6 : en_V), Inv (c + 1) σ' → cells1 ≤ 210 + (c + 1) → slots1 ≤ 30978 + 6 * (c + 1) → en_Hp (en_Go l s D cy b L xs true) false room_1 s en_zz σ' H1 locs1 cells1 slots1 → en_Ls (en_Go l s D cy b L xs true) (en_fo (en_Go l s D cy b L xs true) s) 7 210 (en_L5 L (Int32.ofNat (5 * (c + 1))) v5 v6) ls1 → W p l e room_1 s m args below meth cd H1 locs1 cells1 slots1 Q (F0 m 23 ls1 [])) :
    W p l e room_1 s m args below meth cd H locs cells slots Q (F0 m 323 ls (([.inr (209, 25, 1, 0), .inl (xs (5 * c + 2)), .inl (xs (5 * c + 1)), .inr (0, 11, 0, 0)] : List en_V).map (en_ev (en_Go l s D cy b L xs true)))) := by
  obtain ⟨kk, σ1, v, σ2, σ3, e1, e2, e3, e4, e5⟩ := hS c (xs (5 * c + 1)) (xs (5 * c + 2)) hc σ hI
  have j1 : en_ix (Int32.ofNat (5 * c) + (1 : Int32)) L = some (5 * c + 1) := by rw [show (1 : Int32) = Int32.ofNat 1 from rfl, en_i1]; exact en_ix_n (by omega) (by omega)
  have j2 : en_ix (Int32.ofNat (5 * c) + (2 : Int32)) L = some (5 * c + 2) := by rw [show (2 : Int32) = Int32.ofNat 2 from rfl, en_i1]; exact en_ix_n (by omega) (by omega)
  have i5 : Int32.ofNat (5 * c) + (5 : Int32) = Int32.ofNat (5 * (c + 1)) := by rw [show (5 : Int32) = Int32.ofNat 5 from rfl, en_i1]; rfl
  refine en_catW (G := en_Go l s D cy b L xs true) (M := M_law) (n := 4) (idx := 48) (y := yL_ringer) (f := O_L_ringer) (r := (kk, σ1)) X rfl (ic_L_ringer (en_Go l s D cy b L xs true) hnt rfl) (Nat.le_of_ble_eq_true rfl) wc_ringer wz_r1 wz_r2 wz_iL (Nat.le_of_ble_eq_true rfl) ⟨by decide +kernel, by decide +kernel, by decide +kernel⟩ (by decide +kernel) rfl e1 hH (show cells + 1 ≤ 601024 by omega) (show slots + 6 ≤ 7293034 by omega) hL.1 hSv (fun H1 locs1 hH1 => ?_)
  have hB : ∀ z, B_law_326 xs (en_L5 L (Int32.ofNat (5 * c)) u5 u6) [.inl kk] z σ1 = if kk = 0 then en_cuz z 362 (en_L5 L (Int32.ofNat (5 * c)) (.inl kk) (.inl v)) [] σ3 else en_cuz z 23 (en_L5 L (Int32.ofNat (5 * (c + 1))) (.inl kk) (.inl v)) [] σ3 := fun z => by
    show TZ_law_326 xs L (Int32.ofNat (5 * c)) kk u5 u6 z σ1 = _
    rw [tz_law_326]
    simp only [j1, j2, Option.bind_some, e2, e3, if_true, i5]
    rfl
  by_cases hk : kk = 0
  · refine en_run (S := [.inl kk]) (pc' := 362) (L' := en_L5 L (Int32.ofNat (5 * c)) (.inl kk) (.inl v)) (S' := []) (σ' := σ3) X (s_law_326 _ rfl rfl) (fun z => (hB z).trans (by rw [if_pos hk]; rfl)) hH1 hL (fun w hw => by rw [List.mem_singleton.mp hw]; trivial) (fun H2 locs2 cells2 slots2 ls2 q1 q2 hH2 hL2 _ => ?_)
    refine en_lqW (pc := 362) (tgt := 374) (x := v) (off := 5) X hH2 hL2 rfl rfl (e4 hk) (by decide +kernel) (by decide +kernel) (by decide +kernel) (by decide +kernel) (by decide +kernel) (by decide +kernel) (by decide +kernel) (by decide) ?_
    exact en_run (S := []) (pc' := 23) (L' := en_L5 L (Int32.ofNat (5 * (c + 1))) (.inl kk) (.inl v)) (S' := []) (σ' := σ3) X (s_law_374 _ rfl rfl) (fun z => by
      show TZ_law_374 xs L (Int32.ofNat (5 * c)) (.inl kk) (.inl v) z σ3 = _
      rw [tz_law_374, i5]; rfl) hH2 hL2 (fun w hw => by cases hw) (fun H3 locs3 cells3 slots3 ls3 q3 q4 hH3 hL3 _ => k σ3 H3 locs3 cells3 slots3 ls3 _ _ e5 (by omega) (by omega) hH3 hL3)
  · exact en_run (S := [.inl kk]) (pc' := 23) (L' := en_L5 L (Int32.ofNat (5 * (c + 1))) (.inl kk) (.inl v)) (S' := []) (σ' := σ3) X (s_law_326 _ rfl rfl) (fun z => (hB z).trans (by rw [if_neg hk]; rfl)) hH1 hL (fun w hw => by rw [List.mem_singleton.mp hw]; trivial) (fun H2 locs2 cells2 slots2 ls2 q1 q2 hH2 hL2 _ => k σ3 H2 locs2 cells2 slots2 ls2 _ _ e5 (by omega) (by omega) hH2 hL2)
theorem en_thr_bell {Inv : Nat → en_M → Prop} (hS : en_st_bell Inv) {p : Program} {e : Env} {s : State} {m : MethodId} {args : Array Value} {below : List Frame} {meth : Method} {cd : Code} {Q : State → Prop} {l : Launch} (hnt : l.stackTraces = false) {D : va_G} {cy : Nat → ClassId} {b L : Nat} {xs : Nat → Int32} {c : Nat} (hc : c < 512) (hl : L ≤ 2560) (h5 : 5 * c + 5 ≤ L)
    (X : en_X (en_Go l s D cy b L xs true) M_law p room_1 s m args meth cd) {σ : en_M} (hI : Inv c σ) {u5 u6 : en_V} {H : Heap} {locs : List Loc} {cells slots : Nat} {ls : Array Slot} (b1 : cells ≤ 210 + c) (b2 : slots ≤ 30978 + 6 * c)
    (hH : en_Hp (en_Go l s D cy b L xs true) false room_1 s en_zz σ H locs cells slots) (hL : en_Ls (en_Go l s D cy b L xs true) (en_fo (en_Go l s D cy b L xs true) s) 7 210 (en_L5 L (Int32.ofNat (5 * c)) u5 u6) ls) (hSv : ∀ v ∈ ([.inr (209, 25, 1, 0), .inl (xs (5 * c + 1)), .inr (0, 11, 0, 0)] : List en_V), en_ok (en_fo (en_Go l s D cy b L xs true) s) L 210 v)
    (k : ∀ (σ' : en_M) (H1 : Heap) (locs1 : List Loc) (cells1 slots1 : Nat) (ls1 : Array Slot) (v5 v6 : en_V), Inv (c + 1) σ' → cells1 ≤ 210 + (c + 1) → slots1 ≤ 30978 + 6 * (c + 1) → en_Hp (en_Go l s D cy b L xs true) false room_1 s en_zz σ' H1 locs1 cells1 slots1 → en_Ls (en_Go l s D cy b L xs true) (en_fo (en_Go l s D cy b L xs true) s) 7 210 (en_L5 L (Int32.ofNat (5 * (c + 1))) v5 v6) ls1 → W p l e room_1 s m args below meth cd H1 locs1 cells1 slots1 Q (F0 m 23 ls1 [])) :
    W p l e room_1 s m args below meth cd H locs cells slots Q (F0 m 385 ls (([.inr (209, 25, 1, 0), .inl (xs (5 * c + 1)), .inr (0, 11, 0, 0)] : List en_V).map (en_ev (en_Go l s D cy b L xs true)))) := by
  obtain ⟨kk, σ1, v, σ2, σ3, e1, e2, e3, e4, e5⟩ := hS c (xs (5 * c + 1)) hc σ hI
  have j1 : en_ix (Int32.ofNat (5 * c) + (1 : Int32)) L = some (5 * c + 1) := by rw [show (1 : Int32) = Int32.ofNat 1 from rfl, en_i1]; exact en_ix_n (by omega) (by omega)
  have i5 : Int32.ofNat (5 * c) + (5 : Int32) = Int32.ofNat (5 * (c + 1)) := by rw [show (5 : Int32) = Int32.ofNat 5 from rfl, en_i1]; rfl
  refine en_catW (G := en_Go l s D cy b L xs true) (M := M_law) (n := 3) (idx := 57) (y := yL_bell) (f := O_L_bell) (r := (kk, σ1)) X rfl (ic_L_bell (en_Go l s D cy b L xs true) hnt rfl) (Nat.le_of_ble_eq_true rfl) wc_bell wz_b1 wz_b2 wz_iL (Nat.le_of_ble_eq_true rfl) ⟨by decide +kernel, by decide +kernel, by decide +kernel⟩ (by decide +kernel) rfl e1 hH (show cells + 1 ≤ 601024 by omega) (show slots + 6 ≤ 7293034 by omega) hL.1 hSv (fun H1 locs1 hH1 => ?_)
  have hB : ∀ z, B_law_388 xs (en_L5 L (Int32.ofNat (5 * c)) u5 u6) [.inl kk] z σ1 = if kk = 0 then en_cuz z 418 (en_L5 L (Int32.ofNat (5 * c)) (.inl kk) (.inl v)) [] σ3 else en_cuz z 23 (en_L5 L (Int32.ofNat (5 * (c + 1))) (.inl kk) (.inl v)) [] σ3 := fun z => by
    show TZ_law_388 xs L (Int32.ofNat (5 * c)) kk u5 u6 z σ1 = _
    rw [tz_law_388]
    simp only [j1, Option.bind_some, e2, e3, if_true, i5]
    rfl
  by_cases hk : kk = 0
  · refine en_run (S := [.inl kk]) (pc' := 418) (L' := en_L5 L (Int32.ofNat (5 * c)) (.inl kk) (.inl v)) (S' := []) (σ' := σ3) X (s_law_388 _ rfl rfl) (fun z => (hB z).trans (by rw [if_pos hk]; rfl)) hH1 hL (fun w hw => by rw [List.mem_singleton.mp hw]; trivial) (fun H2 locs2 cells2 slots2 ls2 q1 q2 hH2 hL2 _ => ?_)
    refine en_lqW (pc := 418) (tgt := 430) (x := v) (off := 5) X hH2 hL2 rfl rfl (e4 hk) (by decide +kernel) (by decide +kernel) (by decide +kernel) (by decide +kernel) (by decide +kernel) (by decide +kernel) (by decide +kernel) (by decide) ?_
    exact en_run (S := []) (pc' := 23) (L' := en_L5 L (Int32.ofNat (5 * (c + 1))) (.inl kk) (.inl v)) (S' := []) (σ' := σ3) X (s_law_430 _ rfl rfl) (fun z => by
      show TZ_law_430 xs L (Int32.ofNat (5 * c)) (.inl kk) (.inl v) z σ3 = _
      rw [tz_law_430, i5]; rfl) hH2 hL2 (fun w hw => by cases hw) (fun H3 locs3 cells3 slots3 ls3 q3 q4 hH3 hL3 _ => k σ3 H3 locs3 cells3 slots3 ls3 _ _ e5 (by omega) (by omega) hH3 hL3)
  · exact en_run (S := [.inl kk]) (pc' := 23) (L' := en_L5 L (Int32.ofNat (5 * (c + 1))) (.inl kk) (.inl v)) (S' := []) (σ' := σ3) X (s_law_388 _ rfl rfl) (fun z => (hB z).trans (by rw [if_neg hk]; rfl)) hH1 hL (fun w hw => by rw [List.mem_singleton.mp hw]; trivial) (fun H2 locs2 cells2 slots2 ls2 q1 q2 hH2 hL2 _ => k σ3 H2 locs2 cells2 slots2 ls2 _ _ e5 (by omega) (by omega) hH2 hL2)
theorem en_thr_row {Inv : Nat → en_M → Prop} (hS : en_st_row Inv) {p : Program} {e : Env} {s : State} {m : MethodId} {args : Array Value} {below : List Frame} {meth : Method} {cd : Code} {Q : State → Prop} {l : Launch} (hnt : l.stackTraces = false) {D : va_G} {cy : Nat → ClassId} {b L : Nat} {xs : Nat → Int32} {c : Nat} (hc : c < 512) (hl : L ≤ 2560) (h5 : 5 * c + 5 ≤ L)
    (X : en_X (en_Go l s D cy b L xs true) M_law p room_1 s m args meth cd) {σ : en_M} (hI : Inv c σ) {u5 u6 : en_V} {H : Heap} {locs : List Loc} {cells slots : Nat} {ls : Array Slot} (b1 : cells ≤ 210 + c) (b2 : slots ≤ 30978 + 6 * c)
    (hH : en_Hp (en_Go l s D cy b L xs true) false room_1 s en_zz σ H locs cells slots) (hL : en_Ls (en_Go l s D cy b L xs true) (en_fo (en_Go l s D cy b L xs true) s) 7 210 (en_L5 L (Int32.ofNat (5 * c)) u5 u6) ls) (hSv : ∀ v ∈ ([.inr (209, 25, 1, 0), .inl (xs (5 * c + 1)), .inr (0, 11, 0, 0)] : List en_V), en_ok (en_fo (en_Go l s D cy b L xs true) s) L 210 v)
    (k : ∀ (σ' : en_M) (H1 : Heap) (locs1 : List Loc) (cells1 slots1 : Nat) (ls1 : Array Slot) (v5 v6 : en_V), Inv (c + 1) σ' → cells1 ≤ 210 + (c + 1) → slots1 ≤ 30978 + 6 * (c + 1) → en_Hp (en_Go l s D cy b L xs true) false room_1 s en_zz σ' H1 locs1 cells1 slots1 → en_Ls (en_Go l s D cy b L xs true) (en_fo (en_Go l s D cy b L xs true) s) 7 210 (en_L5 L (Int32.ofNat (5 * (c + 1))) v5 v6) ls1 → W p l e room_1 s m args below meth cd H1 locs1 cells1 slots1 Q (F0 m 23 ls1 [])) :
    W p l e room_1 s m args below meth cd H locs cells slots Q (F0 m 1363 ls (([.inr (209, 25, 1, 0), .inl (xs (5 * c + 1)), .inr (0, 11, 0, 0)] : List en_V).map (en_ev (en_Go l s D cy b L xs true)))) := by
  obtain ⟨kk, σ1, v, σ2, σ3, e1, e2, e3, e4, e5⟩ := hS c (xs (5 * c + 1)) hc σ hI
  have j1 : en_ix (Int32.ofNat (5 * c) + (1 : Int32)) L = some (5 * c + 1) := by rw [show (1 : Int32) = Int32.ofNat 1 from rfl, en_i1]; exact en_ix_n (by omega) (by omega)
  have i5 : Int32.ofNat (5 * c) + (5 : Int32) = Int32.ofNat (5 * (c + 1)) := by rw [show (5 : Int32) = Int32.ofNat 5 from rfl, en_i1]; rfl
  refine en_catW (G := en_Go l s D cy b L xs true) (M := M_law) (n := 3) (idx := 199) (y := yL_row) (f := O_L_row) (r := (kk, σ1)) X rfl (ic_L_row (en_Go l s D cy b L xs true) hnt rfl) (Nat.le_of_ble_eq_true rfl) wc_row wz_o1 wz_o2 wz_iL (Nat.le_of_ble_eq_true rfl) ⟨by decide +kernel, by decide +kernel, by decide +kernel⟩ (by decide +kernel) rfl e1 hH (show cells + 1 ≤ 601024 by omega) (show slots + 6 ≤ 7293034 by omega) hL.1 hSv (fun H1 locs1 hH1 => ?_)
  have hB : ∀ z, B_law_1366 xs (en_L5 L (Int32.ofNat (5 * c)) u5 u6) [.inl kk] z σ1 = if kk = 0 then en_cuz z 1396 (en_L5 L (Int32.ofNat (5 * c)) (.inl kk) (.inl v)) [] σ3 else en_cuz z 23 (en_L5 L (Int32.ofNat (5 * (c + 1))) (.inl kk) (.inl v)) [] σ3 := fun z => by
    show TZ_law_1366 xs L (Int32.ofNat (5 * c)) kk u5 u6 z σ1 = _
    rw [tz_law_1366]
    simp only [j1, Option.bind_some, e2, e3, if_true, i5]
    rfl
  by_cases hk : kk = 0
  · refine en_run (S := [.inl kk]) (pc' := 1396) (L' := en_L5 L (Int32.ofNat (5 * c)) (.inl kk) (.inl v)) (S' := []) (σ' := σ3) X (s_law_1366 _ rfl rfl) (fun z => (hB z).trans (by rw [if_pos hk]; rfl)) hH1 hL (fun w hw => by rw [List.mem_singleton.mp hw]; trivial) (fun H2 locs2 cells2 slots2 ls2 q1 q2 hH2 hL2 _ => ?_)
    refine en_lqW (pc := 1396) (tgt := 1408) (x := v) (off := 5) X hH2 hL2 rfl rfl (e4 hk) (by decide +kernel) (by decide +kernel) (by decide +kernel) (by decide +kernel) (by decide +kernel) (by decide +kernel) (by decide +kernel) (by decide) ?_
    exact en_run (S := []) (pc' := 23) (L' := en_L5 L (Int32.ofNat (5 * (c + 1))) (.inl kk) (.inl v)) (S' := []) (σ' := σ3) X (s_law_1408 _ rfl rfl) (fun z => by
      show TZ_law_1408 xs L (Int32.ofNat (5 * c)) (.inl kk) (.inl v) z σ3 = _
      rw [tz_law_1408, i5]; rfl) hH2 hL2 (fun w hw => by cases hw) (fun H3 locs3 cells3 slots3 ls3 q3 q4 hH3 hL3 _ => k σ3 H3 locs3 cells3 slots3 ls3 _ _ e5 (by omega) (by omega) hH3 hL3)
  · exact en_run (S := [.inl kk]) (pc' := 23) (L' := en_L5 L (Int32.ofNat (5 * (c + 1))) (.inl kk) (.inl v)) (S' := []) (σ' := σ3) X (s_law_1366 _ rfl rfl) (fun z => (hB z).trans (by rw [if_neg hk]; rfl)) hH1 hL (fun w hw => by rw [List.mem_singleton.mp hw]; trivial) (fun H2 locs2 cells2 slots2 ls2 q1 q2 hH2 hL2 _ => k σ3 H2 locs2 cells2 slots2 ls2 _ _ e5 (by omega) (by omega) hH2 hL2)
theorem en_law_fin {p : Program} {e : Env} {s : State} {m : MethodId} {below : List Frame} {meth : Method} {cd : Code} {l : Launch} {D : va_G} {cy : Nat → ClassId} {b L : Nat} {xs : Nat → Int32} (hl : L ≤ 2560) (C0 : lw_At p s m meth cd b L xs) (X : en_X (en_Go l s D cy b L xs true) M_law p room_1 s m #[Value.ref b] meth cd)
    {c : Nat} (h : L < 5 * c + 5) (hc : c ≤ 512) {σ : en_M} {H : Heap} {locs : List Loc} {cells slots : Nat} {ls : Array Slot} {u5 u6 : en_V} (hH : en_Hp (en_Go l s D cy b L xs true) false room_1 s en_zz σ H locs cells slots) (hL : en_Ls (en_Go l s D cy b L xs true) (en_fo (en_Go l s D cy b L xs true) s) 7 210 (en_L5 L (Int32.ofNat (5 * c)) u5 u6) ls) :
    W p l e room_1 s m #[Value.ref b] below meth cd H locs cells slots (lw_Z below #[Value.ref b] s) (F0 m 23 ls []) := by
  obtain ⟨hx, hb, hr, hml, hown, hts, hX, hbl, hlocks, hgv⟩ := id C0
  refine s_law_23 (en_Go l s D cy b L xs true) rfl rfl _ [] (210, 601024 - cells, 7293034 - slots) σ (.inl (some 1, (210, 601024 - cells, 7293034 - slots), σ)) (show TZ_law_23 xs L (Int32.ofNat (5 * c)) u5 u6 (210, 601024 - cells, 7293034 - slots) σ = _ from en_law_end hl h hc) p e room_1 s m _ below meth cd false _ X ?_ H locs cells slots ls (en_Hp_z hH) hL (fun v hv => by cases hv)
  intro H1 locs1 cells1 slots1 ls1 pc hH1
  refine ⟨fun x hx1 hd _ => ?_, fun q => by cases q⟩
  cases hx1
  have h4 : cells1 + (601024 - cells) ≤ 601024 := hH1.2.2.2.1
  have h5 : slots1 + (7293034 - slots) ≤ 7293034 := hH1.2.2.2.2.1
  refine va_forget (fun q hq => hH1.2.1.2.2 q hq) ?_
  refine W.widen (k := 601024) (n := 7293034) (by omega) (by omega) ?_
  exact lw_ret hx hb hr hlocks hd
theorem en_law_loop {Inv : Nat → en_M → Prop} (hS : en_steps Inv) {p : Program} {e : Env} {s : State} {m : MethodId} {below : List Frame} {meth : Method} {cd : Code} {l : Launch} (hnt : l.stackTraces = false) {D : va_G} {cy : Nat → ClassId} {b L : Nat} {xs : Nat → Int32} (hl : L ≤ 2560)
    (C0 : lw_At p s m meth cd b L xs) (X : en_X (en_Go l s D cy b L xs true) M_law p room_1 s m #[Value.ref b] meth cd) : ∀ (n c : Nat), c + n = 512 → ∀ (σ : en_M) (H : Heap) (locs : List Loc) (cells slots : Nat) (ls : Array Slot) (u5 u6 : en_V), Inv c σ → cells ≤ 210 + c → slots ≤ 30978 + 6 * c →
      en_Hp (en_Go l s D cy b L xs true) false room_1 s en_zz σ H locs cells slots → en_Ls (en_Go l s D cy b L xs true) (en_fo (en_Go l s D cy b L xs true) s) 7 210 (en_L5 L (Int32.ofNat (5 * c)) u5 u6) ls → W p l e room_1 s m #[Value.ref b] below meth cd H locs cells slots (lw_Z below #[Value.ref b] s) (F0 m 23 ls []) := by
  intro n
  induction n with
  | zero =>
    intro c hc σ H locs cells slots ls u5 u6 hI b1 b2 hH hL
    exact en_law_fin hl C0 X (by omega) (by omega) hH hL
  | succ n ih =>
    intro c hc σ H locs cells slots ls u5 u6 hI b1 b2 hH hL
    by_cases h5 : L < 5 * c + 5
    · exact en_law_fin hl C0 X h5 (by omega) hH hL
    have h5 : 5 * c + 5 ≤ L := by omega
    have hall := en_law_step hS (xs := xs) (len := L) (c := c) (u5 := u5) (u6 := u6) (σ := σ) hl h5 hI
    rcases hall with ⟨σ', h, hI'⟩ | h | h | h
    · exact en_run (S := []) (pc' := 23) (L' := en_L5 L (Int32.ofNat (5 * (c + 1))) u5 u6) (S' := []) (σ' := σ') X (s_law_23 _ rfl rfl) h hH hL (fun w hw => by cases hw) (fun H2 locs2 cells2 slots2 ls2 q1 q2 hH2 hL2 _ => ih (c + 1) (by omega) σ' H2 locs2 cells2 slots2 ls2 _ _ hI' (by omega) (by omega) hH2 hL2)
    · exact en_run (S := []) (pc' := 323) X (s_law_23 _ rfl rfl) h hH hL (fun w hw => by cases hw) (fun H2 locs2 cells2 slots2 ls2 q1 q2 hH2 hL2 hS2 => en_thr_ringer (h_ringer hS) hnt (by omega) hl h5 X hI (by omega) (by omega) hH2 hL2 hS2 (fun σ' H3 locs3 cells3 slots3 ls3 v5 v6 hI' b3 b4 hH3 hL3 => ih (c + 1) (by omega) σ' H3 locs3 cells3 slots3 ls3 _ _ hI' b3 b4 hH3 hL3))
    · exact en_run (S := []) (pc' := 385) X (s_law_23 _ rfl rfl) h hH hL (fun w hw => by cases hw) (fun H2 locs2 cells2 slots2 ls2 q1 q2 hH2 hL2 hS2 => en_thr_bell (h_bell hS) hnt (by omega) hl h5 X hI (by omega) (by omega) hH2 hL2 hS2 (fun σ' H3 locs3 cells3 slots3 ls3 v5 v6 hI' b3 b4 hH3 hL3 => ih (c + 1) (by omega) σ' H3 locs3 cells3 slots3 ls3 _ _ hI' b3 b4 hH3 hL3))
    · exact en_run (S := []) (pc' := 1363) X (s_law_23 _ rfl rfl) h hH hL (fun w hw => by cases hw) (fun H2 locs2 cells2 slots2 ls2 q1 q2 hH2 hL2 hS2 => en_thr_row (h_row hS) hnt (by omega) hl h5 X hI (by omega) (by omega) hH2 hL2 hS2 (fun σ' H3 locs3 cells3 slots3 ls3 v5 v6 hI' b3 b4 hH3 hL3 => ih (c + 1) (by omega) σ' H3 locs3 cells3 slots3 ls3 _ _ hI' b3 b4 hH3 hL3))
theorem en_walk {Inv : Nat → en_M → Prop} (hS : en_steps Inv) (h0 : Inv 0 en_s1) {p : Program} {e : Env} {s : State} {m : MethodId} {below : List Frame} {meth : Method} {c : Code} (l : Launch) (hflags : l.flags = flags0) {b L : Nat} {xs : Nat → Int32} (hL : L ≤ 2560) (C0 : lw_At p s m meth c b L xs) : W p l e room_1 s m #[Value.ref b] below meth c s.heap [] 0 0 (lw_Z below #[Value.ref b] s) (entryFrame m ([Value.ref b] : List Value).toArray 7) := by
  obtain ⟨hx, hb, hr, hml, hown, hts, hX, hbl, hlocks, hgv⟩ := id C0
  have hnt : l.stackTraces = false := by
    unfold Launch.stackTraces
    rw [hflags]
    decide +kernel
  obtain ⟨D, cy, X⟩ := ez_start l C0
  have X0 : en_X (en_Go l s D cy b L xs false) M_law p room_1 s m #[Value.ref b] meth c := X false
  have X1 : en_X (en_Go l s D cy b L xs true) M_law p room_1 s m #[Value.ref b] meth c := X true
  have hl := lv_entry ([.ref b]) (n := 7) (Nat.le_of_ble_eq_true rfl)
  rw [lg_entry_eq]
  generalize (lg_sl ([.ref b]) ++ List.replicate (7 - (lg_sl ([.ref b])).length) Slot.unset).toArray = ls at hl ⊢
  have hl : lv_has ls 7 [(0, .ref b)] := hl
  have hfo : en_fo (en_Go l s D cy b L xs false) s := ⟨hX, hbl, hbl⟩
  have hH : en_Hp (en_Go l s D cy b L xs false) true room_1 s (0, 601024, 7293034) en_s0 s.heap [] 0 0 := ⟨(fun k q h => by
      have h2 : ([] : List (Nat × va_E))[k]? = some q := h
      simp at h2), va_S.rf, (fun _ => rfl), Nat.le_of_ble_eq_true rfl, Nat.le_of_ble_eq_true rfl, (fun _ => rfl), fun q => by cases q⟩
  have hLs : en_Ls (en_Go l s D cy b L xs false) (en_fo (en_Go l s D cy b L xs false) s) 7 0 [.inr (0, 30, L, 0), en_un, en_un, en_un, en_un, en_un, en_un] ls := by
    refine ⟨hl.1, hl.2.1, rfl, fun i v hv => ?_⟩
    match i, hv with
    | 0, hv => cases hv; exact Or.inr ⟨Or.inl ⟨rfl, hfo⟩, lv_at hl 0 rfl⟩
    | 1, hv => cases hv; exact Or.inl ⟨_, rfl, rfl⟩
    | 2, hv => cases hv; exact Or.inl ⟨_, rfl, rfl⟩
    | 3, hv => cases hv; exact Or.inl ⟨_, rfl, rfl⟩
    | 4, hv => cases hv; exact Or.inl ⟨_, rfl, rfl⟩
    | 5, hv => cases hv; exact Or.inl ⟨_, rfl, rfl⟩
    | 6, hv => cases hv; exact Or.inl ⟨_, rfl, rfl⟩
    | i + 7, hv => simp at hv
  refine s_law_0 (en_Go l s D cy b L xs false) rfl _ [] _ _ _ (t_law_0z L) p e room_1 s m _ below meth c true _ X0 ?_ s.heap [] 0 0 ls hH hLs (fun v hv => by cases hv)
  intro H1 locs1 cells1 slots1 ls1 hH1 hL1 _
  obtain ⟨g1, g2, g3, g4, g5, g6, g7⟩ := hH1
  have g4 : cells1 + 600814 ≤ 601024 := g4
  have g5 : slots1 + 7262056 ≤ 7293034 := g5
  have hP : va_P D en_cl (en_W s.heap.size cy true 210 en_s1) H1 := en_fix g1
  exact en_law_loop hS hnt hL C0 X1 512 0 rfl en_s1 H1 locs1 cells1 slots1 ls1 en_un en_un h0 (by omega) (by omega) ⟨hP, g2, (fun q => by cases q), (show cells1 + 0 ≤ 601024 by omega), (show slots1 + 0 ≤ 7293034 by omega), (fun q => by cases q), fun _ => rfl⟩ hL1
