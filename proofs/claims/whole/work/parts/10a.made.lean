/-- what is made: an object, an array of numbers or of references, an array of rows; a reference put into an array -/
def op_nw (ci nf : Nat) (k : en_B) : en_B := fun L S z σ =>
  cond (Nat.beq (en_ka z.1).1 ci && Nat.blt 0 z.2.1 && Nat.ble nf z.2.2) (k L (.inr (z.1, en_ka z.1) :: S) (z.1 + 1, z.2.1 - 1, z.2.2 - nf) (en_nr σ z.1)) none
def op_na (tag : Nat) (k : en_B) : en_B := fun L S z σ => match S with
  | .inl n :: S' => cond (Nat.beq (en_ka z.1).1 tag && Nat.beq (en_ka z.1).2.1 n.toNatClampNeg && Nat.blt 0 z.2.1 && Nat.ble n.toNatClampNeg z.2.2 && Nat.ble n.toNatClampNeg 100000) (if n < 0 then none else k L (.inr (z.1, en_ka z.1) :: S') (z.1 + 1, z.2.1 - 1, z.2.2 - n.toNatClampNeg) (en_nr σ z.1)) none
  | _ => none
def en_mr (σ : en_M) (k n : Nat) : en_M := fun a i => if a = k then (if i < n then Int32.ofNat (k + 1 + i + 1) else 0) else if k < a ∧ a ≤ k + n then 0 else σ a i
def op_mnew (k : en_B) : en_B := fun L S z σ => match S with
  | .inl q :: .inl n :: S' => cond (Nat.beq (en_ka z.1).1 23 && Nat.beq (en_ka z.1).2.1 n.toNatClampNeg && Nat.beq (en_ka z.1).2.2 q.toNatClampNeg && Nat.ble (n.toNatClampNeg + 1) z.2.1 && Nat.ble (n.toNatClampNeg + n.toNatClampNeg * q.toNatClampNeg) z.2.2 && Nat.ble n.toNatClampNeg 100000 && Nat.ble q.toNatClampNeg 100000) (if n < 0 ∨ q < 0 then none else k L (.inr (z.1, en_ka z.1) :: S') (z.1 + 1 + n.toNatClampNeg, z.2.1 - (1 + n.toNatClampNeg), z.2.2 - (n.toNatClampNeg + n.toNatClampNeg * q.toNatClampNeg)) (en_mr σ z.1 n.toNatClampNeg)) none
  | _ => none
def op_aast (k : en_B) : en_B := fun L S z σ => match S with
  | .inr w :: .inl i :: .inr v :: S' => cond (Nat.beq v.2.1 24 && Nat.beq w.2.1 7) ((en_ixc i v.2.2.1).bind fun j => k L S' z (en_up σ v.1 j (Int32.ofNat (w.1 + 1)))) none
  | _ => none
/-- a method whose answer is taken from its first block as it stands; v: it answers a number -/
def en_ff (v : Bool) (maxL : Nat) (B : en_B) : en_F := fun av z σ => cond (Nat.ble av.length maxL) (match B (av ++ List.replicate (maxL - av.length) (.inr (0, (99, 0, 0)))) [] z σ with
  | some (.inl t) => match t.1, v with
    | none, false => some t
    | some _, true => some t
    | _, _ => none
  | _ => none) none
theorem en_nr_off {σ : en_M} {k : Nat} : ∀ i, i ≠ k → ∀ q, en_nr σ k i q = σ i q := fun i h q => by simp [en_nr, h]
theorem en_W_len {b : Nat} {cy : Nat → ClassId} {st : Bool} {sz : Nat} {σ : en_M} : (en_W b cy st sz σ).length = sz := by simp [en_W]
theorem en_W_push {b : Nat} {cy : Nat → ClassId} {st : Bool} {sz : Nat} {σ σ' : en_M} (h : ∀ i, i < sz → ∀ q, σ' i q = σ i q) : en_W b cy st (sz + 1) σ' = en_W b cy st sz σ ++ [(b + sz, en_ce b cy st σ' sz (en_ka sz))] := by
  unfold en_W
  rw [List.range_succ, List.map_append, List.map_singleton]
  congr 1
  apply List.map_congr_left
  intro k hk
  rw [en_ce_off (h k (List.mem_range.mp hk))]
theorem en_fresh {G : en_G} {p : Program} {e : Env} {R : Room} {s : State} {m : MethodId} {args : Array Value} {below : List Frame} {meth : Method} {c : Code} {H1 : Heap} {locs : List Loc} {cells slots : Nat} {Q : State → Prop} {g : JFrame} {b : Nat} {cy : Nat → ClassId} {st : Bool} {sz : Nat} {σ : en_M} {q : Nat} {e0 : va_E}
    (hs : s.heap.size + cells = b + sz) (hP : va_P G.2.2.1 en_cl (en_W b cy st sz σ ++ [(q, e0)]) H1) (hD : va_D (fun q => b ≤ q) (en_W b cy st sz σ ++ [(q, e0)]))
    (k : q = b + sz → W p G.1 e R s m args below meth c H1 locs (cells + 1) slots Q g) : W p G.1 e R s m args below meth c H1 locs (cells + 1) slots Q g := by
  intro T hT X
  refine k ?_ T hT X
  have h1 := X.heapSize
  rw [hT] at h1
  have hq : (en_W b cy st sz σ ++ [(q, e0)])[sz]? = some (q, e0) := by
    rw [List.getElem?_append_right (by rw [en_W_len]; exact Nat.le_refl _), en_W_len, Nat.sub_self]
    rfl
  have h2 : q < H1.size := (hP sz _ hq).lt
  have h3 : b ≤ q := hD.2 sz _ hq
  rcases Nat.lt_or_ge q (b + sz) with h | h
  · exfalso
    have hk : q - b < sz := by omega
    have hg : (en_W b cy st sz σ ++ [(q, e0)])[q - b]? = some (b + (q - b), en_ce b cy st σ (q - b) (en_ka (q - b))) := by
      rw [List.getElem?_append_left (by rw [en_W_len]; exact hk)]
      exact en_W_get hk
    have := hD.1 (q - b) sz _ _ hg hq (by show b + (q - b) = q; omega)
    omega
  · omega
theorem en_ce_l {b : Nat} {cy : Nat → ClassId} {st : Bool} {σ : en_M} {k : Nat} {kd : en_K} (h : kd.1 = 25) : en_ce b cy st σ k kd = .inl (cy 25, kd.2.1, .inr (.inl (fun j => (σ k j).toInt64))) := by
  unfold en_ce
  rw [if_neg (by omega), if_neg (by omega), if_pos h]
def en_df (ci N : Nat) (ty : Nat → FieldType) : Prop := ∀ j, j < N → defaultValue (ty j) = (if (en_fk ci j).1 = 0 then .int 0 else .null)
theorem sn_new {G : en_G} {M : en_Me} {pc : Nat} {k : en_B} {ci idx N : Nat} {C : String} {T : u_T} {ty : Nat → FieldType} (hst : G.2.2.2.2.2 = false) (hc : en_cf ci C T N ty) (hdf : en_df ci N ty) (hcl : (.classLink M.2.1 idx C : Cond) ∈ en_wl) (hin : (.instantiable C N : Cond) ∈ en_wl) (hii : (.initialized C : Cond) ∈ en_wl) (hd : decode M.1 pc = .ok (.new idx, 3)) (hk : en_Snd G M (pc + 3) k) : en_Snd G M pc (op_nw ci N k) := by
  intro L S z σ rr h p ee R s m args below meth c al Q X Dn H locs cells slots ls hH hL hS
  unfold op_nw at h
  cases hb : (Nat.beq (en_ka z.1).1 ci && Nat.blt 0 z.2.1 && Nat.ble N z.2.2) with
  | false => rw [hb] at h; cases h
  | true =>
  rw [hb, cond_true] at h
  have h1 := Bool.and_eq_true_iff.mp hb
  have h2 := Bool.and_eq_true_iff.mp h1.1
  have e : (en_ka z.1).1 = ci := Nat.eq_of_beq_eq_true h2.1
  have e1 : 0 < z.2.1 := Nat.le_of_ble_eq_true h2.2
  have e2 : N ≤ z.2.2 := Nat.le_of_ble_eq_true h1.2
  have ha : al = true := hH.2.2.2.2.2.1 hst
  have hci : ci < 20 := hc.2.2.2.2.2.1
  refine va_new (ci := ci) (fs := (List.range N).map (en_fv G.2.1 G.2.2.2.2.2 (en_nr σ z.1) z.1 ci)) X.1 X.2.1 (Ts := en_wl) X.2.2.2.2.1 hc.2.1 ty hc.2.2.1 X.2.2.2.1 (X.2.2.2.2.1 _ hcl) (X.2.2.2.2.1 _ hin) (X.2.2.2.2.1 _ hii) X.2.2.2.2.2.2.2.1 hH.1 en_W_D hH.2.1 (fun q h => Nat.le_trans X.2.2.2.2.2.2.1 h) hc.1 (fun j hj => ?_) (by have := hH.2.2.2.1; omega) (by have := hH.2.2.2.2.1; omega) hd (fun q H1 hP1 hD1 hS1 => ?_)
  · rw [hdf j hj]
    unfold vp_V
    rw [List.getD_eq_getElem?_getD, en_fs_get hj, Option.getD_some]
    unfold en_fv
    by_cases h0 : (en_fk ci j).1 = 0
    · rw [if_pos h0, if_pos h0]; simp [en_nr]
    · rw [if_neg h0, if_neg h0, if_neg (by rintro ⟨-, q⟩; rw [hst] at q; cases q)]; simp [en_dr, en_nr]
  · refine en_fresh (hH.2.2.1 ha) hP1 hD1 (fun hq => ?_)
    subst hq
    have hW := en_W_push (b := G.2.1) (cy := G.2.2.2.1) (st := G.2.2.2.2.2) (sz := z.1) (σ := σ) (σ' := en_nr σ z.1) (fun i hi => en_nr_off i (by omega))
    rw [en_ce_o e hci, hc.2.2.2.2.1] at hW
    rw [← hW] at hP1
    have hr := hk L (.inr (z.1, en_ka z.1) :: S) (z.1 + 1, z.2.1 - 1, z.2.2 - N) (en_nr σ z.1) rr h p ee R s m args below meth c al Q X Dn H1 locs (cells + 1) (slots + N) ls ⟨hP1, hS1, (fun _ => by have := hH.2.2.1 ha; show s.heap.size + (cells + 1) = G.2.1 + (z.1 + 1); omega), (by have := hH.2.2.2.1; show cells + 1 + (z.2.1 - 1) ≤ R.cells; omega), (by have := hH.2.2.2.2.1; show slots + N + (z.2.2 - N) ≤ R.slots; omega), (fun _ => ha), (fun q => by rw [hst] at q; cases q)⟩ (hL.grow (Nat.le_succ _)) (en_v (en_world ⟨Nat.lt_succ_self _, rfl⟩) (fun v hv => en_grow (hS v hv) (Nat.le_succ _)))
    rw [List.map_cons, en_evr (en_ka_tag _)] at hr
    exact hr
theorem sn_newi {G : en_G} {M : en_Me} {pc : Nat} {k : en_B} (hst : G.2.2.2.2.2 = false) (hw : (.arrayClass .int : Cond) ∈ en_wl) (hd : decode M.1 pc = .ok (.newarray .int, 2)) (hk : en_Snd G M (pc + 2) k) : en_Snd G M pc (op_na 20 k) := by
  intro L S z σ rr h p ee R s m args below meth c al Q X Dn H locs cells slots ls hH hL hS
  unfold op_na at h
  split at h
  · rename_i n S'
    cases hb : (Nat.beq (en_ka z.1).1 20 && Nat.beq (en_ka z.1).2.1 n.toNatClampNeg && Nat.blt 0 z.2.1 && Nat.ble n.toNatClampNeg z.2.2 && Nat.ble n.toNatClampNeg 100000) with
    | false => rw [hb] at h; cases h
    | true =>
    rw [hb, cond_true] at h
    have h1 := Bool.and_eq_true_iff.mp hb
    have h2 := Bool.and_eq_true_iff.mp h1.1
    have h3 := Bool.and_eq_true_iff.mp h2.1
    have h4 := Bool.and_eq_true_iff.mp h3.1
    have e : (en_ka z.1).1 = 20 := Nat.eq_of_beq_eq_true h4.1
    have en : (en_ka z.1).2.1 = n.toNatClampNeg := Nat.eq_of_beq_eq_true h4.2
    have e1 : 0 < z.2.1 := Nat.le_of_ble_eq_true h3.2
    have e2 : n.toNatClampNeg ≤ z.2.2 := Nat.le_of_ble_eq_true h2.2
    have e3 : n.toNatClampNeg ≤ 100000 := Nat.le_of_ble_eq_true h1.2
    have ha : al = true := hH.2.2.2.2.2.1 hst
    by_cases hn : n < 0
    · rw [if_pos hn] at h; cases h
    rw [if_neg hn] at h
    have hcb : componentBytes (.int : FieldType) ≤ 8 := by decide
    refine va_newa (atype := .int) (ty := .int) (a0 := (n.toNatClampNeg, .inl (en_nr σ z.1 z.1))) X.1 X.2.1 (X.2.2.2.2.1 _ hw) rfl X.2.2.2.2.2.2.2.1 hH.1 en_W_D hH.2.1 (fun q h => Nat.le_trans X.2.2.2.2.2.2.1 h) (fun cA => ?_) hn rfl ?_ (by have := hH.2.2.2.1; omega) (by have := hH.2.2.2.2.1; omega) hd (fun q cA H1 hK1 hP1 hD1 hS1 => ?_)
    · rw [vp_cell_i]
      refine congrArg (arrV cA _) (funext fun j => ?_)
      show (.int (en_nr σ z.1 z.1 j) : Value) = _
      rw [show en_nr σ z.1 z.1 j = 0 from by simp [en_nr]]
      rfl
    · exact Nat.le_trans (Nat.mul_le_mul e3 hcb) (Nat.le_of_ble_eq_true rfl)
    · have hcA : cA = G.2.2.2.1 20 := by
        have a1 := (hK1.2 6 (cA, .int) rfl).2
        have a2 := (X.2.2.2.2.2.2.2.1.2 0 (G.2.2.2.1 20, .int) rfl).2
        have a1 : s.vm.findClass ("[" ++ (.int : FieldType).toString) = some cA := a1
        have a2 : s.vm.findClass ("[" ++ (.int : FieldType).toString) = some (G.2.2.2.1 20) := a2
        exact Option.some.inj (a1.symm.trans a2)
      subst hcA
      refine en_fresh (hH.2.2.1 ha) hP1 hD1 (fun hq => ?_)
      subst hq
      have hW := en_W_push (b := G.2.1) (cy := G.2.2.2.1) (st := G.2.2.2.2.2) (sz := z.1) (σ := σ) (σ' := en_nr σ z.1) (fun i hi => en_nr_off i (by omega))
      rw [en_ce_n (t := 20) e (by decide) (by decide), en] at hW
      rw [← hW] at hP1
      have hr := hk L (.inr (z.1, en_ka z.1) :: S') (z.1 + 1, z.2.1 - 1, z.2.2 - n.toNatClampNeg) (en_nr σ z.1) rr h p ee R s m args below meth c al Q X Dn H1 locs (cells + 1) (slots + n.toNatClampNeg) ls ⟨hP1, hS1, (fun _ => by have := hH.2.2.1 ha; show s.heap.size + (cells + 1) = G.2.1 + (z.1 + 1); omega), (by have := hH.2.2.2.1; show cells + 1 + (z.2.1 - 1) ≤ R.cells; omega), (by have := hH.2.2.2.2.1; show slots + n.toNatClampNeg + (z.2.2 - n.toNatClampNeg) ≤ R.slots; omega), (fun _ => ha), (fun q => by rw [hst] at q; cases q)⟩ (hL.grow (Nat.le_succ _)) (en_v (en_world ⟨Nat.lt_succ_self _, rfl⟩) (fun v hv => en_grow ((en_tl hS) v hv) (Nat.le_succ _)))
      rw [List.map_cons, en_evr (en_ka_tag _)] at hr
      exact hr
  · cases h
theorem sn_newb {G : en_G} {M : en_Me} {pc : Nat} {k : en_B} (hst : G.2.2.2.2.2 = false) (hw : (.arrayClass .byte : Cond) ∈ en_wl) (hd : decode M.1 pc = .ok (.newarray .byte, 2)) (hk : en_Snd G M (pc + 2) k) : en_Snd G M pc (op_na 21 k) := by
  intro L S z σ rr h p ee R s m args below meth c al Q X Dn H locs cells slots ls hH hL hS
  unfold op_na at h
  split at h
  · rename_i n S'
    cases hb : (Nat.beq (en_ka z.1).1 21 && Nat.beq (en_ka z.1).2.1 n.toNatClampNeg && Nat.blt 0 z.2.1 && Nat.ble n.toNatClampNeg z.2.2 && Nat.ble n.toNatClampNeg 100000) with
    | false => rw [hb] at h; cases h
    | true =>
    rw [hb, cond_true] at h
    have h1 := Bool.and_eq_true_iff.mp hb
    have h2 := Bool.and_eq_true_iff.mp h1.1
    have h3 := Bool.and_eq_true_iff.mp h2.1
    have h4 := Bool.and_eq_true_iff.mp h3.1
    have e : (en_ka z.1).1 = 21 := Nat.eq_of_beq_eq_true h4.1
    have en : (en_ka z.1).2.1 = n.toNatClampNeg := Nat.eq_of_beq_eq_true h4.2
    have e1 : 0 < z.2.1 := Nat.le_of_ble_eq_true h3.2
    have e2 : n.toNatClampNeg ≤ z.2.2 := Nat.le_of_ble_eq_true h2.2
    have e3 : n.toNatClampNeg ≤ 100000 := Nat.le_of_ble_eq_true h1.2
    have ha : al = true := hH.2.2.2.2.2.1 hst
    by_cases hn : n < 0
    · rw [if_pos hn] at h; cases h
    rw [if_neg hn] at h
    have hcb : componentBytes (.byte : FieldType) ≤ 8 := by decide
    refine va_newa (atype := .byte) (ty := .byte) (a0 := (n.toNatClampNeg, .inl (en_nr σ z.1 z.1))) X.1 X.2.1 (X.2.2.2.2.1 _ hw) rfl X.2.2.2.2.2.2.2.1 hH.1 en_W_D hH.2.1 (fun q h => Nat.le_trans X.2.2.2.2.2.2.1 h) (fun cA => ?_) hn rfl ?_ (by have := hH.2.2.2.1; omega) (by have := hH.2.2.2.2.1; omega) hd (fun q cA H1 hK1 hP1 hD1 hS1 => ?_)
    · rw [vp_cell_i]
      refine congrArg (arrV cA _) (funext fun j => ?_)
      show (.int (en_nr σ z.1 z.1 j) : Value) = _
      rw [show en_nr σ z.1 z.1 j = 0 from by simp [en_nr]]
      rfl
    · exact Nat.le_trans (Nat.mul_le_mul e3 hcb) (Nat.le_of_ble_eq_true rfl)
    · have hcA : cA = G.2.2.2.1 21 := by
        have a1 := (hK1.2 6 (cA, .byte) rfl).2
        have a2 := (X.2.2.2.2.2.2.2.1.2 1 (G.2.2.2.1 21, .byte) rfl).2
        have a1 : s.vm.findClass ("[" ++ (.byte : FieldType).toString) = some cA := a1
        have a2 : s.vm.findClass ("[" ++ (.byte : FieldType).toString) = some (G.2.2.2.1 21) := a2
        exact Option.some.inj (a1.symm.trans a2)
      subst hcA
      refine en_fresh (hH.2.2.1 ha) hP1 hD1 (fun hq => ?_)
      subst hq
      have hW := en_W_push (b := G.2.1) (cy := G.2.2.2.1) (st := G.2.2.2.2.2) (sz := z.1) (σ := σ) (σ' := en_nr σ z.1) (fun i hi => en_nr_off i (by omega))
      rw [en_ce_n (t := 21) e (by decide) (by decide), en] at hW
      rw [← hW] at hP1
      have hr := hk L (.inr (z.1, en_ka z.1) :: S') (z.1 + 1, z.2.1 - 1, z.2.2 - n.toNatClampNeg) (en_nr σ z.1) rr h p ee R s m args below meth c al Q X Dn H1 locs (cells + 1) (slots + n.toNatClampNeg) ls ⟨hP1, hS1, (fun _ => by have := hH.2.2.1 ha; show s.heap.size + (cells + 1) = G.2.1 + (z.1 + 1); omega), (by have := hH.2.2.2.1; show cells + 1 + (z.2.1 - 1) ≤ R.cells; omega), (by have := hH.2.2.2.2.1; show slots + n.toNatClampNeg + (z.2.2 - n.toNatClampNeg) ≤ R.slots; omega), (fun _ => ha), (fun q => by rw [hst] at q; cases q)⟩ (hL.grow (Nat.le_succ _)) (en_v (en_world ⟨Nat.lt_succ_self _, rfl⟩) (fun v hv => en_grow ((en_tl hS) v hv) (Nat.le_succ _)))
      rw [List.map_cons, en_evr (en_ka_tag _)] at hr
      exact hr
  · cases h
theorem sn_newz {G : en_G} {M : en_Me} {pc : Nat} {k : en_B} (hst : G.2.2.2.2.2 = false) (hw : (.arrayClass .boolean : Cond) ∈ en_wl) (hd : decode M.1 pc = .ok (.newarray .boolean, 2)) (hk : en_Snd G M (pc + 2) k) : en_Snd G M pc (op_na 22 k) := by
  intro L S z σ rr h p ee R s m args below meth c al Q X Dn H locs cells slots ls hH hL hS
  unfold op_na at h
  split at h
  · rename_i n S'
    cases hb : (Nat.beq (en_ka z.1).1 22 && Nat.beq (en_ka z.1).2.1 n.toNatClampNeg && Nat.blt 0 z.2.1 && Nat.ble n.toNatClampNeg z.2.2 && Nat.ble n.toNatClampNeg 100000) with
    | false => rw [hb] at h; cases h
    | true =>
    rw [hb, cond_true] at h
    have h1 := Bool.and_eq_true_iff.mp hb
    have h2 := Bool.and_eq_true_iff.mp h1.1
    have h3 := Bool.and_eq_true_iff.mp h2.1
    have h4 := Bool.and_eq_true_iff.mp h3.1
    have e : (en_ka z.1).1 = 22 := Nat.eq_of_beq_eq_true h4.1
    have en : (en_ka z.1).2.1 = n.toNatClampNeg := Nat.eq_of_beq_eq_true h4.2
    have e1 : 0 < z.2.1 := Nat.le_of_ble_eq_true h3.2
    have e2 : n.toNatClampNeg ≤ z.2.2 := Nat.le_of_ble_eq_true h2.2
    have e3 : n.toNatClampNeg ≤ 100000 := Nat.le_of_ble_eq_true h1.2
    have ha : al = true := hH.2.2.2.2.2.1 hst
    by_cases hn : n < 0
    · rw [if_pos hn] at h; cases h
    rw [if_neg hn] at h
    have hcb : componentBytes (.boolean : FieldType) ≤ 8 := by decide
    refine va_newa (atype := .boolean) (ty := .boolean) (a0 := (n.toNatClampNeg, .inl (en_nr σ z.1 z.1))) X.1 X.2.1 (X.2.2.2.2.1 _ hw) rfl X.2.2.2.2.2.2.2.1 hH.1 en_W_D hH.2.1 (fun q h => Nat.le_trans X.2.2.2.2.2.2.1 h) (fun cA => ?_) hn rfl ?_ (by have := hH.2.2.2.1; omega) (by have := hH.2.2.2.2.1; omega) hd (fun q cA H1 hK1 hP1 hD1 hS1 => ?_)
    · rw [vp_cell_i]
      refine congrArg (arrV cA _) (funext fun j => ?_)
      show (.int (en_nr σ z.1 z.1 j) : Value) = _
      rw [show en_nr σ z.1 z.1 j = 0 from by simp [en_nr]]
      rfl
    · exact Nat.le_trans (Nat.mul_le_mul e3 hcb) (Nat.le_of_ble_eq_true rfl)
    · have hcA : cA = G.2.2.2.1 22 := by
        have a1 := (hK1.2 6 (cA, .boolean) rfl).2
        have a2 := (X.2.2.2.2.2.2.2.1.2 2 (G.2.2.2.1 22, .boolean) rfl).2
        have a1 : s.vm.findClass ("[" ++ (.boolean : FieldType).toString) = some cA := a1
        have a2 : s.vm.findClass ("[" ++ (.boolean : FieldType).toString) = some (G.2.2.2.1 22) := a2
        exact Option.some.inj (a1.symm.trans a2)
      subst hcA
      refine en_fresh (hH.2.2.1 ha) hP1 hD1 (fun hq => ?_)
      subst hq
      have hW := en_W_push (b := G.2.1) (cy := G.2.2.2.1) (st := G.2.2.2.2.2) (sz := z.1) (σ := σ) (σ' := en_nr σ z.1) (fun i hi => en_nr_off i (by omega))
      rw [en_ce_n (t := 22) e (by decide) (by decide), en] at hW
      rw [← hW] at hP1
      have hr := hk L (.inr (z.1, en_ka z.1) :: S') (z.1 + 1, z.2.1 - 1, z.2.2 - n.toNatClampNeg) (en_nr σ z.1) rr h p ee R s m args below meth c al Q X Dn H1 locs (cells + 1) (slots + n.toNatClampNeg) ls ⟨hP1, hS1, (fun _ => by have := hH.2.2.1 ha; show s.heap.size + (cells + 1) = G.2.1 + (z.1 + 1); omega), (by have := hH.2.2.2.1; show cells + 1 + (z.2.1 - 1) ≤ R.cells; omega), (by have := hH.2.2.2.2.1; show slots + n.toNatClampNeg + (z.2.2 - n.toNatClampNeg) ≤ R.slots; omega), (fun _ => ha), (fun q => by rw [hst] at q; cases q)⟩ (hL.grow (Nat.le_succ _)) (en_v (en_world ⟨Nat.lt_succ_self _, rfl⟩) (fun v hv => en_grow ((en_tl hS) v hv) (Nat.le_succ _)))
      rw [List.map_cons, en_evr (en_ka_tag _)] at hr
      exact hr
  · cases h
theorem sn_newl {G : en_G} {M : en_Me} {pc : Nat} {k : en_B} (hst : G.2.2.2.2.2 = false) (hw : (.arrayClass .long : Cond) ∈ en_wl) (hd : decode M.1 pc = .ok (.newarray .long, 2)) (hk : en_Snd G M (pc + 2) k) : en_Snd G M pc (op_na 25 k) := by
  intro L S z σ rr h p ee R s m args below meth c al Q X Dn H locs cells slots ls hH hL hS
  unfold op_na at h
  split at h
  · rename_i n S'
    cases hb : (Nat.beq (en_ka z.1).1 25 && Nat.beq (en_ka z.1).2.1 n.toNatClampNeg && Nat.blt 0 z.2.1 && Nat.ble n.toNatClampNeg z.2.2 && Nat.ble n.toNatClampNeg 100000) with
    | false => rw [hb] at h; cases h
    | true =>
    rw [hb, cond_true] at h
    have h1 := Bool.and_eq_true_iff.mp hb
    have h2 := Bool.and_eq_true_iff.mp h1.1
    have h3 := Bool.and_eq_true_iff.mp h2.1
    have h4 := Bool.and_eq_true_iff.mp h3.1
    have e : (en_ka z.1).1 = 25 := Nat.eq_of_beq_eq_true h4.1
    have en : (en_ka z.1).2.1 = n.toNatClampNeg := Nat.eq_of_beq_eq_true h4.2
    have e1 : 0 < z.2.1 := Nat.le_of_ble_eq_true h3.2
    have e2 : n.toNatClampNeg ≤ z.2.2 := Nat.le_of_ble_eq_true h2.2
    have e3 : n.toNatClampNeg ≤ 100000 := Nat.le_of_ble_eq_true h1.2
    have ha : al = true := hH.2.2.2.2.2.1 hst
    by_cases hn : n < 0
    · rw [if_pos hn] at h; cases h
    rw [if_neg hn] at h
    have hcb : componentBytes (.long : FieldType) ≤ 8 := by decide
    refine va_newa (atype := .long) (ty := .long) (a0 := (n.toNatClampNeg, .inr (.inl (fun j => (en_nr σ z.1 z.1 j).toInt64)))) X.1 X.2.1 (X.2.2.2.2.1 _ hw) rfl X.2.2.2.2.2.2.2.1 hH.1 en_W_D hH.2.1 (fun q h => Nat.le_trans X.2.2.2.2.2.2.1 h) (fun cA => ?_) hn rfl ?_ (by have := hH.2.2.2.1; omega) (by have := hH.2.2.2.2.1; omega) hd (fun q cA H1 hK1 hP1 hD1 hS1 => ?_)
    · rw [vp_cell_l]
      refine congrArg (arrV cA _) (funext fun j => ?_)
      show (.long ((en_nr σ z.1 z.1 j).toInt64) : Value) = _
      rw [show en_nr σ z.1 z.1 j = 0 from by simp [en_nr]]
      rfl
    · exact Nat.le_trans (Nat.mul_le_mul e3 hcb) (Nat.le_of_ble_eq_true rfl)
    · have hcA : cA = G.2.2.2.1 25 := by
        have a1 := (hK1.2 6 (cA, .long) rfl).2
        have a2 := (X.2.2.2.2.2.2.2.1.2 5 (G.2.2.2.1 25, .long) rfl).2
        have a1 : s.vm.findClass ("[" ++ (.long : FieldType).toString) = some cA := a1
        have a2 : s.vm.findClass ("[" ++ (.long : FieldType).toString) = some (G.2.2.2.1 25) := a2
        exact Option.some.inj (a1.symm.trans a2)
      subst hcA
      refine en_fresh (hH.2.2.1 ha) hP1 hD1 (fun hq => ?_)
      subst hq
      have hW := en_W_push (b := G.2.1) (cy := G.2.2.2.1) (st := G.2.2.2.2.2) (sz := z.1) (σ := σ) (σ' := en_nr σ z.1) (fun i hi => en_nr_off i (by omega))
      rw [en_ce_l e, en] at hW
      rw [← hW] at hP1
      have hr := hk L (.inr (z.1, en_ka z.1) :: S') (z.1 + 1, z.2.1 - 1, z.2.2 - n.toNatClampNeg) (en_nr σ z.1) rr h p ee R s m args below meth c al Q X Dn H1 locs (cells + 1) (slots + n.toNatClampNeg) ls ⟨hP1, hS1, (fun _ => by have := hH.2.2.1 ha; show s.heap.size + (cells + 1) = G.2.1 + (z.1 + 1); omega), (by have := hH.2.2.2.1; show cells + 1 + (z.2.1 - 1) ≤ R.cells; omega), (by have := hH.2.2.2.2.1; show slots + n.toNatClampNeg + (z.2.2 - n.toNatClampNeg) ≤ R.slots; omega), (fun _ => ha), (fun q => by rw [hst] at q; cases q)⟩ (hL.grow (Nat.le_succ _)) (en_v (en_world ⟨Nat.lt_succ_self _, rfl⟩) (fun v hv => en_grow ((en_tl hS) v hv) (Nat.le_succ _)))
      rw [List.map_cons, en_evr (en_ka_tag _)] at hr
      exact hr
  · cases h
theorem sn_newq {G : en_G} {M : en_Me} {pc : Nat} {k : en_B} {idx : Nat} (hst : G.2.2.2.2.2 = false) (hcl : (.classLink M.2.1 idx RX7 : Cond) ∈ en_wl) (hd : decode M.1 pc = .ok (.anewarray idx, 3)) (hk : en_Snd G M (pc + 3) k) : en_Snd G M pc (op_na 24 k) := by
  intro L S z σ rr h p ee R s m args below meth c al Q X Dn H locs cells slots ls hH hL hS
  unfold op_na at h
  split at h
  · rename_i n S'
    cases hb : (Nat.beq (en_ka z.1).1 24 && Nat.beq (en_ka z.1).2.1 n.toNatClampNeg && Nat.blt 0 z.2.1 && Nat.ble n.toNatClampNeg z.2.2 && Nat.ble n.toNatClampNeg 100000) with
    | false => rw [hb] at h; cases h
    | true =>
    rw [hb, cond_true] at h
    have h1 := Bool.and_eq_true_iff.mp hb
    have h2 := Bool.and_eq_true_iff.mp h1.1
    have h3 := Bool.and_eq_true_iff.mp h2.1
    have h4 := Bool.and_eq_true_iff.mp h3.1
    have e : (en_ka z.1).1 = 24 := Nat.eq_of_beq_eq_true h4.1
    have en : (en_ka z.1).2.1 = n.toNatClampNeg := Nat.eq_of_beq_eq_true h4.2
    have e1 : 0 < z.2.1 := Nat.le_of_ble_eq_true h3.2
    have e2 : n.toNatClampNeg ≤ z.2.2 := Nat.le_of_ble_eq_true h2.2
    have e3 : n.toNatClampNeg ≤ 100000 := Nat.le_of_ble_eq_true h1.2
    have ha : al = true := hH.2.2.2.2.2.1 hst
    by_cases hn : n < 0
    · rw [if_pos hn] at h; cases h
    rw [if_neg hn] at h
    refine va_newq (C := RX7) X.1 X.2.1 X.2.2.2.1 (X.2.2.2.2.1 _ hcl) X.2.2.2.2.2.2.2.2.1.2.1 X.2.2.2.2.2.2.2.1 hH.1 en_W_D hH.2.1 (fun q h => Nat.le_trans X.2.2.2.2.2.2.1 h) hn rfl (Nat.le_trans (Nat.mul_le_mul_right 4 e3) (Nat.le_of_ble_eq_true rfl)) (by have := hH.2.2.2.1; omega) (by have := hH.2.2.2.2.1; omega) hd (fun q cA H1 hK1 hP1 hD1 hS1 => ?_)
    have hcA : cA = G.2.2.2.1 24 := by
      obtain ⟨_, _, _, _, _, a1⟩ := (hK1.2 6 (cA, .object RX7) rfl).2
      obtain ⟨_, _, _, _, _, a2⟩ := (X.2.2.2.2.2.2.2.1.2 4 (G.2.2.2.1 24, .object RX7) rfl).2
      exact Option.some.inj (a1.symm.trans a2)
    subst hcA
    refine en_fresh (hH.2.2.1 ha) hP1 hD1 (fun hq => ?_)
    subst hq
    have hW := en_W_push (b := G.2.1) (cy := G.2.2.2.1) (st := G.2.2.2.2.2) (sz := z.1) (σ := σ) (σ' := en_nr σ z.1) (fun i hi => en_nr_off i (by omega))
    rw [en_ce_q (t := 24) e (by decide) (by decide), en, show en_aq G.2.1 G.2.2.2.2.2 (en_nr σ z.1) z.1 (en_ka z.1) = (fun _ => none) from funext fun j => by simp [en_aq, hst, en_dq, en_nr]] at hW
    rw [← hW] at hP1
    have hr := hk L (.inr (z.1, en_ka z.1) :: S') (z.1 + 1, z.2.1 - 1, z.2.2 - n.toNatClampNeg) (en_nr σ z.1) rr h p ee R s m args below meth c al Q X Dn H1 locs (cells + 1) (slots + n.toNatClampNeg) ls ⟨hP1, hS1, (fun _ => by have := hH.2.2.1 ha; show s.heap.size + (cells + 1) = G.2.1 + (z.1 + 1); omega), (by have := hH.2.2.2.1; show cells + 1 + (z.2.1 - 1) ≤ R.cells; omega), (by have := hH.2.2.2.2.1; show slots + n.toNatClampNeg + (z.2.2 - n.toNatClampNeg) ≤ R.slots; omega), (fun _ => ha), (fun q => by rw [hst] at q; cases q)⟩ (hL.grow (Nat.le_succ _)) (en_v (en_world ⟨Nat.lt_succ_self _, rfl⟩) (fun v hv => en_grow ((en_tl hS) v hv) (Nat.le_succ _)))
    rw [List.map_cons, en_evr (en_ka_tag _)] at hr
    exact hr
  · cases h
theorem sn_aast {G : en_G} {M : en_Me} {pc : Nat} {k : en_B} (hst : G.2.2.2.2.2 = false) (hd : decode M.1 pc = .ok (.aastore, 1)) (hk : en_Snd G M (pc + 1) k) : en_Snd G M pc (op_aast k) := by
  intro L S z σ rr h p ee R s m args below meth c al Q X Dn H locs cells slots ls hH hL hS
  unfold op_aast at h
  split at h
  · rename_i w i v S'
    cases hb : (Nat.beq v.2.1 24 && Nat.beq w.2.1 7) with
    | false => rw [hb] at h; cases h
    | true =>
      rw [hb, cond_true] at h
      have h1 := Bool.and_eq_true_iff.mp hb
      have e : v.2.1 = 24 := Nat.eq_of_beq_eq_true h1.1
      have e7 : w.2.1 = 7 := Nat.eq_of_beq_eq_true h1.2
      have hv := en_wr (en_h (en_tl (en_tl hS))) (by rw [e]; decide)
      have hw := en_wr (en_h hS) (by rw [e7]; decide)
      have hin7 := en_in hw.2 (by rw [e7]; decide)
      cases hi : en_ixc i v.2.2.1 with
      | none => rw [hi] at h; cases h
      | some j =>
        rw [hi, Option.bind_some] at h
        obtain ⟨hin, hj, -⟩ := en_ixc_in hi
        subst hj
        have hg := en_W_get (b := G.2.1) (cy := G.2.2.2.1) (st := G.2.2.2.2.2) (σ := σ) hv.1
        rw [en_ce_q (t := 24) (by rw [hv.2]; exact e) (by decide) (by decide), hv.2] at hg
        have hg7 := en_W_get (b := G.2.1) (cy := G.2.2.2.1) (st := G.2.2.2.2.2) (σ := σ) hw.1
        rw [en_ce_o (ci := 7) (by rw [hw.2]; exact e7) (by decide)] at hg7
        rw [List.map_cons, List.map_cons, List.map_cons, en_evr (w := v) (by rw [e]; decide), en_evr (w := w) (by rw [e7]; decide)]
        refine va_astq (r := (RX7, TX7, 10)) X.1 X.2.1 X.2.2.2.2.2.2.2.1 hH.1 en_W_D hH.2.1 v.1 4 w.1 7 hg rfl hg7 rfl hin hd (fun H1 locs1 hP1 hD1 hS1 => ?_)
        rw [en_W_set (σ' := en_up σ v.1 i.toNatClampNeg (Int32.ofNat (w.1 + 1))) ?_ en_up_off] at hP1
        · exact hk L S' z _ rr h p ee R s m args below meth c al Q X Dn H1 locs1 cells slots ls ⟨hP1, hS1, hH.2.2.1, hH.2.2.2.1, hH.2.2.2.2.1, hH.2.2.2.2.2.1, hH.2.2.2.2.2.2⟩ hL (en_tl (en_tl (en_tl hS)))
        · rw [en_ce_q (t := 24) (by rw [hv.2]; exact e) (by decide) (by decide), hv.2]
          refine congrArg (fun f => (Sum.inl (G.2.2.2.1 24, v.2.2.1, .inr (.inr (.inr (.inr f)))) : va_E)) (funext fun q => ?_)
          by_cases hq : q = i.toNatClampNeg
          · subst hq
            show (if i.toNatClampNeg = i.toNatClampNeg then some (G.2.1 + w.1) else _) = _
            rw [if_pos rfl]
            unfold en_aq
            rw [if_neg (by rw [hst]; decide), en_up_in, en_dq_code hin7]
          · simp [va_up, en_aq, hst, hq, en_up_ne q hq]
  · cases h
theorem sn_obj {G : en_G} {M : en_Me} {pc : Nat} {k : en_B} {idx : Nat} (hw : (.methodLink M.2.1 idx objectInit : Cond) ∈ en_wl) (hin : (.instanceMethod objectInit : Cond) ∈ en_wl) (hc : (.code objectInit ⟨#[0xb1]⟩ 1 none : Cond) ∈ en_wl) (hdp : 1 ≤ M.2.2.2.2.1) (hd : decode M.1 pc = .ok (.invokespecial idx, 3)) (hk : en_Snd G M (pc + 3) k) : en_Snd G M pc (op_obj k) := by
  intro L S z σ rr h p ee R s m args below meth c al Q X Dn H locs cells slots ls hH hL hS
  unfold op_obj at h
  split at h
  · rename_i v S'
    cases hb : (Nat.ble v.2.1 20 && Nat.ble S'.length 8) with
    | false => rw [hb] at h; cases h
    | true =>
      rw [hb, cond_true] at h
      have h1 := Bool.and_eq_true_iff.mp hb
      have e : v.2.1 ≤ 20 := Nat.le_of_ble_eq_true h1.1
      have e8 : S'.length ≤ 8 := Nat.le_of_ble_eq_true h1.2
      rw [List.map_cons, en_evr (by omega)]
      refine W.objInit X.1 X.2.1 X.2.2.2.1 (X.2.2.2.2.1 _ hw) (X.2.2.2.2.1 _ hin) (X.2.2.2.2.1 _ hc) rfl (hL.1.trans X.2.2.1.symm) rfl hd (Nat.le_trans hdp X.2.2.2.2.2.2.2.2.2.1) ?_ (hk L S' z σ rr h p ee R s m args below meth c al Q X Dn H locs cells slots ls hH hL (en_tl hS))
      have hr := X.2.2.2.2.2.2.2.2.2.2
      have hs8 := lv_room (m := m) (pc := pc) (ls := ls) (rest := (.ref (G.2.1 + v.1) :: S'.map (en_ev G))) (st := S'.map (en_ev G)) (by rw [en_sum]; exact e8)
      omega
  · cases h
theorem sn_callS {G : en_G} {M : en_Me} {pc : Nat} {k : en_B} {idx n mc ms d maxL : Nat} {y : MethodName} {bytes : ByteArray} {ret : Option FieldType} {f : en_F} (hst : G.2.2.2.2.2 = false) (hI : en_I G d y bytes maxL ret mc ms f) (hdp : d + 1 ≤ M.2.2.2.2.1) (hcs : en_cs y bytes maxL ret n) (hlk : en_lkS M.2.1 idx y) (hd : decode M.1 pc = .ok (.invokestatic idx, 3)) (hk : en_Snd G M (pc + 3) k) : en_Snd G M pc (op_call f n mc ms k) := by
  intro L S z σ rr h
  unfold op_call at h
  cases hb : (en_rd n S && Nat.ble mc z.2.1 && Nat.ble ms z.2.2) with
  | false => rw [hb] at h; cases h
  | true =>
  rw [hb, cond_true] at h
  have h1 := Bool.and_eq_true_iff.mp hb
  have h2 := Bool.and_eq_true_iff.mp h1.1
  cases hf : f (S.take n).reverse (z.1, mc, ms) σ with
  | none => rw [hf] at h; cases h
  | some r =>
  rw [hf, Option.bind_some] at h
  cases hz : Nat.beq r.2.1.1 (z.1 + mc) with
  | false => rw [hz] at h; cases h
  | true =>
  rw [hz, cond_true] at h
  refine en_callS hI hdp hcs hlk hd h2.1 (Nat.le_of_ble_eq_true h2.2) (Nat.le_of_ble_eq_true h1.2) (r := r) hf (fun _ q => by rw [hst] at q; cases q) (Nat.eq_of_beq_eq_true hz) ?_
  cases hr : r.1 with
  | none => rw [hr] at h; exact hk _ _ _ _ _ h
  | some x => rw [hr] at h; exact hk _ _ _ _ _ h
/-- a method whose answer is its first block's -/
theorem en_of_f {G : en_G} {M : en_Me} {y : MethodName} {maxL mc ms : Nat} {ret : Option FieldType} {B : en_B} {v : Bool} (hB : en_Snd G M 0 B) (hcls : plainFor y = true) (hown : M.2.1 = y.cls) (hml : M.2.2.1 = maxL) (hini : M.2.2.2.1 = true → y.name = "<init>")
    (hret : (ret = some .int ∧ M.2.2.2.2.2 = false) ∨ ((ret = some .boolean ∨ ret = some .byte) ∧ M.2.2.2.2.2 = true) ∨ ret = none) (hv : v = ret.isSome) : en_I G M.2.2.2.2.1 y M.1 maxL ret mc ms (en_ff v maxL B) := by
  refine en_impl hcls hown hml hini hret ?_
  intro av sz σ r hs h
  unfold en_ff at h
  cases hb : Nat.ble av.length maxL with
  | false => rw [hb] at h; cases h
  | true =>
    rw [hb, cond_true] at h
    split at h
    · rename_i t ht
      obtain ⟨o, t2⟩ := t
      cases o with
      | none =>
        cases v with
        | true => cases h
        | false =>
          cases h
          refine ⟨Nat.le_of_ble_eq_true hb, (fun _ => rfl), (fun q => ?_), hB _ _ _ _ _ ht⟩
          exfalso; apply q; cases ret with
          | none => rfl
          | some x => cases hv
      | some x =>
        cases v with
        | false => cases h
        | true =>
          cases h
          exact ⟨Nat.le_of_ble_eq_true hb, (fun q => by subst q; cases hv), (fun q => ⟨x, rfl⟩), hB _ _ _ _ _ ht⟩
    · cases h
theorem en_W_in {b : Nat} {cy : Nat → ClassId} {st : Bool} {sz n : Nat} {σ : en_M} {H H1 : Heap} {D : va_G} (hold : ∀ x, x < H.size → H1[x]? = H[x]?) (hP : va_P D en_cl (en_W b cy st sz σ) H) {σ' : en_M} (hσ : ∀ i, i < sz → ∀ q, σ' i q = σ i q) (hnew : ∀ k, sz ≤ k → k < sz + n → va_at D en_cl (b + k, en_ce b cy st σ' k (en_ka k)) H1) : va_P D en_cl (en_W b cy st (sz + n) σ') H1 := by
  intro k q hq
  obtain ⟨hk, rfl⟩ := en_W_inv hq
  rcases Nat.lt_or_ge k sz with h | h
  · rw [en_ce_off (hσ k h)]
    have hg := en_W_get (b := b) (cy := cy) (st := st) (σ := σ) h
    exact (hP k _ hg).kept (hold _ (hP k _ hg).lt)
  · exact hnew k h hk
theorem en_arrc {c : ClassId} {N : Nat} {f g : Nat → Value} (h : ∀ j, j < N → f j = g j) : arrV c N f = arrV c N g := by
  unfold arrV
  congr 1
  congr 1
  funext j
  exact h j.val j.isLt
theorem en_outer (c : ClassId) (N h0 : Nat) : ∀ i : Nat, Jvm.Free.Multi.outerC c N h0 i = arrV c N (fun j => if j < i then Value.ref (h0 + 1 + j) else .null)
  | 0 => by
    show ({ cls := c, slots := Array.replicate N .null, vm := .none } : Cell) = _
    rw [arrV_new]
    exact en_arrc fun j _ => by simp
  | i + 1 => by
    show (Jvm.Free.Multi.outerC c N h0 i).setSlot i (.ref (h0 + 1 + i)) = _
    rw [en_outer c N h0 i, arrV_store]
    refine en_arrc fun j _ => ?_
    unfold updV
    by_cases e : j = i
    · subst e; simp
    · by_cases h : j < i
      · simp [e, h, Nat.lt_succ_of_lt h]
      · simp [e, h, show ¬ j < i + 1 by omega]
theorem sn_mnew {G : en_G} {M : en_Me} {pc : Nat} {k : en_B} {idx : Nat} (hst : G.2.2.2.2.2 = false) (hcl : (.classLink M.2.1 idx "[[I" : Cond) ∈ en_wl) (hai : (.arrayClass .int : Cond) ∈ en_wl) (hd : decode M.1 pc = .ok (.multianewarray idx 2, 4)) (hk : en_Snd G M (pc + 4) k) : en_Snd G M pc (op_mnew k) := by
  intro L S z σ rr h p ee R s m args below meth c al Q X Dn H locs cells slots ls hH hL hS
  unfold op_mnew at h
  split at h
  · rename_i q n S'
    cases hb : (Nat.beq (en_ka z.1).1 23 && Nat.beq (en_ka z.1).2.1 n.toNatClampNeg && Nat.beq (en_ka z.1).2.2 q.toNatClampNeg && Nat.ble (n.toNatClampNeg + 1) z.2.1 && Nat.ble (n.toNatClampNeg + n.toNatClampNeg * q.toNatClampNeg) z.2.2 && Nat.ble n.toNatClampNeg 100000 && Nat.ble q.toNatClampNeg 100000) with
    | false => rw [hb] at h; cases h
    | true =>
    rw [hb, cond_true] at h
    have h1 := Bool.and_eq_true_iff.mp hb
    have h2 := Bool.and_eq_true_iff.mp h1.1
    have h3 := Bool.and_eq_true_iff.mp h2.1
    have h4 := Bool.and_eq_true_iff.mp h3.1
    have h5 := Bool.and_eq_true_iff.mp h4.1
    have h6 := Bool.and_eq_true_iff.mp h5.1
    have e : (en_ka z.1).1 = 23 := Nat.eq_of_beq_eq_true h6.1
    have en : (en_ka z.1).2.1 = n.toNatClampNeg := Nat.eq_of_beq_eq_true h6.2
    have eq : (en_ka z.1).2.2 = q.toNatClampNeg := Nat.eq_of_beq_eq_true h5.2
    have e1 : n.toNatClampNeg + 1 ≤ z.2.1 := Nat.le_of_ble_eq_true h4.2
    have e2 : n.toNatClampNeg + n.toNatClampNeg * q.toNatClampNeg ≤ z.2.2 := Nat.le_of_ble_eq_true h3.2
    have e3 : n.toNatClampNeg ≤ 100000 := Nat.le_of_ble_eq_true h2.2
    have e4 : q.toNatClampNeg ≤ 100000 := Nat.le_of_ble_eq_true h1.2
    by_cases hn : n < 0 ∨ q < 0
    · rw [if_pos hn] at h; cases h
    rw [if_neg hn] at h
    have ha : al = true := hH.2.2.2.2.2.1 hst
    have hs3 := hH.2.2.1 ha
    intro T hT Xs
    have hsz : H.size = G.2.1 + z.1 := by
      have a1 := Xs.heapSize
      rw [hT] at a1
      have a2 := en_szle X.2.2.2.2.2.2.1 hH
      omega
    obtain ⟨vm₁, cA, comp, -, fA, fC, -, -, X', step⟩ := Xs.multianewarray2F (ty := .int) X.1 X.2.2.2.1 (X.2.2.2.2.1 _ hcl) (show (Cond.arrayOver (.array .int)).before args s = true from X.2.2.2.2.2.2.2.2.1.2.2.1) (X.2.2.2.2.1 _ hai) (g := F0 m pc ls (.int q :: .int n :: S'.map (en_ev G))) rfl (by rw [X.2.1]; exact hd) rfl (fun a => hn (Or.inl a)) (fun a => hn (Or.inr a)) (by omega) (by show _ * 4 ≤ _; omega) (by omega) rfl rfl (by have := hH.2.2.2.1; omega) (by have := hH.2.2.2.2.1; omega)
    have a1 := (X.2.2.2.2.2.2.2.1.2 0 (G.2.2.2.1 20, .int) rfl).2
    have a2 := (X.2.2.2.2.2.2.2.1.2 3 (G.2.2.2.1 23, .array .int) rfl).2
    have a1 : s.vm.findClass "[I" = some (G.2.2.2.1 20) := a1
    have a2 : s.vm.findClass "[[I" = some (G.2.2.2.1 23) := a2
    have ec : G.2.2.2.1 20 = comp := Option.some.inj (a1.symm.trans fC)
    have eA : G.2.2.2.1 23 = cA := Option.some.inj (a2.symm.trans fA)
    subst ec
    subst eA
    obtain ⟨f1, f2, -, -⟩ := Jvm.Free.Multi.fill_facts (T.setVm vm₁) (G.2.2.2.1 23) (G.2.2.2.1 20) n.toNatClampNeg q.toNatClampNeg (defaultValue .int) n.toNatClampNeg
    have hTh : (T.setVm vm₁).heap = H := hT
    have f3 : ∀ x, x < H.size → (Jvm.Free.Multi.fill (T.setVm vm₁) (G.2.2.2.1 23) (G.2.2.2.1 20) n.toNatClampNeg q.toNatClampNeg (defaultValue .int) n.toNatClampNeg).heap[x]? = H[x]? := fun x hx => by
      have := Jvm.Free.Multi.fill_old (T.setVm vm₁) (G.2.2.2.1 23) (G.2.2.2.1 20) n.toNatClampNeg q.toNatClampNeg (defaultValue .int) (a := x) (by rw [hTh]; exact hx) n.toNatClampNeg
      rw [hTh] at this
      exact this
    have f4 := fun j hj => Jvm.Free.Multi.fill_inner (T.setVm vm₁) (G.2.2.2.1 23) (G.2.2.2.1 20) n.toNatClampNeg q.toNatClampNeg (defaultValue .int) n.toNatClampNeg j hj
    rw [hTh] at f1 f2 f4
    generalize Jvm.Free.Multi.fill (T.setVm vm₁) (G.2.2.2.1 23) (G.2.2.2.1 20) n.toNatClampNeg q.toNatClampNeg (defaultValue .int) n.toNatClampNeg = F at X' step f1 f2 f3 f4
    have hz1 : z.1 < en_KL.length := en_in rfl (by rw [e]; decide)
    have hP1 : va_P G.2.2.1 en_cl (en_W G.2.1 G.2.2.2.1 G.2.2.2.2.2 (z.1 + (1 + n.toNatClampNeg)) (en_mr σ z.1 n.toNatClampNeg)) F.heap := by
      refine en_W_in f3 hH.1 (fun i hi j => ?_) (fun k h1 h2 => ?_)
      · unfold en_mr
        rw [if_neg (by omega), if_neg (by omega)]
      · rcases Nat.eq_or_lt_of_le h1 with h1 | h1
        · subst h1
          rw [en_ce_q (t := 23) e (by decide) (by decide), en]
          show F.heap[G.2.1 + z.1]? = some (vp_cell _ _)
          rw [← hsz, f2, vp_cell_q]
          refine congrArg some ?_
          rw [en_outer]
          refine en_arrc fun j hj => ?_
          rw [if_pos hj]
          have hlay := en_rows_ok z.1 hz1 e j (by rw [en]; exact hj)
          unfold en_aq
          rw [if_neg (by rw [hst]; decide)]
          have hm : en_mr σ z.1 n.toNatClampNeg z.1 j = Int32.ofNat (z.1 + 1 + j + 1) := by
            unfold en_mr
            rw [if_pos rfl, if_pos hj]
          rw [hm, en_dq_code hlay.1, hsz]
          show _ = Value.ref _
          rw [show G.2.1 + z.1 + 1 + j = G.2.1 + (z.1 + 1 + j) by omega]
        · obtain ⟨j, hj⟩ : ∃ j, k = z.1 + 1 + j := ⟨k - (z.1 + 1), by omega⟩
          subst hj
          have hjn : j < n.toNatClampNeg := by omega
          have hlay := en_rows_ok z.1 hz1 e j (by rw [en]; exact hjn)
          rw [hlay.2, eq, en_ce_n (t := 20) rfl (by decide) (by decide)]
          show F.heap[G.2.1 + (z.1 + 1 + j)]? = some (vp_cell _ _)
          rw [show G.2.1 + (z.1 + 1 + j) = H.size + 1 + j by omega, f4 j hjn, vp_cell_i]
          refine congrArg some ?_
          show ({ cls := _, slots := Array.replicate _ _, vm := _ } : Cell) = _
          rw [arrV_new]
          refine congrArg (arrV _ _) (funext fun i => ?_)
          show Value.int 0 = Value.int _
          unfold en_mr
          rw [if_neg (by omega), if_pos ⟨by omega, by omega⟩]
    rw [← Nat.add_assoc] at hP1
    have hr := hk L (.inr (z.1, en_ka z.1) :: S') (z.1 + 1 + n.toNatClampNeg, z.2.1 - (1 + n.toNatClampNeg), z.2.2 - (n.toNatClampNeg + n.toNatClampNeg * q.toNatClampNeg)) (en_mr σ z.1 n.toNatClampNeg) rr h p ee R s m args below meth c al Q X Dn F.heap locs (cells + 1 + n.toNatClampNeg) (slots + n.toNatClampNeg + n.toNatClampNeg * q.toNatClampNeg) ls
      ⟨hP1, ⟨Nat.le_trans hH.2.1.1 (by rw [f1]; omega), fun x h1 h2 => (f3 x (Nat.lt_of_lt_of_le h1 hH.2.1.1)).trans (hH.2.1.2.1 x h1 h2), hH.2.1.2.2⟩, (fun _ => by show s.heap.size + (cells + 1 + n.toNatClampNeg) = G.2.1 + (z.1 + 1 + n.toNatClampNeg); omega), (by have := hH.2.2.2.1; show cells + 1 + n.toNatClampNeg + (z.2.1 - (1 + n.toNatClampNeg)) ≤ R.cells; omega), (by have := hH.2.2.2.2.1; show slots + n.toNatClampNeg + n.toNatClampNeg * q.toNatClampNeg + (z.2.2 - (n.toNatClampNeg + n.toNatClampNeg * q.toNatClampNeg)) ≤ R.slots; omega), (fun _ => ha), (fun q => by rw [hst] at q; cases q)⟩
      (hL.grow (by show z.1 ≤ z.1 + 1 + n.toNatClampNeg; omega)) (en_v (en_world ⟨by show z.1 < z.1 + 1 + n.toNatClampNeg; omega, rfl⟩) (fun v hv => en_grow (en_tl (en_tl hS) v hv) (by show z.1 ≤ z.1 + 1 + n.toNatClampNeg; omega)))
    rw [List.map_cons, en_evr (en_ka_tag _)] at hr
    obtain ⟨t, b1, b2⟩ := hr F rfl X'
    have hTs : T.heap.size = G.2.1 + z.1 := by rw [hT]; exact hsz
    rw [hTs] at step
    exact ⟨t, step t b1, b2⟩
  · cases h
theorem en_df0 : en_df 0 3 tyX0 := by unfold en_df; decide +kernel
theorem en_df1 : en_df 1 2 tyX1 := by unfold en_df; decide +kernel
theorem en_df2 : en_df 2 3 tyX2 := by unfold en_df; decide +kernel
theorem en_df3 : en_df 3 3 tyX3 := by unfold en_df; decide +kernel
theorem en_df4 : en_df 4 3 tyX4 := by unfold en_df; decide +kernel
theorem en_df5 : en_df 5 7 tyX5 := by unfold en_df; decide +kernel
theorem en_df6 : en_df 6 7 tyX6 := by unfold en_df; decide +kernel
theorem en_df7 : en_df 7 10 tyX7 := by unfold en_df; decide +kernel
theorem en_df8 : en_df 8 2 tyX8 := by unfold en_df; decide +kernel
theorem en_df9 : en_df 9 2 tyX9 := by unfold en_df; decide +kernel
theorem en_df10 : en_df 10 7 tyX10 := by unfold en_df; decide +kernel
theorem en_df11 : en_df 11 14 tyX11 := by unfold en_df; decide +kernel
theorem en_df12 : en_df 12 44 tyX12 := by unfold en_df; decide +kernel
