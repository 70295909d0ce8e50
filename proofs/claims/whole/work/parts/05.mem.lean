theorem en_no30 {sz : Nat} {w : Nat × en_K} (h : en_okv sz (.inr w)) : ¬ w.2.1 = 30 := by
  rcases h with (h | h) | h
  · rw [h]; decide
  · rw [h]; decide
  · rw [← h.2]; have := en_ka_tag w.1; omega
theorem en_sum {G : en_G} {S : List en_V} : ((S.map (en_ev G)).map fun v => v.category).sum = S.length := by
  induction S with
  | nil => rfl
  | cons v S ih => rw [List.map_cons, List.map_cons, List.sum_cons, ih, en_cat, List.length_cons]; omega
theorem sn_geti {G : en_G} {M : en_Me} {pc : Nat} {k : en_B} {ci j idx N : Nat} {C : String} {T : u_T} {ty : Nat → FieldType} (hc : en_cf ci C T N ty) (hd : decode M.1 pc = .ok (.getfield idx, 3)) (hw : (.fieldLink M.2.1 idx C (T j).2.1 (T j).2.2.1 : Cond) ∈ en_wl) (hj : j < N) (hf : (en_fk ci j).1 = 0) (hk : en_Snd G M (pc + 3) k) : en_Snd G M pc (op_geti ci j k) := by
  intro L S z σ rr h p ee R s m args below meth c al Q X Dn H locs cells slots ls hH hL hS
  unfold op_geti at h
  split at h
  · rename_i v S'
    cases hb : Nat.beq v.2.1 ci with
    | false => rw [hb] at h; cases h
    | true =>
      rw [hb] at h
      have e : v.2.1 = ci := Nat.eq_of_beq_eq_true hb
      have hci : ci < 20 := hc.2.2.2.2.2.1
      have hv := en_wr (en_h hS) (by rw [e]; omega)
      rw [List.map_cons, en_evr (by rw [e]; omega)]
      have hg := en_W_get (b := G.2.1) (cy := G.2.2.2.1) (st := G.2.2.2.2.2) (σ := σ) hv.1
      rw [en_ce_o (by rw [hv.2]; exact e) hci] at hg
      refine va_get (rest := S'.map (en_ev G)) X.1 X.2.1 (Ts := en_wl) X.2.2.2.2.1 hc.2.1 X.2.2.2.1 X.2.2.2.2.2.2.2.1 hH.1 v.1 hg hc.1 j hj (X.2.2.2.2.1 _ hw) (fun x hx => by rw [hc.2.2.2.2.2.2 j hj] at hx; exact hx) (v := .int (σ v.1 j)) ?_ hd (hk L (.inl (σ v.1 j) :: S') z σ rr h p ee R s m args below meth c al Q X Dn H locs cells slots ls hH hL (en_i (en_tl hS)))
      rw [en_fs_get (by rw [hc.2.2.2.2.1]; exact hj)]
      simp only [en_fv, hf, if_true]
  · cases h
def en_off (ci off : Nat) (kd : en_K) : Prop := ∀ k, k < en_KL.length → (en_ka k).1 = ci → k + off < en_KL.length ∧ en_ka (k + off) = kd
theorem sn_gets {G : en_G} {M : en_Me} {pc : Nat} {k : en_B} {ci j off idx N : Nat} {kd : en_K} {C : String} {T : u_T} {ty : Nat → FieldType} (hst : G.2.2.2.2.2 = true) (hc : en_cf ci C T N ty) (ho : en_off ci off kd) (hkd : kd.1 < 30) (hd : decode M.1 pc = .ok (.getfield idx, 3)) (hw : (.fieldLink M.2.1 idx C (T j).2.1 (T j).2.2.1 : Cond) ∈ en_wl) (hj : j < N) (hf : en_fk ci j = (1, off)) (hk : en_Snd G M (pc + 3) k) : en_Snd G M pc (op_gets ci off kd k) := by
  intro L S z σ rr h p ee R s m args below meth c al Q X Dn H locs cells slots ls hH hL hS
  unfold op_gets at h
  split at h
  · rename_i v S'
    cases hb : Nat.beq v.2.1 ci with
    | false => rw [hb] at h; cases h
    | true =>
      rw [hb] at h
      have e : v.2.1 = ci := Nat.eq_of_beq_eq_true hb
      have hci : ci < 20 := hc.2.2.2.2.2.1
      have hv := en_wr (en_h hS) (by rw [e]; omega)
      have hz := hH.2.2.2.2.2.2 hst
      have h2 := ho v.1 (by rw [← hz]; exact hv.1) (by rw [hv.2]; exact e)
      rw [List.map_cons, en_evr (by rw [e]; omega)]
      have hg := en_W_get (b := G.2.1) (cy := G.2.2.2.1) (st := G.2.2.2.2.2) (σ := σ) hv.1
      rw [en_ce_o (by rw [hv.2]; exact e) hci] at hg
      have hr := (hk L (.inr (v.1 + off, kd) :: S') z σ rr h p ee R s m args below meth c al Q X Dn H locs cells slots ls hH hL (en_v (en_world ⟨by rw [hz]; exact h2.1, h2.2⟩) (en_tl hS)))
      rw [List.map_cons, en_evr (w := (v.1 + off, kd)) (Or.inl hkd)] at hr
      refine va_get (rest := S'.map (en_ev G)) X.1 X.2.1 (Ts := en_wl) X.2.2.2.2.1 hc.2.1 X.2.2.2.1 X.2.2.2.2.2.2.2.1 hH.1 v.1 hg hc.1 j hj (X.2.2.2.2.1 _ hw) (fun x hx => by rw [hc.2.2.2.2.2.2 j hj] at hx; exact hx) ?_ hd hr
      rw [en_fs_get (by rw [hc.2.2.2.2.1]; exact hj)]
      simp [en_fv, hf, hst]
  · cases h
theorem sn_getd {G : en_G} {M : en_Me} {pc : Nat} {k : en_B} {ci j idx N : Nat} {C : String} {T : u_T} {ty : Nat → FieldType} (hc : en_cf ci C T N ty) (hd : decode M.1 pc = .ok (.getfield idx, 3)) (hw : (.fieldLink M.2.1 idx C (T j).2.1 (T j).2.2.1 : Cond) ∈ en_wl) (hj : j < N) (hf : (en_fk ci j).1 ≠ 0) (hdy : (en_fk ci j).1 ≠ 1 ∨ G.2.2.2.2.2 = false) (hk : en_Snd G M (pc + 3) k) : en_Snd G M pc (op_getd ci j k) := by
  intro L S z σ rr h p ee R s m args below meth c al Q X Dn H locs cells slots ls hH hL hS
  unfold op_getd at h
  split at h
  · rename_i v S'
    cases hb : Nat.beq v.2.1 ci with
    | false => rw [hb] at h; cases h
    | true =>
      rw [hb] at h
      have e : v.2.1 = ci := Nat.eq_of_beq_eq_true hb
      have hci : ci < 20 := hc.2.2.2.2.2.1
      have hv := en_wr (en_h hS) (by rw [e]; omega)
      rw [cond_true] at h
      by_cases h0 : σ v.1 j = 0
      · rw [if_pos h0] at h; cases h
      · rw [if_neg h0] at h
        generalize hr0 : (σ v.1 j).toNatClampNeg - 1 = r at h
        cases hb2 : Nat.blt r z.1 with
        | false => rw [hb2] at h; cases h
        | true =>
          rw [hb2, cond_true] at h
          have hlt : r < z.1 := Nat.le_of_ble_eq_true hb2
          rw [List.map_cons, en_evr (by rw [e]; omega)]
          have hg := en_W_get (b := G.2.1) (cy := G.2.2.2.1) (st := G.2.2.2.2.2) (σ := σ) hv.1
          rw [en_ce_o (by rw [hv.2]; exact e) hci] at hg
          have hr := (hk L (.inr (r, en_ka r) :: S') z σ rr h p ee R s m args below meth c al Q X Dn H locs cells slots ls hH hL (en_v (en_world ⟨hlt, rfl⟩) (en_tl hS)))
          rw [List.map_cons, en_evr (w := (r, en_ka r)) (en_ka_tag r)] at hr
          refine va_get (rest := S'.map (en_ev G)) X.1 X.2.1 (Ts := en_wl) X.2.2.2.2.1 hc.2.1 X.2.2.2.1 X.2.2.2.2.2.2.2.1 hH.1 v.1 hg hc.1 j hj (X.2.2.2.2.1 _ hw) (fun x hx => by rw [hc.2.2.2.2.2.2 j hj] at hx; exact hx) ?_ hd hr
          rw [en_fs_get (by rw [hc.2.2.2.2.1]; exact hj)]
          unfold en_fv
          rw [if_neg hf, if_neg (by rintro ⟨q1, q2⟩; rcases hdy with q | q; exact q q1; rw [q] at q2; cases q2)]
          simp only [en_dr, if_neg h0, hr0]
  · cases h
theorem sn_puti {G : en_G} {M : en_Me} {pc : Nat} {k : en_B} {ci j idx N : Nat} {C : String} {T : u_T} {ty : Nat → FieldType} (hc : en_cf ci C T N ty) (hd : decode M.1 pc = .ok (.putfield idx, 3)) (hw : (.fieldLink M.2.1 idx C (T j).2.1 (T j).2.2.1 : Cond) ∈ en_wl) (hj : j < N) (hfin : (T j).2.2.2 = false) (hf : (en_fk ci j).1 = 0) (hty : ty j = .int) (hk : en_Snd G M (pc + 3) k) : en_Snd G M pc (op_puti ci j k) := by
  intro L S z σ rr h p ee R s m args below meth c al Q X Dn H locs cells slots ls hH hL hS
  unfold op_puti at h
  split at h
  · rename_i x v S'
    cases hb : Nat.beq v.2.1 ci with
    | false => rw [hb] at h; cases h
    | true =>
      rw [hb, cond_true] at h
      have e : v.2.1 = ci := Nat.eq_of_beq_eq_true hb
      have hci : ci < 20 := hc.2.2.2.2.2.1
      have hv := en_wr (en_h (en_tl hS)) (by rw [e]; omega)
      rw [List.map_cons, List.map_cons, en_evr (w := v) (by rw [e]; omega)]
      have hg := en_W_get (b := G.2.1) (cy := G.2.2.2.1) (st := G.2.2.2.2.2) (σ := σ) hv.1
      rw [en_ce_o (by rw [hv.2]; exact e) hci] at hg
      refine va_put (rest := S'.map (en_ev G)) X.1 X.2.1 (Ts := en_wl) X.2.2.2.2.1 hc.2.1 ty hc.2.2.1 hc.2.2.2.1 X.2.2.2.1 X.2.2.2.2.2.2.2.1 hH.1 en_W_D hH.2.1 v.1 hg hc.1 j hj (X.2.2.2.2.1 _ hw) (fun x hx => by rw [hc.2.2.2.2.2.2 j hj] at hx; exact hx) hfin (hc.2.2.1 j hj) (v := .int x) (by rw [hty]; rfl) (by rw [hty]; rfl) (by rw [List.length_map, List.length_range, hc.2.2.2.2.1]; exact hj) hd (fun H1 locs1 hP1 hD1 hS1 => ?_)
      rw [en_W_set (σ' := en_up σ v.1 j x) ?_ en_up_off] at hP1
      · exact hk L S' z _ rr h p ee R s m args below meth c al Q X Dn H1 locs1 cells slots ls ⟨hP1, hS1, hH.2.2.1, hH.2.2.2.1, hH.2.2.2.2.1, hH.2.2.2.2.2.1, hH.2.2.2.2.2.2⟩ hL (en_tl (en_tl hS))
      · rw [en_ce_o (by rw [hv.2]; exact e) hci]
        refine congrArg (fun l => (Sum.inr (ci, l) : va_E)) (en_fs_set ?_ en_up_ne)
        simp only [en_fv, hf, if_true, en_up_in]
  · cases h
theorem sn_putz {G : en_G} {M : en_Me} {pc : Nat} {k : en_B} {ci j idx N : Nat} {C : String} {T : u_T} {ty : Nat → FieldType} (hc : en_cf ci C T N ty) (hd : decode M.1 pc = .ok (.putfield idx, 3)) (hw : (.fieldLink M.2.1 idx C (T j).2.1 (T j).2.2.1 : Cond) ∈ en_wl) (hj : j < N) (hfin : (T j).2.2.2 = false) (hf : (en_fk ci j).1 = 0) (hty : ty j = .boolean) (hk : en_Snd G M (pc + 3) k) : en_Snd G M pc (op_putz ci j k) := by
  intro L S z σ rr h p ee R s m args below meth c al Q X Dn H locs cells slots ls hH hL hS
  unfold op_putz at h
  split at h
  · rename_i x v S'
    cases hb : Nat.beq v.2.1 ci with
    | false => rw [hb] at h; cases h
    | true =>
      rw [hb, cond_true] at h
      have e : v.2.1 = ci := Nat.eq_of_beq_eq_true hb
      by_cases hx : x = 0 ∨ x = 1
      rotate_left
      · rw [if_neg hx] at h; cases h
      rw [if_pos hx] at h
      have hci : ci < 20 := hc.2.2.2.2.2.1
      have hv := en_wr (en_h (en_tl hS)) (by rw [e]; omega)
      rw [List.map_cons, List.map_cons, en_evr (w := v) (by rw [e]; omega)]
      have hg := en_W_get (b := G.2.1) (cy := G.2.2.2.1) (st := G.2.2.2.2.2) (σ := σ) hv.1
      rw [en_ce_o (by rw [hv.2]; exact e) hci] at hg
      refine va_put (rest := S'.map (en_ev G)) X.1 X.2.1 (Ts := en_wl) X.2.2.2.2.1 hc.2.1 ty hc.2.2.1 hc.2.2.2.1 X.2.2.2.1 X.2.2.2.2.2.2.2.1 hH.1 en_W_D hH.2.1 v.1 hg hc.1 j hj (X.2.2.2.2.1 _ hw) (fun x hx => by rw [hc.2.2.2.2.2.2 j hj] at hx; exact hx) hfin (hc.2.2.1 j hj) (v := .int x) (by rw [hty]; rcases hx with q | q <;> rw [q] <;> rfl) (by rw [hty]; rcases hx with q | q <;> rw [q] <;> rfl) (by rw [List.length_map, List.length_range, hc.2.2.2.2.1]; exact hj) hd (fun H1 locs1 hP1 hD1 hS1 => ?_)
      rw [en_W_set (σ' := en_up σ v.1 j x) ?_ en_up_off] at hP1
      · exact hk L S' z _ rr h p ee R s m args below meth c al Q X Dn H1 locs1 cells slots ls ⟨hP1, hS1, hH.2.2.1, hH.2.2.2.1, hH.2.2.2.2.1, hH.2.2.2.2.2.1, hH.2.2.2.2.2.2⟩ hL (en_tl (en_tl hS))
      · rw [en_ce_o (by rw [hv.2]; exact e) hci]
        refine congrArg (fun l => (Sum.inr (ci, l) : va_E)) (en_fs_set ?_ en_up_ne)
        simp only [en_fv, hf, if_true, en_up_in]
  · cases h
theorem sn_putr {G : en_G} {M : en_Me} {pc : Nat} {k : en_B} {ci j idx N : Nat} {C : String} {T : u_T} {ty : Nat → FieldType} (hc : en_cf ci C T N ty) (hd : decode M.1 pc = .ok (.putfield idx, 3)) (hw : (.fieldLink M.2.1 idx C (T j).2.1 (T j).2.2.1 : Cond) ∈ en_wl) (hj : j < N) (hfin : (T j).2.2.2 = false) (hf : (en_fk ci j).1 ≠ 0) (hdy : (en_fk ci j).1 ≠ 1 ∨ G.2.2.2.2.2 = false) (hna : ∀ a : Nat, narrow (ty j) (.ref a) = .ref a) (hfa : ∀ a : Nat, fits (ty j) (.ref a) = true) (hk : en_Snd G M (pc + 3) k) : en_Snd G M pc (op_putr ci j k) := by
  intro L S z σ rr h p ee R s m args below meth c al Q X Dn H locs cells slots ls hH hL hS
  unfold op_putr at h
  split at h
  · rename_i w v S'
    cases hb : (Nat.beq v.2.1 ci && Nat.ble w.2.1 29) with
    | false => rw [hb] at h; cases h
    | true =>
      rw [hb, cond_true] at h
      have hb' := Bool.and_eq_true_iff.mp hb
      have e : v.2.1 = ci := Nat.eq_of_beq_eq_true hb'.1
      have e2 : w.2.1 ≤ 29 := Nat.le_of_ble_eq_true hb'.2
      have hw2 := en_wr (en_h hS) (by omega)
      have hin := en_in hw2.2 e2
      have hci : ci < 20 := hc.2.2.2.2.2.1
      have hv := en_wr (en_h (en_tl hS)) (by rw [e]; omega)
      rw [List.map_cons, List.map_cons, en_evr (w := v) (by rw [e]; omega), en_evr (w := w) (by omega)]
      have hg := en_W_get (b := G.2.1) (cy := G.2.2.2.1) (st := G.2.2.2.2.2) (σ := σ) hv.1
      rw [en_ce_o (by rw [hv.2]; exact e) hci] at hg
      refine va_put (rest := S'.map (en_ev G)) X.1 X.2.1 (Ts := en_wl) X.2.2.2.2.1 hc.2.1 ty hc.2.2.1 hc.2.2.2.1 X.2.2.2.1 X.2.2.2.2.2.2.2.1 hH.1 en_W_D hH.2.1 v.1 hg hc.1 j hj (X.2.2.2.2.1 _ hw) (fun x hx => by rw [hc.2.2.2.2.2.2 j hj] at hx; exact hx) hfin (hc.2.2.1 j hj) (v := .ref (G.2.1 + w.1)) (hna _) (hfa _) (by rw [List.length_map, List.length_range, hc.2.2.2.2.1]; exact hj) hd (fun H1 locs1 hP1 hD1 hS1 => ?_)
      rw [en_W_set (σ' := en_up σ v.1 j (Int32.ofNat (w.1 + 1))) ?_ en_up_off] at hP1
      · exact hk L S' z _ rr h p ee R s m args below meth c al Q X Dn H1 locs1 cells slots ls ⟨hP1, hS1, hH.2.2.1, hH.2.2.2.1, hH.2.2.2.2.1, hH.2.2.2.2.2.1, hH.2.2.2.2.2.2⟩ hL (en_tl (en_tl hS))
      · rw [en_ce_o (by rw [hv.2]; exact e) hci]
        refine congrArg (fun l => (Sum.inr (ci, l) : va_E)) (en_fs_set ?_ en_up_ne)
        unfold en_fv
        rw [if_neg hf, if_neg (by rintro ⟨q1, q2⟩; rcases hdy with q | q; exact q q1; rw [q] at q2; cases q2), en_up_in, en_dr_code hin]
  · cases h
theorem sn_putrF {G : en_G} {M : en_Me} {pc : Nat} {k : en_B} {ci j idx N : Nat} {C : String} {T : u_T} {ty : Nat → FieldType} (hc : en_cf ci C T N ty) (hd : decode M.1 pc = .ok (.putfield idx, 3)) (hw : (.fieldLink M.2.1 idx C (T j).2.1 (T j).2.2.1 : Cond) ∈ en_wl) (hj : j < N) (hfin : (T j).2.2.2 = true) (hini : M.2.2.2.1 = true) (hown : M.2.1 = C) (hf : (en_fk ci j).1 ≠ 0) (hdy : (en_fk ci j).1 ≠ 1 ∨ G.2.2.2.2.2 = false) (hna : ∀ a : Nat, narrow (ty j) (.ref a) = .ref a) (hfa : ∀ a : Nat, fits (ty j) (.ref a) = true) (hk : en_Snd G M (pc + 3) k) : en_Snd G M pc (op_putr ci j k) := by
  intro L S z σ rr h p ee R s m args below meth c al Q X Dn H locs cells slots ls hH hL hS
  unfold op_putr at h
  split at h
  · rename_i w v S'
    cases hb : (Nat.beq v.2.1 ci && Nat.ble w.2.1 29) with
    | false => rw [hb] at h; cases h
    | true =>
      rw [hb, cond_true] at h
      have hb' := Bool.and_eq_true_iff.mp hb
      have e : v.2.1 = ci := Nat.eq_of_beq_eq_true hb'.1
      have e2 : w.2.1 ≤ 29 := Nat.le_of_ble_eq_true hb'.2
      have hw2 := en_wr (en_h hS) (by omega)
      have hin := en_in hw2.2 e2
      have hci : ci < 20 := hc.2.2.2.2.2.1
      have hv := en_wr (en_h (en_tl hS)) (by rw [e]; omega)
      rw [List.map_cons, List.map_cons, en_evr (w := v) (by rw [e]; omega), en_evr (w := w) (by omega)]
      have hg := en_W_get (b := G.2.1) (cy := G.2.2.2.1) (st := G.2.2.2.2.2) (σ := σ) hv.1
      rw [en_ce_o (by rw [hv.2]; exact e) hci] at hg
      refine va_putF (rest := S'.map (en_ev G)) X.1 X.2.1 (Ts := en_wl) X.2.2.2.2.1 hc.2.1 ty hc.2.2.1 hc.2.2.2.1 X.2.2.2.1 X.2.2.2.2.2.2.2.1 hH.1 en_W_D hH.2.1 v.1 hg hc.1 j hj (X.2.2.2.2.1 _ hw) (fun x hx => by rw [hc.2.2.2.2.2.2 j hj] at hx; exact hx) hfin (X.2.2.2.2.2.1 hini) (by rw [hown]; exact hc.2.2.2.2.2.2 j hj) (hc.2.2.1 j hj) (v := .ref (G.2.1 + w.1)) (hna _) (hfa _) (by rw [List.length_map, List.length_range, hc.2.2.2.2.1]; exact hj) hd (fun H1 locs1 hP1 hD1 hS1 => ?_)
      rw [en_W_set (σ' := en_up σ v.1 j (Int32.ofNat (w.1 + 1))) ?_ en_up_off] at hP1
      · exact hk L S' z _ rr h p ee R s m args below meth c al Q X Dn H1 locs1 cells slots ls ⟨hP1, hS1, hH.2.2.1, hH.2.2.2.1, hH.2.2.2.2.1, hH.2.2.2.2.2.1, hH.2.2.2.2.2.2⟩ hL (en_tl (en_tl hS))
      · rw [en_ce_o (by rw [hv.2]; exact e) hci]
        refine congrArg (fun l => (Sum.inr (ci, l) : va_E)) (en_fs_set ?_ en_up_ne)
        unfold en_fv
        rw [if_neg hf, if_neg (by rintro ⟨q1, q2⟩; rcases hdy with q | q; exact q q1; rw [q] at q2; cases q2), en_up_in, en_dr_code hin]
  · cases h
theorem sn_iald {G : en_G} {M : en_Me} {pc : Nat} {k : en_B} (hd : decode M.1 pc = .ok (.iaload, 1)) (hk : en_Snd G M (pc + 1) k) : en_Snd G M pc (op_ald 20 k) := by
  intro L S z σ rr h p ee R s m args below meth c al Q X Dn H locs cells slots ls hH hL hS
  unfold op_ald at h
  split at h
  · rename_i i v S'
    cases hb : Nat.beq v.2.1 20 with
    | false => rw [hb] at h; cases h
    | true =>
      rw [hb, cond_true] at h
      have e : v.2.1 = 20 := Nat.eq_of_beq_eq_true hb
      have hv := en_wr (en_h (en_tl hS)) (by rw [e]; decide)
      cases hi : en_ix i v.2.2.1 with
      | none => rw [hi] at h; cases h
      | some j =>
        rw [hi, Option.bind_some] at h
        obtain ⟨hin, hj, -⟩ := en_ix_in hi
        subst hj
        have hg := en_W_get (b := G.2.1) (cy := G.2.2.2.1) (st := G.2.2.2.2.2) (σ := σ) hv.1
        rw [en_ce_n (t := 20) (by rw [hv.2]; exact e) (by decide) (by decide), hv.2] at hg
        rw [List.map_cons, List.map_cons, en_evr (by rw [e]; decide)]
        exact va_iald X.1 X.2.1 X.2.2.2.2.2.2.2.1 hH.1 v.1 0 hg rfl hin hd (hk L (.inl (σ v.1 i.toNatClampNeg) :: S') z σ rr h p ee R s m args below meth c al Q X Dn H locs cells slots ls hH hL (en_i (en_tl (en_tl hS))))
  · cases h
theorem sn_bald {G : en_G} {M : en_Me} {pc : Nat} {k : en_B} (hd : decode M.1 pc = .ok (.baload, 1)) (hk : en_Snd G M (pc + 1) k) : en_Snd G M pc (op_ald 21 k) := by
  intro L S z σ rr h p ee R s m args below meth c al Q X Dn H locs cells slots ls hH hL hS
  unfold op_ald at h
  split at h
  · rename_i i v S'
    cases hb : Nat.beq v.2.1 21 with
    | false => rw [hb] at h; cases h
    | true =>
      rw [hb, cond_true] at h
      have e : v.2.1 = 21 := Nat.eq_of_beq_eq_true hb
      have hv := en_wr (en_h (en_tl hS)) (by rw [e]; decide)
      cases hi : en_ix i v.2.2.1 with
      | none => rw [hi] at h; cases h
      | some j =>
        rw [hi, Option.bind_some] at h
        obtain ⟨hin, hj, -⟩ := en_ix_in hi
        subst hj
        have hg := en_W_get (b := G.2.1) (cy := G.2.2.2.1) (st := G.2.2.2.2.2) (σ := σ) hv.1
        rw [en_ce_n (t := 21) (by rw [hv.2]; exact e) (by decide) (by decide), hv.2] at hg
        rw [List.map_cons, List.map_cons, en_evr (by rw [e]; decide)]
        exact va_bald X.1 X.2.1 X.2.2.2.2.2.2.2.1 hH.1 v.1 1 hg rfl hin hd (hk L (.inl (σ v.1 i.toNatClampNeg) :: S') z σ rr h p ee R s m args below meth c al Q X Dn H locs cells slots ls hH hL (en_i (en_tl (en_tl hS))))
  · cases h
theorem sn_zald {G : en_G} {M : en_Me} {pc : Nat} {k : en_B} (hd : decode M.1 pc = .ok (.baload, 1)) (hk : en_Snd G M (pc + 1) k) : en_Snd G M pc (op_ald 22 k) := by
  intro L S z σ rr h p ee R s m args below meth c al Q X Dn H locs cells slots ls hH hL hS
  unfold op_ald at h
  split at h
  · rename_i i v S'
    cases hb : Nat.beq v.2.1 22 with
    | false => rw [hb] at h; cases h
    | true =>
      rw [hb, cond_true] at h
      have e : v.2.1 = 22 := Nat.eq_of_beq_eq_true hb
      have hv := en_wr (en_h (en_tl hS)) (by rw [e]; decide)
      cases hi : en_ix i v.2.2.1 with
      | none => rw [hi] at h; cases h
      | some j =>
        rw [hi, Option.bind_some] at h
        obtain ⟨hin, hj, -⟩ := en_ix_in hi
        subst hj
        have hg := en_W_get (b := G.2.1) (cy := G.2.2.2.1) (st := G.2.2.2.2.2) (σ := σ) hv.1
        rw [en_ce_n (t := 22) (by rw [hv.2]; exact e) (by decide) (by decide), hv.2] at hg
        rw [List.map_cons, List.map_cons, en_evr (by rw [e]; decide)]
        exact va_zald X.1 X.2.1 X.2.2.2.2.2.2.2.1 hH.1 v.1 2 hg rfl hin hd (hk L (.inl (σ v.1 i.toNatClampNeg) :: S') z σ rr h p ee R s m args below meth c al Q X Dn H locs cells slots ls hH hL (en_i (en_tl (en_tl hS))))
  · cases h
theorem sn_iast {G : en_G} {M : en_Me} {pc : Nat} {k : en_B} (hd : decode M.1 pc = .ok (.iastore, 1)) (hk : en_Snd G M (pc + 1) k) : en_Snd G M pc (op_ast 20 (fun (x : Int32) => x) k) := by
  intro L S z σ rr h p ee R s m args below meth c al Q X Dn H locs cells slots ls hH hL hS
  unfold op_ast at h
  split at h
  · rename_i x i v S'
    cases hb : Nat.beq v.2.1 20 with
    | false => rw [hb] at h; cases h
    | true =>
      rw [hb, cond_true] at h
      have e : v.2.1 = 20 := Nat.eq_of_beq_eq_true hb
      have hv := en_wr (en_h (en_tl (en_tl hS))) (by rw [e]; decide)
      cases hi : en_ix i v.2.2.1 with
      | none => rw [hi] at h; cases h
      | some j =>
        rw [hi, Option.bind_some] at h
        obtain ⟨hin, hj, -⟩ := en_ix_in hi
        subst hj
        have hg := en_W_get (b := G.2.1) (cy := G.2.2.2.1) (st := G.2.2.2.2.2) (σ := σ) hv.1
        rw [en_ce_n (t := 20) (by rw [hv.2]; exact e) (by decide) (by decide), hv.2] at hg
        rw [List.map_cons, List.map_cons, List.map_cons, en_evr (by rw [e]; decide)]
        refine va_iast X.1 X.2.1 X.2.2.2.2.2.2.2.1 hH.1 en_W_D hH.2.1 v.1 0 hg rfl hin hd (fun H1 locs1 hP1 hD1 hS1 => ?_)
        rw [en_W_set (σ' := en_up σ v.1 i.toNatClampNeg ((fun (x : Int32) => x) x)) ?_ en_up_off] at hP1
        · exact hk L S' z _ rr h p ee R s m args below meth c al Q X Dn H1 locs1 cells slots ls ⟨hP1, hS1, hH.2.2.1, hH.2.2.2.1, hH.2.2.2.2.1, hH.2.2.2.2.2.1, hH.2.2.2.2.2.2⟩ hL (en_tl (en_tl (en_tl hS)))
        · rw [en_ce_n (t := 20) (by rw [hv.2]; exact e) (by decide) (by decide), hv.2, en_upd]
  · cases h
theorem sn_bast {G : en_G} {M : en_Me} {pc : Nat} {k : en_B} (hd : decode M.1 pc = .ok (.bastore, 1)) (hk : en_Snd G M (pc + 1) k) : en_Snd G M pc (op_ast 21 (vp_nar .byte) k) := by
  intro L S z σ rr h p ee R s m args below meth c al Q X Dn H locs cells slots ls hH hL hS
  unfold op_ast at h
  split at h
  · rename_i x i v S'
    cases hb : Nat.beq v.2.1 21 with
    | false => rw [hb] at h; cases h
    | true =>
      rw [hb, cond_true] at h
      have e : v.2.1 = 21 := Nat.eq_of_beq_eq_true hb
      have hv := en_wr (en_h (en_tl (en_tl hS))) (by rw [e]; decide)
      cases hi : en_ix i v.2.2.1 with
      | none => rw [hi] at h; cases h
      | some j =>
        rw [hi, Option.bind_some] at h
        obtain ⟨hin, hj, -⟩ := en_ix_in hi
        subst hj
        have hg := en_W_get (b := G.2.1) (cy := G.2.2.2.1) (st := G.2.2.2.2.2) (σ := σ) hv.1
        rw [en_ce_n (t := 21) (by rw [hv.2]; exact e) (by decide) (by decide), hv.2] at hg
        rw [List.map_cons, List.map_cons, List.map_cons, en_evr (by rw [e]; decide)]
        refine va_bast X.1 X.2.1 X.2.2.2.2.2.2.2.1 hH.1 en_W_D hH.2.1 v.1 1 hg rfl hin hd (fun H1 locs1 hP1 hD1 hS1 => ?_)
        rw [en_W_set (σ' := en_up σ v.1 i.toNatClampNeg ((vp_nar .byte) x)) ?_ en_up_off] at hP1
        · exact hk L S' z _ rr h p ee R s m args below meth c al Q X Dn H1 locs1 cells slots ls ⟨hP1, hS1, hH.2.2.1, hH.2.2.2.1, hH.2.2.2.2.1, hH.2.2.2.2.2.1, hH.2.2.2.2.2.2⟩ hL (en_tl (en_tl (en_tl hS)))
        · rw [en_ce_n (t := 21) (by rw [hv.2]; exact e) (by decide) (by decide), hv.2, en_upd]
  · cases h
theorem sn_zast {G : en_G} {M : en_Me} {pc : Nat} {k : en_B} (hd : decode M.1 pc = .ok (.bastore, 1)) (hk : en_Snd G M (pc + 1) k) : en_Snd G M pc (op_ast 22 (vp_nar .boolean) k) := by
  intro L S z σ rr h p ee R s m args below meth c al Q X Dn H locs cells slots ls hH hL hS
  unfold op_ast at h
  split at h
  · rename_i x i v S'
    cases hb : Nat.beq v.2.1 22 with
    | false => rw [hb] at h; cases h
    | true =>
      rw [hb, cond_true] at h
      have e : v.2.1 = 22 := Nat.eq_of_beq_eq_true hb
      have hv := en_wr (en_h (en_tl (en_tl hS))) (by rw [e]; decide)
      cases hi : en_ix i v.2.2.1 with
      | none => rw [hi] at h; cases h
      | some j =>
        rw [hi, Option.bind_some] at h
        obtain ⟨hin, hj, -⟩ := en_ix_in hi
        subst hj
        have hg := en_W_get (b := G.2.1) (cy := G.2.2.2.1) (st := G.2.2.2.2.2) (σ := σ) hv.1
        rw [en_ce_n (t := 22) (by rw [hv.2]; exact e) (by decide) (by decide), hv.2] at hg
        rw [List.map_cons, List.map_cons, List.map_cons, en_evr (by rw [e]; decide)]
        refine va_zast X.1 X.2.1 X.2.2.2.2.2.2.2.1 hH.1 en_W_D hH.2.1 v.1 2 hg rfl hin hd (fun H1 locs1 hP1 hD1 hS1 => ?_)
        rw [en_W_set (σ' := en_up σ v.1 i.toNatClampNeg ((vp_nar .boolean) x)) ?_ en_up_off] at hP1
        · exact hk L S' z _ rr h p ee R s m args below meth c al Q X Dn H1 locs1 cells slots ls ⟨hP1, hS1, hH.2.2.1, hH.2.2.2.1, hH.2.2.2.2.1, hH.2.2.2.2.2.1, hH.2.2.2.2.2.2⟩ hL (en_tl (en_tl (en_tl hS)))
        · rw [en_ce_n (t := 22) (by rw [hv.2]; exact e) (by decide) (by decide), hv.2, en_upd]
  · cases h
theorem sn_alen {G : en_G} {M : en_Me} {pc : Nat} {k : en_B} (hd : decode M.1 pc = .ok (.arraylength, 1)) (hk : en_Snd G M (pc + 1) k) : en_Snd G M pc (op_alen k) := by
  intro L S z σ rr h p ee R s m args below meth c al Q X Dn H locs cells slots ls hH hL hS
  unfold op_alen at h
  split at h
  · rename_i v S'
    cases hb : Nat.beq v.2.1 20 with
    | false => rw [hb] at h; cases h
    | true =>
      rw [hb, cond_true] at h
      have e : v.2.1 = 20 := Nat.eq_of_beq_eq_true hb
      have hv := en_wr (en_h hS) (by rw [e]; decide)
      have hg := en_W_get (b := G.2.1) (cy := G.2.2.2.1) (st := G.2.2.2.2.2) (σ := σ) hv.1
      rw [en_ce_n (t := 20) (by rw [hv.2]; exact e) (by decide) (by decide), hv.2] at hg
      rw [List.map_cons, en_evr (by rw [e]; decide)]
      exact va_alen X.1 X.2.1 X.2.2.2.2.2.2.2.1 hH.1 v.1 0 hg rfl rfl hd (hk L (.inl (Int32.ofNat v.2.2.1) :: S') z σ rr h p ee R s m args below meth c al Q X Dn H locs cells slots ls hH hL (en_i (en_tl hS)))
  · cases h
def en_rows : Prop := ∀ k, k < en_KL.length → (en_ka k).1 = 23 → ∀ j, j < (en_ka k).2.1 → k + 1 + j < en_KL.length ∧ en_ka (k + 1 + j) = (20, (en_ka k).2.2, 0)
def en_sts : Prop := ∀ k, k < en_KL.length → (en_ka k).1 = 24 → ∀ j, j < (en_ka k).2.1 → k + (en_ka k).2.2 + 5 * j < en_KL.length ∧ en_ka (k + (en_ka k).2.2 + 5 * j) = (7, 0, 0)
set_option maxRecDepth 20000 in
theorem en_rows_ok : en_rows := by unfold en_rows; decide +kernel
set_option maxRecDepth 20000 in
theorem en_sts_ok : en_sts := by unfold en_sts; decide +kernel
theorem sn_aldM {G : en_G} {M : en_Me} {pc : Nat} {k : en_B} (hst : G.2.2.2.2.2 = true) (hd : decode M.1 pc = .ok (.aaload, 1)) (hk : en_Snd G M (pc + 1) k) : en_Snd G M pc (op_aldM k) := by
  intro L S z σ rr h p ee R s m args below meth c al Q X Dn H locs cells slots ls hH hL hS
  unfold op_aldM at h
  split at h
  · rename_i i v S'
    cases hb : Nat.beq v.2.1 23 with
    | false => rw [hb] at h; cases h
    | true =>
      rw [hb, cond_true] at h
      have e : v.2.1 = 23 := Nat.eq_of_beq_eq_true hb
      have hv := en_wr (en_h (en_tl hS)) (by rw [e]; decide)
      have hz := hH.2.2.2.2.2.2 hst
      cases hi : en_ix i v.2.2.1 with
      | none => rw [hi] at h; cases h
      | some j =>
        rw [hi, Option.bind_some] at h
        obtain ⟨hin, hj, hjl⟩ := en_ix_in hi
        have hlay := en_rows_ok v.1 (by rw [← hz]; exact hv.1) (by rw [hv.2]; exact e) j (by rw [hv.2]; exact hjl)
        rw [hv.2] at hlay
        have hg := en_W_get (b := G.2.1) (cy := G.2.2.2.1) (st := G.2.2.2.2.2) (σ := σ) hv.1
        rw [en_ce_q (t := 23) (by rw [hv.2]; exact e) (by decide) (by decide), hv.2] at hg
        have hc := hH.1 v.1 _ hg
        have hc : H[G.2.1 + v.1]? = some (arrV (G.2.2.2.1 23) v.2.2.1 (fun q => va_rf (en_aq G.2.1 G.2.2.2.2.2 σ v.1 v.2 q))) := hc
        have ht : (en_ty G.2.2.2.1)[3]? = some (G.2.2.2.1 23, .array .int) := rfl
        have hr := (hk L (.inr (v.1 + 1 + j, (20, v.2.2.2, 0)) :: S') z σ rr h p ee R s m args below meth c al Q X Dn H locs cells slots ls hH hL (en_v (en_world ⟨by rw [hz]; exact hlay.1, hlay.2⟩) (en_tl (en_tl hS))))
        rw [List.map_cons, en_evr (w := (v.1 + 1 + j, (20, v.2.2.2, 0))) (show (20 : Nat) < 30 ∨ 90 < (20 : Nat) by decide)] at hr
        rw [List.map_cons, List.map_cons, en_evr (by rw [e]; decide)]
        have hlt : i.toNatClampNeg < v.2.2.1 := by rw [← hj]; exact hjl
        exact W.aald (v := .ref (G.2.1 + (v.1 + 1 + j))) (ty := .array .int) X.1 X.2.1 hc ((X.2.2.2.2.2.2.2.1.2 3 _ ht).1 _ _) rfl (fun q => by cases q) (by show ¬ (i < 0 ∨ (arrV _ _ _).slots.size ≤ _); rw [arrV_size]; exact hin) (by show (arrV _ _ _).slots[_]? = _; rw [arrV_read _ _ hlt]; rw [← hj]; simp [en_aq, hst, e, va_rf]) rfl rfl hd hr
  · cases h
theorem sn_aldS {G : en_G} {M : en_Me} {pc : Nat} {k : en_B} (hst : G.2.2.2.2.2 = true) (hd : decode M.1 pc = .ok (.aaload, 1)) (hk : en_Snd G M (pc + 1) k) : en_Snd G M pc (op_aldS k) := by
  intro L S z σ rr h p ee R s m args below meth c al Q X Dn H locs cells slots ls hH hL hS
  unfold op_aldS at h
  split at h
  · rename_i i v S'
    cases hb : Nat.beq v.2.1 24 with
    | false => rw [hb] at h; cases h
    | true =>
      rw [hb, cond_true] at h
      have e : v.2.1 = 24 := Nat.eq_of_beq_eq_true hb
      have hv := en_wr (en_h (en_tl hS)) (by rw [e]; decide)
      have hz := hH.2.2.2.2.2.2 hst
      cases hi : en_ix i v.2.2.1 with
      | none => rw [hi] at h; cases h
      | some j =>
        rw [hi, Option.bind_some] at h
        obtain ⟨hin, hj, hjl⟩ := en_ix_in hi
        have hlay := en_sts_ok v.1 (by rw [← hz]; exact hv.1) (by rw [hv.2]; exact e) j (by rw [hv.2]; exact hjl)
        rw [hv.2] at hlay
        have hg := en_W_get (b := G.2.1) (cy := G.2.2.2.1) (st := G.2.2.2.2.2) (σ := σ) hv.1
        rw [en_ce_q (t := 24) (by rw [hv.2]; exact e) (by decide) (by decide), hv.2] at hg
        have hc := hH.1 v.1 _ hg
        have hc : H[G.2.1 + v.1]? = some (arrV (G.2.2.2.1 24) v.2.2.1 (fun q => va_rf (en_aq G.2.1 G.2.2.2.2.2 σ v.1 v.2 q))) := hc
        have ht : (en_ty G.2.2.2.1)[4]? = some (G.2.2.2.1 24, .object RX7) := rfl
        have hr := (hk L (.inr (v.1 + v.2.2.2 + 5 * j, (7, 0, 0)) :: S') z σ rr h p ee R s m args below meth c al Q X Dn H locs cells slots ls hH hL (en_v (en_world ⟨by rw [hz]; exact hlay.1, hlay.2⟩) (en_tl (en_tl hS))))
        rw [List.map_cons, en_evr (w := (v.1 + v.2.2.2 + 5 * j, (7, 0, 0))) (show (7 : Nat) < 30 ∨ 90 < (7 : Nat) by decide)] at hr
        rw [List.map_cons, List.map_cons, en_evr (by rw [e]; decide)]
        have hlt : i.toNatClampNeg < v.2.2.1 := by rw [← hj]; exact hjl
        exact W.aald (v := .ref (G.2.1 + (v.1 + v.2.2.2 + 5 * j))) (ty := .object RX7) X.1 X.2.1 hc ((X.2.2.2.2.2.2.2.1.2 4 _ ht).1 _ _) rfl (fun q => by cases q) (by show ¬ (i < 0 ∨ (arrV _ _ _).slots.size ≤ _); rw [arrV_size]; exact hin) (by show (arrV _ _ _).slots[_]? = _; rw [arrV_read _ _ hlt]; rw [← hj]; simp [en_aq, hst, e, va_rf]) rfl rfl hd hr
  · cases h
theorem sn_sld {G : en_G} {M : en_Me} {pc : Nat} {k : en_B} {xs : Nat → Int32} (hxs : G.2.2.2.2.1.2.2 = xs) (hd : decode M.1 pc = .ok (.iaload, 1)) (hk : en_Snd G M (pc + 1) k) : en_Snd G M pc (op_sld xs k) := by
  intro L S z σ rr h p ee R s m args below meth c al Q X Dn H locs cells slots ls hH hL hS
  unfold op_sld at h
  split at h
  · rename_i i v S'
    cases hb : Nat.beq v.2.1 30 with
    | false => rw [hb] at h; cases h
    | true =>
      rw [hb, cond_true] at h
      have e : v.2.1 = 30 := Nat.eq_of_beq_eq_true hb
      cases hi : en_ix i v.2.2.1 with
      | none => rw [hi] at h; cases h
      | some j =>
        rw [hi, Option.bind_some] at h
        obtain ⟨hin, hj, -⟩ := en_ix_in hi
        subst hj
        rcases en_h (en_tl hS) with ⟨q1, q2⟩ | q
        · rw [q1] at hin
          subst hxs
          have hev : en_ev G (.inr v) = .ref G.2.2.2.2.1.1 := if_pos e
          rw [List.map_cons, List.map_cons, hev]
          exact va_sld X.1 X.2.1 q2.1 q2.2.1 (Nat.not_le.mpr q2.2.2) hH.2.1 hin hd (hk L (.inl (G.2.2.2.2.1.2.2 i.toNatClampNeg) :: S') z σ rr h p ee R s m args below meth c al Q X Dn H locs cells slots ls hH hL (en_i (en_tl (en_tl hS))))
        · exact absurd e (en_no30 q)
  · cases h
theorem sn_slen {G : en_G} {M : en_Me} {pc : Nat} {k : en_B} (hd : decode M.1 pc = .ok (.arraylength, 1)) (hk : en_Snd G M (pc + 1) k) : en_Snd G M pc (op_slen k) := by
  intro L S z σ rr h p ee R s m args below meth c al Q X Dn H locs cells slots ls hH hL hS
  unfold op_slen at h
  split at h
  · rename_i v S'
    cases hb : Nat.beq v.2.1 30 with
    | false => rw [hb] at h; cases h
    | true =>
      rw [hb, cond_true] at h
      have e : v.2.1 = 30 := Nat.eq_of_beq_eq_true hb
      rcases en_h hS with ⟨q1, q2⟩ | q
      · have hev : en_ev G (.inr v) = .ref G.2.2.2.2.1.1 := if_pos e
        rw [List.map_cons, hev]
        rw [q1] at h
        exact va_slen X.1 X.2.1 q2.1 q2.2.1 (Nat.not_le.mpr q2.2.2) hH.2.1 hd (hk L (.inl (Int32.ofNat G.2.2.2.2.1.2.1) :: S') z σ rr h p ee R s m args below meth c al Q X Dn H locs cells slots ls hH hL (en_i (en_tl hS)))
      · exact absurd e (en_no30 q)
  · cases h
theorem sn_copy {G : en_G} {M : en_Me} {pc : Nat} {k : en_B} {idx : Nat} (hw : (.methodLink M.2.1 idx arraycopyName : Cond) ∈ en_wl) (hn : (.native arraycopyName : Cond) ∈ en_wl) (hs : (.static arraycopyName : Cond) ∈ en_wl) (hi : (.initialized "java/lang/System" : Cond) ∈ en_wl) (hdp : 1 ≤ M.2.2.2.2.1) (hd : decode M.1 pc = .ok (.invokestatic idx, 3)) (hk : en_Snd G M (pc + 3) k) : en_Snd G M pc (op_copy k) := by
  intro L S z σ rr h p ee R s m args below meth c al Q X Dn H locs cells slots ls hH hL hS
  unfold op_copy at h
  split at h
  · rename_i n dp w sp v S'
    cases hb : (Nat.beq v.2.1 20 && Nat.beq w.2.1 20 && Nat.ble S'.length 8) with
    | false => rw [hb] at h; cases h
    | true =>
      rw [hb, cond_true] at h
      have hb1 := Bool.and_eq_true_iff.mp hb
      have hb2 := Bool.and_eq_true_iff.mp hb1.1
      have e : v.2.1 = 20 := Nat.eq_of_beq_eq_true hb2.1
      have e2 : w.2.1 = 20 := Nat.eq_of_beq_eq_true hb2.2
      have e3 : S'.length ≤ 8 := Nat.le_of_ble_eq_true hb1.2
      by_cases h1 : n < 0 ∨ dp < 0 ∨ sp < 0
      · rw [if_pos h1] at h; cases h
      rw [if_neg h1] at h
      by_cases h2 : sp.toNatClampNeg + n.toNatClampNeg ≤ v.2.2.1 ∧ dp.toNatClampNeg + n.toNatClampNeg ≤ w.2.2.1
      rotate_left
      · rw [if_neg h2] at h; cases h
      rw [if_pos h2] at h
      have hv := en_wr (en_h (en_tl (en_tl (en_tl (en_tl hS))))) (by rw [e]; decide)
      have hw2 := en_wr (en_h (en_tl (en_tl hS))) (by rw [e2]; decide)
      have hg := en_W_get (b := G.2.1) (cy := G.2.2.2.1) (st := G.2.2.2.2.2) (σ := σ) hv.1
      rw [en_ce_n (t := 20) (by rw [hv.2]; exact e) (by decide) (by decide), hv.2] at hg
      have hg2 := en_W_get (b := G.2.1) (cy := G.2.2.2.1) (st := G.2.2.2.2.2) (σ := σ) hw2.1
      rw [en_ce_n (t := 20) (by rw [hw2.2]; exact e2) (by decide) (by decide), hw2.2] at hg2
      simp only [List.map_cons]
      rw [en_evr (w := v) (by rw [e]; decide), en_evr (w := w) (by rw [e2]; decide)]
      refine va_copyi X.1 X.2.1 (X.2.2.1.trans hL.1.symm) X.2.2.2.1 (X.2.2.2.2.1 _ hw) (X.2.2.2.2.1 _ hn) (X.2.2.2.2.1 _ hs) (X.2.2.2.2.1 _ hi) X.2.2.2.2.2.2.2.1 hH.1 en_W_D hH.2.1 v.1 w.1 0 0 hg hg2 rfl rfl rfl (fun q => h1 (Or.inr (Or.inr q))) (fun q => h1 (Or.inr (Or.inl q))) (fun q => h1 (Or.inl q)) h2.1 h2.2 (fun i _ => rfl) (Nat.le_trans hdp X.2.2.2.2.2.2.2.2.2.1) ?_ hd (fun H1 locs1 hP1 hD1 hS1 => ?_)
      · have hs8 : ((S'.map (en_ev G)).map fun v => v.category).sum ≤ 8 := by rw [en_sum]; exact e3
        have hr := X.2.2.2.2.2.2.2.2.2.2
        have hnw : nativeFrameWords "java/lang/System" "arraycopy" 5 + 11 ≤ 32 := by decide +kernel
        omega
      · rw [en_W_set (σ' := en_cp σ v.1 w.1 sp.toNatClampNeg dp.toNatClampNeg n.toNatClampNeg) ?_ (fun i hi q => if_neg hi)] at hP1
        · exact hk L S' z _ rr h p ee R s m args below meth c al Q X Dn H1 locs1 cells slots ls ⟨hP1, hS1, hH.2.2.1, hH.2.2.2.1, hH.2.2.2.2.1, hH.2.2.2.2.2.1, hH.2.2.2.2.2.2⟩ hL (en_tl (en_tl (en_tl (en_tl (en_tl hS)))))
        · rw [en_ce_n (t := 20) (by rw [hw2.2]; exact e2) (by decide) (by decide), hw2.2]
          refine congrArg (fun f => (Sum.inl (G.2.2.2.1 20, w.2.2.1, .inl f) : va_E)) ?_
          funext i
          simp [va_cpy, en_cp]
  · cases h
