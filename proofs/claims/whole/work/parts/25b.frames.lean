/-! the pieces of the invariant, each under its own frame -/
theorem CT.fr {σ σ' : en_M} {L : Nat} {tx : Nat → Nat} (h : CT σ L tx) (e1 : σ' 1 = σ 1) (e2 : σ' 2 = σ 2) : CT σ' L tx := by unfold CT; rw [e1, e2]; exact h
theorem CR.fr {σ σ' : en_M} {ro : List Int32} (h : CR σ ro) (e1 : σ' 3 = σ 3) (e2 : σ' 4 = σ 4) : CR σ' ro := by unfold CR; rw [e1, e2]; exact h
theorem CU.fr {σ σ' : en_M} {us : List pS} (h : CU σ us) (e : ∀ c, 25 ≤ c → c < 87 → σ' c = σ c) : CU σ' us := by
  obtain ⟨u1, fs, u2, u3, u4⟩ := h
  exact ⟨by rw [e 25 (by omega) (by omega)]; exact u1, fs, u2, by rw [e 25 (by omega) (by omega)]; exact u3, fun i hi => (u4 i hi).all (fun j hj => e _ (by omega) (by omega))⟩
theorem CK.fr {σ σ' : en_M} {kp : Nat → Bool × pS} (h : CK σ kp) (e : ∀ c, 89 ≤ c → c < 100 → σ' c = σ c) : CK σ' kp := fun i hi => ⟨by rw [e 89 (by omega) (by omega)]; exact (h i hi).1, fun hk => ((h i hi).2 hk).all (fun j hj => e _ (by omega) (by omega))⟩
theorem MT.fr {σ σ' : en_M} {L : Nat} {tx : Nat → Nat} (h : MT σ L tx) (e1 : σ' 185 8 = σ 185 8) (e2 : σ' 189 = σ 189) : MT σ' L tx := by unfold MT; rw [e1, e2]; exact h
theorem MR.fr {σ σ' : en_M} {ro : List Int32} (h : MR σ ro) (e1 : σ' 185 10 = σ 185 10) (e2 : σ' 190 = σ 190) : MR σ' ro := by unfold MR; rw [e1, e2]; exact h
theorem MU.fr {n : Nat} {σ σ' : en_M} {us : List pS} (h : MU n σ us) (e1 : σ' 185 23 = σ 185 23) (e2 : σ' 194 = σ 194) : MU n σ' us := by unfold MU; rw [e1, e2]; exact h
theorem MK.fr {n : Nat} {σ σ' : en_M} {kp : Nat → Bool × pS} (h : MK n σ kp) (e1 : σ' 208 = σ 208) (e2 : σ' 207 = σ 207) : MK n σ' kp := by unfold MK; rw [e1, e2]; exact h
/-- the text emptied -/
def tx0 : Nat × (Nat → Nat) := (0, fun _ => 0)
theorem CT.nil {σ : en_M} (h : σ 1 1 = 0) : CT σ tx0.1 tx0.2 := ⟨h, fun j hj => absurd hj (Nat.not_lt_zero j)⟩
theorem MT.nil {σ : en_M} (h : σ 185 8 = 0) : MT σ tx0.1 tx0.2 := ⟨h, fun j hj => absurd hj (Nat.not_lt_zero j)⟩
/-- a row told -/
theorem CR.nil {σ : en_M} (h : σ 3 1 = 0) : CR σ [] := ⟨h, fun j hj => absurd hj (Nat.not_lt_zero j)⟩
theorem MR.nil {σ : en_M} (h : σ 185 10 = 0) : MR σ [] := ⟨h, fun j hj => absurd hj (Nat.not_lt_zero j)⟩
theorem getD_snoc (ro : List Int32) (v : Int32) (j : Nat) : (ro ++ [v]).getD j 0 = if j = ro.length then v else ro.getD j 0 := by
  by_cases h : j = ro.length
  · subst h; simp
  · rw [if_neg h]
    by_cases h2 : j < ro.length
    · simp [List.getD_eq_getElem?_getD, List.getElem?_append_left h2]
    · rw [List.getD_eq_getElem?_getD, List.getElem?_eq_none (by simp; omega), List.getD_eq_getElem?_getD, List.getElem?_eq_none (by omega)]
theorem CR.add {σ : en_M} {ro : List Int32} (h : CR σ ro) (hl : ro.length < 16) (v : Int32) : ∃ σ', O_X9_add [.inr (3, 9, 0, 0), .inl v] σ = some σ' ∧ CR σ' (ro ++ [v]) ∧ ∀ c, c ≠ 3 → c ≠ 4 → σ' c = σ c := by
  refine ⟨_, q_tadd h.1 hl v, ⟨?_, fun j hj => ?_⟩, fun c h3 h4 => by rw [pu_row h3, pu_row h4]⟩
  · rw [pu_same]; simp
  · rw [pu_cell (by omega), pu_at, getD_snoc]
    by_cases e : j = ro.length
    · rw [if_pos e, if_pos e]
    · rw [if_neg e, if_neg e]
      simp at hj
      exact h.2 j (by omega)
theorem MR.add {σ : en_M} {ro : List Int32} (h : MR σ ro) (hl : ro.length < 20) (v : Int32) : ∃ σ', O_X12_tell [.inr (185, 12, 0, 0), .inl v] σ = some σ' ∧ MR σ' (ro ++ [v]) ∧ (∀ c, c ≠ 185 → c ≠ 190 → σ' c = σ c) ∧ ∀ j, j ≠ 10 → σ' 185 j = σ 185 j := by
  refine ⟨_, q_tell h.1 hl v, ⟨?_, fun j hj => ?_⟩, fun c h3 h4 => by rw [pu_row h3, pu_row h4], fun j hj => by rw [pu_slot hj, pu_cell (by omega)]⟩
  · rw [pu_same]; simp
  · rw [pu_cell (by omega), pu_at, getD_snoc]
    by_cases e : j = ro.length
    · rw [if_pos e, if_pos e]
    · rw [if_neg e, if_neg e]
      simp at hj
      exact h.2 j (by omega)
theorem p_end : en_st_end pInv := by
  intro c v hc
  refine p_two hc (fun A σ0 hA hB => ?_)
  obtain ⟨g, ⟨L, tx⟩, ro, x, us, kp⟩ := A
  have hL : L ≤ 80 := hA.2.2.2.2.1
  have hA' := hA.mono (show 2000 * c ≤ 2000 * (c + 1) by omega)
  by_cases h0 : v < 0
  · refine ⟨0, (g, (L, tx), ro, x, us, kp), fun hC => ⟨σ0, ?_, hC, FrC.refl _⟩, fun τ hM => ⟨en_up τ 185 11 0, ?_, hM.slot 11 0 (by omega), FrM.up (by omega) (by omega)⟩, hA'⟩
    · rw [o_X11_end, t_X11_end_0, o_X8_cutTo, t_X8_cutTo_0, if_pos h0, if_pos (by decide), po_ri, Option.bind_some, if_pos (Or.inl rfl)]; rfl
    · rw [o_X12_end, t_X12_end_0, q_in, Option.bind_some]
      rw [if_pos (by dsimp only; rw [pb2_0]; exact fun q => q.1 h0), if_pos (by decide)]; rfl
  obtain ⟨k, hk, rfl⟩ := pn_nn (Int32.not_lt.mp h0)
  by_cases h1 : L < k
  · refine ⟨0, (g, (L, tx), ro, x, us, kp), fun hC => ⟨σ0, ?_, hC, FrC.refl _⟩, fun τ hM => ⟨en_up τ 185 11 0, ?_, hM.slot 11 0 (by omega), FrM.up (by omega) (by omega)⟩, hA'⟩
    · have h8 : σ0 1 1 = Int32.ofNat L := hC.2.1.1
      rw [o_X11_end, t_X11_end_0, o_X8_cutTo, t_X8_cutTo_0, if_neg h0, h8, if_pos ((pn_lt (by omega) hk).mpr h1), if_pos (by decide), po_ri, Option.bind_some, if_pos (Or.inl rfl)]; rfl
    · have h8 : τ 185 8 = Int32.ofNat L := hM.2.1.1
      rw [o_X12_end, t_X12_end_0, q_in, Option.bind_some, h8]
      rw [if_pos (by dsimp only; rw [pb2_0]; exact fun q => q.2 ((pn_lt (by omega) hk).mpr h1)), if_pos (by decide)]; rfl
  · refine ⟨1, (g, (k, tx), ro, x, us, kp), fun hC => ⟨en_up σ0 1 1 (Int32.ofNat k), ?_, ?_, FrC.up (by omega)⟩, fun τ hM => ⟨en_up (en_up τ 185 11 0) 185 8 (Int32.ofNat k), ?_, ?_, (FrM.up (by omega) (by omega)).trans (FrM.up (by omega) (by omega))⟩, ?_⟩
    · have h8 : σ0 1 1 = Int32.ofNat L := hC.2.1.1
      rw [o_X11_end, t_X11_end_0, o_X8_cutTo, t_X8_cutTo_0, if_neg h0, h8, if_neg (by rw [pn_lt (by omega) hk]; exact h1), if_pos (by decide), po_ri, Option.bind_some, if_pos (Or.inr rfl)]; rfl
    · obtain ⟨h1', h2, h3, h4, h5, h6⟩ := hC
      have e : ∀ c, c ≠ 1 → en_up σ0 1 1 (Int32.ofNat k) c = σ0 c := fun c hc => pu_row hc
      exact ⟨h1'.kept (e 5 (by omega)) (e 6 (by omega)) (e 7 (by omega)) (e 8 (by omega)) (by rw [e 10 (by omega)]) (e 11 (by omega)), ⟨pu_same _ _ _ _, fun j hj => by rw [e 2 (by omega)]; exact h2.2 j (by have : j < k := hj; show j < L; omega)⟩, h3.fr (e 3 (by omega)) (e 4 (by omega)), h4.all (fun j hj => e _ (by omega)), h5.fr (fun c _ _ => e c (by omega)), h6.fr (fun c _ _ => e c (by omega))⟩
    · have h8 : τ 185 8 = Int32.ofNat L := hM.2.1.1
      rw [o_X12_end, t_X12_end_0, q_in, Option.bind_some, h8]
      rw [if_neg (by dsimp only; rw [pb2_0]; exact fun q => q ⟨h0, by rw [pn_lt (by omega) hk]; exact h1⟩), if_pos (by decide)]; rfl
    · obtain ⟨h1', h2, h3, h4, h5, h6⟩ := hM.slot 11 0 (by omega)
      have e : ∀ c, c ≠ 185 → en_up (en_up τ 185 11 0) 185 8 (Int32.ofNat k) c = (en_up τ 185 11 0) c := fun c hc => pu_row hc
      have e8 : ∀ j, j ≠ 8 → en_up (en_up τ 185 11 0) 185 8 (Int32.ofNat k) 185 j = (en_up τ 185 11 0) 185 j := fun j hj => pu_slot hj
      exact ⟨h1'.keep (fun j hj => e8 j (by omega)) (e 187 (by omega)) (e 188 (by omega)) (e 192 (by omega)), ⟨pu_same _ _ _ _, fun j hj => by rw [e 189 (by omega)]; exact h2.2 j (by have : j < k := hj; show j < L; omega)⟩, h3.fr (e8 10 (by omega)) (e 190 (by omega)), by rw [e 186 (by omega)]; exact h4, h5.fr (e8 23 (by omega)) (e 194 (by omega)), h6.fr (e 208 (by omega)) (e 207 (by omega))⟩
    · obtain ⟨a1, a2, a3, a4, a5, a6, a7⟩ := hA'
      exact ⟨a1, a2, a3, a4, (by show k ≤ 80; omega), a6, a7⟩
