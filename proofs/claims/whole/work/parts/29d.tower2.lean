theorem p_tower : en_st_tower pInv := by
  intro c hc
  refine p_two hc (fun A σ0 hA hB => ?_)
  obtain ⟨g, ⟨L, tx⟩, ro, x, us, kp⟩ := A
  have hgv : GV g := hA.1
  have hL : L ≤ 80 := hA.2.2.2.2.1
  have hb : ∀ j, tx j < 256 := hA.2.2.2.2.2.1
  by_cases ok : scN L tx 7 0 = L ∧ 3 ≤ L
  · have h7 : L ≤ 7 := by have := scN_le L tx 7 0; omega
    have hd : ∀ r, r < L → 49 ≤ tx r ∧ tx r ≤ 57 := fun r hr => scN_dg L tx 7 0 r (Nat.zero_le _) (by rw [ok.1]; exact hr)
    refine ⟨Int32.ofNat L, ((L, wtN tx, fun _ => 0, 1, gT g, gR g, gV g), tx0, ro, x0, [], fun _ => (false, x0)), fun hC => ?_, fun τ hM => ?_, ?_⟩
    · obtain ⟨hG, hT, hR, hX, ⟨u1, fs, u2, u3, u4⟩, hK⟩ := hC
      have hT : CT σ0 L tx := hT
      obtain ⟨σ1, e1, e2, e3, e4, e5, e6, e7, e8⟩ := (q_readWeights hT hL hb).1 ok
      obtain ⟨σ2, b1, b2, b3⟩ := q_sbegin (en_up σ1 1 1 0)
      have hfin : ∀ c, c ≠ 1 → c ≠ 5 → c ≠ 6 → c ≠ 7 → c ≠ 8 → c < 15 ∨ 20 ≤ c → c ≠ 25 → c ≠ 89 → (en_up (en_up (en_up σ2 25 2 0) 89 0 0) 89 1 0) c = σ0 c := fun c c1 c5 c6 c7 c8 c15 c25 c89 => by rw [pu_row c89, pu_row c89, pu_row c25, b3 c c15, pu_row c1, e8 c c5 c6 c7 c8]
      have hlow : ∀ c, c < 15 → c ≠ 1 → (en_up (en_up (en_up σ2 25 2 0) 89 0 0) 89 1 0) c = σ1 c := fun c c15 c1 => by rw [pu_row (by omega), pu_row (by omega), pu_row (by omega), b3 c (by omega), pu_row c1]
      have hm1 : ∀ c, c < 15 → c = 1 → (en_up (en_up (en_up σ2 25 2 0) 89 0 0) 89 1 0) c 1 = 0 := fun c c15 c1 => by rw [pu_cell (by omega), pu_cell (by omega), pu_cell (by omega), b3 c (by omega), c1, pu_same]
      have h25 : (en_up (en_up (en_up σ2 25 2 0) 89 0 0) 89 1 0) 25 1 = Int32.ofNat fs := by rw [pu_cell (by omega), pu_cell (by omega), pu_slot (by omega), b3 25 (by omega), pu_cell (by omega), e8 25 (by omega) (by omega) (by omega) (by omega)]; exact u3
      refine ⟨en_up (en_up (en_up σ2 25 2 0) 89 0 0) 89 1 0, ?_, ⟨⟨?_, fun r hr => ?_, ?_, ?_, ?_, ?_, fun j hj => ?_, ?_⟩, CT.nil (hm1 1 (by omega) rfl), hR.fr (hfin 3 (by omega) (by omega) (by omega) (by omega) (by omega) (by omega) (by omega) (by omega)) (hfin 4 (by omega) (by omega) (by omega) (by omega) (by omega) (by omega) (by omega) (by omega)), b2.all (fun j hj => by rw [pu_row (by omega), pu_row (by omega), pu_row (by omega)]), ⟨by rw [pu_cell (by omega), pu_cell (by omega), pu_same]; rfl, fs, u2, h25, fun i hi => absurd hi (Nat.not_lt_zero i)⟩, fun i hi => ⟨?_, fun q => absurd (show false = true from q) (by decide)⟩⟩, fun c hc => ?_⟩
      · rw [o_X11_tower, t_X11_tower_0, e1, Option.bind_some, q_clear, Option.bind_some]
        dsimp only
        rw [if_pos (show (0 : Int32) < Int32.ofNat L from (pn_lt (a := 0) (by omega) (by omega)).mpr (by omega)), b1, Option.bind_some, q_forget, Option.bind_some, q_kforget, Option.bind_some]; rfl
      · rw [hlow 5 (by omega) (by omega)]; exact e2
      · rw [hlow 6 (by omega) (by omega)]; exact e4 r hr
      · rw [hlow 5 (by omega) (by omega), e3]; exact (if_neg (show ¬ L = 0 by omega)).symm
      · rw [hlow 5 (by omega) (by omega), e5 5 (by omega) (by omega)]; exact hG.2.2.2.1
      · rw [hlow 5 (by omega) (by omega), e5 6 (by omega) (by omega)]; exact hG.2.2.2.2.1
      · rw [hlow 7 (by omega) (by omega)]; exact e6
      · have hj0 : j = 0 := by have : j < 1 := hj; omega
        subst hj0
        rw [hlow 8 (by omega) (by omega)]; exact e7
      · exact hG.2.2.2.2.2.2.2.fr (by rw [hfin 10 (by omega) (by omega) (by omega) (by omega) (by omega) (by omega) (by omega) (by omega)]) (hfin 11 (by omega) (by omega) (by omega) (by omega) (by omega) (by omega) (by omega) (by omega))
      · have hi2 : i = 0 ∨ i = 1 := by omega
        rcases hi2 with rfl | rfl
        · rw [pu_slot (by omega), pu_same]; rfl
        · rw [pu_same]; rfl
      · exact hfin c (by omega) (by omega) (by omega) (by omega) (by omega) (by omega) (by omega) (by omega)
    · have hM2 := (hM.slot 11 0 (by omega)).clear
      have h8 : τ 185 8 = Int32.ofNat L := hM.2.1.1
      have hT : ∀ j, j < L → (en_up (en_up τ 185 11 0) 185 8 0) 189 j = byt (tx j) := fun j hj => by rw [pu_cell (by omega), pu_cell (by omega)]; exact hM.2.1.2 j hj
      have hfr : FrM τ (en_up (en_up τ 185 11 0) 185 8 0) := (FrM.up (by omega) (by omega)).trans (FrM.up (by omega) (by omega))
      rw [o_X12_tower, t_X12_tower_0, h8]
      generalize en_up (en_up τ 185 11 0) 185 8 0 = τ0 at hM2 hT hfr ⊢
      obtain ⟨f', hf', e1⟩ := (r_scan hL hb hT).1 ok
      obtain ⟨τ', r1, r2, r3, r4, r5, r6, r7, r8, r9, r10⟩ := r_newTower h7 ok.2 hd hT hf'
      obtain ⟨hG, hT2, hR, hX, hU, hK⟩ := hM2
      rw [e1]
      refine ⟨τ', r1, ⟨⟨r4, r3, ?_, ?_, r5, fun j hj => ?_, ?_⟩, ?_, ?_, r2, ⟨r7, fun i hi => absurd hi (Nat.not_lt_zero i)⟩, fun i hi => ⟨r8 i hi, fun q => absurd (show false = true from q) (by decide)⟩⟩, fun c hc => ?_⟩
      · rw [r9 5 (by omega) (by omega) (by omega)]; exact hG.2.2.1
      · rw [r9 6 (by omega) (by omega) (by omega)]; exact hG.2.2.2.1
      · have hj0 : j = 0 := by have : j < 1 := hj; omega
        subst hj0
        exact r6
      · exact hG.2.2.2.2.2.2.fr (r9 19 (by omega) (by omega) (by omega)) (r10 192 (by omega) (by omega) (by omega) (by omega) (by omega))
      · exact hT2.fr (r9 8 (by omega) (by omega) (by omega)) (r10 189 (by omega) (by omega) (by omega) (by omega) (by omega))
      · exact hR.fr (r9 10 (by omega) (by omega) (by omega)) (r10 190 (by omega) (by omega) (by omega) (by omega) (by omega))
      · rw [r10 c (by omega) (by omega) (by omega) (by omega) (by omega), hfr c hc]
    · obtain ⟨a1, a2, a3, a4, a5, a6, a7, a8⟩ := hA
      have b5 : 1 ≤ gT g := a1.2.2.2.2.1
      have b6 : gT g < 100 := a1.2.2.2.2.2.1
      have b7 : gR g < 100 := a1.2.2.2.2.2.2.1
      exact ⟨⟨h7, Nat.le_refl 1, (by show 1 ≤ 20; omega), fun _ _ => by show 0 < 128; omega, b5, b6, b7, a1.2.2.2.2.2.2.2⟩, Or.inr ok.2, a3, a4, Nat.zero_le 80, fun _ => by show 0 < 256; omega, a7, VS_x0 _ _, Nat.zero_le 12, fun i hi => absurd hi (Nat.not_lt_zero i), fun i hi q => absurd (show false = true from q) (by decide)⟩
  · refine ⟨-1 - Int32.ofNat (scN L tx 7 0), (g, tx0, ro, x, us, kp), fun hC => ⟨en_up σ0 1 1 0, ?_, hC.clear, FrC.up (by omega)⟩, fun τ hM => ⟨en_up (en_up τ 185 11 0) 185 8 0, ?_, (hM.slot 11 0 (by omega)).clear, (FrM.up (by omega) (by omega)).trans (FrM.up (by omega) (by omega))⟩, hA.clear.mono (by omega)⟩
    · have hs := scN_le L tx 7 0
      rw [o_X11_tower, t_X11_tower_0, (q_readWeights (show CT σ0 L tx from hC.2.1) hL hb).2 ok, Option.bind_some, q_clear, Option.bind_some]
      dsimp only
      rw [if_neg (show ¬ (0 : Int32) < -1 - Int32.ofNat (scN L tx 7 0) from (by decide : ∀ s < 8, ¬ (0 : Int32) < -1 - Int32.ofNat s) _ (by omega))]; rfl
    · have h8 : τ 185 8 = Int32.ofNat L := hM.2.1.1
      have hT : ∀ j, j < L → (en_up (en_up τ 185 11 0) 185 8 0) 189 j = byt (tx j) := fun j hj => by rw [pu_cell (by omega), pu_cell (by omega)]; exact hM.2.1.2 j hj
      rw [o_X12_tower, t_X12_tower_0, h8]
      exact (r_scan hL hb hT).2 ok
