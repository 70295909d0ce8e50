/-! rule: the call -/
theorem byt_byt {u : Nat} (hu : u < 256) : vp_nar .byte (byt u) = byt u := (by decide +kernel : ∀ u < 256, vp_nar .byte (byt u) = byt u) u hu
theorem VX_none : VX (fun th => th 0 / 2 + 1) := fun a b h => by show a 0 / 2 + 1 = b 0 / 2 + 1; rw [h 0 (by omega)]
theorem r_copy {L : Nat} {tx : Nat → Nat} {τ : en_M} {f : Nat} (hb : ∀ j, tx j < 256) (hL : L ≤ 40) (hT : ∀ j, j < L → τ 189 j = byt (tx j)) (hf : 900000 < f) : ∃ τ', en_oi (T_X12_rule_73 f (Int32.ofNat L) 0 τ) = some (0, τ') ∧ (∀ j, j < L → τ' 192 j = byt (tx j)) ∧ τ' 185 19 = Int32.ofNat L ∧ (∀ j, j ≠ 19 → τ' 185 j = τ 185 j) ∧ ∀ c, c ≠ 185 → c ≠ 192 → τ' c = τ c := by
  obtain ⟨τ1, a1, a2, a3⟩ := pl_to (F := fun f i (q : en_M) => T_X12_rule_73 f (Int32.ofNat L) (Int32.ofNat i) q) (P := fun i q => (∀ j, j < i → q 192 j = byt (tx j)) ∧ ∀ c, c ≠ 192 → q c = τ c) (N := L) (by
    rintro f i q hi ⟨p1, p2⟩
    refine ⟨en_up q 192 i (byt (tx i)), ?_, fun j hj => ?_, fun c hc => by rw [pu_row hc]; exact p2 c hc⟩
    · show T_X12_rule_73 (f + 1) _ _ q = _
      rw [t_X12_rule_73, if_pos (show Int32.ofNat i < Int32.ofNat L from (pn_lt (by omega) (by omega)).mpr hi), pn_ix (show i < 80 by omega) (by omega), Option.bind_some, pn_ix (show i < 40 by omega) (by omega), Option.bind_some, pn_a1, p2 189 (by omega), hT i hi, byt_byt (hb i)]
    · rw [pu_at]
      by_cases e : j = i
      · rw [if_pos e, e]
      · rw [if_neg e]; exact p1 j (by omega)) L 0 f τ (by omega) (by omega) ⟨fun j hj => absurd hj (Nat.not_lt_zero j), fun _ _ => rfl⟩
  have a1 : T_X12_rule_73 f (Int32.ofNat L) 0 τ = T_X12_rule_73 (f - L) (Int32.ofNat L) (Int32.ofNat L) τ1 := a1
  obtain ⟨d, hd⟩ : ∃ d, f - L = d + 1 := Nat.exists_eq_succ_of_ne_zero (by omega)
  rw [a1, hd, t_X12_rule_73, if_neg (show ¬ Int32.ofNat L < Int32.ofNat L from fun z => by have := (pn_lt (by omega) (by omega)).mp z; omega)]
  exact ⟨_, rfl, fun j hj => by rw [pu_cell (by omega)]; exact a2 j hj, pu_same _ _ _ _, fun j hj => by rw [pu_slot hj, a3 185 (by omega)], fun c c1 c2 => by rw [pu_row c1, a3 c c2]⟩
theorem r_MRule {L : Nat} {tx : Nat → Nat} (hb : ∀ j, tx j < 256) (h0 : 0 < L) (hL : L ≤ 40) (hok : (eeP L tx 4 0).1 = true) {σ : en_M} (h19 : σ 185 19 = Int32.ofNat L) (h192 : ∀ j, j < L → σ 192 j = byt (tx j)) : MRule σ (eeP L tx 4 0).2.2.2 := by
  refine Or.inr ⟨⟨L, h0, hL, h19⟩, fun σ1 e1 e2 e3 e4 e5 e6 e7 e8 => ?_⟩
  have hR : RD σ1 192 L 40 tx 0 (-1) := ⟨e4, by rw [e5, h19], e6, e7, e8, fun j hj => by rw [e2]; exact h192 j hj, hb, by omega, ka192.1, by rw [ka192.2]; exact hL, by omega, by omega, by omega⟩
  obtain ⟨v, τ', k1, k2, k3, -⟩ := m_ee hb 4 0 30 rfl 0 (Nat.zero_le _) σ1 192 hR
  obtain ⟨j1, j2⟩ := k3 hok
  have k1' : O_X12_held [.inr (185, 12, 0, 0), .inl 0] σ1 = some (v, τ') := by rw [oe_X12_held]; exact k1
  have ht : thM σ1 = σ1 193 := by
    funext i
    unfold thM
    rw [e3, if_neg (show ¬ (1 : Int32) = 0 by decide)]
  rw [k1', j2, ht]
  refine ⟨τ', rfl, k2.1, fun j h15 h16 => ?_⟩
  by_cases c : j < 12 ∨ 16 < j
  · exact k2.2 j c
  · have : j = 12 ∨ j = 13 ∨ j = 14 := by omega
    rcases this with rfl | rfl | rfl
    · rw [j1.1, hR.1]
    · rw [j1.2.1, hR.2.1]
    · rw [j1.2.2.1, hR.2.2.1]
theorem q_CRule {L : Nat} {tx : Nat → Nat} (hb : ∀ j, tx j < 256) (hok : (eeP L tx 4 0).1 = true) {σ : en_M} (h4 : σ 10 4 = Int32.ofNat (eeP L tx 4 0).2.2.1.length) (h11 : ∀ j, j < (eeP L tx 4 0).2.2.1.length → σ 11 j = Int32.ofNat ((eeP L tx 4 0).2.2.1.getD j 0)) : CRule σ (eeP L tx 4 0).2.2.2 := by
  intro σ1 e1 e2
  obtain ⟨g1, g2, g3⟩ := GP_ee (L := L) hb 4 0 (Nat.zero_le _)
  obtain ⟨o1, o2, o3, o4, o5⟩ := g3 hok
  refine q_value (by omega) (fun j hj => ?_) (by rw [e1]; exact h4) (fun j hj => by rw [e2]; exact h11 j hj) (o3 _ _)
  refine o5 _ ?_
  rw [List.getD_eq_getElem?_getD, List.getElem?_eq_getElem hj]
  exact List.getElem_mem hj
theorem p_rule : en_st_rule pInv := by
  intro c hc
  refine p_two hc (fun A σ0 hA hB => ?_)
  obtain ⟨g, ⟨L, tx⟩, ro, x, us, kp⟩ := A
  have hgv : GV g := hA.1
  have hL : L ≤ 80 := hA.2.2.2.2.1
  have hb : ∀ j, tx j < 256 := hA.2.2.2.2.2.1
  have hFU := en_FU_ge
  have good : ∀ V : (Nat → Int32) → Int32, VX V → L ≤ 40 →
      (CI σ0 (g, (L, tx), ro, x, us, kp) → ∃ σ', O_X6_read [.inr (10, 6, 0, 0), .inr (1, 8, 0, 0)] σ0 = some (0, σ') ∧ (∀ c, c ≠ 10 → c ≠ 11 → c ≠ 12 → σ' c = σ0 c) ∧ CRule σ' V) →
      (∀ τ, MI τ (g, (L, tx), ro, x, us, kp) → ∃ f τ', 900000 < f ∧ O_X12_rule [.inr (185, 12, 0, 0)] τ = en_oi (T_X12_rule_73 f (Int32.ofNat L) 0 τ') ∧ (∀ j, j < L → τ' 189 j = byt (tx j)) ∧ MI τ' (g, tx0, ro, x, us, kp) ∧ FrM τ τ') →
      (∀ σ' : en_M, σ' 185 19 = Int32.ofNat L → (∀ j, j < L → σ' 192 j = byt (tx j)) → MRule σ' V) →
      ∃ v' A', (CI σ0 (g, (L, tx), ro, x, us, kp) → ∃ σ', O_X11_rule [.inr (0, 11, 0, 0)] σ0 = some (v', σ') ∧ CI σ' A' ∧ FrC σ0 σ') ∧ (∀ τ, MI τ (g, (L, tx), ro, x, us, kp) → ∃ τ', O_X12_rule [.inr (185, 12, 0, 0)] τ = some (v', τ') ∧ MI τ' A' ∧ FrM τ τ') ∧ AV (2000 * (c + 1)) A' := by
    intro V hV hL40 hcl hml hmr
    refine ⟨0, ((gN g, gW g, gC g, gM g, gT g, gR g, V), tx0, ro, x, us, kp), fun hC => ?_, fun τ hM => ?_, ?_⟩
    · obtain ⟨σ1, e1, e2, e3⟩ := hcl hC
      obtain ⟨hG, hT, hRo, hX, hU, hK⟩ := hC
      have hfin : ∀ c, c ≠ 1 → c ≠ 10 → c ≠ 11 → c ≠ 12 → (en_up σ1 1 1 0) c = σ0 c := fun c c1 c10 c11 c12 => by rw [pu_row c1, e2 c c10 c11 c12]
      refine ⟨en_up σ1 1 1 0, ?_, ⟨⟨?_, fun r hr => ?_, ?_, ?_, ?_, ?_, fun j hj => ?_, ?_⟩, CT.nil (pu_same _ _ _ _), hRo.fr (hfin 3 (by omega) (by omega) (by omega) (by omega)) (hfin 4 (by omega) (by omega) (by omega) (by omega)), hX.all (fun j hj => hfin _ (by omega) (by omega) (by omega) (by omega)), hU.fr (fun c _ _ => hfin c (by omega) (by omega) (by omega) (by omega)), hK.fr (fun c _ _ => hfin c (by omega) (by omega) (by omega) (by omega))⟩, fun c hc => hfin c (by omega) (by omega) (by omega) (by omega)⟩
      · rw [o_X11_rule, t_X11_rule_0, e1, Option.bind_some, q_clear, Option.bind_some]; rfl
      · rw [hfin 5 (by omega) (by omega) (by omega) (by omega)]; exact hG.1
      · rw [hfin 6 (by omega) (by omega) (by omega) (by omega)]; exact hG.2.1 r hr
      · rw [hfin 5 (by omega) (by omega) (by omega) (by omega)]; exact hG.2.2.1
      · rw [hfin 5 (by omega) (by omega) (by omega) (by omega)]; exact hG.2.2.2.1
      · rw [hfin 5 (by omega) (by omega) (by omega) (by omega)]; exact hG.2.2.2.2.1
      · rw [hfin 7 (by omega) (by omega) (by omega) (by omega)]; exact hG.2.2.2.2.2.1
      · rw [hfin 8 (by omega) (by omega) (by omega) (by omega)]; exact hG.2.2.2.2.2.2.1 j hj
      · exact e3.fr (by rw [pu_cell (by omega)]) (pu_row (by omega))
    · obtain ⟨f, τ1, hf, e1, e2, e3, e4⟩ := hml τ hM
      obtain ⟨τ', r1, r2, r3, r4, r5⟩ := r_copy hb hL40 e2 hf
      obtain ⟨hG, hT2, hRo, hX, hU, hK⟩ := e3
      rw [e1]
      refine ⟨τ', r1, ⟨⟨?_, fun r hr => ?_, ?_, ?_, ?_, fun j hj => ?_, hmr τ' r3 r2⟩, ?_, ?_, ?_, ?_, ?_⟩, fun c hc => ?_⟩
      · rw [r4 1 (by omega)]; exact hG.1
      · rw [r5 187 (by omega) (by omega)]; exact hG.2.1 r hr
      · rw [r4 5 (by omega)]; exact hG.2.2.1
      · rw [r4 6 (by omega)]; exact hG.2.2.2.1
      · rw [r4 4 (by omega)]; exact hG.2.2.2.2.1
      · rw [r5 188 (by omega) (by omega)]; exact hG.2.2.2.2.2.1 j hj
      · exact hT2.fr (r4 8 (by omega)) (r5 189 (by omega) (by omega))
      · exact hRo.fr (r4 10 (by omega)) (r5 190 (by omega) (by omega))
      · rw [r5 186 (by omega) (by omega)]; exact hX
      · exact hU.fr (r4 23 (by omega)) (r5 194 (by omega) (by omega))
      · exact hK.fr (r5 208 (by omega) (by omega)) (r5 207 (by omega) (by omega))
      · rw [r5 c (by omega) (by omega), e4 c hc]
    · obtain ⟨a1, a2, a3, a4, a5, a6, a7⟩ := hA.clear.mono (show 2000 * c ≤ 2000 * (c + 1) by omega)
      obtain ⟨b1, b2, b3, b4, b5, b6, b7, b8⟩ := hgv
      exact ⟨⟨b1, b2, b3, b4, b5, b6, b7, hV⟩, a2, a3, a4, a5, a6, a7⟩
  -- the reference's beginning
  have hbeg : ∀ τ : en_M, MI τ (g, (L, tx), ro, x, us, kp) → ∃ τ1, O_X12_rule [.inr (185, 12, 0, 0)] τ = en_oi (if 0 < Int32.ofNat L then ((O_X12_held [.inr (185, 12, 0, 0), .inl (0 : Int32)] τ1).bind fun r2 => if (r2.2 185 15) < Int32.ofNat L then ((O_X12_fault [.inr (185, 12, 0, 0), .inl (r2.2 185 15)] r2.2).bind fun r4 => (O_X12_fine [.inr (185, 12, 0, 0)] r4).bind fun r5 => if r5.1 = 0 then (en_ri ((-1 : Int32) - (r5.2 185 16)) r5.2) else (T_X12_rule_73 en_FU (Int32.ofNat L) (0 : Int32) r5.2)) else ((O_X12_fine [.inr (185, 12, 0, 0)] r2.2).bind fun r3 => if r3.1 = 0 then (en_ri ((-1 : Int32) - (r3.2 185 16)) r3.2) else (T_X12_rule_73 en_FU (Int32.ofNat L) (0 : Int32) r3.2))) else (T_X12_rule_73 en_FU (Int32.ofNat L) (0 : Int32) τ1)) ∧ RD τ1 189 L 40 tx 0 (-1) ∧ MI τ1 (g, tx0, ro, x, us, kp) ∧ FrM τ τ1 := fun τ hM => by
    have h8 : τ 185 8 = Int32.ofNat L := hM.2.1.1
    have hM2 := hM.slot 11 0 (by omega)
    have hRD := RD.new (mx := 40) (τ := en_up τ 185 11 0) (show ∀ j, j < L → (en_up τ 185 11 0) 189 j = byt (tx j) from hM2.2.1.2) hb hL (by omega)
    have hbg : O_X12_begin [.inr (185, 12, 0, 0), .inr (189, 21, 80, 0), .inl (Int32.ofNat L), .inl (40 : Int32)] (en_up τ 185 11 0) = some _ := m_rbegin (b := 189) (n1 := 80) (L := L) (mx := 40) (en_up τ 185 11 0)
    refine ⟨_, ?_, hRD.fr (τ' := en_up (en_up (en_up (en_up (en_up (en_up (en_up (en_up τ 185 11 0) 185 12 (Int32.ofNat (189 + 1))) 185 13 (Int32.ofNat L)) 185 14 (Int32.ofNat 40)) 185 15 0) 185 16 (-1)) 185 8 0) 185 20 0) (fun j _ _ => by rw [pu_slot (by omega), pu_slot (by omega)]) (by rw [pu_row (by omega), pu_row (by omega)]), ((((((hM2.slot 12 _ (by omega)).slot 13 _ (by omega)).slot 14 _ (by omega)).slot 15 _ (by omega)).slot 16 _ (by omega)).clear).slot 20 _ (by omega), fun c hc => by rw [pu_row (by omega), pu_row (by omega), pu_row (by omega), pu_row (by omega), pu_row (by omega), pu_row (by omega), pu_row (by omega), pu_row (by omega)]⟩
    rw [o_X12_rule, t_X12_rule_0, h8, hbg, Option.bind_some, if_pos (show (0 : Int32) = 0 ∨ (0 : Int32) = 1 from Or.inl rfl)]
  by_cases hL0 : L = 0
  · refine good (fun th => th 0 / 2 + 1) VX_none (by omega) (fun hC => ⟨en_up σ0 10 4 0, ?_, fun c c1 _ _ => pu_row c1, CRule_none (pu_same _ _ _ _)⟩) (fun τ hM => ?_) (fun σ' h19 _ => Or.inl ⟨by rw [h19, hL0]; rfl, fun _ => rfl⟩)
    · rw [o_X6_read, t_X6_read_0, show σ0 1 1 = Int32.ofNat L from hC.2.1.1, hL0, if_pos (show Int32.ofNat 0 = 0 from rfl)]; rfl
    · obtain ⟨τ1, e1, e2, e3, e4⟩ := hbeg τ hM
      rw [if_neg (show ¬ (0 : Int32) < Int32.ofNat L by rw [hL0]; decide)] at e1
      exact ⟨en_FU, τ1, by omega, e1, e2.2.2.2.2.2.1, e3, e4⟩
  have h0 : 0 < L := by omega
  obtain ⟨g1, g2, g3⟩ := GP_ee (L := L) hb 4 0 (Nat.zero_le _)
  -- what the reference's reading gives
  have hrd : ∀ τ : en_M, MI τ (g, (L, tx), ro, x, us, kp) → ∃ τ1, MI τ1 (g, tx0, ro, x, us, kp) ∧ FrM τ τ1 ∧ ((eeP L tx 4 0).1 = true ∧ L ≤ (eeP L tx 4 0).2.1 → O_X12_rule [.inr (185, 12, 0, 0)] τ = en_oi (T_X12_rule_73 en_FU (Int32.ofNat L) 0 τ1) ∧ ∀ j, j < L → τ1 189 j = byt (tx j)) ∧ (¬ ((eeP L tx 4 0).1 = true ∧ L ≤ (eeP L tx 4 0).2.1) → O_X12_rule [.inr (185, 12, 0, 0)] τ = some (-1 - Int32.ofNat (eeP L tx 4 0).2.1, τ1)) := fun τ hM => by
    obtain ⟨τ1, e1, e2, e3, e4⟩ := hbeg τ hM
    obtain ⟨v, τ2, k1, k2, k3, k4⟩ := m_ee hb 4 0 30 rfl 0 (Nat.zero_le _) τ1 189 e2
    have k1' : O_X12_held [.inr (185, 12, 0, 0), .inl (0 : Int32)] τ1 = some (v, τ2) := by rw [oe_X12_held]; exact k1
    have hM2 : MI τ2 (g, tx0, ro, x, us, kp) := e3.kept (fun j hj => k2.2 j (by omega)) (fun c hc => k2.1 c (by omega))
    have hF2 : FrM τ τ2 := e4.trans (fun c hc => k2.1 c (by omega))
    rw [if_pos (show (0 : Int32) < Int32.ofNat L from (pn_lt (a := 0) (by omega) (by omega)).mpr h0), k1', Option.bind_some] at e1
    dsimp only at e1
    by_cases cx : (eeP L tx 4 0).1 = true
    · obtain ⟨j1, -⟩ := k3 cx
      rw [pi_if (show (τ2 185 15 < Int32.ofNat L) = ((eeP L tx 4 0).2.1 < L) by rw [j1.2.2.2.1]; exact pn_lt (by omega) (by omega))] at e1
      by_cases cl : (eeP L tx 4 0).2.1 < L
      · rw [if_pos cl, j1.2.2.2.1, m_fault j1, Option.bind_some, m_fine_n (j1.flt _) (by omega), Option.bind_some] at e1
        dsimp only at e1
        rw [if_pos (show (0 : Int32) = 0 from rfl), pu_same] at e1
        exact ⟨_, hM2.slot 16 _ (by omega), hF2.trans (FrM.up (by omega) (by omega)), fun z => absurd z.2 (by omega), fun _ => e1⟩
      · rw [if_neg cl, m_fine_y j1, Option.bind_some] at e1
        dsimp only at e1
        rw [if_neg (show ¬ (1 : Int32) = 0 by decide)] at e1
        exact ⟨τ2, hM2, hF2, fun _ => ⟨e1, j1.2.2.2.2.2.1⟩, fun z => absurd ⟨cx, by omega⟩ z⟩
    · obtain ⟨p'', j1⟩ := k4 (Bool.eq_false_iff.mpr cx)
      have e1' : O_X12_rule [.inr (185, 12, 0, 0)] τ = some (-1 - Int32.ofNat (eeP L tx 4 0).2.1, τ2) := by
        rw [e1]
        by_cases cl : τ2 185 15 < Int32.ofNat L
        · rw [if_pos cl, m_fault_n j1 (by omega), Option.bind_some, m_fine_n j1 (by omega), Option.bind_some]
          dsimp only
          rw [if_pos (show (0 : Int32) = 0 from rfl), j1.2.2.2.2.1]; rfl
        · rw [if_neg cl, m_fine_n j1 (by omega), Option.bind_some]
          dsimp only
          rw [if_pos (show (0 : Int32) = 0 from rfl), j1.2.2.2.2.1]; rfl
      exact ⟨τ2, hM2, hF2, fun z => absurd z.1 cx, fun _ => e1'⟩
  by_cases ok : (eeP L tx 4 0).1 = true ∧ L ≤ (eeP L tx 4 0).2.1
  · refine good (eeP L tx 4 0).2.2.2 (g3 ok.1).2.2.2.1 (by omega) (fun hC => ?_) (fun τ hM => ?_) (fun σ' h19 h192 => r_MRule hb h0 (by omega) ok.1 h19 h192)
    · obtain ⟨σ1, e1, e2, e3, e4⟩ := (q_read (show CT σ0 L tx from hC.2.1) hL hb h0).1 ok
      exact ⟨σ1, e1, e2, q_CRule hb ok.1 e3 e4⟩
    · obtain ⟨τ1, e1, e2, e3, -⟩ := hrd τ hM
      obtain ⟨e4, e5⟩ := e3 ok
      exact ⟨en_FU, τ1, by omega, e4, e5, e1, e2⟩
  · refine ⟨-1 - Int32.ofNat (eeP L tx 4 0).2.1, (g, tx0, ro, x, us, kp), fun hC => ?_, fun τ hM => ?_, hA.clear.mono (by omega)⟩
    · obtain ⟨σ1, e1, e2, e3⟩ := (q_read (show CT σ0 L tx from hC.2.1) hL hb h0).2 ok
      have hC1 : CI σ1 (g, (L, tx), ro, x, us, kp) := hC.kept (fun c hc => e2 c (by omega) (by omega)) e3
      refine ⟨en_up σ1 1 1 0, ?_, hC1.clear, fun c hc => by rw [pu_row (by omega), e2 c (by omega) (by omega)]⟩
      rw [o_X11_rule, t_X11_rule_0, e1, Option.bind_some, q_clear, Option.bind_some]; rfl
    · obtain ⟨τ1, e1, e2, -, e3⟩ := hrd τ hM
      exact ⟨τ1, e3 ok, e1, e2⟩
