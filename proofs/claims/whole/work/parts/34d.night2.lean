/-! night: both loops, the call -/
theorem actN_b (L : Nat) (tx : Nat → Nat) (p : Nat) : (actN L tx p).2.2.1 ≤ 2 ∧ (actN L tx p).2.2.2 < 128 := by
  have h := ltN_le L tx 60 p 0
  unfold actN
  split
  · exact ⟨by show 0 ≤ 2; omega, by show 0 < 128; omega⟩
  · split
    · split
      · rename_i c2
        obtain ⟨a1, a2, a3, a4⟩ := c2
        split
        · rename_i c3
          obtain ⟨b1, b2, b3, b4⟩ := c3
          exact ⟨by show 1 ≤ 2; omega, by show (tx (p + 1) - 48) * 10 + (tx (p + 2) - 48) < 128; omega⟩
        · exact ⟨by show 1 ≤ 2; omega, by show tx (p + 1) - 48 < 128; omega⟩
      · exact ⟨by show 0 ≤ 2; omega, by show 0 < 128; omega⟩
    · split
      · split
        · rename_i c2
          obtain ⟨a1, a2, a3, a4⟩ := c2
          exact ⟨Nat.le_refl 2, by show tx (p + 1) - 97 < 128; omega⟩
        · exact ⟨by show 0 ≤ 2; omega, by show 0 < 128; omega⟩
      · exact ⟨by show 0 ≤ 2; omega, h.2.2 (by omega)⟩
theorem AV.did {g t ro x us kp} {B kd v : Nat} (h : AV B (g, t, ro, x, us, kp)) (hc : canB g kd v = true) : AV (B + 60) (g, t, ro, doA g x kd v, us, kp) :=
  h.live (by omega) (doA_VS h.1 h.2.2.2.2.2.2.2.1 hc) h.2.2.2.2.2.2.2.2.1 (fun i hi => (h.2.2.2.2.2.2.2.2.2.1 i hi).mono (by omega)) (fun i hi hk => (h.2.2.2.2.2.2.2.2.2.2 i hi hk).mono (by omega))
theorem k_nightEnd {g t ro y us kp} {m j : Nat} {d0 s0 : Int32} {σ : en_M} (hC : CI σ (g, t, ro, y, us, kp)) (hj : j ≤ 30) (hm : m ≤ 30) :
    ∃ σ', en_oi ((O_X9_begin [.inr (3, 9, 0, 0)] σ).bind fun r7 => if Int32.ofNat j < Int32.ofNat m then ((O_X9_add [.inr (3, 9, 0, 0), .inl (1 : Int32)] r7).bind fun r12 => (O_X9_add [.inr (3, 9, 0, 0), .inl ((r12 15 6) - d0)] r12).bind fun r13 => (O_X11_sum [.inr (18, 20, 7, 0)] r13).bind fun r14 => (O_X9_add [.inr (3, 9, 0, 0), .inl (r14.1 - s0)] r14.2).bind fun r15 => en_ri (Int32.ofNat j) r15) else ((O_X9_add [.inr (3, 9, 0, 0), .inl (0 : Int32)] r7).bind fun r8 => (O_X9_add [.inr (3, 9, 0, 0), .inl ((r8 15 6) - d0)] r8).bind fun r9 => (O_X11_sum [.inr (18, 20, 7, 0)] r9).bind fun r10 => (O_X9_add [.inr (3, 9, 0, 0), .inl (r10.1 - s0)] r10.2).bind fun r11 => en_ri (Int32.ofNat j) r11)) = some (Int32.ofNat j, σ') ∧ CI σ' (g, t, [if j < m then 1 else 0, sD y - d0, smN (sR y) 7 - s0], y, us, kp) ∧ FrC σ σ' := by
  have core : ∀ w : Int32, ∃ σ', en_oi ((O_X9_add [.inr (3, 9, 0, 0), .inl w] (en_up σ 3 1 0)).bind fun r8 => (O_X9_add [.inr (3, 9, 0, 0), .inl ((r8 15 6) - d0)] r8).bind fun r9 => (O_X11_sum [.inr (18, 20, 7, 0)] r9).bind fun r10 => (O_X9_add [.inr (3, 9, 0, 0), .inl (r10.1 - s0)] r10.2).bind fun r11 => en_ri (Int32.ofNat j) r11) = some (Int32.ofNat j, σ') ∧ CI σ' (g, t, [w, sD y - d0, smN (sR y) 7 - s0], y, us, kp) ∧ FrC σ σ' := by
    intro w
    obtain ⟨σ1, e1, e2, e3⟩ := hC.begin.add (by simp) w
    obtain ⟨σ2, f1, f2, f3⟩ := e2.add (by simp) (sD y - d0)
    obtain ⟨σ3, g1, g2, g3⟩ := f2.add (by simp) (smN (sR y) 7 - s0)
    have hs : O_X11_sum [.inr (18, 20, 7, 0)] σ2 = some (smN (sR y) 7, σ2) := q_sumR (k := 15) f2.2.2.2.1
    refine ⟨σ3, ?_, g2, fun c hc => by rw [g3 c (by omega) (by omega), f3 c (by omega) (by omega), e3 c (by omega) (by omega), pu_row (by omega)]⟩
    rw [e1, Option.bind_some, show σ1 15 6 = sD y from e2.2.2.2.1.2.2.1, f1, Option.bind_some, hs, Option.bind_some]
    dsimp only
    rw [g1, Option.bind_some]; rfl
  rw [q_tbegin, Option.bind_some, pi_if (pn_lt (show j < 2147483648 by omega) (show m < 2147483648 by omega))]
  by_cases c : j < m
  · rw [if_pos c, if_pos c]; exact core 1
  · rw [if_neg c, if_neg c]; exact core 0
theorem q_nightLoop {g t ro x us kp} {B m : Nat} {K V : Nat → Nat} {σ : en_M} (hA : AV B (g, t, ro, x, us, kp)) (hB : B + 2000 < 1000000000) (hC : CI σ (g, t, ro, x, us, kp)) (hm : m ≤ 30) (h100 : σ 100 2 = Int32.ofNat m) (hT : ∀ j, j < m → σ 101 j = Int32.ofNat (K j) ∧ σ 102 j = Int32.ofNat (V j)) (hK : ∀ j, K j ≤ 2) (hV : ∀ j, V j < 128) :
    ∃ σ', en_oi (T_X11_night_66 en_FU (Int32.ofNat m) (sD x) (smN (sR x) 7) 0 σ) = some (Int32.ofNat (dnN g K V m 0), σ') ∧ CI σ' (g, t, [if dnN g K V m 0 < m then 1 else 0, sD (yA g x K V (dnN g K V m 0)) - sD x, smN (sR (yA g x K V (dnN g K V m 0))) 7 - smN (sR x) 7], yA g x K V (dnN g K V m 0), us, kp) ∧ FrC σ σ' := by
  refine pl_for1 (F := fun f j (q : en_M) => T_X11_night_66 f (Int32.ofNat m) (sD x) (smN (sR x) 7) (Int32.ofNat j) q) (P := fun j q => AV (B + 60 * j) (g, t, ro, yA g x K V j, us, kp) ∧ CI q (g, t, ro, yA g x K V j, us, kp) ∧ dnN g K V m 0 = dnN g K V (m - j) j ∧ (∀ c, 100 ≤ c → c ≤ 102 → q c = σ c) ∧ FrC σ q)
    (Q := fun r => ∃ σ', en_oi r = some (Int32.ofNat (dnN g K V m 0), σ') ∧ CI σ' (g, t, [if dnN g K V m 0 < m then 1 else 0, sD (yA g x K V (dnN g K V m 0)) - sD x, smN (sR (yA g x K V (dnN g K V m 0))) 7 - smN (sR x) 7], yA g x K V (dnN g K V m 0), us, kp) ∧ FrC σ σ') (N := m) ?_ ?_ m 0 en_FU σ (by omega) (pl_FU (by omega)) ⟨hA, hC, rfl, fun _ _ _ => rfl, FrC.refl σ⟩
  · rintro f j q hj ⟨p1, p2, p3, p4, p5⟩
    rw [show m - j = (m - (j + 1)) + 1 by omega] at p3
    conv at p3 => rhs; unfold dnN
    have hcan := q_canBe p1 p2 (by rw [p4 100 (by omega) (by omega)]; exact h100) hj hm (by rw [p4 101 (by omega) (by omega)]; exact (hT j hj).1) (by rw [p4 102 (by omega) (by omega)]; exact (hT j hj).2) (hK j) (hV j)
    show (∃ q', T_X11_night_66 (f + 1) _ _ _ (Int32.ofNat j) q = _ ∧ _) ∨ ∃ σ', en_oi (T_X11_night_66 (f + 1) _ _ _ (Int32.ofNat j) q) = _ ∧ _
    rw [t_X11_night_66, if_pos ((pn_lt (by omega) (by omega)).mpr hj), hcan, Option.bind_some]
    dsimp only
    by_cases c : canB g (K j) (V j) = true
    · rw [if_pos c] at p3
      obtain ⟨σ1, e1, e2, e3, e4⟩ := q_doAct p1.1 p1.2.2.2.2.2.2.2.1 (by omega) p2 (show j < 30 by omega) (by rw [p4 101 (by omega) (by omega)]; exact (hT j hj).1) (by rw [p4 102 (by omega) (by omega)]; exact (hT j hj).2) (hK j) c
      rw [if_pos c, if_neg (show ¬ (1 : Int32) = 0 by decide), e1, Option.bind_some, pn_a1]
      exact Or.inl ⟨σ1, rfl, (p1.did c).mono (by omega), e2, p3, fun c a b => by rw [e3 c a b, p4 c a b], p5.trans e4⟩
    · rw [if_neg c] at p3
      rw [if_neg c, if_pos (show (0 : Int32) = 0 from rfl), p3]
      obtain ⟨σ', e1, e2, e3⟩ := k_nightEnd (d0 := sD x) (s0 := smN (sR x) 7) (m := m) (j := j) p2 (by omega) hm
      exact Or.inr ⟨σ', e1, e2, p5.trans e3⟩
  · rintro f q ⟨p1, p2, p3, p4, p5⟩
    rw [Nat.sub_self] at p3
    have p3 : dnN g K V m 0 = m := p3
    show ∃ σ', en_oi (T_X11_night_66 (f + 1) _ _ _ (Int32.ofNat m) q) = _ ∧ _
    rw [t_X11_night_66, if_neg (show ¬ Int32.ofNat m < Int32.ofNat m by rw [pn_lt (by omega) (by omega)]; omega), p3]
    obtain ⟨σ', e1, e2, e3⟩ := k_nightEnd (d0 := sD x) (s0 := smN (sR x) 7) (m := m) (j := m) p2 hm hm
    exact ⟨σ', e1, e2, p5.trans e3⟩
theorem m_nightEnd {g t ro x y us kp} {m j : Nat} {τ : en_M} (hn : gN g ≤ 7) (hl : us.length ≤ 12) (hM : MI τ (g, t, ro, y, us, kp)) (hx : MSr (gN g) (τ 195) x) (hj : j ≤ 30) (hm : m ≤ 30) :
    ∃ τ', en_oi (if 0 < Int32.ofNat j then ((O_X12_remember [.inr (185, 12, 0, 0), .inr (195, 20, 53, 0)] τ).bind fun r25 => if Int32.ofNat j < Int32.ofNat m then ((O_X12_tell [.inr (185, 12, 0, 0), .inl (1 : Int32)] (en_up r25 185 10 (0 : Int32))).bind fun r31 => (en_ix (29 : Int32) 53).bind fun j32 => (en_ix (29 : Int32) 53).bind fun j33 => (O_X12_tell [.inr (185, 12, 0, 0), .inl ((r31 186 j32) - (r31 195 j33))] r31).bind fun r34 => (O_X12_tell [.inr (185, 12, 0, 0), .inl (r34 185 27)] r34).bind fun r35 => en_ri (Int32.ofNat j) r35) else ((O_X12_tell [.inr (185, 12, 0, 0), .inl (0 : Int32)] (en_up r25 185 10 (0 : Int32))).bind fun r26 => (en_ix (29 : Int32) 53).bind fun j27 => (en_ix (29 : Int32) 53).bind fun j28 => (O_X12_tell [.inr (185, 12, 0, 0), .inl ((r26 186 j27) - (r26 195 j28))] r26).bind fun r29 => (O_X12_tell [.inr (185, 12, 0, 0), .inl (r29 185 27)] r29).bind fun r30 => en_ri (Int32.ofNat j) r30)) else (if Int32.ofNat j < Int32.ofNat m then ((O_X12_tell [.inr (185, 12, 0, 0), .inl (1 : Int32)] (en_up τ 185 10 (0 : Int32))).bind fun r20 => (en_ix (29 : Int32) 53).bind fun j21 => (en_ix (29 : Int32) 53).bind fun j22 => (O_X12_tell [.inr (185, 12, 0, 0), .inl ((r20 186 j21) - (r20 195 j22))] r20).bind fun r23 => (O_X12_tell [.inr (185, 12, 0, 0), .inl (r23 185 27)] r23).bind fun r24 => en_ri (Int32.ofNat j) r24) else ((O_X12_tell [.inr (185, 12, 0, 0), .inl (0 : Int32)] (en_up τ 185 10 (0 : Int32))).bind fun r15 => (en_ix (29 : Int32) 53).bind fun j16 => (en_ix (29 : Int32) 53).bind fun j17 => (O_X12_tell [.inr (185, 12, 0, 0), .inl ((r15 186 j16) - (r15 195 j17))] r15).bind fun r18 => (O_X12_tell [.inr (185, 12, 0, 0), .inl (r18 185 27)] r18).bind fun r19 => en_ri (Int32.ofNat j) r19))) = some (Int32.ofNat j, τ') ∧ MI τ' (g, t, [if j < m then 1 else 0, sD y - sD x, τ 185 27], y, if j = 0 then us else pushU us x, kp) ∧ FrM τ τ' := by
  have i29 : en_ix (29 : Int32) 53 = some 29 := pn_ix (k := 29) (by omega) (by omega)
  have core : ∀ (w : Int32) (υ : en_M) (us' : List pS), MI υ (g, t, ro, y, us', kp) → υ 195 = τ 195 → υ 185 27 = τ 185 27 → ∃ τ', en_oi ((O_X12_tell [.inr (185, 12, 0, 0), .inl w] (en_up υ 185 10 (0 : Int32))).bind fun r15 => (some 29).bind fun j16 => (some 29).bind fun j17 => (O_X12_tell [.inr (185, 12, 0, 0), .inl ((r15 186 j16) - (r15 195 j17))] r15).bind fun r18 => (O_X12_tell [.inr (185, 12, 0, 0), .inl (r18 185 27)] r18).bind fun r19 => en_ri (Int32.ofNat j) r19) = some (Int32.ofNat j, τ') ∧ MI τ' (g, t, [w, sD y - sD x, τ 185 27], y, us', kp) ∧ FrM υ τ' := by
    intro w υ us' hU h195 h27
    obtain ⟨τ1, e1, e2, e3, e4⟩ := hU.begin.add (by simp) w
    obtain ⟨τ2, f1, f2, f3, f4⟩ := e2.add (by simp) (sD y - sD x)
    obtain ⟨τ3, g1, g2, g3, g4⟩ := f2.add (by simp) (τ 185 27)
    refine ⟨τ3, ?_, g2, fun c hc => by rw [g3 c (by omega) (by omega), f3 c (by omega) (by omega), e3 c (by omega) (by omega), pu_row (by omega)]⟩
    rw [e1, Option.bind_some, Option.bind_some, Option.bind_some, show τ1 186 29 = sD y from e2.2.2.2.1.2.2.2.1, show τ1 195 29 = sD x by rw [e3 195 (by omega) (by omega), pu_row (by omega), h195]; exact hx.2.2.2.1, f1, Option.bind_some, show τ2 185 27 = τ 185 27 by rw [f4 27 (by omega), e4 27 (by omega), pu_slot (by omega), h27], g1, Option.bind_some]; rfl
  simp only [i29]
  rw [pi_if (pn_0lt (b := j) (by omega))]
  have hcj : (Int32.ofNat j < Int32.ofNat m) = (j < m) := pn_lt (by omega) (by omega)
  by_cases c0 : 0 < j
  · obtain ⟨τ1, e1, e2, e3, e4⟩ := r_remember (k := 195) hn (Or.inr rfl) hM.2.2.2.2.1 hx hl
    have hM3 : MI τ1 (g, t, ro, y, pushU us x, kp) := hM.set (by rw [e3 186 (by omega) (by omega)]; exact hM.2.2.2.1) e2 (hM.2.2.2.2.2.fr (e3 208 (by omega) (by omega)) (e3 207 (by omega) (by omega))) (fun j hj => e4 j (by omega)) (fun c hc => e3 c (by omega) (by omega))
    rw [if_pos c0, e1, Option.bind_some, if_neg (show ¬ j = 0 by omega), pi_if hcj]
    have hfr : FrM τ τ1 := fun c hc => e3 c (by omega) (by omega)
    by_cases c1 : j < m
    · obtain ⟨τ', k1, k2, k3⟩ := core 1 τ1 _ hM3 (e3 195 (by omega) (by omega)) (e4 27 (by omega))
      rw [if_pos c1, if_pos c1]
      exact ⟨τ', k1, k2, hfr.trans k3⟩
    · obtain ⟨τ', k1, k2, k3⟩ := core 0 τ1 _ hM3 (e3 195 (by omega) (by omega)) (e4 27 (by omega))
      rw [if_neg c1, if_neg c1]
      exact ⟨τ', k1, k2, hfr.trans k3⟩
  · rw [if_neg c0, if_pos (show j = 0 by omega), pi_if hcj]
    by_cases c1 : j < m
    · rw [if_pos c1, if_pos c1]
      exact core 1 τ _ hM rfl rfl
    · rw [if_neg c1, if_neg c1]
      exact core 0 τ _ hM rfl rfl
theorem r_nightLoop {g t ro x us kp} {B m f : Nat} {u : Int32} {K V : Nat → Nat} {τ : en_M} (hA : AV B (g, t, ro, x, us, kp)) (hB : B + 2000 < 1000000000) (hM : MI τ (g, t, ro, x, us, kp)) (hx : MSr (gN g) (τ 195) x) (h27 : τ 185 27 = 0) (hm : m ≤ 30) (hT : ∀ j, j < m → τ 196 (2 * j) = Int32.ofNat (K j) ∧ τ 196 (2 * j + 1) = Int32.ofNat (V j)) (hK : ∀ j, K j ≤ 2) (hV : ∀ j, V j < 128) (hf : 100 < f) :
    ∃ τ', en_oi (T_X12_night_122 f (Int32.ofNat m) u 0 τ) = some (Int32.ofNat (dnN g K V m 0), τ') ∧ MI τ' (g, t, [if dnN g K V m 0 < m then 1 else 0, sD (yA g x K V (dnN g K V m 0)) - sD x, smN (sR (yA g x K V (dnN g K V m 0))) 7 - smN (sR x) 7], yA g x K V (dnN g K V m 0), if dnN g K V m 0 = 0 then us else pushU us x, kp) ∧ FrM τ τ' := by
  have hn : gN g ≤ 7 := hA.1.1
  have hl : us.length ≤ 12 := hA.2.2.2.2.2.2.2.2.1
  have hvx : VS (gN g) B x := hA.2.2.2.2.2.2.2.1
  have hs27 : ∀ (D : Int32) (y : pS) (B' : Nat), VS (gN g) B' y → smN (sR x) (gN g) + D = smN (sR y) (gN g) → D = smN (sR y) 7 - smN (sR x) 7 := fun D y B' hvy h => by
    rw [hvx.sum hn, hvy.sum hn, ← h, Int32.add_comm, Int32.add_sub_cancel]
  refine pl_for1 (F := fun f j (q : en_M) => T_X12_night_122 f (Int32.ofNat m) u (Int32.ofNat j) q) (P := fun j q => AV (B + 60 * j) (g, t, ro, yA g x K V j, us, kp) ∧ MI q (g, t, ro, yA g x K V j, us, kp) ∧ q 195 = τ 195 ∧ q 196 = τ 196 ∧ smN (sR x) (gN g) + q 185 27 = smN (sR (yA g x K V j)) (gN g) ∧ dnN g K V m 0 = dnN g K V (m - j) j ∧ FrM τ q)
    (Q := fun r => ∃ τ', en_oi r = some (Int32.ofNat (dnN g K V m 0), τ') ∧ MI τ' (g, t, [if dnN g K V m 0 < m then 1 else 0, sD (yA g x K V (dnN g K V m 0)) - sD x, smN (sR (yA g x K V (dnN g K V m 0))) 7 - smN (sR x) 7], yA g x K V (dnN g K V m 0), if dnN g K V m 0 = 0 then us else pushU us x, kp) ∧ FrM τ τ') (N := m) ?_ ?_ m 0 f τ (by omega) (by omega) ⟨hA, hM, rfl, rfl, by rw [h27, Int32.add_zero]; rfl, rfl, FrM.refl τ⟩
  · rintro f j q hj ⟨p1, p2, p3, p4, p5, p6, p7⟩
    rw [show m - j = (m - (j + 1)) + 1 by omega] at p6
    conv at p6 => rhs; unfold dnN
    obtain ⟨a1, a2⟩ := r_act p1 (by omega) p2 (hK j) (hV j)
    show (∃ q', T_X12_night_122 (f + 1) _ _ (Int32.ofNat j) q = _ ∧ _) ∨ ∃ τ', en_oi (T_X12_night_122 (f + 1) _ _ (Int32.ofNat j) q) = _ ∧ _
    rw [t_X12_night_122, if_pos ((pn_lt (by omega) (by omega)).mpr hj), show (2 : Int32) * Int32.ofNat j = Int32.ofNat (2 * j) from pn_mul 2 j, pn_a1, pn_ix (show 2 * j < 160 by omega) (by omega), Option.bind_some, pn_ix (show 2 * j + 1 < 160 by omega) (by omega), Option.bind_some, p4, (hT j hj).1, (hT j hj).2]
    by_cases c : canB g (K j) (V j) = true
    · rw [if_pos c] at p6
      obtain ⟨τ1, e1, e2, e3, e4, ⟨d, e5, e6⟩, e7⟩ := a1 c
      rw [e1, Option.bind_some]
      dsimp only
      rw [if_neg (show ¬ (1 : Int32) = 0 by decide), pn_a1]
      exact Or.inl ⟨τ1, rfl, (p1.did c).mono (by omega), e2, by rw [e3, p3], by rw [e4, p4], by rw [e5, ← Int32.add_assoc, p5]; exact e6.symm, p6, p7.trans e7⟩
    · rw [if_neg c] at p6
      rw [a2 c, Option.bind_some]
      dsimp only
      rw [if_pos (show (0 : Int32) = 0 from rfl), p6]
      obtain ⟨τ', e1, e2, e3⟩ := m_nightEnd (x := x) (m := m) (j := j) hn hl p2 (by rw [p3]; exact hx) (by omega) hm
      rw [hs27 _ _ _ p1.2.2.2.2.2.2.2.1 p5] at e2
      exact Or.inr ⟨τ', e1, e2, p7.trans e3⟩
  · rintro f q ⟨p1, p2, p3, p4, p5, p6, p7⟩
    rw [Nat.sub_self] at p6
    have p6 : dnN g K V m 0 = m := p6
    show ∃ τ', en_oi (T_X12_night_122 (f + 1) _ _ (Int32.ofNat m) q) = _ ∧ _
    rw [t_X12_night_122, if_neg (show ¬ Int32.ofNat m < Int32.ofNat m by rw [pn_lt (by omega) (by omega)]; omega), p6]
    obtain ⟨τ', e1, e2, e3⟩ := m_nightEnd (x := x) (m := m) (j := m) hn hl p2 (by rw [p3]; exact hx) hm hm
    rw [hs27 _ _ _ p1.2.2.2.2.2.2.2.1 p5] at e2
    exact ⟨τ', e1, e2, p7.trans e3⟩
theorem yA_AV {g t ro x us kp} {B : Nat} {K V : Nat → Nat} (hA : AV B (g, t, ro, x, us, kp)) : ∀ d j, AV (B + 60 * j) (g, t, ro, yA g x K V j, us, kp) → AV (B + 60 * (dnN g K V d j)) (g, t, ro, yA g x K V (dnN g K V d j), us, kp)
  | 0, j, h => h
  | d + 1, j, h => by
    unfold dnN
    by_cases c : canB g (K j) (V j) = true
    · rw [if_pos c]
      exact yA_AV hA d (j + 1) ((h.did c).mono (by omega))
    · rw [if_neg c]; exact h
theorem p_night : en_st_night pInv := by
  intro c hc
  refine p_two hc (fun A σ0 hA hB => ?_)
  obtain ⟨g, ⟨L, tx⟩, ro, x, us, kp⟩ := A
  have hgv : GV g := hA.1
  have hn : gN g ≤ 7 := hgv.1
  have hL : L ≤ 80 := hA.2.2.2.2.1
  have hb : ∀ j, tx j < 256 := hA.2.2.2.2.2.1
  have hl : us.length ≤ 12 := hA.2.2.2.2.2.2.2.2.1
  have hAc := hA.clear
  -- so many acts are told
  have good : ∀ (m : Nat) (K V : Nat → Nat), m ≤ 30 → (∀ j, K j ≤ 2) → (∀ j, V j < 128) →
      (CI σ0 (g, (L, tx), ro, x, us, kp) → ∃ σ', O_X2_read [.inr (100, 2, 0, 0), .inr (1, 8, 0, 0)] σ0 = some (Int32.ofNat m, σ') ∧ σ' 100 2 = Int32.ofNat m ∧ (∀ j, j < m → σ' 101 j = Int32.ofNat (K j) ∧ σ' 102 j = Int32.ofNat (V j)) ∧ AFr σ0 σ') →
      (∀ τ, MI τ (g, (L, tx), ro, x, us, kp) → ∃ f u τ', 900000 < f ∧ O_X12_night [.inr (185, 12, 0, 0)] τ = en_oi ((O_X12_lay [.inr (186, 20, 53, 0), .inr (195, 20, 53, 0), .inl (0 : Int32)] τ').bind fun r6 => T_X12_night_122 f (Int32.ofNat m) u (0 : Int32) (en_up r6 185 27 (0 : Int32))) ∧ (∀ j, j < m → τ' 196 (2 * j) = Int32.ofNat (K j) ∧ τ' 196 (2 * j + 1) = Int32.ofNat (V j)) ∧ MI τ' (g, tx0, ro, x, us, kp) ∧ FrM τ τ') →
      ∃ v' A', (CI σ0 (g, (L, tx), ro, x, us, kp) → ∃ σ', O_X11_night [.inr (0, 11, 0, 0)] σ0 = some (v', σ') ∧ CI σ' A' ∧ FrC σ0 σ') ∧ (∀ τ, MI τ (g, (L, tx), ro, x, us, kp) → ∃ τ', O_X12_night [.inr (185, 12, 0, 0)] τ = some (v', τ') ∧ MI τ' A' ∧ FrM τ τ') ∧ AV (2000 * (c + 1)) A' := by
    intro m K V hm hK hV hcl hml
    have hvx : VS (gN g) (2000 * c) x := hA.2.2.2.2.2.2.2.1
    have hdn := dnN_le g K V m 0
    obtain ⟨us', hus⟩ : ∃ us', us' = if dnN g K V m 0 = 0 then us else pushU us x := ⟨_, rfl⟩
    have hAu : AV (2000 * c) (g, tx0, ro, x, us', kp) := by
      rw [hus]
      by_cases h0 : dnN g K V m 0 = 0
      · rw [if_pos h0]; exact hAc
      · rw [if_neg h0]
        exact hAc.live (Nat.le_refl _) hvx (pushU_len hl x).1 (push_VS hl (fun i hi => hAc.2.2.2.2.2.2.2.2.2.1 i hi) hvx) (fun i hi hk => hAc.2.2.2.2.2.2.2.2.2.2 i hi hk)
    have hAy := yA_AV (K := K) (V := V) hAu m 0 hAu
    refine ⟨Int32.ofNat (dnN g K V m 0), (g, tx0, [if dnN g K V m 0 < m then 1 else 0, sD (yA g x K V (dnN g K V m 0)) - sD x, smN (sR (yA g x K V (dnN g K V m 0))) 7 - smN (sR x) 7], yA g x K V (dnN g K V m 0), us', kp), fun hC => ?_, fun τ hM => ?_, (hAy.row (by simp)).mono (by omega)⟩
    · obtain ⟨σ1, e1, e2, e3, e4⟩ := hcl hC
      have hC1 : CI (en_up σ1 1 1 0) (g, tx0, ro, x, us, kp) := (hC.kept (fun c hc => e4 c (by omega)) (by rw [e4 10 (by omega)])).clear
      have hf1 : FrC σ0 (en_up σ1 1 1 0) := fun c hc => by rw [pu_row (by omega), e4 c (by omega)]
      have w2 : (en_up σ1 1 1 0) 100 2 = Int32.ofNat m := by rw [pu_cell (by omega)]; exact e2
      have w3 : ∀ j, j < m → (en_up σ1 1 1 0) 101 j = Int32.ofNat (K j) ∧ (en_up σ1 1 1 0) 102 j = Int32.ofNat (V j) := fun j hj => by rw [pu_cell (by omega), pu_cell (by omega)]; exact e3 j hj
      rw [o_X11_night, t_X11_night_0, e1, Option.bind_some, q_clear, Option.bind_some]
      dsimp only
      rw [if_neg (pn_nlt0 (by omega))]
      generalize en_up σ1 1 1 0 = σ2 at hC1 hf1 w2 w3 ⊢
      -- can the first be done
      have hcan : O_X11_canBeDone [.inr (0, 11, 0, 0), .inl (0 : Int32)] σ2 = some (if dnN g K V m 0 = 0 then 0 else 1, σ2) := by
        by_cases hm0 : m = 0
        · rw [if_pos (by omega), o_X11_canBeDone, t_X11_canBeDone_0, w2, hm0, if_neg (show ¬ (0 : Int32) < Int32.ofNat 0 by decide), if_pos (show (0 : Int32) = 0 ∨ (0 : Int32) = 1 from Or.inl rfl), ite_self]; rfl
        · have hq : O_X11_canBeDone [.inr (0, 11, 0, 0), .inl (0 : Int32)] σ2 = some (if canB g (K 0) (V 0) = true then 1 else 0, σ2) := q_canBe (j := 0) hAc hC1 w2 (by omega) hm (w3 0 (by omega)).1 (w3 0 (by omega)).2 (hK 0) (hV 0)
          rw [hq]
          obtain ⟨d, hd⟩ : ∃ d, m = d + 1 := ⟨m - 1, by omega⟩
          by_cases c : canB g (K 0) (V 0) = true
          · have : dnN g K V m 0 = dnN g K V d 1 := by rw [hd]; exact if_pos c
            have := (dnN_le g K V d 1).1
            rw [if_pos c, if_neg (by omega)]
          · have : dnN g K V m 0 = 0 := by rw [hd]; exact if_neg c
            rw [if_neg c, if_pos this]
      rw [hcan, Option.bind_some]
      dsimp only
      by_cases h0 : dnN g K V m 0 = 0
      · rw [if_pos h0] at hus
        subst hus
        have hs : O_X11_sum [.inr (18, 20, 7, 0)] σ2 = some (smN (sR x) 7, σ2) := q_sumR (k := 15) hC1.2.2.2.1
        rw [if_pos h0, if_pos (show (0 : Int32) = 0 from rfl), hs, Option.bind_some]
        dsimp only
        rw [show σ2 15 6 = sD x from hC1.2.2.2.1.2.2.1]
        obtain ⟨σ', k1, k2, k3⟩ := q_nightLoop (B := 2000 * c) (K := K) (V := V) (m := m) hAu (by omega) hC1 hm w2 w3 hK hV
        exact ⟨σ', k1, k2, hf1.trans k3⟩
      · rw [if_neg h0] at hus
        subst hus
        obtain ⟨σ3, g1, g2, g3⟩ := q_push hC1.2.2.2.2.1 hC1.2.2.2.1 hl
        have hC3 : CI σ3 (g, tx0, ro, x, pushU us x, kp) := hC1.set (CS.all hC1.2.2.2.1 (fun j hj => g3 _ (by omega) (by omega))) g2 (hC1.2.2.2.2.2.fr (fun c h1 h2 => g3 c (by omega) (by omega))) (fun c hc => g3 c (by omega) (by omega))
        have hs : O_X11_sum [.inr (18, 20, 7, 0)] σ3 = some (smN (sR x) 7, σ3) := q_sumR (k := 15) hC3.2.2.2.1
        rw [if_neg h0, if_neg (show ¬ (1 : Int32) = 0 by decide), g1, Option.bind_some, hs, Option.bind_some]
        dsimp only
        rw [show σ3 15 6 = sD x from hC3.2.2.2.1.2.2.1]
        obtain ⟨σ', k1, k2, k3⟩ := q_nightLoop (B := 2000 * c) (K := K) (V := V) (m := m) hAu (by omega) hC3 hm (by rw [g3 100 (by omega) (by omega)]; exact w2) (fun j hj => by rw [g3 101 (by omega) (by omega), g3 102 (by omega) (by omega)]; exact w3 j hj) hK hV
        exact ⟨σ', k1, k2, fun c hc => by rw [k3 c hc, g3 c (by omega) (by omega), hf1 c hc]⟩
    · obtain ⟨f, u, τ1, hf, e1, e2, e3, e4⟩ := hml τ hM
      have hlay : O_X12_lay [.inr (186, 20, 53, 0), .inr (195, 20, 53, 0), .inl (0 : Int32)] τ1 = some (pst τ1 195 (fun i => if 0 ≤ i ∧ i < 0 + 53 then τ1 186 (i - 0) else τ1 195 i)) := r_lay (k0 := 186) (k1 := 195) (n1 := 53) (o := 0) (by omega) (by omega) (by omega)
      have hx : MSr (gN g) (pst τ1 195 (fun i => if 0 ≤ i ∧ i < 0 + 53 then τ1 186 (i - 0) else τ1 195 i) 195) x := by
        rw [pst_same]
        obtain ⟨m1, m2, m3, m4, m5, m6, m7, m8⟩ := e3.2.2.2.1
        have hrow : ∀ i, i < 53 → (fun i => if 0 ≤ i ∧ i < 0 + 53 then τ1 186 (i - 0) else τ1 195 i) i = τ1 186 i := fun i hi => by
          show (if 0 ≤ i ∧ i < 0 + 53 then τ1 186 (i - 0) else τ1 195 i) = _
          rw [if_pos ⟨by omega, by omega⟩]; rfl
        refine ⟨fun q hq => ?_, fun r hr => ⟨?_, ?_, ?_⟩, ?_, ?_, ?_, ?_, ?_, fun j hj => ?_⟩
        · rw [hrow _ (by omega)]; exact m1 q hq
        · rw [hrow _ (by omega)]; exact (m2 r hr).1
        · rw [hrow _ (by omega)]; exact (m2 r hr).2.1
        · rw [hrow _ (by omega)]; exact (m2 r hr).2.2
        · rw [hrow _ (by omega)]; exact m3
        · rw [hrow _ (by omega)]; exact m4
        · rw [hrow _ (by omega)]; exact m5
        · rw [hrow _ (by omega)]; exact m6
        · rw [hrow _ (by omega)]; exact m7
        · rw [hrow _ (by omega)]; exact m8 j hj
      have hne : ∀ c, c ≠ 195 → pst τ1 195 (fun i => if 0 ≤ i ∧ i < 0 + 53 then τ1 186 (i - 0) else τ1 195 i) c = τ1 c := fun c hc => pst_ne hc
      rw [e1, hlay, Option.bind_some]
      generalize pst τ1 195 (fun i => if 0 ≤ i ∧ i < 0 + 53 then τ1 186 (i - 0) else τ1 195 i) = τ2 at hx hne ⊢
      have hM2 : MI τ2 (g, tx0, ro, x, us, kp) := e3.kept (fun j _ => by rw [hne 185 (by omega)]) (fun c hc => hne c (by omega))
      obtain ⟨τ', k1, k2, k3⟩ := r_nightLoop (B := 2000 * c) (K := K) (V := V) (m := m) (f := f) (u := u) hAc (by omega) (hM2.slot 27 0 (by omega)) (by rw [pu_row (by omega)]; exact hx) (pu_same _ _ _ _) hm (fun j hj => by rw [pu_cell (by omega), pu_cell (by omega), hne 196 (by omega)]; exact e2 j hj) hK hV (by omega)
      rw [← hus] at k2
      exact ⟨τ', k1, k2, fun c hc => by rw [k3 c hc, pu_row (by omega), hne c (by omega), e4 c hc]⟩
  -- the reference's beginning
  have hbeg : ∀ τ : en_M, MI τ (g, (L, tx), ro, x, us, kp) → ∃ τ0, O_X12_night [.inr (185, 12, 0, 0)] τ = en_oi (T_X12_night_39 en_FU 0 (if 0 < L then 1 else 0) τ0) ∧ RD τ0 189 L 60 tx 0 (-1) ∧ MI τ0 (g, tx0, ro, x, us, kp) ∧ FrM τ τ0 := fun τ hM => by
    have h8 : τ 185 8 = Int32.ofNat L := hM.2.1.1
    have hM2 := hM.slot 11 0 (by omega)
    have hRD := RD.new (mx := 60) (τ := en_up τ 185 11 0) (show ∀ j, j < L → (en_up τ 185 11 0) 189 j = byt (tx j) from hM2.2.1.2) hb hL (by omega)
    have hbg : O_X12_begin [.inr (185, 12, 0, 0), .inr (189, 21, 80, 0), .inl (Int32.ofNat L), .inl (60 : Int32)] (en_up τ 185 11 0) = some _ := m_rbegin (b := 189) (n1 := 80) (L := L) (mx := 60) (en_up τ 185 11 0)
    refine ⟨_, ?_, hRD.fr (τ' := en_up (en_up (en_up (en_up (en_up (en_up (en_up τ 185 11 0) 185 12 (Int32.ofNat (189 + 1))) 185 13 (Int32.ofNat L)) 185 14 (Int32.ofNat 60)) 185 15 0) 185 16 (-1)) 185 8 0) (fun j _ _ => pu_slot (by omega)) (pu_row (by omega)), (((((hM2.slot 12 _ (by omega)).slot 13 _ (by omega)).slot 14 _ (by omega)).slot 15 _ (by omega)).slot 16 _ (by omega)).clear, fun c hc => by rw [pu_row (by omega), pu_row (by omega), pu_row (by omega), pu_row (by omega), pu_row (by omega), pu_row (by omega), pu_row (by omega)]⟩
    rw [o_X12_night, t_X12_night_0, h8, hbg, Option.bind_some, hRD.2.1, pi_if (pn_0lt (b := L) (by omega))]
    by_cases c : 0 < L
    · rw [if_pos c, if_pos c]
    · rw [if_neg c, if_neg c]
  by_cases hL0 : L = 0
  · refine good 0 (fun _ => 0) (fun _ => 0) (by omega) (fun _ => by omega) (fun _ => by omega) (fun hC => ?_) (fun τ hM => ?_)
    · have h11 : σ0 1 1 = Int32.ofNat L := hC.2.1.1
      obtain ⟨f, hf⟩ : ∃ j, en_FU = j + 1 := ⟨en_FU - 1, by have := en_FU_ge; omega⟩
      refine ⟨en_up (en_up σ0 100 2 0) 100 2 0, ?_, pu_same _ _ _ _, fun j hj => absurd hj (by omega), fun c hc => by rw [pu_row (by omega), pu_row (by omega)]⟩
      rw [o_X2_read, t_X2_read_0, hf, t_X2_read_9, if_pos (show (0 : Int32) < 30 by decide), pu_cell (show 1 ≠ 100 by omega), h11, hL0, if_neg (show ¬ (0 : Int32) < Int32.ofNat 0 by decide), if_pos (show Int32.ofNat 0 = 0 from rfl)]; rfl
    · obtain ⟨τ0, e1, e2, e3, e4⟩ := hbeg τ hM
      obtain ⟨f, hf⟩ : ∃ j, en_FU = j + 1 := ⟨en_FU - 1, by have := en_FU_ge; omega⟩
      have hFU := en_FU_ge
      rw [if_neg (by omega), hf, t_X12_night_39, if_pos (show (0 : Int32) = 0 from rfl), e2.2.2.2.1, e2.2.1, if_neg (by rw [pn_lt (by omega) (by omega)]; omega), m_fine_y e2, Option.bind_some] at e1
      dsimp only at e1
      rw [if_neg (show ¬ (1 : Int32) = 0 by decide)] at e1
      exact ⟨f, 0, τ0, by omega, e1, fun j hj => absurd hj (by omega), e3, e4⟩
  have hfR : ∀ τ τ' : en_M, MI τ (g, tx0, ro, x, us, kp) → FrN τ τ' → MI τ' (g, tx0, ro, x, us, kp) ∧ FrM τ τ' := fun τ τ' h hF => ⟨h.kept (fun j hj => hF.2 j (by omega)) (fun c hc => hF.1 c (by omega) (by omega)), fun c hc => hF.1 c (by omega) (by omega)⟩
  have hnt := ntR_le L tx 30 0 0 (by omega)
  by_cases ok : (ntR L tx 30 0 0).1 = 0
  · refine ⟨-1 - Int32.ofNat (ntR L tx 30 0 0).2, (g, tx0, ro, x, us, kp), fun hC => ?_, fun τ hM => ?_, hAc.mono (by omega)⟩
    · obtain ⟨σ1, e1, e2⟩ := (q_nread (show CT σ0 L tx from hC.2.1) hL (by omega) hb).1 ok
      have hC1 : CI σ1 (g, (L, tx), ro, x, us, kp) := hC.kept (fun c hc => e2 c (by omega)) (by rw [e2 10 (by omega)])
      refine ⟨en_up σ1 1 1 0, ?_, hC1.clear, fun c hc => by rw [pu_row (by omega), e2 c (by omega)]⟩
      rw [o_X11_night, t_X11_night_0, e1, Option.bind_some, q_clear, Option.bind_some]
      dsimp only
      rw [if_pos (show (-1 : Int32) - Int32.ofNat (ntR L tx 30 0 0).2 < 0 from (by decide : ∀ s < 61, (-1 : Int32) - Int32.ofNat s < 0) _ (by omega))]; rfl
    · obtain ⟨τ0, e1, e2, e3, e4⟩ := hbeg τ hM
      rw [if_pos (by omega)] at e1
      obtain ⟨τ', r1, r2⟩ := (r_nread e2 (by omega)).1 ok
      have := hfR τ0 τ' e3 r2
      exact ⟨τ', e1.trans r1, this.1, e4.trans this.2⟩
  · refine good (ntR L tx 30 0 0).1 (ntK L tx) (ntV L tx) (by omega) (fun j => (actN_b L tx _).1) (fun j => (actN_b L tx _).2) (fun hC => (q_nread (show CT σ0 L tx from hC.2.1) hL (by omega) hb).2 ok) (fun τ hM => ?_)
    obtain ⟨τ0, e1, e2, e3, e4⟩ := hbeg τ hM
    rw [if_pos (by omega)] at e1
    obtain ⟨f, u, τ', hf, r1, r2, r3⟩ := (r_nread e2 (by omega)).2 ok
    have := hfR τ0 τ' e3 r3
    exact ⟨f, u, τ', hf, e1.trans (congrArg en_oi r1), r2, this.1, e4.trans this.2⟩
