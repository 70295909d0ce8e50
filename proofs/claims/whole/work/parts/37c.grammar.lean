/-! rule: the class's grammar -/
theorem c_thing {L : Nat} {tx : Nat → Nat} (hb : ∀ j, tx j < 256) (hL : L ≤ 80) {D d : Nat} {ex : Nat → PRs} {deep : Bool} (hd : d ≤ 4) (hdp : deep = decide (d < 4)) (hG : GPr ex) (hex : d < 4 → CCr L tx (cX D 0 (d + 1)) ex) : CCr L tx (cX (D + 2) 4 d) (thP L tx ex deep) := by
  intro σ p w hT h6 hp h5 hw
  have h01 : (0 : Int32) = 0 ∨ (0 : Int32) = 1 := Or.inl rfl
  have h11 : (1 : Int32) = 0 ∨ (1 : Int32) = 1 := Or.inr rfl
  rw [show cX (D + 2) 4 d σ = en_oi (T_X6_readThing_0 (RG_X6_readExpression (D + 1)) (Int32.ofNat d) σ) from rfl, t_X6_readThing_0, q_peek hT hL h6 hp, Option.bind_some]
  dsimp only
  rw [pi_if (show (sgn L 40 tx p = (40 : Int32)) = (sgN L tx p = 40) from sg_eq (c := 40) hb (by omega))]
  have bad : ∀ σ' : en_M, FW σ σ' → ∀ w', w' ≤ 40 → σ' 10 5 = Int32.ofNat w' → ∀ q, σ' 10 6 = Int32.ofNat q → thP L tx ex deep p = flP q → ∃ σ'' w', some ((0 : Int32), σ') = some (if (thP L tx ex deep p).1 = true then 1 else 0, σ'') ∧ σ'' 10 6 = Int32.ofNat (thP L tx ex deep p).2.1 ∧ σ'' 10 5 = Int32.ofNat w' ∧ w' ≤ 40 ∧ FW σ σ'' ∧ ((thP L tx ex deep p).1 = true → w' = w + (thP L tx ex deep p).2.2.1.length ∧ WC σ σ'' w (thP L tx ex deep p).2.2.1) := fun σ' hf w' hw' h5' q h6' he => by
    rw [he]
    exact ⟨σ', w', rfl, h6', h5', hw', hf, fun z => absurd (show false = true from z) (by decide)⟩
  by_cases c1 : sgN L tx p = 40
  · have hi := sgN_in (by omega) c1
    rw [if_pos c1]
    have h5r : RG_X6_readExpression (D + 1) 5 [.inr (10, 6, 0, 0), .inr (1, 8, 0, 0), .inl (Int32.ofNat d)] σ = en_oi (T_X6_readInside_0 (RG_X6_readExpression D) (Int32.ofNat d) σ) := rfl
    rw [h5r, t_X6_readInside_0, pi_if (show (Int32.ofNat d < (4 : Int32)) = (d < 4) from pn_lt (b := 4) (by omega) (by omega))]
    by_cases cd : d < 4
    · have hdeep : deep = true := by rw [hdp]; exact decide_eq_true cd
      obtain ⟨σ1, w1, e1, e2, e3, e4, e5, e6⟩ := hex cd (en_up σ 10 6 (Int32.ofNat (p + 1))) (p + 1) w (hT.fw (FW.at σ _)) (pu_same _ _ _ _) (by omega) (by rw [pu_slot (by omega)]; exact h5) (by omega)
      obtain ⟨g1, g2, g3⟩ := hG (p + 1) (by omega)
      have hF1 : FW σ σ1 := (FW.at σ _).trans e5
      have e1' : RG_X6_readExpression D 0 [.inr (10, 6, 0, 0), .inr (1, 8, 0, 0), .inl (Int32.ofNat (d + 1))] (en_up σ 10 6 (Int32.ofNat (p + 1))) = some (if (ex (p + 1)).1 = true then 1 else 0, σ1) := e1
      have hth : thP L tx ex deep p = (if (ex (p + 1)).1 = false then flP (ex (p + 1)).2.1 else if sgN L tx (ex (p + 1)).2.1 = 41 then (true, (ex (p + 1)).2.1 + 1, (ex (p + 1)).2.2.1, (ex (p + 1)).2.2.2) else flP (ex (p + 1)).2.1) := if_pos ⟨c1, hdeep⟩
      rw [if_pos cd, h6, pn_a1, pn_a1, e1', Option.bind_some]
      dsimp only
      by_cases cx : (ex (p + 1)).1 = true
      · rw [if_pos cx, if_neg (show ¬ (1 : Int32) = 0 by decide), q_peek (hT.fw hF1) hL e2 g2, Option.bind_some]
        dsimp only
        rw [pi_if (show (sgn L 40 tx (ex (p + 1)).2.1 = (41 : Int32)) = (sgN L tx (ex (p + 1)).2.1 = 41) from sg_eq (c := 41) hb (by omega))]
        rw [if_neg (by rw [cx]; decide)] at hth
        by_cases c41 : sgN L tx (ex (p + 1)).2.1 = 41
        · rw [if_pos c41] at hth
          obtain ⟨e7, e8⟩ := e6 cx
          rw [if_pos c41, if_pos h11, e2, pn_a1]
          show ∃ σ' w', en_oi ((some ((1 : Int32), en_up σ1 10 6 (Int32.ofNat ((ex (p + 1)).2.1 + 1)))).bind fun r9 => _) = _ ∧ _
          rw [Option.bind_some]
          rw [if_pos h11, hth]
          have u12 : en_up σ1 10 6 (Int32.ofNat ((ex (p + 1)).2.1 + 1)) 12 = σ1 12 := pu_row (by omega)
          have u5 : en_up σ1 10 6 (Int32.ofNat ((ex (p + 1)).2.1 + 1)) 10 5 = σ1 10 5 := pu_slot (by omega)
          have v12 : en_up σ 10 6 (Int32.ofNat (p + 1)) 12 = σ 12 := pu_row (by omega)
          exact ⟨en_up σ1 10 6 (Int32.ofNat ((ex (p + 1)).2.1 + 1)), w1, rfl, pu_same _ _ _ _, u5.trans e3, e4, hF1.trans (FW.at σ1 _), fun _ => ⟨e7, WC.c12 (b := σ1) (WC.c12b (a := σ) e8 v12) u12⟩⟩
        · rw [if_neg c41] at hth
          rw [if_neg c41, if_pos h01]
          show ∃ σ' w', en_oi ((some ((0 : Int32), σ1)).bind fun r9 => _) = _ ∧ _
          rw [Option.bind_some]
          rw [if_pos h01]
          exact bad σ1 hF1 w1 e4 e3 _ e2 hth
      · have cx' : (ex (p + 1)).1 = false := Bool.eq_false_iff.mpr cx
        rw [if_pos cx'] at hth
        rw [if_neg cx, if_pos (show (0 : Int32) = 0 from rfl), if_pos h01]
        show ∃ σ' w', en_oi ((some ((0 : Int32), σ1)).bind fun r9 => _) = _ ∧ _
        rw [Option.bind_some]
        rw [if_pos h01]
        exact bad σ1 hF1 w1 e4 e3 _ e2 hth
    · have hdeep : ¬ deep = true := by rw [hdp]; exact fun z => cd (of_decide_eq_true z)
      have hth : thP L tx ex deep p = flP p := by
        unfold thP
        rw [if_neg (fun z => hdeep z.2), if_neg (by omega), c1, if_neg (by decide)]
      rw [if_neg cd, if_pos h01]
      show ∃ σ' w', en_oi ((some ((0 : Int32), σ)).bind fun r9 => _) = _ ∧ _
      rw [Option.bind_some]
      rw [if_pos h01]
      exact bad σ (FW.refl σ) w (by omega) h5 _ h6 hth
  · rw [if_neg c1]
    have hth0 : thP L tx ex deep p = (if 48 ≤ sgN L tx p ∧ sgN L tx p < 58 then (true, (dgN L 40 tx 2 (p + 1) (tx p - 48)).1, [(dgN L 40 tx 2 (p + 1) (tx p - 48)).2], fun _ => Int32.ofNat (dgN L 40 tx 2 (p + 1) (tx p - 48)).2) else if lxN (sgN L tx p) < 7 then (true, p + 1, [1000 + lxN (sgN L tx p)], fun th => th (lxN (sgN L tx p))) else flP p) := if_neg (fun z => c1 z.1)
    -- a letter, or nothing
    have letter : ∀ r : en_R, ¬ (48 ≤ sgN L tx p ∧ sgN L tx p < 58) → r = (if sgn L 40 tx p < 0 then (if (-1 : Int32) < 0 then (if (0 : Int32) = 0 ∨ (0 : Int32) = 1 then en_ri (0 : Int32) σ else none) else ((O_X6_write [.inr (10, 6, 0, 0), .inl ((1000 : Int32) + (-1 : Int32))] σ).bind fun r4 => if (1 : Int32) = 0 ∨ (1 : Int32) = 1 then en_ri (1 : Int32) (en_up r4 10 6 ((r4 10 6) + (1 : Int32))) else none)) else ((O_J0_indexOf_0f7a4 [.inr (0, 31, 0, 0), .inl (en_i2c (sgn L 40 tx p))] σ).bind fun r2 => if r2.1 < 0 then (if (0 : Int32) = 0 ∨ (0 : Int32) = 1 then en_ri (0 : Int32) r2.2 else none) else ((O_X6_write [.inr (10, 6, 0, 0), .inl ((1000 : Int32) + r2.1)] r2.2).bind fun r3 => if (1 : Int32) = 0 ∨ (1 : Int32) = 1 then en_ri (1 : Int32) (en_up r3 10 6 ((r3 10 6) + (1 : Int32))) else none))) →
        ∃ σ' w', en_oi r = some (if (thP L tx ex deep p).1 = true then 1 else 0, σ') ∧ σ' 10 6 = Int32.ofNat (thP L tx ex deep p).2.1 ∧ σ' 10 5 = Int32.ofNat w' ∧ w' ≤ 40 ∧ FW σ σ' ∧ ((thP L tx ex deep p).1 = true → w' = w + (thP L tx ex deep p).2.2.1.length ∧ WC σ σ' w (thP L tx ex deep p).2.2.1) := by
      rintro r hnd rfl
      rw [if_neg hnd] at hth0
      by_cases cu : sgN L tx p < 256
      · have hi := sgN_in cu rfl
        rw [sg_of cu, if_neg (pn_nlt0 (by omega)), q_indexOf cu, Option.bind_some]
        dsimp only
        by_cases cl : lxN (sgN L tx p) < 7
        · rw [if_pos cl] at hth0
          obtain ⟨σ', w', e1, e2, e3, e4, e5, e6⟩ := q_cwrite (w := w) h5 (by omega) (1000 + lxN (sgN L tx p))
          obtain ⟨e7, e8⟩ := e6 (by omega)
          have e1' : O_X6_write [.inr (10, 6, 0, 0), .inl ((1000 : Int32) + Int32.ofNat (lxN (sgN L tx p)))] σ = some σ' := by rw [show (1000 : Int32) + Int32.ofNat (lxN (sgN L tx p)) = Int32.ofNat (1000 + lxN (sgN L tx p)) from pn_add 1000 _]; exact e1
          rw [if_pos cl, if_neg (pn_nlt0 (by omega)), e1', Option.bind_some, if_pos h11, e5, h6, pn_a1, hth0]
          exact ⟨_, w', rfl, pu_same _ _ _ _, by rw [pu_slot (by omega)]; exact e2, e3, e4.trans (FW.at σ' _), fun _ => ⟨e7, e8.c12 (pu_row (by omega))⟩⟩
        · rw [if_neg cl] at hth0
          rw [if_neg cl, if_pos (show (-1 : Int32) < 0 by decide), if_pos h01]
          exact bad σ (FW.refl σ) w (by omega) h5 _ h6 hth0
      · have hs := sg_no hb cu
        have hlx : ¬ lxN (sgN L tx p) < 7 := by
          have : sgN L tx p = 256 := by
            have := hb p
            unfold sgN at cu ⊢
            by_cases z : p < L ∧ p < 40
            · rw [if_pos z] at cu; omega
            · rw [if_neg z]
          rw [this]; decide
        rw [if_neg hlx] at hth0
        rw [if_pos hs, if_pos (show (-1 : Int32) < 0 by decide), if_pos h01]
        exact bad σ (FW.refl σ) w (by omega) h5 _ h6 hth0
    by_cases c48 : sgn L 40 tx p < 48
    · rw [if_pos c48]
      refine letter _ (fun z => ?_) rfl
      rw [sg_of (by omega)] at c48
      have := (pn_lt (b := 48) (by omega) (by omega)).mp c48
      omega
    · rw [if_neg c48]
      have hlt : sgN L tx p < 256 := Classical.byContradiction fun z => c48 (Int32.lt_trans (sg_no hb z) (by decide))
      by_cases c57 : (57 : Int32) < sgn L 40 tx p
      · rw [if_pos c57]
        refine letter _ (fun z => ?_) rfl
        rw [sg_of hlt] at c57
        have := (pn_lt (a := 57) (by omega) (by omega)).mp c57
        omega
      · rw [if_neg c57]
        have hd9 : 48 ≤ sgN L tx p ∧ sgN L tx p < 58 := by
          rw [sg_of hlt] at c48 c57
          have z1 : ¬ sgN L tx p < 48 := fun z => c48 ((pn_lt (b := 48) (by omega) (by omega)).mpr z)
          have z2 : ¬ 57 < sgN L tx p := fun z => c57 ((pn_lt (a := 57) (by omega) (by omega)).mpr z)
          exact ⟨by omega, by omega⟩
        rw [if_pos hd9] at hth0
        obtain ⟨σ', w', e1, e2, e3, e4, e5, e6, e7⟩ := q_readNumber hb hL hT h6 hp h5 hw hd9
        rw [e1, Option.bind_some, if_pos h11, hth0]
        exact ⟨σ', w', rfl, e2, e3, e4, e5, fun _ => ⟨e6, e7⟩⟩
theorem c_factor {L : Nat} {tx : Nat → Nat} (hb : ∀ j, tx j < 256) (hL : L ≤ 80) {D d : Nat} {th : Nat → PRs} (hG : GPr th) (hq : CCr L tx (cX D 4 d) th) : CCr L tx (cX (D + 1) 3 d) (faP L tx th) := by
  intro σ p w hT h6 hp h5 hw
  have hFU := en_FU_ge
  rw [show cX (D + 1) 3 d σ = en_oi (T_X6_readFactor_0 (RG_X6_readExpression D) (Int32.ofNat d) σ) from rfl, t_X6_readFactor_0]
  have fin : ∀ m υ, m = miN L tx 40 p → CT υ L tx → FW σ υ → υ 12 = σ 12 → υ 10 5 = σ 10 5 → υ 10 6 = Int32.ofNat (p + m) → ∃ σ' w', en_oi (((RG_X6_readExpression D) 4 [.inr (10, 6, 0, 0), .inr (1, 8, 0, 0), .inl (Int32.ofNat d)] υ).bind fun r1 => if (2 : Int32) = 0 then none else (if (Int32.ofNat m - Int32.ofNat m / (2 : Int32) * (2 : Int32)) = (1 : Int32) then ((O_X6_write [.inr (10, 6, 0, 0), .inl (1100 : Int32)] r1.2).bind fun r2 => if r1.1 = 0 ∨ r1.1 = 1 then en_ri r1.1 r2 else none) else (if r1.1 = 0 ∨ r1.1 = 1 then en_ri r1.1 r1.2 else none))) = some (if (faP L tx th p).1 = true then 1 else 0, σ') ∧ σ' 10 6 = Int32.ofNat (faP L tx th p).2.1 ∧ σ' 10 5 = Int32.ofNat w' ∧ w' ≤ 40 ∧ FW σ σ' ∧ ((faP L tx th p).1 = true → w' = w + (faP L tx th p).2.2.1.length ∧ WC σ σ' w (faP L tx th p).2.2.1) := by
    intro m υ hm hTu hFu h12 hu5 hu6
    have hmle := miN_le L tx 40 p hp
    rw [← hm] at hmle
    obtain ⟨σ1, w1, e1, e2, e3, e4, e5, e6⟩ := hq υ (p + m) w hTu hu6 hmle.1 (by rw [hu5]; exact h5) (by omega)
    have e1' : RG_X6_readExpression D 4 [.inr (10, 6, 0, 0), .inr (1, 8, 0, 0), .inl (Int32.ofNat d)] υ = some (if (th (p + m)).1 = true then 1 else 0, σ1) := e1
    obtain ⟨g1, g2, g3⟩ := hG (p + m) hmle.1
    have hfa : faP L tx th p = (if (th (p + m)).1 = false then flP (th (p + m)).2.1 else (true, (th (p + m)).2.1, (th (p + m)).2.2.1 ++ (if m % 2 = 1 then [1100] else []), fun a => if m % 2 = 1 then -(th (p + m)).2.2.2 a else (th (p + m)).2.2.2 a)) := by
      unfold faP
      rw [← hm]
    rw [e1', Option.bind_some, if_neg (show ¬ (2 : Int32) = 0 by decide), pi_if (show (Int32.ofNat m - Int32.ofNat m / (2 : Int32) * (2 : Int32) = (1 : Int32)) = (m % 2 = 1) by
      rw [show Int32.ofNat m - Int32.ofNat m / (2 : Int32) * (2 : Int32) = Int32.ofNat (m % 2) from pn_mod (b := 2) (by omega) (by omega)]; exact pn_eq1 (by omega))]
    have h01 : ∀ b : Bool, ((if b = true then (1 : Int32) else 0) = 0 ∨ (if b = true then (1 : Int32) else 0) = 1) := fun b => by cases b <;> decide
    dsimp only
    by_cases cm : m % 2 = 1
    · obtain ⟨σ2, w2, k1, k2, k3, k4, k5, k6⟩ := q_cwrite (σ := σ1) (w := w1) e3 e4 1100
      have k1' : O_X6_write [.inr (10, 6, 0, 0), .inl (1100 : Int32)] σ1 = some σ2 := k1
      rw [if_pos cm, k1', Option.bind_some, if_pos (h01 _)]
      by_cases cx : (th (p + m)).1 = true
      · rw [if_neg (by rw [cx]; decide), if_pos cm] at hfa
        obtain ⟨e7, e8⟩ := e6 cx
        obtain ⟨o1, o2, -⟩ := g3 cx
        have hm0 : 1 ≤ m := by omega
        obtain ⟨k7, k8⟩ := k6 (by omega)
        rw [cx, hfa]
        refine ⟨σ2, w2, rfl, by rw [k5]; exact e2, k2, k3, (hFu.trans e5).trans k4, fun _ => ⟨?_, ?_⟩⟩
        · show w2 = w + ((th (p + m)).2.2.1 ++ [1100]).length
          rw [List.length_append]
          show w2 = w + ((th (p + m)).2.2.1.length + 1)
          omega
        · exact WC.app (e8.c12b h12) (by rw [← e7]; exact k8)
      · have cx' : (th (p + m)).1 = false := Bool.eq_false_iff.mpr cx
        rw [if_pos cx'] at hfa
        rw [cx', hfa]
        exact ⟨σ2, w2, rfl, by rw [k5]; exact e2, k2, k3, (hFu.trans e5).trans k4, fun z => absurd (show false = true from z) (by decide)⟩
    · rw [if_neg cm, if_pos (h01 _)]
      by_cases cx : (th (p + m)).1 = true
      · rw [if_neg (by rw [cx]; decide), if_neg cm, List.append_nil] at hfa
        obtain ⟨e7, e8⟩ := e6 cx
        rw [cx, hfa]
        exact ⟨σ1, w1, rfl, e2, e3, e4, hFu.trans e5, fun _ => ⟨e7, e8.c12b h12⟩⟩
      · have cx' : (th (p + m)).1 = false := Bool.eq_false_iff.mpr cx
        rw [if_pos cx'] at hfa
        rw [cx', hfa]
        exact ⟨σ1, w1, rfl, e2, e3, e4, hFu.trans e5, fun z => absurd (show false = true from z) (by decide)⟩
  have main : ∀ K i f υ, i + K = 40 → K + 5 < f → miN L tx 40 p = i + miN L tx K (p + i) → p + i ≤ 40 → CT υ L tx → FW σ υ → υ 12 = σ 12 → υ 10 5 = σ 10 5 → υ 10 6 = Int32.ofNat (p + i) → ∃ σ' w', en_oi (T_X6_readFactor_2 (RG_X6_readExpression D) f (Int32.ofNat d) (Int32.ofNat i) υ) = some (if (faP L tx th p).1 = true then 1 else 0, σ') ∧ σ' 10 6 = Int32.ofNat (faP L tx th p).2.1 ∧ σ' 10 5 = Int32.ofNat w' ∧ w' ≤ 40 ∧ FW σ σ' ∧ ((faP L tx th p).1 = true → w' = w + (faP L tx th p).2.2.1.length ∧ WC σ σ' w (faP L tx th p).2.2.1) := by
    intro K
    induction K with
    | zero =>
      intro i f υ hi hf hm h40 hTu hFu h12 hu5 hu6
      obtain ⟨f, rfl⟩ : ∃ j, f = j + 1 := Nat.exists_eq_succ_of_ne_zero (by omega)
      have hm : miN L tx 40 p = i + 0 := hm
      rw [t_X6_readFactor_2, if_neg (show ¬ Int32.ofNat i < (40 : Int32) from fun z => by have := (pn_lt (b := 40) (by omega) (by omega)).mp z; omega)]
      exact fin i υ (by omega) hTu hFu h12 hu5 hu6
    | succ K ih =>
      intro i f υ hi hf hm h40 hTu hFu h12 hu5 hu6
      obtain ⟨f, rfl⟩ : ∃ j, f = j + 1 := Nat.exists_eq_succ_of_ne_zero (by omega)
      conv at hm => rhs; unfold miN
      rw [t_X6_readFactor_2, if_pos (show Int32.ofNat i < (40 : Int32) from (pn_lt (b := 40) (by omega) (by omega)).mpr (by omega)), q_peek hTu hL hu6 h40, Option.bind_some]
      dsimp only
      rw [pi_if (show (sgn L 40 tx (p + i) = (45 : Int32)) = (sgN L tx (p + i) = 45) from sg_eq (c := 45) hb (by omega))]
      by_cases c : sgN L tx (p + i) = 45
      · have hz := sgN_in (by omega) c
        rw [if_pos c] at hm
        rw [if_pos c, hu6, pn_a1, pn_a1]
        exact ih (i + 1) f _ (by omega) (by omega) (by rw [show p + (i + 1) = p + i + 1 by omega]; omega) (by omega) (hTu.fw (FW.at υ _)) (hFu.trans (FW.at υ _)) (by rw [pu_row (by omega)]; exact h12) (by rw [pu_slot (by omega)]; exact hu5) (pu_same _ _ _ _)
      · rw [if_neg c] at hm
        rw [if_neg c]
        exact fin i υ (by omega) hTu hFu h12 hu5 hu6
  exact main 40 0 en_FU σ rfl (by omega) (by rw [Nat.zero_add]; rfl) hp hT (FW.refl σ) rfl rfl h6
theorem c_product {L : Nat} {tx : Nat → Nat} (hb : ∀ j, tx j < 256) (hL : L ≤ 80) {D d : Nat} {q : Nat → PRs} (hG : GPr q) (hq : CCr L tx (cX D 3 d) q) : CCr L tx (cX (D + 1) 2 d) (opP L tx 42 47 q) := by
  intro σ p w hT h6 hp h5 hw
  have hFU := en_FU_ge
  have h01 : ∀ b : Bool, ((if b = true then (1 : Int32) else 0) = 0 ∨ (if b = true then (1 : Int32) else 0) = 1) := fun b => by cases b <;> decide
  obtain ⟨σ1, w1, e1, e2, e3, e4, e5, e6⟩ := hq σ p w hT h6 hp h5 hw
  have e1' : RG_X6_readExpression D 3 [.inr (10, 6, 0, 0), .inr (1, 8, 0, 0), .inl (Int32.ofNat d)] σ = some (if (q p).1 = true then 1 else 0, σ1) := e1
  obtain ⟨g1, g2, g3⟩ := hG p hp
  rw [show cX (D + 1) 2 d σ = en_oi (T_X6_readProduct_0 (RG_X6_readExpression D) (Int32.ofNat d) σ) from rfl, t_X6_readProduct_0, e1', Option.bind_some]
  dsimp only
  -- it has failed
  have stop : ∀ f i u υ, i ≤ 40 → T_X6_readProduct_10 (RG_X6_readExpression D) (f + 1) (Int32.ofNat d) 0 (Int32.ofNat i) u υ = en_ri 0 υ := fun f i u υ hi => by
    rw [t_X6_readProduct_10, if_pos (show (0 : Int32) = 0 from rfl), if_pos (show (0 : Int32) = 0 ∨ (0 : Int32) = 1 from Or.inl rfl), ite_self]
  obtain ⟨f0, hf0⟩ : ∃ j, en_FU = j + 1 := Nat.exists_eq_succ_of_ne_zero (by omega)
  by_cases cx : (q p).1 = true
  · have hop : opP L tx 42 47 q p = lpP L tx 42 47 q 40 (q p) := if_neg (by rw [cx]; decide)
    obtain ⟨e7, e8⟩ := e6 cx
    rw [if_pos cx, hop]
    have main : ∀ K i (a : PRs) f u υ, i + K = 40 → K + 5 < f → a.1 = true → a.2.1 ≤ 40 → OKr p a → CT υ L tx → FW σ υ → υ 10 6 = Int32.ofNat a.2.1 → υ 10 5 = Int32.ofNat (w + a.2.2.1.length) → WC σ υ w a.2.2.1 →
        ∃ σ' w', en_oi (T_X6_readProduct_10 (RG_X6_readExpression D) f (Int32.ofNat d) 1 (Int32.ofNat i) u υ) = some (if (lpP L tx 42 47 q K a).1 = true then 1 else 0, σ') ∧ σ' 10 6 = Int32.ofNat (lpP L tx 42 47 q K a).2.1 ∧ σ' 10 5 = Int32.ofNat w' ∧ w' ≤ 40 ∧ FW σ σ' ∧ ((lpP L tx 42 47 q K a).1 = true → w' = w + (lpP L tx 42 47 q K a).2.2.1.length ∧ WC σ σ' w (lpP L tx 42 47 q K a).2.2.1) := by
      intro K
      induction K with
      | zero =>
        intro i a f u υ hi hf ha hle ho hTu hFu hu6 hu5 hwc
        obtain ⟨f, rfl⟩ : ∃ j, f = j + 1 := Nat.exists_eq_succ_of_ne_zero (by omega)
        obtain ⟨o1, o2, -⟩ := ho
        rw [t_X6_readProduct_10, if_neg (show ¬ Int32.ofNat i < (40 : Int32) from fun z => by have := (pn_lt (b := 40) (by omega) (by omega)).mp z; omega), if_pos (show (1 : Int32) = 0 ∨ (1 : Int32) = 1 from Or.inr rfl)]
        show ∃ σ' w', _ = some (if a.1 = true then 1 else 0, σ') ∧ _
        rw [ha]
        exact ⟨υ, _, rfl, hu6, hu5, by omega, hFu, fun _ => ⟨rfl, hwc⟩⟩
      | succ K ih =>
        intro i a f u υ hi hf ha hle ho hTu hFu hu6 hu5 hwc
        obtain ⟨f, rfl⟩ : ∃ j, f = j + 1 := Nat.exists_eq_succ_of_ne_zero (by omega)
        obtain ⟨o1, o2, -⟩ := id ho
        rw [t_X6_readProduct_10, if_pos (show Int32.ofNat i < (40 : Int32) from (pn_lt (b := 40) (by omega) (by omega)).mpr (by omega)), if_neg (show ¬ (1 : Int32) = 0 by decide), q_peek hTu hL hu6 hle, Option.bind_some]
        dsimp only
        rw [pi_if (show (sgn L 40 tx a.2.1 = (42 : Int32)) = (sgN L tx a.2.1 = 42) from sg_eq (c := 42) hb (by omega)), pi_if (show (sgn L 40 tx a.2.1 = (47 : Int32)) = (sgN L tx a.2.1 = 47) from sg_eq (c := 47) hb (by omega)), if_pos (show (1 : Int32) = 0 ∨ (1 : Int32) = 1 from Or.inr rfl)]
        unfold lpP
        -- one more
        have more : (sgN L tx a.2.1 = 42 ∨ sgN L tx a.2.1 = 47) → ∀ r : en_R, r = (((RG_X6_readExpression D) 3 [.inr (10, 6, 0, 0), .inr (1, 8, 0, 0), .inl (Int32.ofNat d)] (en_up υ 10 6 ((υ 10 6) + (1 : Int32)))).bind fun r3 => (O_X6_write [.inr (10, 6, 0, 0), .inl ((2000 : Int32) + sgn L 40 tx a.2.1)] r3.2).bind fun r4 => T_X6_readProduct_10 (RG_X6_readExpression D) f (Int32.ofNat d) r3.1 (Int32.ofNat i + (1 : Int32)) (.inl (sgn L 40 tx a.2.1)) r4) →
            ∃ σ' w', en_oi r = some (if (if (q (a.2.1 + 1)).1 = false then flP (q (a.2.1 + 1)).2.1 else lpP L tx 42 47 q K (true, (q (a.2.1 + 1)).2.1, a.2.2.1 ++ (q (a.2.1 + 1)).2.2.1 ++ [2000 + sgN L tx a.2.1], fun th => wkV (sgN L tx a.2.1) (a.2.2.2 th) ((q (a.2.1 + 1)).2.2.2 th))).1 = true then 1 else 0, σ') ∧ σ' 10 6 = Int32.ofNat (if (q (a.2.1 + 1)).1 = false then flP (q (a.2.1 + 1)).2.1 else lpP L tx 42 47 q K (true, (q (a.2.1 + 1)).2.1, a.2.2.1 ++ (q (a.2.1 + 1)).2.2.1 ++ [2000 + sgN L tx a.2.1], fun th => wkV (sgN L tx a.2.1) (a.2.2.2 th) ((q (a.2.1 + 1)).2.2.2 th))).2.1 ∧ σ' 10 5 = Int32.ofNat w' ∧ w' ≤ 40 ∧ FW σ σ' ∧ ((if (q (a.2.1 + 1)).1 = false then flP (q (a.2.1 + 1)).2.1 else lpP L tx 42 47 q K (true, (q (a.2.1 + 1)).2.1, a.2.2.1 ++ (q (a.2.1 + 1)).2.2.1 ++ [2000 + sgN L tx a.2.1], fun th => wkV (sgN L tx a.2.1) (a.2.2.2 th) ((q (a.2.1 + 1)).2.2.2 th))).1 = true → w' = w + (if (q (a.2.1 + 1)).1 = false then flP (q (a.2.1 + 1)).2.1 else lpP L tx 42 47 q K (true, (q (a.2.1 + 1)).2.1, a.2.2.1 ++ (q (a.2.1 + 1)).2.2.1 ++ [2000 + sgN L tx a.2.1], fun th => wkV (sgN L tx a.2.1) (a.2.2.2 th) ((q (a.2.1 + 1)).2.2.2 th))).2.2.1.length ∧ WC σ σ' w (if (q (a.2.1 + 1)).1 = false then flP (q (a.2.1 + 1)).2.1 else lpP L tx 42 47 q K (true, (q (a.2.1 + 1)).2.1, a.2.2.1 ++ (q (a.2.1 + 1)).2.2.1 ++ [2000 + sgN L tx a.2.1], fun th => wkV (sgN L tx a.2.1) (a.2.2.2 th) ((q (a.2.1 + 1)).2.2.2 th))).2.2.1) := by
          rintro hop2 r rfl
          have hs : sgN L tx a.2.1 < 256 := by omega
          have hi3 := sgN_in hs rfl
          obtain ⟨σ2, w2, k1, k2, k3, k4, k5, k6⟩ := hq (en_up υ 10 6 (Int32.ofNat (a.2.1 + 1))) (a.2.1 + 1) (w + a.2.2.1.length) (hTu.fw (FW.at υ _)) (pu_same _ _ _ _) (by omega) (by rw [pu_slot (by omega)]; exact hu5) (by omega)
          have k1' : RG_X6_readExpression D 3 [.inr (10, 6, 0, 0), .inr (1, 8, 0, 0), .inl (Int32.ofNat d)] (en_up υ 10 6 (Int32.ofNat (a.2.1 + 1))) = some (if (q (a.2.1 + 1)).1 = true then 1 else 0, σ2) := k1
          obtain ⟨σ3, w3, j1, j2, j3, j4, j5, j6⟩ := q_cwrite (σ := σ2) (w := w2) k3 k4 (2000 + sgN L tx a.2.1)
          have j1' : O_X6_write [.inr (10, 6, 0, 0), .inl ((2000 : Int32) + sgn L 40 tx a.2.1)] σ2 = some σ3 := by
            rw [sg_of hs, show (2000 : Int32) + Int32.ofNat (sgN L tx a.2.1) = Int32.ofNat (2000 + sgN L tx a.2.1) from pn_add 2000 _]; exact j1
          have hF3 : FW σ σ3 := ((hFu.trans (FW.at υ _)).trans k5).trans j4
          rw [hu6, pn_a1, k1', Option.bind_some]
          dsimp only
          rw [j1', Option.bind_some, pn_a1]
          by_cases cq : (q (a.2.1 + 1)).1 = true
          · obtain ⟨k7, k8⟩ := k6 cq
            obtain ⟨m1, m2, m3⟩ := hG (a.2.1 + 1) (by omega)
            have hor := m3 cq
            obtain ⟨n1, n2, -⟩ := id hor
            obtain ⟨j7, j8⟩ := j6 (by omega)
            rw [if_pos cq]
            simp only [if_neg (show ¬ (q (a.2.1 + 1)).1 = false by rw [cq]; decide)]
            refine ih (i + 1) _ f _ σ3 (by omega) (by omega) rfl m2 (OK_op hs ho hor) (hT.fw hF3) hF3 (by rw [j5]; exact k2) ?_ ?_
            · show σ3 10 5 = Int32.ofNat (w + (a.2.2.1 ++ (q (a.2.1 + 1)).2.2.1 ++ [2000 + sgN L tx a.2.1]).length)
              rw [List.length_append, List.length_append, j2]
              congr 1
              show w3 = w + (a.2.2.1.length + (q (a.2.1 + 1)).2.2.1.length + 1)
              omega
            · refine WC.app (WC.app hwc (k8.c12b (pu_row (by omega)))) ?_
              rw [List.length_append, show w + (a.2.2.1.length + (q (a.2.1 + 1)).2.2.1.length) = w2 by omega]
              exact j8
          · have cq' : (q (a.2.1 + 1)).1 = false := Bool.eq_false_iff.mpr cq
            obtain ⟨f2, rfl⟩ : ∃ j, f = j + 1 := Nat.exists_eq_succ_of_ne_zero (by omega)
            rw [if_neg cq, stop f2 (i + 1) _ σ3 (by omega)]
            simp only [if_pos cq']
            exact ⟨σ3, w3, rfl, by rw [j5]; exact k2, j2, j3, hF3, fun z => absurd (show false = true from z) (by decide)⟩
        by_cases c1 : sgN L tx a.2.1 = 42
        · rw [if_pos c1]
          have := more (Or.inl c1) _ rfl
          simp only [if_pos (show sgN L tx a.2.1 = 42 ∨ sgN L tx a.2.1 = 47 from Or.inl c1)]
          exact this
        · rw [if_neg c1]
          by_cases c2 : sgN L tx a.2.1 = 47
          · rw [if_pos c2]
            have := more (Or.inr c2) _ rfl
            simp only [if_pos (show sgN L tx a.2.1 = 42 ∨ sgN L tx a.2.1 = 47 from Or.inr c2)]
            exact this
          · rw [if_neg c2]
            simp only [if_neg (show ¬ (sgN L tx a.2.1 = 42 ∨ sgN L tx a.2.1 = 47) from fun z => z.elim c1 c2), ha]
            exact ⟨υ, _, rfl, hu6, hu5, by omega, hFu, fun _ => ⟨rfl, hwc⟩⟩
    exact main 40 0 (q p) en_FU en_un σ1 rfl (by omega) cx g2 (g3 cx) (hT.fw e5) e5 e2 (by rw [e3, e7]) e8
  · have cx' : (q p).1 = false := Bool.eq_false_iff.mpr cx
    have hop : opP L tx 42 47 q p = flP (q p).2.1 := if_pos cx'
    rw [if_neg cx, hop, hf0]
    have := stop f0 0 en_un σ1 (by omega)
    rw [show (0 : Int32) = Int32.ofNat 0 from rfl] at this ⊢
    rw [this]
    exact ⟨σ1, w1, rfl, e2, e3, e4, e5, fun z => absurd (show false = true from z) (by decide)⟩
theorem c_sum {L : Nat} {tx : Nat → Nat} (hb : ∀ j, tx j < 256) (hL : L ≤ 80) {D d : Nat} {q : Nat → PRs} (hG : GPr q) (hq : CCr L tx (cX D 2 d) q) : CCr L tx (cX (D + 1) 1 d) (opP L tx 43 45 q) := by
  intro σ p w hT h6 hp h5 hw
  have hFU := en_FU_ge
  have h01 : ∀ b : Bool, ((if b = true then (1 : Int32) else 0) = 0 ∨ (if b = true then (1 : Int32) else 0) = 1) := fun b => by cases b <;> decide
  obtain ⟨σ1, w1, e1, e2, e3, e4, e5, e6⟩ := hq σ p w hT h6 hp h5 hw
  have e1' : RG_X6_readExpression D 2 [.inr (10, 6, 0, 0), .inr (1, 8, 0, 0), .inl (Int32.ofNat d)] σ = some (if (q p).1 = true then 1 else 0, σ1) := e1
  obtain ⟨g1, g2, g3⟩ := hG p hp
  rw [show cX (D + 1) 1 d σ = en_oi (T_X6_readSum_0 (RG_X6_readExpression D) (Int32.ofNat d) σ) from rfl, t_X6_readSum_0, e1', Option.bind_some]
  dsimp only
  -- it has failed
  have stop : ∀ f i u υ, i ≤ 40 → T_X6_readSum_10 (RG_X6_readExpression D) (f + 1) (Int32.ofNat d) 0 (Int32.ofNat i) u υ = en_ri 0 υ := fun f i u υ hi => by
    rw [t_X6_readSum_10, if_pos (show (0 : Int32) = 0 from rfl), if_pos (show (0 : Int32) = 0 ∨ (0 : Int32) = 1 from Or.inl rfl), ite_self]
  obtain ⟨f0, hf0⟩ : ∃ j, en_FU = j + 1 := Nat.exists_eq_succ_of_ne_zero (by omega)
  by_cases cx : (q p).1 = true
  · have hop : opP L tx 43 45 q p = lpP L tx 43 45 q 40 (q p) := if_neg (by rw [cx]; decide)
    obtain ⟨e7, e8⟩ := e6 cx
    rw [if_pos cx, hop]
    have main : ∀ K i (a : PRs) f u υ, i + K = 40 → K + 5 < f → a.1 = true → a.2.1 ≤ 40 → OKr p a → CT υ L tx → FW σ υ → υ 10 6 = Int32.ofNat a.2.1 → υ 10 5 = Int32.ofNat (w + a.2.2.1.length) → WC σ υ w a.2.2.1 →
        ∃ σ' w', en_oi (T_X6_readSum_10 (RG_X6_readExpression D) f (Int32.ofNat d) 1 (Int32.ofNat i) u υ) = some (if (lpP L tx 43 45 q K a).1 = true then 1 else 0, σ') ∧ σ' 10 6 = Int32.ofNat (lpP L tx 43 45 q K a).2.1 ∧ σ' 10 5 = Int32.ofNat w' ∧ w' ≤ 40 ∧ FW σ σ' ∧ ((lpP L tx 43 45 q K a).1 = true → w' = w + (lpP L tx 43 45 q K a).2.2.1.length ∧ WC σ σ' w (lpP L tx 43 45 q K a).2.2.1) := by
      intro K
      induction K with
      | zero =>
        intro i a f u υ hi hf ha hle ho hTu hFu hu6 hu5 hwc
        obtain ⟨f, rfl⟩ : ∃ j, f = j + 1 := Nat.exists_eq_succ_of_ne_zero (by omega)
        obtain ⟨o1, o2, -⟩ := ho
        rw [t_X6_readSum_10, if_neg (show ¬ Int32.ofNat i < (40 : Int32) from fun z => by have := (pn_lt (b := 40) (by omega) (by omega)).mp z; omega), if_pos (show (1 : Int32) = 0 ∨ (1 : Int32) = 1 from Or.inr rfl)]
        show ∃ σ' w', _ = some (if a.1 = true then 1 else 0, σ') ∧ _
        rw [ha]
        exact ⟨υ, _, rfl, hu6, hu5, by omega, hFu, fun _ => ⟨rfl, hwc⟩⟩
      | succ K ih =>
        intro i a f u υ hi hf ha hle ho hTu hFu hu6 hu5 hwc
        obtain ⟨f, rfl⟩ : ∃ j, f = j + 1 := Nat.exists_eq_succ_of_ne_zero (by omega)
        obtain ⟨o1, o2, -⟩ := id ho
        rw [t_X6_readSum_10, if_pos (show Int32.ofNat i < (40 : Int32) from (pn_lt (b := 40) (by omega) (by omega)).mpr (by omega)), if_neg (show ¬ (1 : Int32) = 0 by decide), q_peek hTu hL hu6 hle, Option.bind_some]
        dsimp only
        rw [pi_if (show (sgn L 40 tx a.2.1 = (43 : Int32)) = (sgN L tx a.2.1 = 43) from sg_eq (c := 43) hb (by omega)), pi_if (show (sgn L 40 tx a.2.1 = (45 : Int32)) = (sgN L tx a.2.1 = 45) from sg_eq (c := 45) hb (by omega)), if_pos (show (1 : Int32) = 0 ∨ (1 : Int32) = 1 from Or.inr rfl)]
        unfold lpP
        -- one more
        have more : (sgN L tx a.2.1 = 43 ∨ sgN L tx a.2.1 = 45) → ∀ r : en_R, r = (((RG_X6_readExpression D) 2 [.inr (10, 6, 0, 0), .inr (1, 8, 0, 0), .inl (Int32.ofNat d)] (en_up υ 10 6 ((υ 10 6) + (1 : Int32)))).bind fun r3 => (O_X6_write [.inr (10, 6, 0, 0), .inl ((2000 : Int32) + sgn L 40 tx a.2.1)] r3.2).bind fun r4 => T_X6_readSum_10 (RG_X6_readExpression D) f (Int32.ofNat d) r3.1 (Int32.ofNat i + (1 : Int32)) (.inl (sgn L 40 tx a.2.1)) r4) →
            ∃ σ' w', en_oi r = some (if (if (q (a.2.1 + 1)).1 = false then flP (q (a.2.1 + 1)).2.1 else lpP L tx 43 45 q K (true, (q (a.2.1 + 1)).2.1, a.2.2.1 ++ (q (a.2.1 + 1)).2.2.1 ++ [2000 + sgN L tx a.2.1], fun th => wkV (sgN L tx a.2.1) (a.2.2.2 th) ((q (a.2.1 + 1)).2.2.2 th))).1 = true then 1 else 0, σ') ∧ σ' 10 6 = Int32.ofNat (if (q (a.2.1 + 1)).1 = false then flP (q (a.2.1 + 1)).2.1 else lpP L tx 43 45 q K (true, (q (a.2.1 + 1)).2.1, a.2.2.1 ++ (q (a.2.1 + 1)).2.2.1 ++ [2000 + sgN L tx a.2.1], fun th => wkV (sgN L tx a.2.1) (a.2.2.2 th) ((q (a.2.1 + 1)).2.2.2 th))).2.1 ∧ σ' 10 5 = Int32.ofNat w' ∧ w' ≤ 40 ∧ FW σ σ' ∧ ((if (q (a.2.1 + 1)).1 = false then flP (q (a.2.1 + 1)).2.1 else lpP L tx 43 45 q K (true, (q (a.2.1 + 1)).2.1, a.2.2.1 ++ (q (a.2.1 + 1)).2.2.1 ++ [2000 + sgN L tx a.2.1], fun th => wkV (sgN L tx a.2.1) (a.2.2.2 th) ((q (a.2.1 + 1)).2.2.2 th))).1 = true → w' = w + (if (q (a.2.1 + 1)).1 = false then flP (q (a.2.1 + 1)).2.1 else lpP L tx 43 45 q K (true, (q (a.2.1 + 1)).2.1, a.2.2.1 ++ (q (a.2.1 + 1)).2.2.1 ++ [2000 + sgN L tx a.2.1], fun th => wkV (sgN L tx a.2.1) (a.2.2.2 th) ((q (a.2.1 + 1)).2.2.2 th))).2.2.1.length ∧ WC σ σ' w (if (q (a.2.1 + 1)).1 = false then flP (q (a.2.1 + 1)).2.1 else lpP L tx 43 45 q K (true, (q (a.2.1 + 1)).2.1, a.2.2.1 ++ (q (a.2.1 + 1)).2.2.1 ++ [2000 + sgN L tx a.2.1], fun th => wkV (sgN L tx a.2.1) (a.2.2.2 th) ((q (a.2.1 + 1)).2.2.2 th))).2.2.1) := by
          rintro hop2 r rfl
          have hs : sgN L tx a.2.1 < 256 := by omega
          have hi3 := sgN_in hs rfl
          obtain ⟨σ2, w2, k1, k2, k3, k4, k5, k6⟩ := hq (en_up υ 10 6 (Int32.ofNat (a.2.1 + 1))) (a.2.1 + 1) (w + a.2.2.1.length) (hTu.fw (FW.at υ _)) (pu_same _ _ _ _) (by omega) (by rw [pu_slot (by omega)]; exact hu5) (by omega)
          have k1' : RG_X6_readExpression D 2 [.inr (10, 6, 0, 0), .inr (1, 8, 0, 0), .inl (Int32.ofNat d)] (en_up υ 10 6 (Int32.ofNat (a.2.1 + 1))) = some (if (q (a.2.1 + 1)).1 = true then 1 else 0, σ2) := k1
          obtain ⟨σ3, w3, j1, j2, j3, j4, j5, j6⟩ := q_cwrite (σ := σ2) (w := w2) k3 k4 (2000 + sgN L tx a.2.1)
          have j1' : O_X6_write [.inr (10, 6, 0, 0), .inl ((2000 : Int32) + sgn L 40 tx a.2.1)] σ2 = some σ3 := by
            rw [sg_of hs, show (2000 : Int32) + Int32.ofNat (sgN L tx a.2.1) = Int32.ofNat (2000 + sgN L tx a.2.1) from pn_add 2000 _]; exact j1
          have hF3 : FW σ σ3 := ((hFu.trans (FW.at υ _)).trans k5).trans j4
          rw [hu6, pn_a1, k1', Option.bind_some]
          dsimp only
          rw [j1', Option.bind_some, pn_a1]
          by_cases cq : (q (a.2.1 + 1)).1 = true
          · obtain ⟨k7, k8⟩ := k6 cq
            obtain ⟨m1, m2, m3⟩ := hG (a.2.1 + 1) (by omega)
            have hor := m3 cq
            obtain ⟨n1, n2, -⟩ := id hor
            obtain ⟨j7, j8⟩ := j6 (by omega)
            rw [if_pos cq]
            simp only [if_neg (show ¬ (q (a.2.1 + 1)).1 = false by rw [cq]; decide)]
            refine ih (i + 1) _ f _ σ3 (by omega) (by omega) rfl m2 (OK_op hs ho hor) (hT.fw hF3) hF3 (by rw [j5]; exact k2) ?_ ?_
            · show σ3 10 5 = Int32.ofNat (w + (a.2.2.1 ++ (q (a.2.1 + 1)).2.2.1 ++ [2000 + sgN L tx a.2.1]).length)
              rw [List.length_append, List.length_append, j2]
              congr 1
              show w3 = w + (a.2.2.1.length + (q (a.2.1 + 1)).2.2.1.length + 1)
              omega
            · refine WC.app (WC.app hwc (k8.c12b (pu_row (by omega)))) ?_
              rw [List.length_append, show w + (a.2.2.1.length + (q (a.2.1 + 1)).2.2.1.length) = w2 by omega]
              exact j8
          · have cq' : (q (a.2.1 + 1)).1 = false := Bool.eq_false_iff.mpr cq
            obtain ⟨f2, rfl⟩ : ∃ j, f = j + 1 := Nat.exists_eq_succ_of_ne_zero (by omega)
            rw [if_neg cq, stop f2 (i + 1) _ σ3 (by omega)]
            simp only [if_pos cq']
            exact ⟨σ3, w3, rfl, by rw [j5]; exact k2, j2, j3, hF3, fun z => absurd (show false = true from z) (by decide)⟩
        by_cases c1 : sgN L tx a.2.1 = 43
        · rw [if_pos c1]
          have := more (Or.inl c1) _ rfl
          simp only [if_pos (show sgN L tx a.2.1 = 43 ∨ sgN L tx a.2.1 = 45 from Or.inl c1)]
          exact this
        · rw [if_neg c1]
          by_cases c2 : sgN L tx a.2.1 = 45
          · rw [if_pos c2]
            have := more (Or.inr c2) _ rfl
            simp only [if_pos (show sgN L tx a.2.1 = 43 ∨ sgN L tx a.2.1 = 45 from Or.inr c2)]
            exact this
          · rw [if_neg c2]
            simp only [if_neg (show ¬ (sgN L tx a.2.1 = 43 ∨ sgN L tx a.2.1 = 45) from fun z => z.elim c1 c2), ha]
            exact ⟨υ, _, rfl, hu6, hu5, by omega, hFu, fun _ => ⟨rfl, hwc⟩⟩
    exact main 40 0 (q p) en_FU en_un σ1 rfl (by omega) cx g2 (g3 cx) (hT.fw e5) e5 e2 (by rw [e3, e7]) e8
  · have cx' : (q p).1 = false := Bool.eq_false_iff.mpr cx
    have hop : opP L tx 43 45 q p = flP (q p).2.1 := if_pos cx'
    rw [if_neg cx, hop, hf0]
    have := stop f0 0 en_un σ1 (by omega)
    rw [show (0 : Int32) = Int32.ofNat 0 from rfl] at this ⊢
    rw [this]
    exact ⟨σ1, w1, rfl, e2, e3, e4, e5, fun z => absurd (show false = true from z) (by decide)⟩
theorem c_expr {L : Nat} {tx : Nat → Nat} (hb : ∀ j, tx j < 256) (hL : L ≤ 80) {D d : Nat} {q : Nat → PRs} (hd : d ≤ 4) (hG : GPr q) (hq : CCr L tx (cX D 1 d) q) : CCr L tx (cX (D + 1) 0 d) (exP L tx q) := by
  intro σ p w hT h6 hp h5 hw
  have h01 : (0 : Int32) = 0 ∨ (0 : Int32) = 1 := Or.inl rfl
  have h11 : (1 : Int32) = 0 ∨ (1 : Int32) = 1 := Or.inr rfl
  obtain ⟨σ1, w1, e1, e2, e3, e4, e5, e6⟩ := hq σ p w hT h6 hp h5 hw
  have e1' : RG_X6_readExpression D 1 [.inr (10, 6, 0, 0), .inr (1, 8, 0, 0), .inl (Int32.ofNat d)] σ = some (if (q p).1 = true then 1 else 0, σ1) := e1
  obtain ⟨g1, g2, g3⟩ := hG p hp
  rw [show cX (D + 1) 0 d σ = en_oi (T_X6_readExpression_0 (RG_X6_readExpression D) (Int32.ofNat d) σ) from rfl, t_X6_readExpression_0, if_neg (show ¬ (4 : Int32) < Int32.ofNat d from fun z => by have := (pn_lt (a := 4) (by omega) (by omega)).mp z; omega), e1', Option.bind_some]
  dsimp only
  by_cases cx : (q p).1 = true
  · obtain ⟨e7, e8⟩ := e6 cx
    have ho := g3 cx
    obtain ⟨o1, o2, -⟩ := id ho
    rw [if_pos cx, if_neg (show ¬ (1 : Int32) = 0 by decide), q_peek (hT.fw e5) hL e2 g2, Option.bind_some]
    dsimp only
    rw [pi_if (show (sgn L 40 tx (q p).2.1 = (60 : Int32)) = (sgN L tx (q p).2.1 = 60) from sg_eq (c := 60) hb (by omega)), pi_if (show (sgn L 40 tx (q p).2.1 = (62 : Int32)) = (sgN L tx (q p).2.1 = 62) from sg_eq (c := 62) hb (by omega)), pi_if (show (sgn L 40 tx (q p).2.1 = (61 : Int32)) = (sgN L tx (q p).2.1 = 61) from sg_eq (c := 61) hb (by omega)), if_pos h11]
    have more : (sgN L tx (q p).2.1 = 60 ∨ sgN L tx (q p).2.1 = 62 ∨ sgN L tx (q p).2.1 = 61) → ∀ r : en_R, r = (((RG_X6_readExpression D) 1 [.inr (10, 6, 0, 0), .inr (1, 8, 0, 0), .inl (Int32.ofNat d)] (en_up σ1 10 6 ((σ1 10 6) + (1 : Int32)))).bind fun r3 => if r3.1 = 0 then (if (0 : Int32) = 0 ∨ (0 : Int32) = 1 then en_ri (0 : Int32) r3.2 else none) else ((O_X6_write [.inr (10, 6, 0, 0), .inl ((2000 : Int32) + sgn L 40 tx (q p).2.1)] r3.2).bind fun r4 => if (1 : Int32) = 0 ∨ (1 : Int32) = 1 then en_ri (1 : Int32) r4 else none)) →
        ∃ σ' w', en_oi r = some (if (exP L tx q p).1 = true then 1 else 0, σ') ∧ σ' 10 6 = Int32.ofNat (exP L tx q p).2.1 ∧ σ' 10 5 = Int32.ofNat w' ∧ w' ≤ 40 ∧ FW σ σ' ∧ ((exP L tx q p).1 = true → w' = w + (exP L tx q p).2.2.1.length ∧ WC σ σ' w (exP L tx q p).2.2.1) := by
      rintro hc r rfl
      have hs : sgN L tx (q p).2.1 < 256 := by omega
      have hi3 := sgN_in hs rfl
      have hexp : exP L tx q p = (if (q ((q p).2.1 + 1)).1 = false then flP (q ((q p).2.1 + 1)).2.1 else (true, (q ((q p).2.1 + 1)).2.1, (q p).2.2.1 ++ (q ((q p).2.1 + 1)).2.2.1 ++ [2000 + sgN L tx (q p).2.1], fun th => wkV (sgN L tx (q p).2.1) ((q p).2.2.2 th) ((q ((q p).2.1 + 1)).2.2.2 th))) := by
        unfold exP
        rw [if_neg (by rw [cx]; decide), if_pos hc]
      obtain ⟨σ2, w2, k1, k2, k3, k4, k5, k6⟩ := hq (en_up σ1 10 6 (Int32.ofNat ((q p).2.1 + 1))) ((q p).2.1 + 1) w1 ((hT.fw e5).fw (FW.at σ1 _)) (pu_same _ _ _ _) (by omega) (by rw [pu_slot (by omega)]; exact e3) (by omega)
      have k1' : RG_X6_readExpression D 1 [.inr (10, 6, 0, 0), .inr (1, 8, 0, 0), .inl (Int32.ofNat d)] (en_up σ1 10 6 (Int32.ofNat ((q p).2.1 + 1))) = some (if (q ((q p).2.1 + 1)).1 = true then 1 else 0, σ2) := k1
      have hF2 : FW σ σ2 := (e5.trans (FW.at σ1 _)).trans k5
      rw [e2, pn_a1, k1', Option.bind_some]
      dsimp only
      by_cases cq : (q ((q p).2.1 + 1)).1 = true
      · obtain ⟨k7, k8⟩ := k6 cq
        obtain ⟨m1, m2, m3⟩ := hG ((q p).2.1 + 1) (by omega)
        obtain ⟨n1, n2, -⟩ := m3 cq
        obtain ⟨σ3, w3, j1, j2, j3, j4, j5, j6⟩ := q_cwrite (σ := σ2) (w := w2) k3 k4 (2000 + sgN L tx (q p).2.1)
        obtain ⟨j7, j8⟩ := j6 (by omega)
        have j1' : O_X6_write [.inr (10, 6, 0, 0), .inl ((2000 : Int32) + sgn L 40 tx (q p).2.1)] σ2 = some σ3 := by
          rw [sg_of hs, show (2000 : Int32) + Int32.ofNat (sgN L tx (q p).2.1) = Int32.ofNat (2000 + sgN L tx (q p).2.1) from pn_add 2000 _]; exact j1
        rw [if_neg (by rw [cq]; decide)] at hexp
        rw [if_pos cq, if_neg (show ¬ (1 : Int32) = 0 by decide), j1', Option.bind_some, if_pos h11, hexp]
        refine ⟨σ3, w3, rfl, by rw [j5]; exact k2, j2, j3, hF2.trans j4, fun _ => ⟨?_, ?_⟩⟩
        · show w3 = w + ((q p).2.2.1 ++ (q ((q p).2.1 + 1)).2.2.1 ++ [2000 + sgN L tx (q p).2.1]).length
          rw [List.length_append, List.length_append]
          show w3 = w + ((q p).2.2.1.length + (q ((q p).2.1 + 1)).2.2.1.length + 1)
          omega
        · refine WC.app (b := σ2) (WC.app e8 ?_) ?_
          · rw [← e7]
            exact k8.c12b (pu_row (by omega))
          · rw [List.length_append, show w + ((q p).2.2.1.length + (q ((q p).2.1 + 1)).2.2.1.length) = w2 by omega]
            exact j8
      · have cq' : (q ((q p).2.1 + 1)).1 = false := Bool.eq_false_iff.mpr cq
        rw [if_pos cq'] at hexp
        rw [if_neg cq, if_pos (show (0 : Int32) = 0 from rfl), if_pos h01, hexp]
        exact ⟨σ2, w2, rfl, k2, k3, k4, hF2, fun z => absurd (show false = true from z) (by decide)⟩
    by_cases c1 : sgN L tx (q p).2.1 = 60
    · rw [if_pos c1]; exact more (Or.inl c1) _ rfl
    rw [if_neg c1]
    by_cases c2 : sgN L tx (q p).2.1 = 62
    · rw [if_pos c2]; exact more (Or.inr (Or.inl c2)) _ rfl
    rw [if_neg c2]
    by_cases c3 : sgN L tx (q p).2.1 = 61
    · rw [if_pos c3]; exact more (Or.inr (Or.inr c3)) _ rfl
    have hexp : exP L tx q p = q p := by
      unfold exP
      rw [if_neg (by rw [cx]; decide), if_neg (fun z => z.elim c1 (fun z => z.elim c2 c3))]
    rw [if_neg c3, hexp, cx]
    exact ⟨σ1, w1, rfl, e2, e3, e4, e5, fun _ => ⟨e7, e8⟩⟩
  · have cx' : (q p).1 = false := Bool.eq_false_iff.mpr cx
    have hexp : exP L tx q p = flP (q p).2.1 := if_pos cx'
    rw [if_neg cx, if_pos (show (0 : Int32) = 0 from rfl), if_pos h01, hexp]
    exact ⟨σ1, w1, rfl, e2, e3, e4, e5, fun z => absurd (show false = true from z) (by decide)⟩
theorem c_ee {L : Nat} {tx : Nat → Nat} (hb : ∀ j, tx j < 256) (hL : L ≤ 80) : ∀ e d D, d + e = 4 → CCr L tx (cX (D + 6 * (e + 1)) 0 d) (eeP L tx e)
  | 0, d, D, hd => by
    have hT := c_thing (D := D) (d := d) (ex := fun p => flP p) (deep := false) hb hL (by omega) (decide_eq_false (by omega)).symm GP_fl (fun z => absurd z (by omega))
    have gT := GP_th (L := L) (tx := tx) (deep := false) hb GP_fl
    have hF := c_factor hb hL gT hT
    have gF := GP_fa (L := L) (tx := tx) gT
    have hPr := c_product hb hL gF hF
    have gP := GP_op (L := L) (tx := tx) (c1 := 42) (c2 := 47) (by omega) (by omega) gF
    have hS := c_sum hb hL gP hPr
    have gS := GP_op (L := L) (tx := tx) (c1 := 43) (c2 := 45) (by omega) (by omega) gP
    exact c_expr hb hL (by omega) gS hS
  | e + 1, d, D, hd => by
    have hT := c_thing (D := D + 6 * (e + 1)) (d := d) (ex := eeP L tx e) (deep := true) hb hL (by omega) (decide_eq_true (by omega)).symm (GP_ee hb e) (fun _ => c_ee hb hL e (d + 1) D (by omega))
    have gT := GP_th (L := L) (tx := tx) (deep := true) hb (GP_ee (L := L) hb e)
    have hF := c_factor hb hL gT hT
    have gF := GP_fa (L := L) (tx := tx) gT
    have hPr := c_product hb hL gF hF
    have gP := GP_op (L := L) (tx := tx) (c1 := 42) (c2 := 47) (by omega) (by omega) gF
    have hS := c_sum hb hL gP hPr
    have gS := GP_op (L := L) (tx := tx) (c1 := 43) (c2 := 45) (by omega) (by omega) gP
    exact c_expr hb hL (by omega) gS hS
