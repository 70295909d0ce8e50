/-! rivals -/
def rvW (a b k : Nat) : Nat := if k % 2 = 0 then 2 ^ a else 2 ^ b
theorem rv_mod2 {i : Nat} (hi : i < 2147483648) : (Int32.ofNat i - Int32.ofNat i / (2 : Int32) * (2 : Int32) = 0) = (i % 2 = 0) := by
  rw [show Int32.ofNat i - Int32.ofNat i / (2 : Int32) * (2 : Int32) = Int32.ofNat (i % 2) from pn_mod (b := 2) hi (by omega), pn_eq0 (by omega)]
theorem isR_1 {n : Nat} {z : Int32} (hn : 0 < n) (hn2 : n < 2147483648) (h1 : ¬ z < 1) (h2 : ¬ (Int32.ofNat n - 1) < z) : isR n z := by
  refine (isR_iff2 (n := n) hn2 z).mpr ⟨fun q => h1 ?_, h2⟩
  rw [Int32.lt_iff_toInt_lt] at q ⊢
  have h0 : (0 : Int32).toInt = 0 := by decide
  have h1 : (1 : Int32).toInt = 1 := by decide
  omega
theorem p_rivals : en_st_rivals pInv := by
  intro c v w z hc
  refine p_two hc (fun A σ0 hA hB => ?_)
  have hA0 := hA
  obtain ⟨g, t, ro, x, us, kp⟩ := A
  have hgv : GV g := hA.1
  have hn : gN g ≤ 7 := hgv.1
  have hVS : VS (gN g) (2000 * c) x := hA.2.2.2.2.2.2.2.1
  by_cases hv : isR (gN g) v ∧ isR (gN g) w ∧ v ≠ w
  · by_cases hz : ¬ z < 1 ∧ ¬ 60 < z
    · obtain ⟨⟨a, ha, rfl⟩, ⟨b, hb, rfl⟩, hne⟩ := hv
      obtain ⟨m, hm, rfl⟩ : isR 61 z := isR_1 (by omega) (by omega) hz.1 hz.2
      have hm1 : ¬ Int32.ofNat m < 1 := hz.1
      have hm2 : ¬ (60 : Int32) < Int32.ofNat m := hz.2
      have ra : isR (gN g) (Int32.ofNat a) := ⟨a, ha, rfl⟩
      have rb : isR (gN g) (Int32.ofNat b) := ⟨b, hb, rfl⟩
      have hw : ∀ k, rvW a b k < 2 ^ gN g := fun k => by
        unfold rvW
        split
        · exact Nat.pow_lt_pow_right (by decide) ha
        · exact Nat.pow_lt_pow_right (by decide) hb
      have hn0 : 0 < gN g := by omega
      refine ⟨Int32.ofNat (brN g x (rvW a b) m 0).1, (g, t, [Int32.ofNat (brN g x (rvW a b) m 0).2], x, us, kp), fun hC => ?_, fun τ hM => ?_, (hA.row (by simp)).mono (by omega)⟩
      · obtain ⟨σ1, e1, e2, e3, e4⟩ := k_look hA (by omega) hC (m := m) (by omega)
        rw [o_X11_rivals, t_X11_rivals_0, k_hasTwo_y hA0 hC.1 ra rb hne, Option.bind_some, if_neg (show ¬ (1 : Int32) = 0 by decide), if_neg hm1, if_neg hm2, e1, Option.bind_some]
        have key : ∃ σ2, O_X11_roundsInTurn [.inr (0, 11, 0, 0), .inl (Int32.ofNat a), .inl (Int32.ofNat b), .inl (Int32.ofNat m)] σ1 = some (Int32.ofNat (brN g x (rvW a b) m 0).1, σ2) ∧ σ2 0 13 = Int32.ofNat (brN g x (rvW a b) m 0).2 ∧ CI σ2 (g, t, ro, x, us, kp) ∧ ∀ c, 185 ≤ c ∨ c = 181 → σ2 c = σ1 c := by
          rw [o_X11_roundsInTurn, t_X11_roundsInTurn_0]
          refine pl_for1 (F := fun f i (q : en_M) => T_X11_roundsInTurn_3 f (Int32.ofNat a) (Int32.ofNat b) (Int32.ofNat m) (Int32.ofNat i) q) (P := fun i q => (∀ k, k < i → q 183 k = Int32.ofNat (rvW a b k)) ∧ ∀ c, c ≠ 183 → q c = σ1 c) (Q := fun r => ∃ σ2, en_oi r = some (Int32.ofNat (brN g x (rvW a b) m 0).1, σ2) ∧ σ2 0 13 = Int32.ofNat (brN g x (rvW a b) m 0).2 ∧ CI σ2 (g, t, ro, x, us, kp) ∧ ∀ c, 185 ≤ c ∨ c = 181 → σ2 c = σ1 c) (N := m) ?_ ?_ m 0 en_FU σ1 (by omega) (pl_FU (by omega)) ⟨fun k hk => absurd hk (by omega), fun _ _ => rfl⟩
          · rintro f i τ hi ⟨p1, p2⟩
            refine Or.inl ⟨en_up τ 183 i (Int32.ofNat (rvW a b i)), ?_, fun k hk => ?_, fun c hc => by rw [pu_row hc, p2 c hc]⟩
            · show T_X11_roundsInTurn_3 (f + 1) _ _ _ _ τ = _
              rw [t_X11_roundsInTurn_3, if_pos ((pn_lt (by omega) (by omega)).mpr hi), if_pos (show Int32.ofNat i < (60 : Int32) from (pn_lt (b := 60) (by omega) (by omega)).mpr (by omega)), if_neg (show ¬ (2 : Int32) = 0 by decide), pi_if (rv_mod2 (by omega)), pn_ix (by omega) (by omega), Option.bind_some, Option.bind_some, pb_1 (show a < 31 by omega), pb_1 (show b < 31 by omega), pn_a1]
              unfold rvW
              by_cases c1 : i % 2 = 0
              · rw [if_pos c1, if_pos c1]
              · rw [if_neg c1, if_neg c1]
            · rw [pu_at]
              by_cases e : k = i
              · rw [if_pos e, e]
              · rw [if_neg e]; exact p1 k (by omega)
          · rintro f τ ⟨p1, p2⟩
            have hCτ : CI τ (g, t, ro, x, us, kp) := e2.kept (fun c hc => p2 c (by omega)) (by rw [p2 10 (by omega)])
            obtain ⟨σ2, k1, k2, k3, k4⟩ := q_lawfulRounds (w := rvW a b) hA (by omega) hCτ hn0 (show m ≤ 60 by omega) (fun k hk => by rw [p2 182 (by omega)]; exact e3 k hk) (fun k hk => ⟨hw k, p1 k hk⟩)
            show ∃ σ2, en_oi (T_X11_roundsInTurn_3 (f + 1) _ _ _ _ τ) = _ ∧ _
            rw [t_X11_roundsInTurn_3, if_neg (by rw [pn_lt (by omega) (by omega)]; omega), k1, Option.bind_some]
            exact ⟨σ2, rfl, k2, k3, fun c hc => by rw [k4 c (by omega), p2 c (by omega)]⟩
        obtain ⟨σ2, k1, k2, k3, k4⟩ := key
        obtain ⟨σ3, g1, g2, g3⟩ := CI.add (CI.begin k3) (by simp) (Int32.ofNat (brN g x (rvW a b) m 0).2)
        rw [k1, Option.bind_some, q_tbegin, Option.bind_some, show (en_up σ2 3 1 0) 0 13 = Int32.ofNat (brN g x (rvW a b) m 0).2 by rw [pu_cell (by omega)]; exact k2, g1, Option.bind_some]
        exact ⟨σ3, rfl, g2, fun c hc => by rw [g3 c (by omega) (by omega), pu_row (by omega), k4 c hc, e4 c hc]⟩
      · have hM2 := hM.slot 11 0 (by omega)
        have hfr : FrM τ (en_up τ 185 11 0) := FrM.up (by omega) (by omega)
        rw [o_X12_rivals, t_X12_rivals_0, m_areTwo_y hA0 hM2.1 ra rb hne, Option.bind_some, if_neg (show ¬ (1 : Int32) = 0 by decide)]
        dsimp only
        rw [q_in, Option.bind_some, if_neg (by dsimp only; rw [pb2_0]; exact fun q => q hz)]
        dsimp only
        generalize en_up τ 185 11 0 = τ0 at hM2 hfr ⊢
        have key : ∃ τ2, O_X12_rivalsOf [.inr (185, 12, 0, 0), .inl (Int32.ofNat a), .inl (Int32.ofNat b), .inl (Int32.ofNat m)] τ0 = some (Int32.ofNat (brN g x (rvW a b) m 0).1, τ2) ∧ τ2 185 33 = Int32.ofNat (brN g x (rvW a b) m 0).2 ∧ MI τ2 (g, t, ro, x, us, kp) ∧ FrM τ0 τ2 := by
          obtain ⟨τ1, e1, e2, e3, e4⟩ := m_trial (A := (g, t, ro, x, us, kp)) hn hM2
          have f1 : FrM τ0 τ1 := fun c hc => e4 c (by omega)
          rw [o_X12_rivalsOf, t_X12_rivalsOf_0, e1, Option.bind_some]
          refine pl_for1 (F := fun f i (q : en_M) => T_X12_rivalsOf_20 f (Int32.ofNat a) (Int32.ofNat b) (Int32.ofNat m) (Int32.ofNat i) q) (P := fun i q => MI q (g, t, ro, x, us, kp) ∧ MSr (gN g) (q 198) (rsN g x (rvW a b) i) ∧ q 185 33 = 0 ∧ brN g x (rvW a b) m 0 = brN g x (rvW a b) (m - i) i ∧ FrM τ0 q) (Q := fun r => ∃ τ2, en_oi r = some (Int32.ofNat (brN g x (rvW a b) m 0).1, τ2) ∧ τ2 185 33 = Int32.ofNat (brN g x (rvW a b) m 0).2 ∧ MI τ2 (g, t, ro, x, us, kp) ∧ FrM τ0 τ2) (N := m) ?_ ?_ m 0 en_FU (en_up τ1 185 33 0) (by omega) (pl_FU (by omega)) ⟨e2.slot 33 0 (by omega), by rw [pu_row (by omega)]; exact e3, pu_same τ1 185 33 0, rfl, fun c hc => by rw [pu_row (by omega), f1 c hc]⟩
          · rintro f i υ hi ⟨p1, p2, p3, p4, p5⟩
            rw [show m - i = (m - (i + 1)) + 1 by omega] at p4
            conv at p4 => rhs; unfold brN
            have hvi : VS (gN g) (2000 * c + i) (rsN g x (rvW a b) i) := rsN_VS hgv hVS i (fun j _ => hw j)
            obtain ⟨υ', r1, r2, r3, r4, r5, r6⟩ := m_go (A := (g, t, ro, x, us, kp)) hgv p1 p2 hvi (by omega) hn0 (hw i)
            have r4 : υ' 185 25 = Int32.ofNat (lawS g (rsN g x (rvW a b) i) (rvW a b i)) := r4
            have r33 : υ' 185 33 = 0 := by rw [r6.2 33 (by omega) (by omega) (by omega) (by omega)]; exact p3
            have hl6 : lawS g (rsN g x (rvW a b) i) (rvW a b i) < 6 := lawN_lt _ _ _ _ _ _ _
            have fin : (∃ υ'', ((O_X12_goRound [.inr (185, 12, 0, 0), .inr (198, 20, 53, 0), .inl (Int32.ofNat (rvW a b i))] υ).bind fun r3 => if (r3 185 25) = 0 then (T_X12_rivalsOf_20 f (Int32.ofNat a) (Int32.ofNat b) (Int32.ofNat m) (Int32.ofNat (i + 1)) r3) else (en_ri (Int32.ofNat i) (en_up r3 185 33 (r3 185 25)))) = T_X12_rivalsOf_20 f (Int32.ofNat a) (Int32.ofNat b) (Int32.ofNat m) (Int32.ofNat (i + 1)) υ'' ∧ MI υ'' (g, t, ro, x, us, kp) ∧ MSr (gN g) (υ'' 198) (rsN g x (rvW a b) (i + 1)) ∧ υ'' 185 33 = 0 ∧ brN g x (rvW a b) m 0 = brN g x (rvW a b) (m - (i + 1)) (i + 1) ∧ FrM τ0 υ'') ∨ ∃ τ2, en_oi ((O_X12_goRound [.inr (185, 12, 0, 0), .inr (198, 20, 53, 0), .inl (Int32.ofNat (rvW a b i))] υ).bind fun r3 => if (r3 185 25) = 0 then (T_X12_rivalsOf_20 f (Int32.ofNat a) (Int32.ofNat b) (Int32.ofNat m) (Int32.ofNat (i + 1)) r3) else (en_ri (Int32.ofNat i) (en_up r3 185 33 (r3 185 25)))) = some (Int32.ofNat (brN g x (rvW a b) m 0).1, τ2) ∧ τ2 185 33 = Int32.ofNat (brN g x (rvW a b) m 0).2 ∧ MI τ2 (g, t, ro, x, us, kp) ∧ FrM τ0 τ2 := by
              rw [r1, Option.bind_some, r4, pi_if (pn_eq0 (show lawS g (rsN g x (rvW a b) i) (rvW a b i) < 2147483648 by omega))]
              by_cases c1 : lawS g (rsN g x (rvW a b) i) (rvW a b i) = 0
              · rw [if_pos c1] at p4
                rw [if_pos c1]
                exact Or.inl ⟨υ', rfl, r2, r3, r33, p4, p5.trans r6.frm⟩
              · rw [if_neg c1] at p4
                rw [if_neg c1, p4]
                exact Or.inr ⟨_, rfl, pu_same _ _ _ _, r2.slot 33 _ (by omega), (p5.trans r6.frm).trans (FrM.up (by omega) (by omega))⟩
            show (∃ υ'', T_X12_rivalsOf_20 (f + 1) _ _ _ _ υ = _ ∧ _) ∨ ∃ τ2, en_oi (T_X12_rivalsOf_20 (f + 1) _ _ _ _ υ) = _ ∧ _
            rw [t_X12_rivalsOf_20, if_pos ((pn_lt (by omega) (by omega)).mpr hi), if_neg (show ¬ (2 : Int32) = 0 by decide), pi_if (rv_mod2 (show i < 2147483648 by omega)), pb_1 (show a < 31 by omega), pb_1 (show b < 31 by omega), pn_a1]
            by_cases c2 : i % 2 = 0
            · rw [show rvW a b i = 2 ^ a from if_pos c2] at fin
              rw [if_pos c2]; exact fin
            · rw [show rvW a b i = 2 ^ b from if_neg c2] at fin
              rw [if_neg c2]; exact fin
          · rintro f υ ⟨p1, p2, p3, p4, p5⟩
            rw [Nat.sub_self] at p4
            have p4 : brN g x (rvW a b) m 0 = (m, 0) := p4
            show ∃ τ2, en_oi (T_X12_rivalsOf_20 (f + 1) _ _ _ _ υ) = _ ∧ _
            rw [t_X12_rivalsOf_20, if_neg (by rw [pn_lt (by omega) (by omega)]; omega), p4]
            exact ⟨υ, rfl, p3, p1, p5⟩
        obtain ⟨τ2, k1, k2, k3, k4⟩ := key
        obtain ⟨τ3, g1, g2, g3, -⟩ := MI.add (MI.begin k3) (by simp) (Int32.ofNat (brN g x (rvW a b) m 0).2)
        rw [k1, Option.bind_some]
        dsimp only
        rw [k2, g1, Option.bind_some]
        exact ⟨τ3, rfl, g2, fun c hc => by rw [g3 c (by omega) (by omega), pu_row (by omega), k4 c hc, hfr c hc]⟩
    · refine p_no hA (-1) (fun hC => ?_) (fun τ hM => ?_)
      · rw [o_X11_rivals, t_X11_rivals_0, k_hasTwo_y hA0 hC.1 hv.1 hv.2.1 hv.2.2, Option.bind_some, if_neg (show ¬ (1 : Int32) = 0 by decide)]
        by_cases v0 : z < 1
        · rw [if_pos v0]; rfl
        · rw [if_neg v0, if_pos (show (60 : Int32) < z from Classical.byContradiction fun q => hz ⟨v0, q⟩)]; rfl
      · have hM2 := hM.slot 11 0 (by omega)
        rw [o_X12_rivals, t_X12_rivals_0, m_areTwo_y hA0 hM2.1 hv.1 hv.2.1 hv.2.2, Option.bind_some, if_neg (show ¬ (1 : Int32) = 0 by decide)]
        dsimp only
        rw [q_in, Option.bind_some, if_pos (by dsimp only; rw [pb2_0]; exact hz)]; rfl
  · refine p_no hA (-1) (fun hC => ?_) (fun τ hM => ?_)
    · rw [o_X11_rivals, t_X11_rivals_0, k_hasTwo_n hA0 hC.1 hv, Option.bind_some, if_pos rfl]; rfl
    · have hM2 := hM.slot 11 0 (by omega)
      rw [o_X12_rivals, t_X12_rivals_0, m_areTwo_n hA0 hM2.1 hv, Option.bind_some, if_pos rfl]; rfl
