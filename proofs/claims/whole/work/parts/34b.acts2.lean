/-! night: the acts told, the reference -/
def dgN (L mx : Nat) (tx : Nat → Nat) : Nat → Nat → Nat → Nat × Nat
  | 0, p, v => (p, v)
  | K + 1, p, v => if inS L mx tx p 48 10 then dgN L mx tx K (p + 1) (10 * v + (tx p - 48)) else (p, v)
theorem dgN_le (L mx : Nat) (tx : Nat → Nat) : ∀ K p v, p ≤ (dgN L mx tx K p v).1 ∧ (dgN L mx tx K p v).1 ≤ p + K ∧ (p ≤ mx → (dgN L mx tx K p v).1 ≤ mx) ∧ (p ≤ L → (dgN L mx tx K p v).1 ≤ L)
  | 0, p, v => ⟨Nat.le_refl _, Nat.le_refl _, id, id⟩
  | K + 1, p, v => by
    unfold dgN
    split
    · rename_i c
      have h := dgN_le L mx tx K (p + 1) (10 * v + (tx p - 48))
      have c1 := c.1
      have c2 := c.2.1
      exact ⟨by omega, by omega, fun _ => h.2.2.1 (by omega), fun _ => h.2.2.2 (by omega)⟩
    · exact ⟨Nat.le_refl _, by omega, id, id⟩
theorem m_number {τ b L mx tx p} {m : Nat} (h : RD τ b L mx tx p (-1)) (hp : p < 900) (hm : m < 20) :
    (inS L mx tx p 48 10 → ∃ τ', O_X12_number [.inr (185, 12, 0, 0), .inl (Int32.ofNat (m + 1))] τ = some (Int32.ofNat (dgN L mx tx m (p + 1) (tx p - 48)).2, τ') ∧ RD τ' b L mx tx (dgN L mx tx m (p + 1) (tx p - 48)).1 (-1) ∧ FrU τ τ') ∧
    (¬ inS L mx tx p 48 10 → ∃ τ', O_X12_number [.inr (185, 12, 0, 0), .inl (Int32.ofNat (m + 1))] τ = some (0, τ') ∧ RD τ' b L mx tx p (Int32.ofNat p) ∧ FrU τ τ') := by
  have hFU := en_FU_ge
  have hb := h.2.2.2.2.2.2.1
  have hone : ∀ (υ : en_M) (q : Nat), RD υ b L mx tx q (-1) → q < 1000 → O_X12_oneOf [.inr (185, 12, 0, 0), .inl (48 : Int32), .inl (10 : Int32)] υ = some (if inS L mx tx q 48 10 then (Int32.ofNat (tx q - 48), en_up υ 185 15 (Int32.ofNat (q + 1))) else (0, en_up υ 185 16 (Int32.ofNat q))) := fun υ q hR hq => m_oneOf (a := 48) (m := 10) hR hq (by omega) (by omega)
  rw [o_X12_number, t_X12_number_0, hone τ p h (by omega), Option.bind_some]
  constructor
  · intro c
    rw [if_pos c]
    dsimp only
    have main : ∀ K i q v f υ, i + K = m → K + 5 < f → q < 1000 - K → RD υ b L mx tx q (-1) → FrU τ υ → ∃ τ', en_oi (T_X12_number_11 f (Int32.ofNat (m + 1)) (Int32.ofNat v) (Int32.ofNat (i + 1)) υ) = some (Int32.ofNat (dgN L mx tx K q v).2, τ') ∧ RD τ' b L mx tx (dgN L mx tx K q v).1 (-1) ∧ FrU τ τ' := by
      intro K
      induction K with
      | zero =>
        intro i q v f υ hi hf hq hR hF
        obtain ⟨f, rfl⟩ : ∃ j, f = j + 1 := ⟨f - 1, by omega⟩
        rw [t_X12_number_11, if_neg (by rw [pn_lt (by omega) (by omega)]; omega)]
        exact ⟨υ, rfl, hR, hF⟩
      | succ K ih =>
        intro i q v f υ hi hf hq hR hF
        obtain ⟨f, rfl⟩ : ∃ j, f = j + 1 := ⟨f - 1, by omega⟩
        have hin : O_X12_in [.inl (hr L mx tx q), .inl (48 : Int32), .inl (57 : Int32)] υ = some (pb2 (inS L mx tx q 48 10), υ) := m_in (a := 48) (m := 10) hb (by omega) (by omega) rfl
        rw [t_X12_number_11, if_pos ((pn_lt (by omega) (by omega)).mpr (by omega)), m_fine_y hR, Option.bind_some]
        dsimp only
        rw [if_neg (show ¬ (1 : Int32) = 0 by decide), m_here hR (by omega), Option.bind_some]
        dsimp only
        rw [hin, Option.bind_some]
        dsimp only
        rw [pi_if (pb2_0 (inS L mx tx q 48 10)), hone υ q hR (by omega), Option.bind_some]
        unfold dgN
        by_cases c2 : inS L mx tx q 48 10
        · rw [if_neg (fun z => z c2), if_pos c2, if_pos c2, pn_a1]
          dsimp only
          rw [show (10 : Int32) * Int32.ofNat v = Int32.ofNat (10 * v) from pn_mul 10 v, pn_add]
          exact ih (i + 1) (q + 1) _ f _ (by omega) (by omega) (by omega) (hR.at (q + 1)) (hF.up (by omega) _)
        · rw [if_pos c2, if_neg c2]
          exact ⟨υ, rfl, hR, hF⟩
    exact main m 0 (p + 1) (tx p - 48) en_FU _ (by omega) (by omega) (by omega) (h.at (p + 1)) ((FrU.refl τ).up (by omega) _)
  · intro c
    obtain ⟨f, hf⟩ : ∃ j, en_FU = j + 1 := ⟨en_FU - 1, by omega⟩
    rw [if_neg c, hf]
    dsimp only
    rw [t_X12_number_11]
    by_cases c2 : (1 : Int32) < Int32.ofNat (m + 1)
    · rw [if_pos c2, m_fine_n (h.flt _) (by omega), Option.bind_some]
      dsimp only
      rw [if_pos (show (0 : Int32) = 0 from rfl)]
      exact ⟨_, rfl, h.flt _, (FrU.refl τ).up (by omega) _⟩
    · rw [if_neg c2]
      exact ⟨_, rfl, h.flt _, (FrU.refl τ).up (by omega) _⟩
def FrA (k : Nat) (τ τ' : en_M) : Prop := (∀ c, c ≠ 185 → c ≠ 196 → τ' c = τ c) ∧ (∀ j, j < 12 ∨ 16 < j → τ' 185 j = τ 185 j) ∧ ∀ j, j ≠ 2 * k → j ≠ 2 * k + 1 → τ' 196 j = τ 196 j
theorem FrA.refl (k : Nat) (τ : en_M) : FrA k τ τ := ⟨fun _ _ _ => rfl, fun _ _ => rfl, fun _ _ _ => rfl⟩
theorem FrA.up {k : Nat} {τ τ' : en_M} (h : FrA k τ τ') {j : Nat} (hj : 12 ≤ j ∧ j ≤ 16) (v : Int32) : FrA k τ (en_up τ' 185 j v) := ⟨fun c h1 h2 => by rw [pu_row h1]; exact h.1 c h1 h2, fun i hi => by rw [pu_slot (by omega)]; exact h.2.1 i hi, fun i h1 h2 => by rw [pu_cell (by omega)]; exact h.2.2 i h1 h2⟩
theorem FrA.put {k : Nat} {τ τ' : en_M} (h : FrA k τ τ') {j : Nat} (hj : j = 2 * k ∨ j = 2 * k + 1) (v : Int32) : FrA k τ (en_up τ' 196 j v) := ⟨fun c h1 h2 => by rw [pu_row h2]; exact h.1 c h1 h2, fun i hi => by rw [pu_cell (by omega)]; exact h.2.1 i hi, fun i h1 h2 => by rw [pu_slot (by omega)]; exact h.2.2 i h1 h2⟩
theorem FrA.u {k : Nat} {τ τ' τ'' : en_M} (h : FrA k τ τ') (h2 : FrU τ' τ'') : FrA k τ τ'' := ⟨fun c c1 c2 => by rw [h2.1 c c1]; exact h.1 c c1 c2, fun i hi => by rw [h2.2 i hi]; exact h.2.1 i hi, fun i c1 c2 => by rw [h2.1 196 (by omega)]; exact h.2.2 i c1 c2⟩
theorem RD.put {τ L mx tx p e} (h : RD τ 189 L mx tx p e) (j : Nat) (v : Int32) : RD (en_up τ 196 j v) 189 L mx tx p e := h.fr (fun _ _ _ => pu_cell (by omega)) (pu_row (by omega))
/-- an act read, on the reference's side -/
def AM (L : Nat) (tx : Nat → Nat) (p k : Nat) (τ τ' : en_M) : Prop := FrA k τ τ' ∧ ∃ e' p', RD τ' 189 L 60 tx p' e' ∧ ((actN L tx p).1 = true ∧ e' = -1 ∧ p' = (actN L tx p).2.1 ∧ τ' 196 (2 * k) = Int32.ofNat (actN L tx p).2.2.1 ∧ τ' 196 (2 * k + 1) = Int32.ofNat (actN L tx p).2.2.2 ∨ (actN L tx p).1 = false ∧ e' = Int32.ofNat (actN L tx p).2.1)
theorem r_readAct {L p k : Nat} {tx : Nat → Nat} {τ : en_M} (h : RD τ 189 L 60 tx p (-1)) (hk : k ≤ 30) (hp : p ≤ 60) :
    ∃ τ', O_X12_readAct [.inr (185, 12, 0, 0), .inl ((2 : Int32) * Int32.ofNat k)] τ = some τ' ∧ AM L tx p k τ τ' := by
  have hFU := en_FU_ge
  have hb := h.2.2.2.2.2.2.1
  have ix0 : en_ix (Int32.ofNat (2 * k)) 160 = some (2 * k) := pn_ix (by omega) (by omega)
  have ix1 : en_ix (Int32.ofNat (2 * k + 1)) 160 = some (2 * k + 1) := pn_ix (by omega) (by omega)
  have hone : ∀ (υ : en_M) (q : Nat), RD υ 189 L 60 tx q (-1) → q < 1000 → O_X12_oneOf [.inr (185, 12, 0, 0), .inl (97 : Int32), .inl (7 : Int32)] υ = some (if inS L 60 tx q 97 7 then (Int32.ofNat (tx q - 97), en_up υ 185 15 (Int32.ofNat (q + 1))) else (0, en_up υ 185 16 (Int32.ofNat q))) := fun υ q hR hq => m_oneOf (a := 97) (m := 7) hR hq (by omega) (by omega)
  rw [o_X12_readAct, show (2 : Int32) * Int32.ofNat k = Int32.ofNat (2 * k) from pn_mul 2 k, t_X12_readAct_0, pn_a1, ix0, Option.bind_some, ix1, Option.bind_some]
  have hR0 : RD (en_up (en_up τ 196 (2 * k) 0) 196 (2 * k + 1) 0) 189 L 60 tx p (-1) := (h.put _ _).put _ _
  have hF0 : FrA k τ (en_up (en_up τ 196 (2 * k) 0) 196 (2 * k + 1) 0) := ((FrA.refl k τ).put (Or.inl rfl) _).put (Or.inr rfl) _
  have z0 : (en_up (en_up τ 196 (2 * k) 0) 196 (2 * k + 1) 0) 196 (2 * k) = 0 := by rw [pu_slot (by omega), pu_same]
  have z1 : (en_up (en_up τ 196 (2 * k) 0) 196 (2 * k + 1) 0) 196 (2 * k + 1) = 0 := pu_same _ _ _ _
  generalize en_up (en_up τ 196 (2 * k) 0) 196 (2 * k + 1) 0 = τ0 at hR0 hF0 z0 z1 ⊢
  rw [m_passes hR0 (by omega), Option.bind_some]
  by_cases c1 : hr L 60 tx p = 45
  · have ea : actN L tx p = (true, p + 1, 0, 0) := if_pos c1
    rw [if_pos c1]
    dsimp only
    rw [if_neg (show ¬ (1 : Int32) = 0 by decide)]
    refine ⟨_, rfl, hF0.up (by omega) _, -1, p + 1, hR0.at (p + 1), Or.inl ⟨by rw [ea], rfl, by rw [ea], ?_, ?_⟩⟩
    · rw [pu_cell (by omega), z0, ea]; rfl
    · rw [pu_cell (by omega), z1, ea]; rfl
  rw [if_neg c1]
  dsimp only
  rw [if_pos (show (0 : Int32) = 0 from rfl), m_passes hR0 (by omega), Option.bind_some]
  by_cases c2 : hr L 60 tx p = 114
  · have ea : actN L tx p = (if inS L 60 tx (p + 1) 48 10 then (if inS L 60 tx (p + 2) 48 10 then (true, p + 3, 1, (tx (p + 1) - 48) * 10 + (tx (p + 2) - 48)) else (true, p + 2, 1, tx (p + 1) - 48)) else (false, p + 1, 0, 0)) := by
      unfold actN
      rw [if_neg c1, if_pos c2]
    rw [if_pos c2]
    dsimp only
    rw [if_neg (show ¬ (1 : Int32) = 0 by decide), Option.bind_some]
    have hR1 : RD (en_up (en_up τ0 185 15 (Int32.ofNat (p + 1))) 196 (2 * k) 1) 189 L 60 tx (p + 1) (-1) := (hR0.at (p + 1)).put _ _
    have hF1 : FrA k τ (en_up (en_up τ0 185 15 (Int32.ofNat (p + 1))) 196 (2 * k) 1) := (hF0.up (by omega) _).put (Or.inl rfl) _
    have w0 : (en_up (en_up τ0 185 15 (Int32.ofNat (p + 1))) 196 (2 * k) 1) 196 (2 * k) = 1 := pu_same _ _ _ _
    generalize en_up (en_up τ0 185 15 (Int32.ofNat (p + 1))) 196 (2 * k) 1 = τ1 at hR1 hF1 w0 ⊢
    obtain ⟨n1, n2⟩ := m_number (m := 1) hR1 (by omega) (by omega)
    by_cases c3 : inS L 60 tx (p + 1) 48 10
    · obtain ⟨τ2, e1, e2, e3⟩ := n1 c3
      have e1' : O_X12_number [.inr (185, 12, 0, 0), .inl (2 : Int32)] τ1 = _ := e1
      rw [e1', Option.bind_some, Option.bind_some]
      refine ⟨_, rfl, (hF1.u e3).put (Or.inr rfl) _, -1, _, e2.put _ _, Or.inl ?_⟩
      rw [ea, if_pos c3]
      have hd : dgN L 60 tx 1 (p + 1 + 1) (tx (p + 1) - 48) = if inS L 60 tx (p + 2) 48 10 then (p + 3, 10 * (tx (p + 1) - 48) + (tx (p + 2) - 48)) else (p + 2, tx (p + 1) - 48) := rfl
      rw [hd]
      dsimp only
      rw [pu_slot (by omega), pu_same, e3.1 196 (by omega), w0]
      by_cases c4 : inS L 60 tx (p + 2) 48 10
      · rw [if_pos c4, if_pos c4, Nat.mul_comm]
        exact ⟨rfl, rfl, rfl, rfl, rfl⟩
      · rw [if_neg c4, if_neg c4]
        exact ⟨rfl, rfl, rfl, rfl, rfl⟩
    · obtain ⟨τ2, e1, e2, e3⟩ := n2 c3
      have e1' : O_X12_number [.inr (185, 12, 0, 0), .inl (2 : Int32)] τ1 = _ := e1
      rw [e1', Option.bind_some, Option.bind_some]
      refine ⟨_, rfl, (hF1.u e3).put (Or.inr rfl) _, _, _, e2.put _ _, Or.inr ?_⟩
      rw [ea, if_neg c3]
      exact ⟨rfl, rfl⟩
  rw [if_neg c2]
  dsimp only
  rw [if_pos (show (0 : Int32) = 0 from rfl), m_passes hR0 (by omega), Option.bind_some]
  by_cases c3 : hr L 60 tx p = 33
  · have ea : actN L tx p = (if inS L 60 tx (p + 1) 97 7 then (true, p + 2, 2, tx (p + 1) - 97) else (false, p + 1, 0, 0)) := by
      unfold actN
      rw [if_neg c1, if_neg c2, if_pos c3]
    rw [if_pos c3]
    dsimp only
    rw [if_neg (show ¬ (1 : Int32) = 0 by decide), Option.bind_some]
    have hR1 : RD (en_up (en_up τ0 185 15 (Int32.ofNat (p + 1))) 196 (2 * k) 2) 189 L 60 tx (p + 1) (-1) := (hR0.at (p + 1)).put _ _
    have hF1 : FrA k τ (en_up (en_up τ0 185 15 (Int32.ofNat (p + 1))) 196 (2 * k) 2) := (hF0.up (by omega) _).put (Or.inl rfl) _
    have w0 : (en_up (en_up τ0 185 15 (Int32.ofNat (p + 1))) 196 (2 * k) 2) 196 (2 * k) = 2 := pu_same _ _ _ _
    generalize en_up (en_up τ0 185 15 (Int32.ofNat (p + 1))) 196 (2 * k) 2 = τ1 at hR1 hF1 w0 ⊢
    rw [hone τ1 (p + 1) hR1 (by omega), Option.bind_some, Option.bind_some]
    by_cases c4 : inS L 60 tx (p + 1) 97 7
    · rw [if_pos c4]
      refine ⟨_, rfl, (hF1.up (by omega) _).put (Or.inr rfl) _, -1, _, (hR1.at (p + 1 + 1)).put _ _, Or.inl ?_⟩
      rw [ea, if_pos c4, pu_slot (by omega), pu_same]
      dsimp only
      rw [pu_cell (by omega), w0]
      exact ⟨rfl, rfl, rfl, rfl, rfl⟩
    · rw [if_neg c4]
      refine ⟨_, rfl, (hF1.up (by omega) _).put (Or.inr rfl) _, _, _, (hR1.flt _).put _ _, Or.inr ?_⟩
      rw [ea, if_neg c4]
      exact ⟨rfl, rfl⟩
  rw [if_neg c3]
  dsimp only
  rw [if_pos (show (0 : Int32) = 0 from rfl)]
  have ea : actN L tx p = ((ltN L tx 60 p 0).2.2 && decide ((ltN L tx 60 p 0).1 ≠ p), (ltN L tx 60 p 0).1, 0, (ltN L tx 60 p 0).2.1) := by
    unfold actN
    rw [if_neg c1, if_neg c2, if_neg c3]
  have stop : ∀ (f : Nat) (a b : en_V) (υ : en_M) (p' q : Nat), q < 1000 → RD υ 189 L 60 tx p' (Int32.ofNat q) → T_X12_readAct_89 (f + 1) (Int32.ofNat (2 * k)) a b υ = en_rv υ := fun f a b υ p' q hq hR => by
    rw [t_X12_readAct_89, m_fine_n hR hq, Option.bind_some]
    dsimp only
    rw [if_pos (show (0 : Int32) = 0 from rfl)]
  have main : ∀ K q s f a b υ, p ≤ q → 60 ≤ q + K → q ≤ 60 → s < 128 → (q = p ∧ s = 0 ∨ p < q ∧ 0 < s) → K + 5 < f → RD υ 189 L 60 tx q (-1) → FrA k τ υ → υ 196 (2 * k) = 0 → υ 196 (2 * k + 1) = Int32.ofNat s → ltN L tx 60 p 0 = ltN L tx K q s →
      ∃ τ', en_ov (T_X12_readAct_89 f (Int32.ofNat (2 * k)) a b υ) = some τ' ∧ AM L tx p k τ τ' := by
    intro K
    -- nothing more is told
    have done : ∀ q s υ, p < q → RD υ 189 L 60 tx q (-1) → FrA k τ υ → υ 196 (2 * k) = 0 → υ 196 (2 * k + 1) = Int32.ofNat s → ltN L tx 60 p 0 = (q, s, true) → ∃ τ', en_ov (en_rv υ) = some τ' ∧ AM L tx p k τ τ' := fun q s υ hq hR hF h0 h1 he => by
      refine ⟨υ, rfl, hF, -1, q, hR, Or.inl ?_⟩
      rw [ea, he, h0, h1]
      exact ⟨by rw [Bool.true_and]; exact decide_eq_true (show q ≠ p by omega), rfl, rfl, rfl, rfl⟩
    have wrong : ∀ (q s : Nat) (d : Bool) (υ : en_M) (p' : Nat), RD υ 189 L 60 tx p' (Int32.ofNat q) → FrA k τ υ → ltN L tx 60 p 0 = (q, s, d) → (d && decide (q ≠ p)) = false → ∃ τ', en_ov (en_rv υ) = some τ' ∧ AM L tx p k τ τ' := fun q s d υ p' hR hF he hd => by
      refine ⟨υ, rfl, hF, Int32.ofNat q, p', hR, Or.inr ?_⟩
      rw [ea, he]
      exact ⟨hd, rfl⟩
    induction K with
    | zero =>
      intro q s f a b υ hpq hqK hq hs hqs hf hR hF h0 h1 he
      obtain ⟨f, rfl⟩ : ∃ j, f = j + 1 + 1 := ⟨f - 2, by omega⟩
      have nin : ¬ inS L 60 tx q 97 7 := fun z => by have := z.2.1; omega
      have he : ltN L tx 60 p 0 = (q, s, true) := he
      have hin : O_X12_in [.inl (hr L 60 tx q), .inl (97 : Int32), .inl (103 : Int32)] υ = some (pb2 (inS L 60 tx q 97 7), υ) := m_in (a := 97) (m := 7) hb (by omega) (by omega) rfl
      rw [t_X12_readAct_89, m_fine_y hR, Option.bind_some]
      dsimp only
      rw [if_neg (show ¬ (1 : Int32) = 0 by decide), pn_a1, ix1, Option.bind_some, pi_if (show (υ 196 (2 * k + 1) = 0) = (s = 0) by rw [h1]; exact pn_eq0 (by omega))]
      by_cases cs : s = 0
      · have hq2 : q = p := by omega
        rw [if_pos cs, hone υ q hR (by omega), if_neg nin, Option.bind_some]
        dsimp only
        rw [m_fine_n (hR.flt _) (by omega), Option.bind_some]
        dsimp only
        rw [if_pos (show (0 : Int32) = 0 from rfl), Option.bind_some, Option.bind_some, stop f _ _ _ _ _ (by omega) ((hR.flt (Int32.ofNat q)).put _ _)]
        exact wrong q s true _ q ((hR.flt (Int32.ofNat q)).put _ _) ((hF.up (by omega) _).put (Or.inr rfl) _) he (by rw [Bool.true_and]; exact decide_eq_false (fun z => z hq2))
      · rw [if_neg cs, m_here hR (by omega), Option.bind_some]
        dsimp only
        rw [hin, Option.bind_some]
        dsimp only
        rw [pi_if (pb2_0 (inS L 60 tx q 97 7)), if_pos nin]
        exact done q s υ (by omega) hR hF h0 h1 he
    | succ K ih =>
      intro q s f a b υ hpq hqK hq hs hqs hf hR hF h0 h1 he
      obtain ⟨f, rfl⟩ : ∃ j, f = j + 1 + 1 := ⟨f - 2, by omega⟩
      conv at he => rhs; unfold ltN
      have hin : O_X12_in [.inl (hr L 60 tx q), .inl (97 : Int32), .inl (103 : Int32)] υ = some (pb2 (inS L 60 tx q 97 7), υ) := m_in (a := 97) (m := 7) hb (by omega) (by omega) rfl
      have yes : ∀ r : en_R, (s = 0 ∨ inS L 60 tx q 97 7) → r = ((O_X12_oneOf [.inr (185, 12, 0, 0), .inl (97 : Int32), .inl (7 : Int32)] υ).bind fun r14 => (O_X12_fine [.inr (185, 12, 0, 0)] r14.2).bind fun r15 => if r15.1 = 0 then ((some (2 * k + 1)).bind fun j16 => (some (2 * k + 1)).bind fun j17 => T_X12_readAct_89 (f + 1) (Int32.ofNat (2 * k)) (.inl (υ 185 15)) (.inl r14.1) (en_up r15.2 196 j17 ((r15.2 196 j16) ||| (en_shl (1 : Int32) r14.1)))) else ((some (2 * k + 1)).bind fun j18 => (O_X12_has [.inl (r15.2 196 j18), .inl r14.1] r15.2).bind fun r19 => if r19.1 = 0 then ((some (2 * k + 1)).bind fun j20 => (some (2 * k + 1)).bind fun j21 => T_X12_readAct_89 (f + 1) (Int32.ofNat (2 * k)) (.inl (υ 185 15)) (.inl r14.1) (en_up r19.2 196 j21 ((r19.2 196 j20) ||| (en_shl (1 : Int32) r14.1)))) else ((O_X12_fault [.inr (185, 12, 0, 0), .inl (υ 185 15)] r19.2).bind fun r22 => (some (2 * k + 1)).bind fun j23 => (some (2 * k + 1)).bind fun j24 => T_X12_readAct_89 (f + 1) (Int32.ofNat (2 * k)) (.inl (υ 185 15)) (.inl r14.1) (en_up r22 196 j24 ((r22 196 j23) ||| (en_shl (1 : Int32) r14.1)))))) → ∃ τ', en_ov r = some τ' ∧ AM L tx p k τ τ' := by
        rintro r hor rfl
        rw [hone υ q hR (by omega), Option.bind_some]
        by_cases c4 : inS L 60 tx q 97 7
        · rw [if_pos c4] at he
          have hu := c4.2.2
          have h60 := c4.2.1
          have hR1 := hR.at (q + 1)
          have hF1 : FrA k τ (en_up υ 185 15 (Int32.ofNat (q + 1))) := hF.up (by omega) _
          have w1 : (en_up υ 185 15 (Int32.ofNat (q + 1))) 196 (2 * k + 1) = Int32.ofNat s := by rw [pu_cell (by omega)]; exact h1
          have w0 : (en_up υ 185 15 (Int32.ofNat (q + 1))) 196 (2 * k) = 0 := by rw [pu_cell (by omega)]; exact h0
          rw [if_pos c4]
          dsimp only
          rw [m_fine_y hR1, Option.bind_some]
          dsimp only
          rw [if_neg (show ¬ (1 : Int32) = 0 by decide), Option.bind_some, w1, q_has, Option.bind_some]
          dsimp only
          rw [pi_if ((pb2_0 _).trans (congrArg Not (pb_bit1 (show s < 2147483648 by omega) (show tx q - 97 < 32 by omega)))), Option.bind_some, Option.bind_some, w1, pb_1 (by omega), pn_or]
          by_cases c5 : s.testBit (tx q - 97) = true
          · rw [if_pos c5] at he
            rw [if_neg (fun z => z c5), hR.2.2.2.1, m_fault hR1, Option.bind_some, Option.bind_some, Option.bind_some, stop f _ _ _ _ _ (by omega) ((hR1.flt (Int32.ofNat q)).put _ _)]
            exact wrong q s false _ _ ((hR1.flt (Int32.ofNat q)).put _ _) ((hF1.up (by omega) _).put (Or.inr rfl) _) he rfl
          · rw [if_neg c5] at he
            rw [if_pos c5]
            refine ih (q + 1) (s ||| 2 ^ (tx q - 97)) (f + 1) _ _ _ (by omega) (by omega) (by omega) (or_128 hs (by omega)) (Or.inr ⟨by omega, ?_⟩) (by omega) (hR1.put _ _) (hF1.put (Or.inr rfl) _) (by rw [pu_slot (by omega)]; exact w0) (pu_same _ _ _ _) he
            have := Nat.two_pow_pos (tx q - 97)
            have : 2 ^ (tx q - 97) ≤ s ||| 2 ^ (tx q - 97) := Nat.right_le_or
            omega
        · rw [if_neg c4] at he
          have hs0 : s = 0 := hor.resolve_right c4
          have hq2 : q = p := by omega
          rw [if_neg c4]
          dsimp only
          rw [m_fine_n (hR.flt _) (by omega), Option.bind_some]
          dsimp only
          rw [if_pos (show (0 : Int32) = 0 from rfl), Option.bind_some, Option.bind_some, stop f _ _ _ _ _ (by omega) ((hR.flt (Int32.ofNat q)).put _ _)]
          exact wrong q s true _ q ((hR.flt (Int32.ofNat q)).put _ _) ((hF.up (by omega) _).put (Or.inr rfl) _) he (by rw [Bool.true_and]; exact decide_eq_false (fun z => z hq2))
      rw [t_X12_readAct_89, m_fine_y hR, Option.bind_some]
      dsimp only
      rw [if_neg (show ¬ (1 : Int32) = 0 by decide), pn_a1, ix1, Option.bind_some, pi_if (show (υ 196 (2 * k + 1) = 0) = (s = 0) by rw [h1]; exact pn_eq0 (by omega))]
      by_cases cs : s = 0
      · rw [if_pos cs]
        exact yes _ (Or.inl cs) rfl
      · rw [if_neg cs, m_here hR (by omega), Option.bind_some]
        dsimp only
        rw [hin, Option.bind_some]
        dsimp only
        rw [pi_if (pb2_0 (inS L 60 tx q 97 7))]
        by_cases c4 : inS L 60 tx q 97 7
        · rw [if_neg (fun z => z c4)]
          exact yes _ (Or.inr c4) rfl
        · rw [if_neg c4] at he
          rw [if_pos c4]
          exact done q s υ (by omega) hR hF h0 h1 he
  exact main 60 p 0 en_FU en_un en_un τ0 (Nat.le_refl _) (by omega) hp (by omega) (Or.inl ⟨rfl, rfl⟩) (by omega) hR0 hF0 z0 z1 rfl
