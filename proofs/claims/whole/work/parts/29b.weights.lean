/-! weights read -/
def wtN (tx : Nat → Nat) (r : Nat) : Int32 := Int32.ofNat (tx r) - 48
theorem q_weigh {L : Nat} {tx : Nat → Nat} {σ : en_M} (hT : CT σ L tx) (h7 : L ≤ 7) (x3 : Int32) {f : Nat} (hf : 10 < f) : ∃ σ', en_oi (T_X10_readWeights_70 f (Int32.ofNat L) x3 0 (en_up (en_up σ 5 3 (Int32.ofNat L)) 5 4 0)) = some (Int32.ofNat L, σ') ∧ σ' 5 3 = Int32.ofNat L ∧ σ' 5 4 = Int32.ofNat (tnN (wtN tx) L) ∧ (∀ r, r < L → σ' 6 r = wtN tx r) ∧ (∀ j, j ≠ 3 → j ≠ 4 → σ' 5 j = σ 5 j) ∧ σ' 7 2 = 1 ∧ σ' 8 0 = 0 ∧ ∀ c, c ≠ 5 → c ≠ 6 → c ≠ 7 → c ≠ 8 → σ' c = σ c := by
  refine pl_for1 (F := fun f i (q : en_M) => T_X10_readWeights_70 f (Int32.ofNat L) x3 (Int32.ofNat i) q) (P := fun i q => q 5 3 = Int32.ofNat L ∧ q 5 4 = Int32.ofNat (tnN (wtN tx) i) ∧ (∀ r, r < i → q 6 r = wtN tx r) ∧ (∀ j, j ≠ 3 → j ≠ 4 → q 5 j = σ 5 j) ∧ ∀ c, c ≠ 5 → c ≠ 6 → q c = σ c) (Q := fun r => ∃ σ', en_oi r = some (Int32.ofNat L, σ') ∧ σ' 5 3 = Int32.ofNat L ∧ σ' 5 4 = Int32.ofNat (tnN (wtN tx) L) ∧ (∀ r, r < L → σ' 6 r = wtN tx r) ∧ (∀ j, j ≠ 3 → j ≠ 4 → σ' 5 j = σ 5 j) ∧ σ' 7 2 = 1 ∧ σ' 8 0 = 0 ∧ ∀ c, c ≠ 5 → c ≠ 6 → c ≠ 7 → c ≠ 8 → σ' c = σ c) (N := L) ?_ ?_ L 0 f _ (by omega) (by omega) ⟨by rw [pu_slot (by omega), pu_same], by rw [pu_same]; rfl, fun r hr => absurd hr (by omega), fun j h3 h4 => by rw [pu_slot h4, pu_slot h3], fun c h5 h6 => by rw [pu_row h5, pu_row h5]⟩
  · rintro f i τ hi ⟨p1, p2, p3, p4, p5⟩
    have hTτ : CT τ L tx := hT.fr (p5 1 (by omega) (by omega)) (p5 2 (by omega) (by omega))
    have htn : tnN (wtN tx) i ≤ i ∧ (i ≠ 0 → tnN (wtN tx) i < i) := by
      by_cases e : i = 0
      · subst e; exact ⟨Nat.le_refl _, fun q => absurd rfl q⟩
      · have := tnN_lt (wtN tx) i (by omega); exact ⟨by omega, fun _ => this⟩
    have hv : en_up τ 6 i (wtN tx i) 6 (tnN (wtN tx) i) = wtN tx (tnN (wtN tx) i) := by
      rw [pu_at]
      by_cases e : tnN (wtN tx) i = i
      · rw [if_pos e, e]
      · rw [if_neg e]; exact p3 _ (by omega)
    have ht1 : tnN (wtN tx) (i + 1) = if wtN tx i < wtN tx (tnN (wtN tx) i) then tnN (wtN tx) i else i := by
      conv => lhs; unfold tnN
      by_cases e : i = 0
      · subst e
        rw [if_pos rfl]
        split <;> rfl
      · rw [if_neg e]
    have fin : ∀ z : Int32, z = Int32.ofNat (tnN (wtN tx) (i + 1)) → ∃ q', T_X10_readWeights_70 f (Int32.ofNat L) x3 (Int32.ofNat (i + 1)) (en_up (en_up τ 6 i (wtN tx i)) 5 4 z) = T_X10_readWeights_70 f (Int32.ofNat L) x3 (Int32.ofNat (i + 1)) q' ∧ q' 5 3 = Int32.ofNat L ∧ q' 5 4 = Int32.ofNat (tnN (wtN tx) (i + 1)) ∧ (∀ r, r < i + 1 → q' 6 r = wtN tx r) ∧ (∀ j, j ≠ 3 → j ≠ 4 → q' 5 j = σ 5 j) ∧ ∀ c, c ≠ 5 → c ≠ 6 → q' c = σ c := by
      rintro z rfl
      refine ⟨en_up (en_up τ 6 i (wtN tx i)) 5 4 (Int32.ofNat (tnN (wtN tx) (i + 1))), rfl, ?_, pu_same _ _ _ _, fun r hr => ?_, fun j h3 h4 => ?_, fun c h5 h6 => ?_⟩
      · rw [pu_slot (by omega), pu_cell (by omega)]; exact p1
      · rw [pu_cell (by omega), pu_at]
        by_cases e : r = i
        · rw [if_pos e, e]
        · rw [if_neg e]; exact p3 r (by omega)
      · rw [pu_slot h4, pu_cell (by omega)]; exact p4 j h3 h4
      · rw [pu_row h5, pu_row h6]; exact p5 c h5 h6
    left
    show ∃ q', T_X10_readWeights_70 (f + 1) _ _ _ τ = _ ∧ _
    have ha : O_X8_at [.inr (1, 8, 0, 0), .inl (Int32.ofNat i), .inl (7 : Int32)] τ = some (Int32.ofNat (tx i), τ) := by
      have := q_at hTτ (show L ≤ 80 by omega) (show i < 1000 by omega) (show 7 < 1000 by omega)
      rw [if_pos hi, if_pos (by omega)] at this
      exact this
    rw [t_X10_readWeights_70, if_pos ((pn_lt (by omega) (by omega)).mpr hi), ha, Option.bind_some, pn_ix (show i < 7 by omega) (by omega), Option.bind_some, Option.bind_some]
    dsimp only
    rw [p2, pn_ix (show tnN (wtN tx) i < 7 by omega) (by omega), Option.bind_some, pn_a1]
    show ∃ q', (if (en_up τ 6 i (wtN tx i)) 6 i < (en_up τ 6 i (wtN tx i)) 6 (tnN (wtN tx) i) then T_X10_readWeights_70 f (Int32.ofNat L) x3 (Int32.ofNat (i + 1)) (en_up (en_up τ 6 i (wtN tx i)) 5 4 (Int32.ofNat (tnN (wtN tx) i))) else T_X10_readWeights_70 f (Int32.ofNat L) x3 (Int32.ofNat (i + 1)) (en_up (en_up τ 6 i (wtN tx i)) 5 4 (Int32.ofNat i))) = _ ∧ _
    rw [pi_if (show ((en_up τ 6 i (wtN tx i)) 6 i < (en_up τ 6 i (wtN tx i)) 6 (tnN (wtN tx) i)) = (wtN tx i < wtN tx (tnN (wtN tx) i)) by rw [pu_same, hv])]
    by_cases c1 : wtN tx i < wtN tx (tnN (wtN tx) i)
    · rw [if_pos c1]; exact fin _ (by rw [ht1, if_pos c1])
    · rw [if_neg c1]; exact fin _ (by rw [ht1, if_neg c1])
  · rintro f τ ⟨p1, p2, p3, p4, p5⟩
    show ∃ σ', en_oi (T_X10_readWeights_70 (f + 1) _ _ _ τ) = _ ∧ _
    rw [t_X10_readWeights_70, if_neg (by rw [pn_lt (by omega) (by omega)]; omega), q_useX, Option.bind_some]
    refine ⟨_, rfl, ?_, ?_, fun r hr => ?_, fun j h3 h4 => ?_, pu_same _ _ _ _, ?_, fun c h5 h6 h7 h8 => ?_⟩
    · rw [pu_cell (by omega), pu_cell (by omega)]; exact p1
    · rw [pu_cell (by omega), pu_cell (by omega)]; exact p2
    · rw [pu_cell (by omega), pu_cell (by omega)]; exact p3 r hr
    · rw [pu_cell (by omega), pu_cell (by omega)]; exact p4 j h3 h4
    · rw [pu_cell (by omega), pu_same]
    · rw [pu_row h7, pu_row h8]; exact p5 c h5 h6
/-- the tower's weights, read or refused -/
theorem q_readWeights {L : Nat} {tx : Nat → Nat} {σ : en_M} (hT : CT σ L tx) (hL : L ≤ 80) (hb : ∀ j, tx j < 256) :
    (scN L tx 7 0 = L ∧ 3 ≤ L → ∃ σ', O_X10_readWeights [.inr (5, 10, 0, 0), .inr (1, 8, 0, 0)] σ = some (Int32.ofNat L, σ') ∧ σ' 5 3 = Int32.ofNat L ∧ σ' 5 4 = Int32.ofNat (tnN (wtN tx) L) ∧ (∀ r, r < L → σ' 6 r = wtN tx r) ∧ (∀ j, j ≠ 3 → j ≠ 4 → σ' 5 j = σ 5 j) ∧ σ' 7 2 = 1 ∧ σ' 8 0 = 0 ∧ ∀ c, c ≠ 5 → c ≠ 6 → c ≠ 7 → c ≠ 8 → σ' c = σ c) ∧
    (¬ (scN L tx 7 0 = L ∧ 3 ≤ L) → O_X10_readWeights [.inr (5, 10, 0, 0), .inr (1, 8, 0, 0)] σ = some (-1 - Int32.ofNat (scN L tx 7 0), σ)) := by
  have hat : ∀ i, i < 8 → O_X8_at [.inr (1, 8, 0, 0), .inl (Int32.ofNat i), .inl (7 : Int32)] σ = some (if i < L then if i < 7 then Int32.ofNat (tx i) else -2 else -1, σ) := fun i hi => q_at hT hL (show i < 1000 by omega) (show 7 < 1000 by omega)
  have hat0 : O_X8_at [.inr (1, 8, 0, 0), .inl (0 : Int32), .inl (7 : Int32)] σ = some (if 0 < L then if 0 < 7 then Int32.ofNat (tx 0) else -2 else -1, σ) := hat 0 (by omega)
  have main : ∀ k i f (v : Int32), i + k = 7 → i ≤ L → 20 + k < f → v = (if i < L then if i < 7 then Int32.ofNat (tx i) else -2 else -1) → scN L tx 7 0 = scN L tx k i →
      (scN L tx 7 0 = L ∧ 3 ≤ L → ∃ f', 10 < f' ∧ ∃ v', T_X10_readWeights_10 f (Int32.ofNat i) v σ = T_X10_readWeights_70 f' (Int32.ofNat L) v' 0 (en_up (en_up σ 5 3 (Int32.ofNat L)) 5 4 0)) ∧ (¬ (scN L tx 7 0 = L ∧ 3 ≤ L) → en_oi (T_X10_readWeights_10 f (Int32.ofNat i) v σ) = some (-1 - Int32.ofNat (scN L tx 7 0), σ)) := by
    intro k
    induction k with
    | zero =>
      intro i f v hi hiL hf hv hs
      have hi : i = 7 := hi
      subst hi
      obtain ⟨f, rfl⟩ : ∃ j, f = j + 1 := ⟨f - 1, by omega⟩
      have hs : scN L tx 7 0 = 7 := hs
      rw [hs, t_X10_readWeights_10, if_neg (show ¬ Int32.ofNat 7 < (7 : Int32) by decide)]
      by_cases c1 : 7 < L
      · rw [if_pos c1, if_neg (by omega)] at hv
        rw [hv, if_neg (by decide), q_cannotStand, Option.bind_some]
        exact ⟨fun q => absurd q.1 (by omega), fun _ => rfl⟩
      · rw [if_neg c1] at hv
        have : L = 7 := by omega
        subst this
        rw [hv, if_pos rfl, if_neg (by decide)]
        exact ⟨fun _ => ⟨f, by omega, _, rfl⟩, fun q => absurd ⟨rfl, by omega⟩ q⟩
    | succ k ih =>
      intro i f v hi hiL hf hv hs
      obtain ⟨f, rfl⟩ : ∃ j, f = j + 1 := ⟨f - 1, by omega⟩
      rw [t_X10_readWeights_10, if_pos (show Int32.ofNat i < (7 : Int32) from (pn_lt (b := 7) (by omega) (by omega)).mpr (by omega))]
      by_cases c1 : i < L
      · have hbi := hb i
        rw [if_pos c1, if_pos (by omega)] at hv
        rw [hv, pi_if (show (Int32.ofNat (tx i) < (49 : Int32)) = (tx i < 49) from pn_lt (b := 49) (by omega) (by omega)), pi_if (show ((57 : Int32) < Int32.ofNat (tx i)) = (57 < tx i) from pn_lt (a := 57) (by omega) (by omega)), if_neg (pn_nm1 (by omega)), q_cannotStand, Option.bind_some]
        conv at hs => rhs; unfold scN
        by_cases c2 : tx i < 49
        · have hs : scN L tx 7 0 = i := by rw [if_neg (by omega)] at hs; exact hs
          rw [if_pos c2, hs]
          exact ⟨fun q => absurd q.1 (by omega), fun _ => rfl⟩
        · by_cases c3 : 57 < tx i
          · have hs : scN L tx 7 0 = i := by rw [if_neg (by omega)] at hs; exact hs
            rw [if_neg c2, if_pos c3, hs]
            exact ⟨fun q => absurd q.1 (by omega), fun _ => rfl⟩
          · have hs : scN L tx 7 0 = scN L tx k (i + 1) := by rw [if_pos ⟨c1, by omega, by omega⟩] at hs; exact hs
            rw [if_neg c2, if_neg c3, pn_a1, hat (i + 1) (by omega), Option.bind_some]
            exact ih (i + 1) f _ (by omega) (by omega) (by omega) rfl hs
      · have hiL' : i = L := by omega
        rw [if_neg c1] at hv
        conv at hs => rhs; unfold scN
        have hs : scN L tx 7 0 = i := by rw [if_neg (fun q => c1 q.1)] at hs; exact hs
        rw [hv, if_pos (show (-1 : Int32) < 49 by decide), if_pos rfl, pi_if (show (Int32.ofNat i < (3 : Int32)) = (i < 3) from pn_lt (b := 3) (by omega) (by omega)), hs]
        by_cases c2 : i < 3
        · rw [if_pos c2, q_cannotStand, Option.bind_some]
          exact ⟨fun q => absurd q.2 (by omega), fun _ => rfl⟩
        · rw [if_neg c2]
          exact ⟨fun _ => ⟨f, by omega, _, by rw [hiL']⟩, fun q => absurd ⟨hiL', by omega⟩ q⟩
  have hFU := en_FU_ge
  obtain ⟨m1, m2⟩ := main 7 0 en_FU _ rfl (Nat.zero_le _) (by omega) rfl rfl
  rw [o_X10_readWeights, t_X10_readWeights_0, hat0, Option.bind_some]
  refine ⟨fun h => ?_, fun h => m2 h⟩
  obtain ⟨f', hf', v', e⟩ := m1 h
  have e : T_X10_readWeights_10 en_FU 0 (if 0 < L then if 0 < 7 then Int32.ofNat (tx 0) else -2 else -1) σ = _ := e
  dsimp only
  rw [e]
  have := scN_le L tx 7 0
  exact q_weigh hT (by omega) v' hf'
