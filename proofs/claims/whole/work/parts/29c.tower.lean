/-! tower -/
theorem CI.clear {σ : en_M} {g t ro x us kp} (h : CI σ (g, t, ro, x, us, kp)) : CI (en_up σ 1 1 0) (g, tx0, ro, x, us, kp) := by
  obtain ⟨h1', h2, h3, h4, h5, h6⟩ := h
  have e : ∀ c, c ≠ 1 → en_up σ 1 1 0 c = σ c := fun c hc => pu_row hc
  exact ⟨h1'.kept (e 5 (by omega)) (e 6 (by omega)) (e 7 (by omega)) (e 8 (by omega)) (by rw [e 10 (by omega)]) (e 11 (by omega)), CT.nil (pu_same _ _ _ _), h3.fr (e 3 (by omega)) (e 4 (by omega)), h4.all (fun j hj => e _ (by omega)), h5.fr (fun c _ _ => e c (by omega)), h6.fr (fun c _ _ => e c (by omega))⟩
theorem MI.clear {σ : en_M} {g t ro x us kp} (h : MI σ (g, t, ro, x, us, kp)) : MI (en_up σ 185 8 0) (g, tx0, ro, x, us, kp) := by
  obtain ⟨h1', h2, h3, h4, h5, h6⟩ := h
  have e : ∀ c, c ≠ 185 → en_up σ 185 8 0 c = σ c := fun c hc => pu_row hc
  have e8 : ∀ j, j ≠ 8 → en_up σ 185 8 0 185 j = σ 185 j := fun j hj => pu_slot hj
  exact ⟨h1'.keep (fun j hj => e8 j (by omega)) (e 187 (by omega)) (e 188 (by omega)) (e 192 (by omega)), MT.nil (pu_same _ _ _ _), h3.fr (e8 10 (by omega)) (e 190 (by omega)), by rw [e 186 (by omega)]; exact h4, h5.fr (e8 23 (by omega)) (e 194 (by omega)), h6.fr (e 208 (by omega)) (e 207 (by omega))⟩
theorem AV.clear {B : Nat} {g t ro x us kp} (h : AV B (g, t, ro, x, us, kp)) : AV B (g, tx0, ro, x, us, kp) := by
  obtain ⟨a1, a2, a3, a4, a5, a6, a7⟩ := h
  exact ⟨a1, a2, a3, a4, Nat.zero_le 80, fun _ => by show 0 < 256; omega, a7⟩
theorem MRule.fr {σ σ' : en_M} {V} (h : MRule σ V) (h19 : σ' 185 19 = σ 185 19) (h192 : σ' 192 = σ 192) : MRule σ' V := by
  unfold MRule; rw [h19, h192]; exact h
theorem CRule.fr {σ σ' : en_M} {V} (h : CRule σ V) (h10 : σ' 10 4 = σ 10 4) (h11 : σ' 11 = σ 11) : CRule σ' V := by
  unfold CRule; rw [h10, h11]; exact h
theorem scN_dg (L : Nat) (tx : Nat → Nat) : ∀ k i r, i ≤ r → r < scN L tx k i → 49 ≤ tx r ∧ tx r ≤ 57
  | 0, i, r, h1, h2 => by have h2 : r < i := h2; omega
  | k + 1, i, r, h1, h2 => by
    unfold scN at h2
    by_cases c : i < L ∧ 49 ≤ tx i ∧ tx i ≤ 57
    · rw [if_pos c] at h2
      by_cases e : r = i
      · rw [e]; exact c.2
      · exact scN_dg L tx k (i + 1) r (by omega) h2
    · rw [if_neg c] at h2; omega
/-- the reference's scan of a tower's signs -/
theorem r_scan {L : Nat} {tx : Nat → Nat} {τ : en_M} (hL : L ≤ 80) (hb : ∀ j, tx j < 256) (hT : ∀ j, j < L → τ 189 j = byt (tx j)) :
    (scN L tx 7 0 = L ∧ 3 ≤ L → ∃ f', 900000 < f' ∧ T_X12_tower_17 en_FU (Int32.ofNat L) 0 τ = T_X12_tower_65 f' (Int32.ofNat L) 0 τ) ∧
    (¬ (scN L tx 7 0 = L ∧ 3 ≤ L) → en_oi (T_X12_tower_17 en_FU (Int32.ofNat L) 0 τ) = some (-1 - Int32.ofNat (scN L tx 7 0), τ)) := by
  have main : ∀ k i f, i + k = 7 → i ≤ L → 900020 + k < f → scN L tx 7 0 = scN L tx k i →
      (scN L tx 7 0 = L ∧ 3 ≤ L → ∃ f', 900000 < f' ∧ T_X12_tower_17 f (Int32.ofNat L) (Int32.ofNat i) τ = T_X12_tower_65 f' (Int32.ofNat L) 0 τ) ∧ (¬ (scN L tx 7 0 = L ∧ 3 ≤ L) → en_oi (T_X12_tower_17 f (Int32.ofNat L) (Int32.ofNat i) τ) = some (-1 - Int32.ofNat (scN L tx 7 0), τ)) := by
    intro k
    induction k with
    | zero =>
      intro i f hi hiL hf hs
      have hi : i = 7 := hi
      subst hi
      obtain ⟨f, rfl⟩ : ∃ j, f = j + 1 := ⟨f - 1, by omega⟩
      have hs : scN L tx 7 0 = 7 := hs
      rw [hs, t_X12_tower_17, pi_if (pn_lt (show 7 < 2147483648 by omega) (show L < 2147483648 by omega))]
      by_cases c1 : 7 < L
      · rw [if_pos c1, if_pos (by decide)]
        exact ⟨fun q => absurd q.1 (by omega), fun _ => rfl⟩
      · rw [if_neg c1, if_neg (show ¬ Int32.ofNat L < (3 : Int32) from fun q => by have := (pn_lt (b := 3) (by omega) (by omega)).mp q; omega)]
        exact ⟨fun _ => ⟨f, by omega, rfl⟩, fun q => absurd ⟨by omega, by omega⟩ q⟩
    | succ k ih =>
      intro i f hi hiL hf hs
      obtain ⟨f, rfl⟩ : ∃ j, f = j + 1 := ⟨f - 1, by omega⟩
      conv at hs => rhs; unfold scN
      rw [t_X12_tower_17, pi_if (pn_lt (show i < 2147483648 by omega) (show L < 2147483648 by omega))]
      by_cases c1 : i < L
      · rw [if_pos c1, if_neg (show ¬ Int32.ofNat i = (7 : Int32) from fun q => by have := (pn_eq (b := 7) (by omega) (by omega)).mp q; omega), pn_ix (by omega) (by omega), Option.bind_some, q_in, Option.bind_some]
        dsimp only
        rw [hT i c1, pi_if ((pb2_0 _).trans (congrArg Not (byt_in (hb i)))), pn_a1]
        by_cases c2 : 49 ≤ tx i ∧ tx i ≤ 57
        · rw [if_pos ⟨c1, c2.1, c2.2⟩] at hs
          rw [if_neg (fun q => q c2)]
          exact ih (i + 1) f (by omega) (by omega) (by omega) hs
        · rw [if_neg (fun q => c2 q.2)] at hs
          rw [if_pos c2, hs]
          exact ⟨fun q => absurd q.1 (by omega), fun _ => rfl⟩
      · rw [if_neg (fun q => c1 q.1)] at hs
        have hiL' : i = L := by omega
        rw [if_neg c1, pi_if (show (Int32.ofNat L < (3 : Int32)) = (L < 3) from pn_lt (b := 3) (by omega) (by omega)), hs]
        by_cases c2 : L < 3
        · rw [if_pos c2]
          exact ⟨fun q => absurd q.2 (by omega), fun _ => by rw [hiL']; rfl⟩
        · rw [if_neg c2]
          exact ⟨fun _ => ⟨f, by omega, rfl⟩, fun q => absurd ⟨hiL', by omega⟩ q⟩
  have hFU := en_FU_ge
  exact main 7 0 en_FU rfl (Nat.zero_le _) (by omega) rfl
/-- the reference's new tower -/
theorem r_newTower {L : Nat} {tx : Nat → Nat} {τ : en_M} {f : Nat} (h7 : L ≤ 7) (h3 : 3 ≤ L) (hd : ∀ r, r < L → 49 ≤ tx r ∧ tx r ≤ 57) (hT : ∀ j, j < L → τ 189 j = byt (tx j)) (hf : 900000 < f) : ∃ τ', en_oi (T_X12_tower_65 f (Int32.ofNat L) 0 τ) = some (Int32.ofNat L, τ') ∧ MSr L (τ' 186) x0 ∧ (∀ r, r < L → τ' 187 r = wtN tx r) ∧ τ' 185 1 = Int32.ofNat L ∧ τ' 185 4 = 1 ∧ τ' 188 0 = 0 ∧ τ' 185 23 = 0 ∧ (∀ i, i < 2 → τ' 208 i = 0) ∧ (∀ j, j ≠ 1 → j ≠ 4 → j ≠ 23 → τ' 185 j = τ 185 j) ∧ ∀ c, c ≠ 185 → c ≠ 186 → c ≠ 187 → c ≠ 188 → c ≠ 208 → τ' c = τ c := by
  have hFU := en_FU_ge
  obtain ⟨τ1, a1, a2, a3⟩ := pl_to (F := fun f i (q : en_M) => T_X12_tower_65 f (Int32.ofNat L) (Int32.ofNat i) q) (P := fun i q => (∀ j, j < i → q 186 j = 0) ∧ ∀ c, c ≠ 186 → q c = τ c) (N := 53) (by
    rintro f i q hi ⟨p1, p2⟩
    refine ⟨en_up q 186 i 0, ?_, fun j hj => ?_, fun c hc => by rw [pu_row hc]; exact p2 c hc⟩
    · show T_X12_tower_65 (f + 1) _ _ q = _
      rw [t_X12_tower_65, if_pos (show Int32.ofNat i < (53 : Int32) from (pn_lt (b := 53) (by omega) (by omega)).mpr hi), pn_ix hi (by omega), Option.bind_some, pn_a1]
    · rw [pu_at]
      by_cases e : j = i
      · rw [if_pos e]
      · rw [if_neg e]; exact p1 j (by omega)) 53 0 f τ (by omega) (by omega) ⟨fun j hj => absurd hj (by omega), fun _ _ => rfl⟩
  have a1 : T_X12_tower_65 f (Int32.ofNat L) 0 τ = T_X12_tower_65 (f - 53) (Int32.ofNat L) (Int32.ofNat 53) τ1 := a1
  obtain ⟨d, hd1⟩ : ∃ d, f - 53 = d + 1 := ⟨f - 53 - 1, by omega⟩
  rw [a1, hd1, t_X12_tower_65, if_neg (show ¬ Int32.ofNat 53 < (53 : Int32) by decide)]
  obtain ⟨τ2, b1, b2, b3, b4, b5⟩ := pl_to (F := fun f i (q : en_M) => T_X12_tower_86 f (Int32.ofNat L) (Int32.ofNat i) q) (P := fun i q => (∀ r, r < i → q 187 r = wtN tx r) ∧ (∀ r, r < i → q 186 r = Int32.ofNat r) ∧ (∀ r, i ≤ r → r < 53 → q 186 r = 0) ∧ ∀ c, c ≠ 186 → c ≠ 187 → q c = τ c) (N := L) (by
    rintro f i q hi ⟨p1, p2, p3, p4⟩
    refine ⟨en_up (en_up q 187 i (wtN tx i)) 186 i (Int32.ofNat i), ?_, fun r hr => ?_, fun r hr => ?_, fun r hr hr2 => ?_, fun c h6 h7 => by rw [pu_row h6, pu_row h7]; exact p4 c h6 h7⟩
    · show T_X12_tower_86 (f + 1) _ _ q = _
      rw [t_X12_tower_86, if_pos ((pn_lt (by omega) (by omega)).mpr hi), pn_ix (show i < 80 by omega) (by omega), Option.bind_some, pn_ix (show i < 7 by omega) (by omega), Option.bind_some, pn_ix (show i < 53 by omega) (by omega), Option.bind_some, pn_a1, p4 189 (by omega) (by omega), hT i hi, byt_dg (hd i hi)]; rfl
    · rw [pu_cell (by omega), pu_at]
      by_cases e : r = i
      · rw [if_pos e, e]
      · rw [if_neg e]; exact p1 r (by omega)
    · rw [pu_at]
      by_cases e : r = i
      · rw [if_pos e, e]
      · rw [if_neg e, pu_cell (by omega)]; exact p2 r (by omega)
    · rw [pu_slot (by omega), pu_cell (by omega)]; exact p3 r (by omega) hr2) L 0 d τ1 (by omega) (by omega) ⟨fun r hr => absurd hr (by omega), fun r hr => absurd hr (by omega), fun r _ hr => a2 r hr, fun c h6 _ => a3 c h6⟩
  have b1 : T_X12_tower_86 d (Int32.ofNat L) 0 τ1 = T_X12_tower_86 (d - L) (Int32.ofNat L) (Int32.ofNat L) τ2 := b1
  obtain ⟨d2, hd2⟩ : ∃ d2, d - L = d2 + 1 := ⟨d - L - 1, by omega⟩
  rw [b1, hd2, t_X12_tower_86, if_neg (by rw [pn_lt (by omega) (by omega)]; omega), show en_ix (0 : Int32) 20 = some 0 from pn_ix (k := 0) (by omega) (by omega), Option.bind_some]
  refine pl_for1 (F := fun f i (q : en_M) => T_X12_tower_143 f (Int32.ofNat L) (Int32.ofNat i) q) (P := fun i q => (∀ j, j < i → q 208 j = 0) ∧ ∀ c, c ≠ 208 → q c = (en_up (en_up (en_up (en_up τ2 185 1 (Int32.ofNat L)) 185 4 1) 188 0 0) 185 23 0) c) (Q := fun r => ∃ τ', en_oi r = some (Int32.ofNat L, τ') ∧ MSr L (τ' 186) x0 ∧ (∀ r, r < L → τ' 187 r = wtN tx r) ∧ τ' 185 1 = Int32.ofNat L ∧ τ' 185 4 = 1 ∧ τ' 188 0 = 0 ∧ τ' 185 23 = 0 ∧ (∀ i, i < 2 → τ' 208 i = 0) ∧ (∀ j, j ≠ 1 → j ≠ 4 → j ≠ 23 → τ' 185 j = τ 185 j) ∧ ∀ c, c ≠ 185 → c ≠ 186 → c ≠ 187 → c ≠ 188 → c ≠ 208 → τ' c = τ c) (N := 2) ?_ ?_ 2 0 d2 _ (by omega) (by omega) ⟨fun j hj => absurd hj (by omega), fun _ _ => rfl⟩
  · rintro f i q hi ⟨p1, p2⟩
    refine Or.inl ⟨en_up q 208 i 0, ?_, fun j hj => ?_, fun c hc => by rw [pu_row hc]; exact p2 c hc⟩
    · show T_X12_tower_143 (f + 1) _ _ q = _
      rw [t_X12_tower_143, if_pos (show Int32.ofNat i < (2 : Int32) from (pn_lt (b := 2) (by omega) (by omega)).mpr hi), pn_ix hi (by omega), Option.bind_some, pn_a1]; rfl
    · rw [pu_at]
      by_cases e : j = i
      · rw [if_pos e]
      · rw [if_neg e]; exact p1 j (by omega)
  · rintro f q ⟨p1, p2⟩
    show ∃ τ', en_oi (T_X12_tower_143 (f + 1) _ _ q) = _ ∧ _
    rw [t_X12_tower_143, if_neg (show ¬ Int32.ofNat 2 < (2 : Int32) by decide)]
    have q186 : q 186 = τ2 186 := by rw [p2 186 (by omega), pu_row (by omega), pu_row (by omega), pu_row (by omega), pu_row (by omega)]
    refine ⟨q, rfl, ?_, fun r hr => ?_, ?_, ?_, ?_, ?_, p1, fun j j1 j2 j3 => ?_, fun c c1 c2 c3 c4 c5 => ?_⟩
    · rw [q186]
      refine ⟨fun p hp => by rw [Nat.zero_add]; exact b3 p hp, fun r hr => ⟨b4 _ (by omega) (by omega), b4 _ (by omega) (by omega), b4 _ (by omega) (by omega)⟩, b4 _ (by omega) (by omega), b4 _ (by omega) (by omega), b4 _ (by omega) (by omega), b4 _ (by omega) (by omega), b4 _ (by omega) (by omega), fun j hj => b4 _ (by omega) (by omega)⟩
    · rw [p2 187 (by omega), pu_row (by omega), pu_row (by omega), pu_row (by omega), pu_row (by omega)]; exact b2 r hr
    · rw [p2 185 (by omega), pu_slot (by omega), pu_cell (by omega), pu_slot (by omega), pu_same]
    · rw [p2 185 (by omega), pu_slot (by omega), pu_cell (by omega), pu_same]
    · rw [p2 188 (by omega), pu_cell (by omega), pu_same]
    · rw [p2 185 (by omega), pu_same]
    · rw [p2 185 (by omega), pu_slot j3, pu_cell (by omega), pu_slot j2, pu_slot j1, b5 185 (by omega) (by omega)]
    · rw [p2 c c5, pu_row c1, pu_row c4, pu_row c1, pu_row c1, b5 c c2 c3]
