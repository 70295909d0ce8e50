/-! the law of the tower, both sides -/
def lawN (mo tn s pl who wh N : Nat) : Nat := if mo < pcn s then 1 else if s &&& who ≠ 0 then 2 else if pl &&& (pl / 2) ≠ 0 then 3 else if pl &&& wh ≠ 0 then 4 else if N % 7 = 0 ∧ s.testBit tn = true then 5 else 0
theorem lawN_lt (mo tn s pl who wh N : Nat) : lawN mo tn s pl who wh N < 6 := by
  unfold lawN
  repeat' split
  all_goals omega
theorem pcn_lt (s : Nat) : pcn s < 8 := by unfold pcn; omega
theorem pn_eq0 {a : Nat} (h : a < 2147483648) : (Int32.ofNat a = 0) = (a = 0) := pn_eq (b := 0) h (by decide)
theorem pn_eq1 {a : Nat} (h : a < 2147483648) : (Int32.ofNat a = 1) = (a = 1) := pn_eq (b := 1) h (by decide)
theorem pi_if {α : Type} {c d : Prop} [Decidable c] [Decidable d] (h : c = d) (a b : α) : (if c then a else b) = if d then a else b := by
  subst h
  by_cases hc : c
  · rw [if_pos hc, if_pos hc]
  · rw [if_neg hc, if_neg hc]
theorem pn_nm1 {k : Nat} (h : k < 2147483648) : ¬ Int32.ofNat k = -1 := fun e => by
  have := pn_0le h
  rw [e] at this
  exact absurd this (by decide)
theorem pn_nlt0 {k : Nat} (h : k < 2147483648) : ¬ Int32.ofNat k < 0 := Int32.not_lt.mpr (pn_0le h)
theorem pn_mod7 {N : Nat} (h : N < 2147483648) : Int32.ofNat N - Int32.ofNat N / (7 : Int32) * (7 : Int32) = Int32.ofNat (N % 7) := pn_mod (b := 7) h (by decide)
theorem pb_sh1 {a : Nat} (h : a < 2147483648) : en_shr (Int32.ofNat a) 1 = Int32.ofNat (a / 2) := pb_shr (i := 1) h (by omega)
theorem and_lt128 {a : Nat} (b : Nat) (h : a < 128) : a &&& b < 128 := Nat.lt_of_le_of_lt Nat.and_le_left h
theorem q_breach {n mo tn s who wh N : Nat} {f : Nat → Nat} {σ : en_M} (hp : PMf n f) (hn : n ≤ 7) (hs : s < 2 ^ n) (hmo : mo < 100) (htn : tn < 7) (hN : N < 2147483648) (h5 : σ 5 5 = Int32.ofNat mo) (h4 : σ 5 4 = Int32.ofNat tn) :
    O_X10_breach [.inr (5, 10, 0, 0), .inl (Int32.ofNat (pkN f)), .inl (Int32.ofNat N), .inl (Int32.ofNat s), .inl (Int32.ofNat who), .inl (Int32.ofNat wh)] σ = some (Int32.ofNat (lawN mo tn s (plN f s n) who wh N), σ) := by
  have h128 := p2lt hn
  have hpl : plN f s n < 128 := Nat.lt_of_lt_of_le (plN_lt f s n) h128
  have hc := pcn_lt s
  have a1 := and_lt128 who (show s < 128 by omega)
  have a2 := and_lt128 (plN f s n / 2) hpl
  have a3 := and_lt128 wh hpl
  rw [o_X10_breach, t_X10_breach_0, q_bitCount, Option.bind_some]
  dsimp only
  simp only [h5]
  rw [pbc_n (by omega), pi_if (pn_lt (by omega) (by omega))]
  unfold lawN
  by_cases c1 : mo < pcn s
  · rw [if_pos c1, if_pos c1]; rfl
  rw [if_neg c1, if_neg c1, pn_and, pi_if (pn_eq0 (by omega))]
  by_cases c2 : s &&& who = 0
  · rw [if_pos c2, if_neg (show ¬ (s &&& who ≠ 0) from fun q => q c2), q_placesOf hp hn hs, Option.bind_some]
    dsimp only
    rw [pb_sh1 (by omega), pn_and, pi_if (pn_eq0 (by omega))]
    by_cases c3 : plN f s n &&& plN f s n / 2 = 0
    · rw [if_pos c3, if_neg (show ¬ (plN f s n &&& plN f s n / 2 ≠ 0) from fun q => q c3), pn_and, pi_if (pn_eq0 (by omega))]
      by_cases c4 : plN f s n &&& wh = 0
      · rw [if_pos c4, if_neg (show ¬ (plN f s n &&& wh ≠ 0) from fun q => q c4), if_neg (show ¬ (7 : Int32) = 0 by decide), pn_mod7 hN, pi_if (pn_eq0 (by omega))]
        by_cases c5 : N % 7 = 0
        · rw [if_pos c5]
          simp only [h4]
          rw [if_neg (pn_nlt0 (by omega)), q_bit, Option.bind_some]
          dsimp only
          rw [pi_if (pb_bit1 (by omega) (by omega))]
          by_cases c6 : s.testBit tn = true
          · rw [if_pos c6, if_pos ⟨c5, c6⟩]; rfl
          · rw [if_neg c6, if_neg (fun q => c6 q.2)]; rfl
        · rw [if_neg c5, if_neg (fun q => c5 q.1)]; rfl
      · rw [if_neg c4, if_pos c4]; rfl
    · rw [if_neg c3, if_pos c3]; rfl
  · rw [if_neg c2, if_pos c2]; rfl
/-- the tenor among the first k -/
def tnN (w : Nat → Int32) : Nat → Nat
  | 0 => 0
  | r + 1 => if r = 0 then 0 else if w r < w (tnN w r) then tnN w r else r
theorem tnN_lt (w : Nat → Int32) : ∀ k, 0 < k → tnN w k < k
  | 0, h => absurd h (by omega)
  | k + 1, _ => by
    unfold tnN
    by_cases h : k = 0
    · rw [if_pos h]; omega
    · rw [if_neg h]
      have := tnN_lt w k (by omega)
      split <;> omega
theorem r_tenor {n : Nat} {w : Nat → Int32} {σ : en_M} (hn : n ≤ 7) (h1 : σ 185 1 = Int32.ofNat n) (hw : ∀ r, r < n → σ 187 r = w r) : O_X12_tenor [.inr (185, 12, 0, 0)] σ = some (if n = 0 then -1 else Int32.ofNat (tnN w n), σ) := by
  rw [o_X12_tenor, t_X12_tenor_0]
  refine pl_for1 (F := fun m i (acc : Int32) => T_X12_tenor_4 m acc (Int32.ofNat i) σ) (P := fun i acc => acc = if i = 0 then -1 else Int32.ofNat (tnN w i)) (Q := fun r => en_oi r = some (if n = 0 then -1 else Int32.ofNat (tnN w n), σ)) (N := n) ?_ ?_ n 0 en_FU (-1) (by omega) (pl_FU (by omega)) rfl
  · rintro m i acc hi rfl
    refine Or.inl ⟨if i + 1 = 0 then -1 else Int32.ofNat (tnN w (i + 1)), ?_, rfl⟩
    show T_X12_tenor_4 (m + 1) _ _ σ = _
    rw [t_X12_tenor_4, h1, if_pos ((pn_lt (by omega) (by omega)).mpr hi), pn_a1, if_neg (show ¬ i + 1 = 0 by omega)]
    by_cases h0 : i = 0
    · subst h0
      rw [if_pos rfl, if_pos rfl]; rfl
    · have hl := tnN_lt w i (by omega)
      rw [if_neg h0, if_neg (pn_nm1 (by omega)), pn_ix (by omega) (by omega), pn_ix (by omega) (by omega), Option.bind_some, Option.bind_some, hw i hi, hw _ (by omega)]
      conv => rhs; unfold tnN
      rw [if_neg h0]
      by_cases hlt : w i < w (tnN w i)
      · rw [if_pos hlt, if_pos hlt]
      · rw [if_neg hlt, if_neg hlt]
  · rintro m acc rfl
    show en_oi (T_X12_tenor_4 (m + 1) _ _ σ) = _
    rw [t_X12_tenor_4, h1, if_neg (by rw [pn_lt (by omega) (by omega)]; omega)]
    rfl
theorem r_brokenBy {n mo s pl who wh N : Nat} {w : Nat → Int32} {σ : en_M} (hn : n ≤ 7) (hn0 : 0 < n) (hs : s < 2 ^ n) (hpl : pl < 128) (hmo : mo < 100) (hN : N < 2147483648) (h1 : σ 185 1 = Int32.ofNat n) (hw : ∀ r, r < n → σ 187 r = w r) (h5 : σ 185 5 = Int32.ofNat mo) :
    O_X12_brokenBy [.inr (185, 12, 0, 0), .inl (Int32.ofNat s), .inl (Int32.ofNat pl), .inl (Int32.ofNat who), .inl (Int32.ofNat wh), .inl (Int32.ofNat N)] σ = some (Int32.ofNat (lawN mo (tnN w n) s pl who wh N), σ) := by
  have h128 := p2lt hn
  have htn := tnN_lt w n hn0
  have hc := pcn_lt s
  have a1 := and_lt128 who (show s < 128 by omega)
  have a2 := and_lt128 (pl / 2) hpl
  have a3 := and_lt128 wh hpl
  rw [o_X12_brokenBy, t_X12_brokenBy_0, q_bitCount, Option.bind_some]
  dsimp only
  simp only [h5]
  rw [pbc_n (by omega), pi_if (pn_lt (by omega) (by omega))]
  unfold lawN
  by_cases c1 : mo < pcn s
  · rw [if_pos c1, if_pos c1]; rfl
  rw [if_neg c1, if_neg c1, pn_and, pi_if (pn_eq0 (by omega))]
  by_cases c2 : s &&& who = 0
  · rw [if_pos c2, if_neg (show ¬ (s &&& who ≠ 0) from fun q => q c2), pb_sh1 (by omega), pn_and, pi_if (pn_eq0 (by omega))]
    by_cases c3 : pl &&& pl / 2 = 0
    · rw [if_pos c3, if_neg (show ¬ (pl &&& pl / 2 ≠ 0) from fun q => q c3), pn_and, pi_if (pn_eq0 (by omega))]
      by_cases c4 : pl &&& wh = 0
      · rw [if_pos c4, if_neg (show ¬ (pl &&& wh ≠ 0) from fun q => q c4), if_neg (show ¬ (7 : Int32) = 0 by decide), pn_mod7 hN, pi_if (pn_eq0 (by omega))]
        by_cases c5 : N % 7 = 0
        · rw [if_pos c5, r_tenor hn h1 hw, Option.bind_some]
          dsimp only
          rw [if_neg (show ¬ n = 0 by omega), q_has, Option.bind_some]
          dsimp only
          simp only [pb2_0, pb_bit1 (show s < 2147483648 by omega) (show tnN w n < 32 by omega)]
          by_cases c6 : s.testBit (tnN w n) = true
          · rw [if_neg (fun q => q c6), if_pos ⟨c5, c6⟩]; rfl
          · rw [if_pos c6, if_neg (fun q => c6 q.2)]; rfl
        · rw [if_neg c5, if_neg (fun q => c5 q.1)]; rfl
      · rw [if_neg c4, if_pos c4]; rfl
    · rw [if_neg c3, if_pos c3]; rfl
  · rw [if_neg c2, if_pos c2]; rfl
