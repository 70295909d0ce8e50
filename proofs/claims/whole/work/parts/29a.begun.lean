/-! the text read; a night begun -/
theorem q_at {σ : en_M} {L i mx : Nat} {tx : Nat → Nat} (h : CT σ L tx) (hL : L ≤ 80) (hi : i < 1000) (hm : mx < 1000) : O_X8_at [.inr (1, 8, 0, 0), .inl (Int32.ofNat i), .inl (Int32.ofNat mx)] σ = some (if i < L then if i < mx then Int32.ofNat (tx i) else -2 else -1, σ) := by
  rw [o_X8_at, t_X8_at_0, if_neg (pn_nlt0 (by omega)), h.1, pi_if (pn_lt (by omega) (by omega)), pi_if (pn_lt (show i < 2147483648 by omega) (show mx < 2147483648 by omega))]
  by_cases c1 : i < L
  · rw [if_pos c1, if_pos c1]
    by_cases c2 : i < mx
    · rw [if_pos c2, if_pos c2, pn_ix (by omega) (by omega), Option.bind_some, h.2 i c1]; rfl
    · rw [if_neg c2, if_neg c2]; rfl
  · rw [if_neg c1, if_neg c1]; rfl
theorem q_fill {σ : en_M} {k n : Nat} (hn : n < 1000) (v : Int32) : O_J7_fill_53178 [.inr (k, 20, n, 0), .inl v] σ = some (pst σ k (fun i => if i < n then v else σ k i)) := by
  rw [o_J7_fill_53178, t_J7_fill_53178_0]
  refine pl_for1 (F := fun m i (q : en_M) => T_J7_fill_53178_5 m k n v (Int32.ofNat i) (Int32.ofNat n) q) (P := fun i q => q = pst σ k (fun j => if j < i then v else σ k j)) (Q := fun r => en_ov r = some (pst σ k (fun i => if i < n then v else σ k i))) (N := n) ?_ ?_ n 0 en_FU σ (by omega) (pl_FU (by omega)) ?_
  · rintro m i q hi rfl
    refine Or.inl ⟨pst σ k (fun j => if j < i + 1 then v else σ k j), ?_, rfl⟩
    show T_J7_fill_53178_5 (m + 1) _ _ _ _ _ _ = _
    rw [t_J7_fill_53178_5, if_pos ((pn_lt (by omega) (by omega)).mpr hi), pn_ix hi (by omega), Option.bind_some, pst_up, pn_a1]
    congr 2
    funext j
    unfold pru
    by_cases e : j = i
    · rw [if_pos e, if_pos (by omega)]
    · rw [if_neg e]
      show (if j < i then v else σ k j) = if j < i + 1 then v else σ k j
      by_cases e2 : j < i
      · rw [if_pos e2, if_pos (by omega)]
      · rw [if_neg e2, if_neg (by omega)]
  · rintro m q rfl
    show en_ov (T_J7_fill_53178_5 (m + 1) _ _ _ _ _ _) = _
    rw [t_J7_fill_53178_5, if_neg (by rw [pn_lt (by omega) (by omega)]; omega)]; rfl
  · show σ = pst σ k (fun j => if j < 0 then v else σ k j)
    conv => lhs; rw [← pst_self σ k]
    congr 1
def ipV : Nat → Int32
  | 0 => 0
  | i + 1 => (ipV i &&& ((en_shl 7 (3 * Int32.ofNat i)) ^^^ -1)) ||| en_shl (Int32.ofNat i) (3 * Int32.ofNat i)
theorem ipV_7 : ipV 7 = Int32.ofNat (pkN (fun p => p)) := by decide +kernel
theorem q_inPlace (σ : en_M) : O_X11_inPlaceOrder [] σ = some (Int32.ofNat (pkN (fun p => p)), σ) := by
  rw [o_X11_inPlaceOrder, t_X11_inPlaceOrder_0, ← ipV_7]
  refine pl_for1 (F := fun m i (q : Int32) => T_X11_inPlaceOrder_4 m q (Int32.ofNat i) σ) (P := fun i q => q = ipV i) (Q := fun r => en_oi r = some (ipV 7, σ)) (N := 7) ?_ ?_ 7 0 en_FU 0 (by omega) (pl_FU (by omega)) rfl
  · rintro m i q hi rfl
    refine Or.inl ⟨ipV (i + 1), ?_, rfl⟩
    show T_X11_inPlaceOrder_4 (m + 1) _ _ σ = _
    rw [t_X11_inPlaceOrder_4, if_pos (show Int32.ofNat i < (7 : Int32) from (pn_lt (b := 7) (by omega) (by omega)).mpr hi), q_withBell, Option.bind_some, pn_a1]; rfl
  · rintro m q rfl
    show en_oi (T_X11_inPlaceOrder_4 (m + 1) _ _ σ) = _
    rw [t_X11_inPlaceOrder_4, if_neg (show ¬ Int32.ofNat 7 < (7 : Int32) by decide)]; rfl
theorem q_sbegin (σ : en_M) : ∃ σ', O_X7_begin [.inr (15, 7, 0, 0)] σ = some σ' ∧ CS σ' 15 x0 ∧ ∀ c, c < 15 ∨ 20 ≤ c → σ' c = σ c := by
  rw [o_X7_begin, t_X7_begin_0, q_fill (k := 15 + 1) (by omega), Option.bind_some, q_fill (k := 15 + 2) (by omega), Option.bind_some, q_fill (k := 15 + 3) (by omega), Option.bind_some, q_fill (k := 15 + 4) (by omega), Option.bind_some, q_inPlace, Option.bind_some]
  refine ⟨_, rfl, ⟨?_, ?_, ?_, ?_, ?_, fun r hr => ⟨?_, ?_, ?_⟩, fun j hj hj2 => absurd hj2 (Nat.not_lt_zero j)⟩, fun c hc => ?_⟩
  · rw [pu_slot (by omega), pu_slot (by omega), pu_slot (by omega), pu_slot (by omega), pu_slot (by omega), pu_same]; rfl
  · rw [pu_slot (by omega), pu_slot (by omega), pu_slot (by omega), pu_slot (by omega), pu_same]; rfl
  · rw [pu_slot (by omega), pu_slot (by omega), pu_slot (by omega), pu_same]; rfl
  · rw [pu_slot (by omega), pu_slot (by omega), pu_same]; rfl
  · rw [pu_slot (by omega), pu_same]; rfl
  · simp only [pu_row (show 15 + 1 ≠ 15 by omega)]
    rw [pst_ne (by omega), pst_ne (by omega), pst_ne (by omega), pst_same, if_pos hr]; rfl
  · simp only [pu_row (show 15 + 2 ≠ 15 by omega)]
    rw [pst_ne (by omega), pst_ne (by omega), pst_same, if_pos hr]; rfl
  · simp only [pu_row (show 15 + 3 ≠ 15 by omega)]
    rw [pst_ne (by omega), pst_same, if_pos hr]; rfl
  · simp only [pu_row (show c ≠ 15 by omega)]
    rw [pst_ne (by omega), pst_ne (by omega), pst_ne (by omega), pst_ne (by omega)]
/-- how many signs of a tower stand at the head -/
def scN (L : Nat) (tx : Nat → Nat) : Nat → Nat → Nat
  | 0, i => i
  | k + 1, i => if i < L ∧ 49 ≤ tx i ∧ tx i ≤ 57 then scN L tx k (i + 1) else i
theorem scN_le (L : Nat) (tx : Nat → Nat) : ∀ k i, scN L tx k i ≤ i + k
  | 0, i => Nat.le_refl _
  | k + 1, i => by
    have := scN_le L tx k (i + 1)
    unfold scN; split <;> omega
theorem byt_in {u : Nat} (hu : u < 256) : (¬ byt u < 49 ∧ ¬ (57 : Int32) < byt u) = (49 ≤ u ∧ u ≤ 57) := (by decide +kernel : ∀ u < 256, (¬ byt u < 49 ∧ ¬ (57 : Int32) < byt u) = (49 ≤ u ∧ u ≤ 57)) u hu
theorem byt_dg {u : Nat} (h : 49 ≤ u ∧ u ≤ 57) : byt u - 48 = Int32.ofNat u - 48 := (by decide +kernel : ∀ u < 58, 49 ≤ u → byt u - 48 = Int32.ofNat u - 48) u (by omega) h.1
