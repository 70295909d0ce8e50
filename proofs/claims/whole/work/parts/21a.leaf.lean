/-! leaves: what the small methods answer -/
theorem q_bit (a b : Int32) (σ : en_M) : O_X11_bit [.inl a, .inl b] σ = some (en_shr a b &&& 1, σ) := by rw [o_X11_bit, t_X11_bit_0]; rfl
theorem q_cannotStand (a : Int32) (σ : en_M) : O_X11_cannotStand [.inl a] σ = some (-1 - a, σ) := by rw [o_X11_cannotStand, t_X11_cannotStand_0]; rfl
theorem q_bellAt (a b : Int32) (σ : en_M) : O_X11_bellAt [.inl a, .inl b] σ = some (en_shr a (3 * b) &&& 7, σ) := by rw [o_X11_bellAt, t_X11_bellAt_0]; rfl
theorem q_withBell (a b c : Int32) (σ : en_M) : O_X11_withBell [.inl a, .inl b, .inl c] σ = some ((a &&& ((en_shl 7 (3 * b)) ^^^ -1)) ||| (en_shl c (3 * b)), σ) := by rw [o_X11_withBell, t_X11_withBell_0]; rfl
theorem q_max (a b : Int32) (σ : en_M) : O_J9_max_7cf53 [.inl a, .inl b] σ = some (if a < b then b else a, σ) := by
  rw [o_J9_max_7cf53, t_J9_max_7cf53_0]; split <;> rfl
theorem q_min (a b : Int32) (σ : en_M) : O_J9_min_7cf53 [.inl a, .inl b] σ = some (if b < a then b else a, σ) := by
  rw [o_J9_min_7cf53, t_J9_min_7cf53_0]; split <;> rfl
def pclamp (x : Int32) : Int32 := if 0 < (if x < 99 then x else 99) then (if x < 99 then x else 99) else 0
theorem q_put (a : Int32) (σ : en_M) : O_X11_put [.inl a] σ = some (pclamp a, σ) := by
  rw [o_X11_put, t_X11_put_0, q_min, Option.bind_some, q_max, Option.bind_some]; rfl
def pnarrow (k v : Int32) : Int32 := if k = 0 then en_i2b v else if k = 1 then en_i2s v else v
theorem q_narrowed (a b : Int32) (σ : en_M) : O_X11_narrowed [.inl a, .inl b] σ = some (pnarrow a b, σ) := by
  rw [o_X11_narrowed, t_X11_narrowed_0]; unfold pnarrow
  split
  · rfl
  · split <;> rfl
def pbc (x0 : Int32) : Int32 := ((((((((x0 - ((en_ush x0 1) &&& 1431655765)) &&& 858993459) + ((en_ush (x0 - ((en_ush x0 1) &&& 1431655765)) 2) &&& 858993459)) + (en_ush (((x0 - ((en_ush x0 1) &&& 1431655765)) &&& 858993459) + ((en_ush (x0 - ((en_ush x0 1) &&& 1431655765)) 2) &&& 858993459)) 4)) &&& 252645135) + (en_ush (((((x0 - ((en_ush x0 1) &&& 1431655765)) &&& 858993459) + ((en_ush (x0 - ((en_ush x0 1) &&& 1431655765)) 2) &&& 858993459)) + (en_ush (((x0 - ((en_ush x0 1) &&& 1431655765)) &&& 858993459) + ((en_ush (x0 - ((en_ush x0 1) &&& 1431655765)) 2) &&& 858993459)) 4)) &&& 252645135) 8)) + (en_ush ((((((x0 - ((en_ush x0 1) &&& 1431655765)) &&& 858993459) + ((en_ush (x0 - ((en_ush x0 1) &&& 1431655765)) 2) &&& 858993459)) + (en_ush (((x0 - ((en_ush x0 1) &&& 1431655765)) &&& 858993459) + ((en_ush (x0 - ((en_ush x0 1) &&& 1431655765)) 2) &&& 858993459)) 4)) &&& 252645135) + (en_ush (((((x0 - ((en_ush x0 1) &&& 1431655765)) &&& 858993459) + ((en_ush (x0 - ((en_ush x0 1) &&& 1431655765)) 2) &&& 858993459)) + (en_ush (((x0 - ((en_ush x0 1) &&& 1431655765)) &&& 858993459) + ((en_ush (x0 - ((en_ush x0 1) &&& 1431655765)) 2) &&& 858993459)) 4)) &&& 252645135) 8)) 16)) &&& 63)
theorem q_bitCount (a : Int32) (σ : en_M) : O_J6_bitCount_0f7a4 [.inl a] σ = some (pbc a, σ) := by rw [o_J6_bitCount_0f7a4, t_J6_bitCount_0f7a4_0]; rfl
/-- how many bits, for a small set -/
def pcn (s : Nat) : Nat := s % 2 + s / 2 % 2 + s / 4 % 2 + s / 8 % 2 + s / 16 % 2 + s / 32 % 2 + s / 64 % 2
theorem pbc_n {s : Nat} (hs : s < 128) : pbc (Int32.ofNat s) = Int32.ofNat (pcn s) := (by decide +kernel : ∀ s < 128, pbc (Int32.ofNat s) = Int32.ofNat (pcn s)) s hs
theorem q_in (x a b : Int32) (σ : en_M) : O_X12_in [.inl x, .inl a, .inl b] σ = some (pb2 (¬ x < a ∧ ¬ b < x), σ) := by
  rw [o_X12_in, t_X12_in_0]; unfold pb2
  by_cases h1 : x < a
  · simp [h1, po_ri]
  · by_cases h2 : b < x <;> simp [h1, h2, po_ri]
theorem q_has (x a : Int32) (σ : en_M) : O_X12_has [.inl x, .inl a] σ = some (pb2 (en_shr x a &&& 1 = 1), σ) := by
  rw [o_X12_has, t_X12_has_0]; unfold pb2
  by_cases h1 : en_shr x a &&& 1 = 1 <;> simp [h1, po_ri]
/-- a number of n -/
def isR (n : Nat) (x : Int32) : Prop := ∃ k, k < n ∧ x = Int32.ofNat k
theorem isR_iff {n : Nat} (hn : n < 2147483648) (x : Int32) : isR n x ↔ (¬ x < 0 ∧ x < Int32.ofNat n) := by
  constructor
  · rintro ⟨k, hk, rfl⟩
    exact ⟨Int32.not_lt.mpr (pn_0le (by omega)), (pn_lt (by omega) hn).mpr hk⟩
  · rintro ⟨h0, h1⟩
    obtain ⟨k, hk, rfl⟩ := pn_in h0 h1 hn
    exact ⟨k, hk, rfl⟩
theorem isR_iff2 {n : Nat} (hn : n < 2147483648) (x : Int32) : isR n x ↔ (¬ x < 0 ∧ ¬ (Int32.ofNat n - 1) < x) := by
  rw [isR_iff hn]
  constructor
  · rintro ⟨h0, h1⟩
    obtain ⟨k, hk, rfl⟩ := pn_in h0 h1 hn
    refine ⟨h0, ?_⟩
    rw [show (1 : Int32) = Int32.ofNat 1 from rfl, pn_sub (by omega), pn_lt (by omega) (by omega)]
    omega
  · rintro ⟨h0, h1⟩
    refine ⟨h0, ?_⟩
    obtain ⟨k, hk, rfl⟩ := pn_nn (Int32.not_lt.mp h0)
    by_cases hz : n = 0
    · subst hz
      exfalso; apply h1
      refine Int32.lt_of_lt_of_le ?_ (pn_0le hk)
      decide
    · rw [show (1 : Int32) = Int32.ofNat 1 from rfl, pn_sub (by omega), pn_lt (by omega) (by omega)] at h1
      rw [pn_lt (by omega) (by omega)]
      omega
theorem pb2_congr {c d : Prop} [Decidable c] [Decidable d] (h : c ↔ d) : pb2 c = pb2 d := by
  unfold pb2
  by_cases hc : c
  · rw [if_pos hc, if_pos (h.mp hc)]
  · rw [if_neg hc, if_neg (fun q => hc (h.mpr q))]
theorem q_hasRinger {n : Nat} {σ : en_M} (hn : n < 2147483648) (h : σ 5 3 = Int32.ofNat n) (x : Int32) : ∃ v, O_X10_hasRinger [.inr (5, 10, 0, 0), .inl x] σ = some (v, σ) ∧ (v = 0 ∧ ¬ isR n x ∨ v = 1 ∧ isR n x) := by
  rw [o_X10_hasRinger, t_X10_hasRinger_0, h, isR_iff hn]
  by_cases h1 : x < 0
  · exact ⟨0, by simp [h1, po_ri], by simp [h1]⟩
  · by_cases h2 : x < Int32.ofNat n
    · exact ⟨1, by simp [h1, h2, po_ri], by simp [h1, h2]⟩
    · exact ⟨0, by simp [h1, h2, po_ri], by simp [h1, h2]⟩
theorem q_hasAll {n : Nat} {σ : en_M} (hn : n < 8) (h : σ 5 3 = Int32.ofNat n) (x : Int32) : ∃ v, O_X10_hasAll [.inr (5, 10, 0, 0), .inl x] σ = some (v, σ) ∧ (v = 0 ∧ ¬ isR (2 ^ n) x ∨ v = 1 ∧ isR (2 ^ n) x) := by
  have h2n : 2 ^ n < 2147483648 := Nat.lt_of_lt_of_le (Nat.pow_lt_pow_right (by decide) hn) (by decide)
  rw [o_X10_hasAll, t_X10_hasAll_0, h, isR_iff h2n, pb_1 (by omega)]
  by_cases h1 : x < 0
  · exact ⟨0, by simp [h1, po_ri], by simp [h1]⟩
  · by_cases h2 : x < Int32.ofNat (2 ^ n)
    · exact ⟨1, by simp [h1, h2, po_ri], by simp [h1, h2]⟩
    · exact ⟨0, by simp [h1, h2, po_ri], by simp [h1, h2]⟩
theorem q_isOne {n : Nat} {σ : en_M} (hn : n < 2147483648) (h : σ 185 1 = Int32.ofNat n) (x : Int32) : ∃ v, O_X12_isOne [.inr (185, 12, 0, 0), .inl x] σ = some (v, σ) ∧ (v = 0 ∧ ¬ isR n x ∨ v = 1 ∧ isR n x) := by
  rw [o_X12_isOne, t_X12_isOne_0, q_in, Option.bind_some, h]
  refine ⟨_, by rw [if_pos (by rw [pb2_01]; trivial)]; rfl, ?_⟩
  rw [isR_iff2 hn]
  by_cases hc : ¬ x < 0 ∧ ¬ (Int32.ofNat n - 1) < x
  · right; exact ⟨by rw [pb2_1]; exact hc, hc⟩
  · left; exact ⟨by rw [pb2_0]; exact hc, hc⟩
theorem q_areThose {n : Nat} {σ : en_M} (hn : n < 8) (h : σ 185 1 = Int32.ofNat n) (x : Int32) : ∃ v, O_X12_areThose [.inr (185, 12, 0, 0), .inl x] σ = some (v, σ) ∧ (v = 0 ∧ ¬ isR (2 ^ n) x ∨ v = 1 ∧ isR (2 ^ n) x) := by
  have h2n : 2 ^ n < 2147483648 := Nat.lt_of_lt_of_le (Nat.pow_lt_pow_right (by decide) hn) (by decide)
  rw [o_X12_areThose, t_X12_areThose_0, o_X12_everybody, t_X12_everybody_0, po_ri, Option.bind_some, q_in, Option.bind_some, h, pb_1 (by omega)]
  refine ⟨_, by rw [if_pos (by rw [pb2_01]; trivial)]; rfl, ?_⟩
  rw [isR_iff2 h2n]
  by_cases hc : ¬ x < 0 ∧ ¬ (Int32.ofNat (2 ^ n) - 1) < x
  · right; exact ⟨by rw [pb2_1]; exact hc, hc⟩
  · left; exact ⟨by rw [pb2_0]; exact hc, hc⟩
theorem q_clear (σ : en_M) : O_X8_clear [.inr (1, 8, 0, 0)] σ = some (en_up σ 1 1 0) := by rw [o_X8_clear, t_X8_clear_0]; rfl
theorem q_tbegin (σ : en_M) : O_X9_begin [.inr (3, 9, 0, 0)] σ = some (en_up σ 3 1 0) := by rw [o_X9_begin, t_X9_begin_0]; rfl
theorem q_tadd {σ : en_M} {k : Nat} (h : σ 3 1 = Int32.ofNat k) (hk : k < 16) (v : Int32) : O_X9_add [.inr (3, 9, 0, 0), .inl v] σ = some (en_up (en_up σ 4 k v) 3 1 (Int32.ofNat (k + 1))) := by
  rw [o_X9_add, t_X9_add_0, h, if_pos ((pn_lt (by omega) (by omega)).mpr hk), pn_ix hk (by omega), Option.bind_some, show (1 : Int32) = Int32.ofNat 1 from rfl, pn_add]; rfl
theorem q_tell {σ : en_M} {k : Nat} (h : σ 185 10 = Int32.ofNat k) (hk : k < 20) (v : Int32) : O_X12_tell [.inr (185, 12, 0, 0), .inl v] σ = some (en_up (en_up σ 190 k v) 185 10 (Int32.ofNat (k + 1))) := by
  rw [o_X12_tell, t_X12_tell_0, h, pn_ix hk (by omega), Option.bind_some, show (1 : Int32) = Int32.ofNat 1 from rfl, pn_add]; rfl
theorem q_forget (σ : en_M) : O_X4_forget [.inr (25, 4, 0, 0)] σ = some (en_up σ 25 2 0) := by rw [o_X4_forget, t_X4_forget_0]; rfl
theorem q_kforget (σ : en_M) : O_X1_forget [.inr (87, 1, 0, 0)] σ = some (en_up (en_up σ 89 0 0) 89 1 0) := by
  rw [o_X1_forget, t_X1_forget_0, show en_ix 0 2 = some 0 from pn_ix (k := 0) (by omega) (by omega), show en_ix 1 2 = some 1 from pn_ix (k := 1) (by omega) (by omega)]; rfl
theorem q_useX (σ : en_M) : O_X0_useX [.inr (7, 0, 0, 0)] σ = some (en_up (en_up σ 8 0 0) 7 2 1) := by
  rw [o_X0_useX, t_X0_useX_0, show en_ix 0 20 = some 0 from pn_ix (k := 0) (by omega) (by omega)]; rfl
theorem q_thrown (σ : en_M) : O_X12_thrown [.inr (185, 12, 0, 0)] σ = some (σ 185 11, σ) := by rw [o_X12_thrown, t_X12_thrown_0]; rfl
theorem q_lost (σ : en_M) : O_X12_lost [.inr (185, 12, 0, 0)] σ = some (0, en_up σ 185 11 1) := by rw [o_X12_lost, t_X12_lost_0]; rfl
