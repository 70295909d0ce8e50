/-! bits of small naturals; orders as packed digits -/
theorem pb_shr {a i : Nat} (ha : a < 2147483648) (hi : i < 32) : en_shr (Int32.ofNat a) (Int32.ofNat i) = Int32.ofNat (a / 2 ^ i) := by
  unfold en_shr
  apply Int32.toBitVec.inj
  show (BitVec.ofNat 32 a).sshiftRight' ((Int32.ofNat i &&& 31).toBitVec.smod 32) = BitVec.ofNat 32 (a / 2 ^ i)
  rw [(by decide +kernel : ∀ i < 32, ((Int32.ofNat i &&& 31).toBitVec.smod 32) = BitVec.ofNat 32 i) i hi, BitVec.sshiftRight'_ofNat_eq_sshiftRight, Nat.mod_eq_of_lt (by omega)]
  have hm : (BitVec.ofNat 32 a).toNat = a := by rw [BitVec.toNat_ofNat, Nat.mod_eq_of_lt (by omega)]
  apply BitVec.eq_of_toNat_eq
  rw [BitVec.toNat_sshiftRight_of_msb_false, hm, Nat.shiftRight_eq_div_pow, BitVec.toNat_ofNat, Nat.mod_eq_of_lt (Nat.lt_of_le_of_lt (Nat.div_le_self _ _) (by omega))]
  rw [BitVec.msb_eq_false_iff_two_mul_lt, hm]; omega
theorem pb_shl (a : Nat) {i : Nat} (hi : i < 32) : en_shl (Int32.ofNat a) (Int32.ofNat i) = Int32.ofNat (a <<< i) := by
  unfold en_shl
  apply Int32.toBitVec.inj
  show (BitVec.ofNat 32 a) <<< ((Int32.ofNat i &&& 31).toBitVec.smod 32) = BitVec.ofNat 32 (a <<< i)
  rw [(by decide +kernel : ∀ i < 32, ((Int32.ofNat i &&& 31).toBitVec.smod 32) = BitVec.ofNat 32 i) i hi]
  apply BitVec.eq_of_toNat_eq
  rw [BitVec.shiftLeft_eq', BitVec.toNat_shiftLeft, BitVec.toNat_ofNat, BitVec.toNat_ofNat, BitVec.toNat_ofNat, Nat.mod_eq_of_lt (show i < 2 ^ 32 by omega), Nat.shiftLeft_eq, Nat.shiftLeft_eq, Nat.mod_mul_mod]
theorem pn_and (a b : Nat) : Int32.ofNat a &&& Int32.ofNat b = Int32.ofNat (a &&& b) := Int32.toBitVec.inj BitVec.ofNat_and.symm
theorem pn_or (a b : Nat) : Int32.ofNat a ||| Int32.ofNat b = Int32.ofNat (a ||| b) := Int32.toBitVec.inj BitVec.ofNat_or.symm
theorem pn_xor (a b : Nat) : Int32.ofNat a ^^^ Int32.ofNat b = Int32.ofNat (a ^^^ b) := Int32.toBitVec.inj BitVec.ofNat_xor.symm
theorem pn_m1 : (-1 : Int32) = Int32.ofNat 4294967295 := by decide
theorem pb_1 {i : Nat} (hi : i < 31) : en_shl 1 (Int32.ofNat i) = Int32.ofNat (2 ^ i) := by
  rw [show (1 : Int32) = Int32.ofNat 1 from rfl, pb_shl 1 (by omega), Nat.shiftLeft_eq, Nat.one_mul]
theorem pb_bit {s i : Nat} (hs : s < 2147483648) (hi : i < 32) : en_shr (Int32.ofNat s) (Int32.ofNat i) &&& 1 = Int32.ofNat (s / 2 ^ i % 2) := by
  rw [pb_shr hs hi, show (1 : Int32) = Int32.ofNat 1 from rfl, pn_and, Nat.and_one_is_mod]
theorem pb_bit1 {s i : Nat} (hs : s < 2147483648) (hi : i < 32) : (en_shr (Int32.ofNat s) (Int32.ofNat i) &&& 1 = 1) = (s.testBit i = true) := by
  rw [pb_bit hs hi, show (1 : Int32) = Int32.ofNat 1 from rfl, pn_eq (by omega) (by omega), Nat.testBit_eq_decide_div_mod_eq, decide_eq_true_eq]
/-- three bits a place -/
def pdg (N p : Nat) : Nat := N / 8 ^ p % 8
theorem pdg_lt (N p : Nat) : pdg N p < 8 := Nat.mod_lt _ (by decide)
theorem pdg_bit {N p i : Nat} (hi : i < 3) : (pdg N p).testBit i = N.testBit (3 * p + i) := by
  unfold pdg
  rw [show (8 : Nat) ^ p = 2 ^ (3 * p) by rw [Nat.pow_mul], show N / 2 ^ (3 * p) % 8 = N / 2 ^ (3 * p) % 2 ^ 3 from rfl, Nat.testBit_mod_two_pow, Nat.testBit_div_two_pow, Nat.add_comm i]
  simp [hi]
theorem pdg_ext {N M : Nat} (hN : N < 2097152) (hM : M < 2097152) (h : ∀ p, p < 7 → pdg N p = pdg M p) : N = M := by
  have h0 : N / 1 % 8 = M / 1 % 8 := h 0 (by omega)
  have h1 : N / 8 % 8 = M / 8 % 8 := h 1 (by omega)
  have h2 : N / 64 % 8 = M / 64 % 8 := h 2 (by omega)
  have h3 : N / 512 % 8 = M / 512 % 8 := h 3 (by omega)
  have h4 : N / 4096 % 8 = M / 4096 % 8 := h 4 (by omega)
  have h5 : N / 32768 % 8 = M / 32768 % 8 := h 5 (by omega)
  have h6 : N / 262144 % 8 = M / 262144 % 8 := h 6 (by omega)
  omega
def pkN (f : Nat → Nat) : Nat := f 0 + 8 * f 1 + 64 * f 2 + 512 * f 3 + 4096 * f 4 + 32768 * f 5 + 262144 * f 6
theorem pkN_lt {f : Nat → Nat} (h : ∀ p, p < 7 → f p < 8) : pkN f < 2097152 := by
  have h0 := h 0 (by omega)
  have h1 := h 1 (by omega)
  have h2 := h 2 (by omega)
  have h3 := h 3 (by omega)
  have h4 := h 4 (by omega)
  have h5 := h 5 (by omega)
  have h6 := h 6 (by omega)
  unfold pkN; omega
theorem pdg_pkN {f : Nat → Nat} (h : ∀ p, p < 7 → f p < 8) {p : Nat} (hp : p < 7) : pdg (pkN f) p = f p := by
  have h0 := h 0 (by omega)
  have h1 := h 1 (by omega)
  have h2 := h 2 (by omega)
  have h3 := h 3 (by omega)
  have h4 := h 4 (by omega)
  have h5 := h 5 (by omega)
  have h6 := h 6 (by omega)
  unfold pdg pkN
  match p, hp with
  | 0, _ => show _ / 1 % 8 = _; omega
  | 1, _ => show _ / 8 % 8 = _; omega
  | 2, _ => show _ / 64 % 8 = _; omega
  | 3, _ => show _ / 512 % 8 = _; omega
  | 4, _ => show _ / 4096 % 8 = _; omega
  | 5, _ => show _ / 32768 % 8 = _; omega
  | 6, _ => show _ / 262144 % 8 = _; omega
theorem pkN_inj {f g : Nat → Nat} (hf : ∀ p, p < 7 → f p < 8) (hg : ∀ p, p < 7 → g p < 8) : (pkN f = pkN g) = (∀ p, p < 7 → f p = g p) := by
  apply propext; constructor
  · intro h p hp
    rw [← pdg_pkN hf hp, ← pdg_pkN hg hp, h]
  · intro h
    unfold pkN
    rw [h 0 (by omega), h 1 (by omega), h 2 (by omega), h 3 (by omega), h 4 (by omega), h 5 (by omega), h 6 (by omega)]
theorem pba_n {N p : Nat} (hN : N < 2147483648) (hp : p < 7) : en_shr (Int32.ofNat N) (3 * Int32.ofNat p) &&& 7 = Int32.ofNat (pdg N p) := by
  rw [show (3 : Int32) * Int32.ofNat p = Int32.ofNat (3 * p) from pn_mul 3 p, pb_shr hN (by omega), show (7 : Int32) = Int32.ofNat 7 from rfl, pn_and]
  unfold pdg
  rw [show (8 : Nat) ^ p = 2 ^ (3 * p) by rw [Nat.pow_mul]]
  exact congrArg Int32.ofNat (Nat.and_two_pow_sub_one_eq_mod _ 3)
theorem pba {f : Nat → Nat} (h : ∀ p, p < 7 → f p < 8) {p : Nat} (hp : p < 7) : en_shr (Int32.ofNat (pkN f)) (3 * Int32.ofNat p) &&& 7 = Int32.ofNat (f p) := by
  have := pkN_lt h
  rw [pba_n (by omega) hp, pdg_pkN h hp]
theorem pwb_dg {N p b q : Nat} (hp : p < 7) (hb : b < 8) (hq : q < 7) : pdg ((N &&& ((7 <<< (3 * p)) ^^^ 4294967295)) ||| (b <<< (3 * p))) q = if q = p then b else pdg N q := by
  apply Nat.eq_of_testBit_eq; intro i
  by_cases hi : i < 3
  · rw [pdg_bit hi, Nat.testBit_or, Nat.testBit_and, Nat.testBit_xor, Nat.testBit_shiftLeft, Nat.testBit_shiftLeft, show (4294967295 : Nat) = 2 ^ 32 - 1 from rfl, Nat.testBit_two_pow_sub_one]
    by_cases e : q = p
    · subst e
      rw [if_pos rfl, show 3 * q + i - 3 * q = i by omega, decide_eq_true (show 3 * q + i ≥ 3 * q by omega), decide_eq_true (show 3 * q + i < 32 by omega), (by decide : ∀ i < 3, Nat.testBit 7 i = true) i hi]
      simp
    · rw [if_neg e, pdg_bit hi, decide_eq_true (show 3 * q + i < 32 by omega)]
      by_cases hl : q < p
      · rw [decide_eq_false (show ¬ 3 * q + i ≥ 3 * p by omega)]; simp
      · have h3 : 3 ≤ 3 * q + i - 3 * p := by omega
        rw [Nat.testBit_lt_two_pow (show 7 < 2 ^ (3 * q + i - 3 * p) from Nat.lt_of_lt_of_le (show 7 < 2 ^ 3 by decide) (Nat.pow_le_pow_right (by decide) h3)),
          Nat.testBit_lt_two_pow (show b < 2 ^ (3 * q + i - 3 * p) from Nat.lt_of_lt_of_le (show b < 2 ^ 3 by omega) (Nat.pow_le_pow_right (by decide) h3))]
        simp
  · have h3 : 3 ≤ i := by omega
    have h8 : 8 ≤ 2 ^ i := Nat.le_trans (show 8 ≤ 2 ^ 3 by decide) (Nat.pow_le_pow_right (by decide) h3)
    rw [Nat.testBit_lt_two_pow (Nat.lt_of_lt_of_le (pdg_lt _ _) h8)]
    split
    · rw [Nat.testBit_lt_two_pow (by omega)]
    · rw [Nat.testBit_lt_two_pow (Nat.lt_of_lt_of_le (pdg_lt _ _) h8)]
theorem pwb_lt {N p b : Nat} (hN : N < 2097152) (hp : p < 7) (hb : b < 8) : ((N &&& ((7 <<< (3 * p)) ^^^ 4294967295)) ||| (b <<< (3 * p))) < 2097152 := by
  refine Nat.or_lt_two_pow (n := 21) (Nat.lt_of_le_of_lt Nat.and_le_left hN) ?_
  rw [Nat.shiftLeft_eq]
  calc b * 2 ^ (3 * p) < 8 * 2 ^ (3 * p) := Nat.mul_lt_mul_of_pos_right hb (Nat.two_pow_pos _)
    _ = 2 ^ (3 + 3 * p) := by rw [Nat.pow_add]
    _ ≤ 2 ^ 21 := Nat.pow_le_pow_right (by decide) (by omega)
def pup (f : Nat → Nat) (p b : Nat) : Nat → Nat := fun q => if q = p then b else f q
theorem pup_lt {f : Nat → Nat} (h : ∀ p, p < 7 → f p < 8) {p b : Nat} (hb : b < 8) : ∀ q, q < 7 → pup f p b q < 8 := fun q hq => by
  unfold pup; split
  · exact hb
  · exact h q hq
theorem pwb {f : Nat → Nat} (h : ∀ p, p < 7 → f p < 8) {p b : Nat} (hp : p < 7) (hb : b < 8) : (Int32.ofNat (pkN f) &&& ((en_shl 7 (3 * Int32.ofNat p)) ^^^ -1)) ||| (en_shl (Int32.ofNat b) (3 * Int32.ofNat p)) = Int32.ofNat (pkN (pup f p b)) := by
  rw [show (3 : Int32) * Int32.ofNat p = Int32.ofNat (3 * p) from pn_mul 3 p, show (7 : Int32) = Int32.ofNat 7 from rfl, pb_shl 7 (by omega), pb_shl b (by omega), pn_m1, pn_xor, pn_and, pn_or]
  refine congrArg Int32.ofNat (pdg_ext (pwb_lt (pkN_lt h) hp hb) (pkN_lt (pup_lt h hb)) (fun q hq => ?_))
  rw [pwb_dg hp hb hq, pdg_pkN (pup_lt h hb) hq, pdg_pkN h hq]
  rfl
