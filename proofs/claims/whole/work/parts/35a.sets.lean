/-! sets as the bits of an int; naps as digits -/
def BS (v : Int32) (p : Nat → Prop) : Prop := ∀ i, i < 32 → (v.toBitVec.getLsbD i = true ↔ p i)
theorem BS_0 {p : Nat → Prop} (h : ∀ i, i < 32 → ¬ p i) : BS 0 p := fun i hi => ⟨fun q => by
  have : (0 : Int32).toBitVec.getLsbD i = false := by
    show (0#32).getLsbD i = false
    exact BitVec.getLsbD_zero
  rw [this] at q; exact absurd q (by decide), fun q => absurd q (h i hi)⟩
theorem BS_of {v : Int32} {p q : Nat → Prop} (h : BS v p) (e : ∀ i, i < 32 → (p i ↔ q i)) : BS v q := fun i hi => (h i hi).trans (e i hi)
theorem BS_or {v w : Int32} {p q : Nat → Prop} (h : BS v p) (h2 : BS w q) : BS (v ||| w) (fun i => p i ∨ q i) := fun i hi => by
  show (v.toBitVec ||| w.toBitVec).getLsbD i = true ↔ _
  rw [BitVec.getLsbD_or, Bool.or_eq_true, h i hi, h2 i hi]
theorem BS_and {v w : Int32} {p q : Nat → Prop} (h : BS v p) (h2 : BS w q) : BS (v &&& w) (fun i => p i ∧ q i) := fun i hi => by
  show (v.toBitVec &&& w.toBitVec).getLsbD i = true ↔ _
  rw [BitVec.getLsbD_and, Bool.and_eq_true, h i hi, h2 i hi]
theorem BS_1 {j : Nat} (hj : j < 32) : BS (en_shl 1 (Int32.ofNat j)) (fun i => i = j) := fun i hi => by
  rw [show (1 : Int32) = Int32.ofNat 1 from rfl, pb_shl 1 hj, Nat.shiftLeft_eq, Nat.one_mul]
  show (BitVec.ofNat 32 (2 ^ j)).getLsbD i = true ↔ _
  rw [BitVec.getLsbD_ofNat, Nat.testBit_two_pow, decide_eq_true hi, Bool.true_and, decide_eq_true_eq]
  exact ⟨fun q => q.symm, fun q => q.symm⟩
theorem BS_z {v : Int32} {p : Nat → Prop} (h : BS v p) : (v = 0) = (∀ i, i < 32 → ¬ p i) := by
  refine propext ⟨fun e i hi q => ?_, fun e => ?_⟩
  · have := (h i hi).mpr q
    rw [e] at this
    have h0 : (0 : Int32).toBitVec.getLsbD i = false := by
      show (0#32).getLsbD i = false
      exact BitVec.getLsbD_zero
    rw [h0] at this; exact absurd this (by decide)
  · apply Int32.toBitVec.inj
    show v.toBitVec = 0#32
    refine BitVec.eq_of_getLsbD_eq fun i hi => ?_
    rw [BitVec.getLsbD_zero]
    exact Bool.eq_false_iff.mpr fun q => e i hi ((h i hi).mp q)
theorem BS_b {v : Int32} {p : Nat → Prop} {i : Nat} (h : BS v p) (hi : i < 32) : (en_shr v (Int32.ofNat i) &&& 1 = 1) = p i := by
  have hs : (en_shr v (Int32.ofNat i)).toBitVec = v.toBitVec.sshiftRight i := by
    show v.toBitVec.sshiftRight' ((Int32.ofNat i &&& 31).toBitVec.smod 32) = _
    rw [(by decide +kernel : ∀ i < 32, ((Int32.ofNat i &&& 31).toBitVec.smod 32) = BitVec.ofNat 32 i) i hi, BitVec.sshiftRight'_ofNat_eq_sshiftRight, Nat.mod_eq_of_lt (by omega)]
  have h0 : (v.toBitVec.sshiftRight i).getLsbD 0 = v.toBitVec.getLsbD i := by
    rw [BitVec.getLsbD_sshiftRight, Nat.add_zero, if_pos hi]
    simp
  have h1 : ∀ j, j < 32 → (1#32).getLsbD j = decide (j = 0) := by decide +kernel
  refine propext ⟨fun e => (h i hi).mp ?_, fun q => ?_⟩
  · have e2 : ((en_shr v (Int32.ofNat i)).toBitVec &&& 1#32).getLsbD 0 = (1#32).getLsbD 0 := congrArg (fun z : Int32 => z.toBitVec.getLsbD 0) e
    rw [hs, BitVec.getLsbD_and, h0, h1 0 (by omega)] at e2
    simpa using e2
  · apply Int32.toBitVec.inj
    show (en_shr v (Int32.ofNat i)).toBitVec &&& 1#32 = 1#32
    rw [hs]
    refine BitVec.eq_of_getLsbD_eq fun j hj => ?_
    rw [BitVec.getLsbD_and, h1 j hj]
    by_cases c : j = 0
    · rw [c, h0, (h i hi).mpr q]; rfl
    · rw [decide_eq_false c, Bool.and_false]
/-- naps had, by the class (base 4) and by the reference (base 3) -/
def nwC (s c t : Nat) : Nat → Nat
  | 0 => c
  | i + 1 => nwC s c t i + if t.testBit i = true ∧ c / 4 ^ i % 4 < s then 4 ^ i else 0
def nwM (s v t : Nat) : Nat → Nat
  | 0 => v
  | i + 1 => nwM s v t i + if t.testBit i = true ∧ v / 3 ^ i % 3 < s then 3 ^ i else 0
def eNM (v : Nat) : Nat := v % 3 + v / 3 % 3 * 4 + v / 9 % 3 * 16 + v / 27 % 3 * 64 + v / 81 % 3 * 256
def dNM (c : Nat) : Nat := c % 4 + c / 4 % 4 * 3 + c / 16 % 4 * 9 + c / 64 % 4 * 27 + c / 256 % 4 * 81
theorem dNM_e {v : Nat} (h : v < 243) : dNM (eNM v) = v := (by decide +kernel : ∀ v < 243, dNM (eNM v) = v) v h
theorem eNM_lt {v : Nat} (h : v < 243) : eNM v < 1024 := (by decide +kernel : ∀ v < 243, eNM v < 1024) v h
theorem eNM_inj {v w : Nat} (hv : v < 243) (hw : w < 243) (e : eNM v = eNM w) : v = w := by rw [← dNM_e hv, ← dNM_e hw, e]
theorem nw_e {s v t : Nat} (hs : s = 1 ∨ s = 2) (hv : v < 243) (ht : t < 32) : nwC s (eNM v) t 5 = eNM (nwM s v t 5) ∧ nwM s v t 5 < 243 := by
  rcases hs with rfl | rfl
  · exact (by decide +kernel : ∀ v < 243, ∀ t < 32, nwC 1 (eNM v) t 5 = eNM (nwM 1 v t 5) ∧ nwM 1 v t 5 < 243) v hv t ht
  · exact (by decide +kernel : ∀ v < 243, ∀ t < 32, nwC 2 (eNM v) t 5 = eNM (nwM 2 v t 5) ∧ nwM 2 v t 5 < 243) v hv t ht
def fuM (s : Nat) : Nat → Nat
  | 0 => 0
  | i + 1 => 3 * fuM s i + s
def fuC (s : Nat) : Nat → Nat
  | 0 => 0
  | i + 1 => fuC s i ||| (s <<< (2 * i))
theorem fu_e {s n : Nat} (hs : s = 1 ∨ s = 2) (hn : n ≤ 5) : eNM (fuM s n) = fuC s n ∧ fuM s n < 243 := by
  rcases hs with rfl | rfl
  · exact (by decide +kernel : ∀ n < 6, eNM (fuM 1 n) = fuC 1 n ∧ fuM 1 n < 243) n (by omega)
  · exact (by decide +kernel : ∀ n < 6, eNM (fuM 2 n) = fuC 2 n ∧ fuM 2 n < 243) n (by omega)
theorem fuM_pos {s : Nat} (hs : s = 1 ∨ s = 2) : ∀ n, 0 < n → 0 < fuM s n
  | 0, h => absurd h (by omega)
  | n + 1, _ => by unfold fuM; omega
theorem nwM_ge {s v t n : Nat} (ht : t < 2 ^ n) : ∀ i, n ≤ i → nwM s v t i = nwM s v t n := by
  intro i
  induction i with
  | zero => intro h; rw [show n = 0 by omega]
  | succ i ih =>
    intro h
    by_cases e : n = i + 1
    · rw [e]
    · rw [← ih (by omega)]
      show nwM s v t i + (if t.testBit i = true ∧ _ then 3 ^ i else 0) = _
      rw [if_neg (fun q => by have := q.1; rw [Nat.testBit_lt_two_pow (Nat.lt_of_lt_of_le ht (Nat.pow_le_pow_right (by decide) (by omega)))] at this; exact absurd this (by decide)), Nat.add_zero]
theorem nwM_bd {s v t : Nat} : ∀ i, i ≤ 5 → nwM s v t i ≤ v + 3 ^ i
  | 0, _ => Nat.le_add_right _ _
  | i + 1, h => by
    have := nwM_bd (s := s) (v := v) (t := t) i (by omega)
    have h3 : 3 ^ (i + 1) = 3 ^ i * 3 := Nat.pow_succ 3 i
    have hp : 0 < 3 ^ i := Nat.pow_pos (by omega)
    unfold nwM
    split <;> omega
theorem nwC_bd {s c t : Nat} : ∀ i, i ≤ 5 → nwC s c t i ≤ c + 4 ^ i
  | 0, _ => Nat.le_add_right _ _
  | i + 1, h => by
    have := nwC_bd (s := s) (c := c) (t := t) i (by omega)
    have h3 : 4 ^ (i + 1) = 4 ^ i * 4 := Nat.pow_succ 4 i
    have hp : 0 < 4 ^ i := Nat.pow_pos (by omega)
    unfold nwC
    split <;> omega
