/-! numbers: small naturals as ints -/
theorem pn_lt {a b : Nat} (ha : a < 2147483648) (hb : b < 2147483648) : (Int32.ofNat a < Int32.ofNat b) = (a < b) := propext (Int32.ofNat_lt_iff_lt ha hb)
theorem pn_le {a b : Nat} (ha : a < 2147483648) (hb : b < 2147483648) : (Int32.ofNat a ≤ Int32.ofNat b) = (a ≤ b) := propext (Int32.ofNat_le_iff_le ha hb)
theorem pn_eq {a b : Nat} (ha : a < 2147483648) (hb : b < 2147483648) : (Int32.ofNat a = Int32.ofNat b) = (a = b) := by
  apply propext; constructor
  · intro h
    have := congrArg Int32.toNatClampNeg h
    rwa [Int32.toNatClampNeg_ofNat_of_lt ha, Int32.toNatClampNeg_ofNat_of_lt hb] at this
  · intro h; rw [h]
theorem pn_add (a b : Nat) : Int32.ofNat a + Int32.ofNat b = Int32.ofNat (a + b) := (Int32.ofNat_add a b).symm
theorem pn_mul (a b : Nat) : Int32.ofNat a * Int32.ofNat b = Int32.ofNat (a * b) := (Int32.ofNat_mul a b).symm
theorem pn_sub {a b : Nat} (h : b ≤ a) : Int32.ofNat a - Int32.ofNat b = Int32.ofNat (a - b) := (Int32.ofNat_sub a b h).symm
theorem pn_dec {a : Nat} (h : 1 ≤ a) : Int32.ofNat a + (-1 : Int32) = Int32.ofNat (a - 1) := by
  rw [← pn_sub h, Int32.sub_eq_add_neg]; rfl
theorem pn_div {a b : Nat} (ha : a < 2147483648) (hb : b < 2147483648) : Int32.ofNat a / Int32.ofNat b = Int32.ofNat (a / b) := (Int32.ofNat_div ha hb).symm
theorem pn_mod {a b : Nat} (ha : a < 2147483648) (hb : b < 2147483648) : Int32.ofNat a - Int32.ofNat a / Int32.ofNat b * Int32.ofNat b = Int32.ofNat (a % b) := by
  rw [pn_div ha hb, pn_mul, pn_sub (Nat.div_mul_le_self a b), Nat.mod_def, Nat.mul_comm]
theorem pn_ix {k n : Nat} (h : k < n) (h2 : k < 2147483648) : en_ix (Int32.ofNat k) n = some k := en_ix_n h h2
theorem pn_nn {x : Int32} (h : 0 ≤ x) : ∃ k : Nat, k < 2147483648 ∧ x = Int32.ofNat k := ⟨x.toNatClampNeg, Int32.toNatClampNeg_lt x, (Int32.ofNat_toNatClampNeg x h).symm⟩
theorem pn_0le {k : Nat} (h : k < 2147483648) : 0 ≤ Int32.ofNat k := Int32.zero_le_ofNat_of_lt h
theorem pn_toInt {k : Nat} (h : k < 2147483648) : (Int32.ofNat k).toInt = k := Int32.toInt_ofNat_of_lt h
theorem pn_toNat {k : Nat} (h : k < 2147483648) : (Int32.ofNat k).toNatClampNeg = k := Int32.toNatClampNeg_ofNat_of_lt h
/-- a number below a bound, or not -/
theorem pn_in {x : Int32} {n : Nat} (h0 : ¬ x < 0) (h1 : x < Int32.ofNat n) (hn : n < 2147483648) : ∃ k : Nat, k < n ∧ x = Int32.ofNat k := by
  obtain ⟨k, hk, rfl⟩ := pn_nn (Int32.not_lt.mp h0)
  rw [pn_lt hk hn] at h1
  exact ⟨k, h1, rfl⟩
def pb2 (c : Prop) [Decidable c] : Int32 := if c then 1 else 0
theorem pb2_0 (c : Prop) [Decidable c] : (pb2 c = 0) = ¬ c := by unfold pb2; by_cases h : c <;> simp [h]
theorem pb2_1 (c : Prop) [Decidable c] : (pb2 c = 1) = c := by unfold pb2; by_cases h : c <;> simp [h]
theorem pb2_01 (c : Prop) [Decidable c] : (pb2 c = 0 ∨ pb2 c = 1) = True := by unfold pb2; by_cases h : c <;> simp [h]
theorem pz_1 : ((1 : Int32) = 0 ∨ (1 : Int32) = 1) = True := by decide
theorem pz_0 : ((0 : Int32) = 0 ∨ (0 : Int32) = 1) = True := by decide
theorem po_ri (x : Int32) (σ : en_M) : en_oi (en_ri x σ) = some (x, σ) := rfl
theorem po_rv (σ : en_M) : en_ov (en_rv σ) = some σ := rfl
theorem po_none : en_oi none = none := rfl
theorem pv_none : en_ov none = none := rfl
theorem po_if (c : Prop) [Decidable c] (a b : en_R) : en_oi (if c then a else b) = if c then en_oi a else en_oi b := by by_cases h : c <;> simp [h]
theorem pv_if (c : Prop) [Decidable c] (a b : en_R) : en_ov (if c then a else b) = if c then en_ov a else en_ov b := by by_cases h : c <;> simp [h]
/-- the memory, read -/
theorem pu_same (σ : en_M) (k j : Nat) (v : Int32) : en_up σ k j v k j = v := by unfold en_up; rw [if_pos rfl, if_pos rfl]
theorem pu_slot {σ : en_M} {k j i : Nat} {v : Int32} (h : i ≠ j) : en_up σ k j v k i = σ k i := by unfold en_up; rw [if_pos rfl, if_neg h]
theorem pu_cell {σ : en_M} {k j a i : Nat} {v : Int32} (h : a ≠ k) : en_up σ k j v a i = σ a i := by unfold en_up; rw [if_neg h]
theorem pu_row {σ : en_M} {k j a : Nat} {v : Int32} (h : a ≠ k) : en_up σ k j v a = σ a := funext fun i => pu_cell h
theorem pc_cell {σ : en_M} {src dst sp dp n a : Nat} (h : a ≠ dst) : en_cp σ src dst sp dp n a = σ a := by funext i; unfold en_cp; rw [if_neg h]
theorem pc_dst (σ : en_M) (src dst n i : Nat) (h : i < n) : en_cp σ src dst 0 0 n dst i = σ src i := by
  unfold en_cp; rw [if_pos rfl, if_pos ⟨Nat.zero_le _, by omega⟩, Nat.zero_add, Nat.sub_zero]
theorem pf_FU : ∃ m, en_FU = m + 1000000 := ⟨en_FU - 1000000, (Nat.sub_add_cancel en_FU_ge).symm⟩
/-- loops: from i up to N, each turn at most C of the fuel -/
theorem pl_for {S R : Type} (F : Nat → Nat → S → R) (P : Nat → S → Prop) (Q : R → Prop) {N C C0 : Nat}
    (h1 : ∀ n i s, i < N → C ≤ n → P i s → (∃ n' s', F n i s = F n' (i + 1) s' ∧ n ≤ n' + C ∧ P (i + 1) s') ∨ Q (F n i s)) (h2 : ∀ n s, C0 ≤ n → P N s → Q (F n N s)) :
    ∀ k i n s, i + k = N → C * k + C0 ≤ n → P i s → Q (F n i s) := by
  intro k
  induction k with
  | zero => intro i n s hi hn hP; have hi : i = N := hi; subst hi; exact h2 n s (by omega) hP
  | succ k ih =>
    intro i n s hi hn hP
    have hn2 : C * k + C + C0 ≤ n := by rw [Nat.mul_succ] at hn; exact hn
    rcases h1 n i s (by omega) (by omega) hP with ⟨n', s', he, hn', hP'⟩ | hq
    · rw [he]; exact ih (i + 1) n' s' (by omega) (by omega) hP'
    · exact hq
/-- the plain loop: one of the fuel a turn -/
theorem pl_for1 {S R : Type} (F : Nat → Nat → S → R) (P : Nat → S → Prop) (Q : R → Prop) {N : Nat}
    (h1 : ∀ n i s, i < N → P i s → (∃ s', F (n + 1) i s = F n (i + 1) s' ∧ P (i + 1) s') ∨ Q (F (n + 1) i s)) (h2 : ∀ n s, P N s → Q (F (n + 1) N s)) :
    ∀ k i n s, i + k = N → k < n → P i s → Q (F n i s) := by
  intro k i n s hi hn hP
  refine pl_for F P Q (N := N) (C := 1) (C0 := 1) (fun n i s hi hn hP => ?_) (fun n s hn hP => ?_) k i n s hi (by omega) hP
  · obtain ⟨m, rfl⟩ : ∃ m, n = m + 1 := ⟨n - 1, by omega⟩
    rcases h1 m i s hi hP with ⟨s', he, hP'⟩ | hq
    · exact Or.inl ⟨m, s', he, Nat.le_refl _, hP'⟩
    · exact Or.inr hq
  · obtain ⟨m, rfl⟩ : ∃ m, n = m + 1 := ⟨n - 1, by omega⟩
    exact h2 m s hP
theorem pl_FU {k : Nat} (h : k < 1000000) : k < en_FU := Nat.lt_of_lt_of_le h en_FU_ge
