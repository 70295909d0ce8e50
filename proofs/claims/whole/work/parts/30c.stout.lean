/-! stout: the fewest beers -/
def fwN (d : Nat → Bool) : Nat → Nat → Nat
  | 0, p => p
  | k + 1, p => if d p = true then fwN d k (p + 1) else p
theorem fwN_le (d : Nat → Bool) : ∀ k p, p ≤ fwN d k p ∧ fwN d k p ≤ p + k
  | 0, p => ⟨Nat.le_refl _, Nat.le_refl _⟩
  | k + 1, p => by
    have := fwN_le d k (p + 1)
    unfold fwN
    split <;> omega
/-- before it all drift; at it none, if it is below the end -/
theorem fwN_d (d : Nat → Bool) : ∀ k p q, p ≤ q → q < p + k → (q < fwN d k p → d q = true) ∧ (q = fwN d k p → d q = false)
  | 0, p, q, h1, h2 => by omega
  | k + 1, p, q, h1, h2 => by
    unfold fwN
    by_cases c : d p = true
    · rw [if_pos c]
      by_cases e : q = p
      · have := (fwN_le d k (p + 1)).1
        exact ⟨fun _ => by rw [e]; exact c, fun h => by omega⟩
      · exact fwN_d d k (p + 1) q (by omega) (by omega)
    · rw [if_neg c]
      exact ⟨fun h => by omega, fun h => by rw [h]; exact Bool.eq_false_iff.mpr c⟩
def ftF (g : pG) (x : pS) (m r : Nat) : Nat := fwN (fun p => (whN g (dkN x r p) m).testBit r) 11 0
theorem ftF_le (g : pG) (x : pS) (m r : Nat) : ftF g x m r ≤ 11 := by have := (fwN_le (fun p => (whN g (dkN x r p) m).testBit r) 11 0).2; unfold ftF; omega
/-- the beers of those served below p, and of those served at p -/
def fsN (F : Nat → Nat) (p : Nat) : Nat → Nat
  | 0 => 0
  | r + 1 => fsN F p r + (if F r < p then F r else 0)
def feN (F : Nat → Nat) (p : Nat) : Nat → Nat
  | 0 => 0
  | r + 1 => feN F p r + (if F r = p then p else 0)
theorem fs_fe (F : Nat → Nat) (p : Nat) : ∀ n, fsN F (p + 1) n = fsN F p n + feN F p n
  | 0 => rfl
  | n + 1 => by
    have ih := fs_fe F p n
    show fsN F (p + 1) n + (if F n < p + 1 then F n else 0) = fsN F p n + (if F n < p then F n else 0) + (feN F p n + (if F n = p then p else 0))
    rw [ih]
    by_cases c : F n < p
    · rw [if_pos (by omega), if_pos c, if_neg (by omega)]; omega
    · by_cases c2 : F n = p
      · rw [if_pos (by omega), if_neg c, if_pos c2]; omega
      · rw [if_neg (by omega), if_neg c, if_neg c2]; omega
theorem fs_all (F : Nat → Nat) (p q : Nat) : ∀ n, (∀ r, r < n → F r < p) → (∀ r, r < n → F r < q) → fsN F p n = fsN F q n
  | 0, _, _ => rfl
  | n + 1, h1, h2 => by
    show fsN F p n + (if F n < p then F n else 0) = fsN F q n + (if F n < q then F n else 0)
    rw [fs_all F p q n (fun r hr => h1 r (by omega)) (fun r hr => h2 r (by omega)), if_pos (h1 n (by omega)), if_pos (h2 n (by omega))]
theorem fs_lt (F : Nat → Nat) (p : Nat) : ∀ n, fsN F p n ≤ n * p
  | 0 => Nat.zero_le _
  | n + 1 => by
    have := fs_lt F p n
    show fsN F p n + (if F n < p then F n else 0) ≤ (n + 1) * p
    rw [Nat.succ_mul]
    split <;> omega
theorem fsN_0 (F : Nat → Nat) : ∀ n, fsN F 0 n = 0
  | 0 => rfl
  | n + 1 => by
    show fsN F 0 n + (if F n < 0 then F n else 0) = 0
    rw [fsN_0 F n, if_neg (by omega)]
/-- those still drifting behind fewer than p beers -/
def flN (F : Nat → Nat) (p : Nat) : Nat → Nat
  | 0 => 0
  | r + 1 => flN F p r ||| (if p ≤ F r then 2 ^ r else 0)
theorem flN_bit (F : Nat → Nat) (p : Nat) : ∀ n r, (flN F p n).testBit r = (decide (r < n) && decide (p ≤ F r))
  | 0, r => by simp [flN]
  | i + 1, r => by
    unfold flN
    rw [Nat.testBit_or, flN_bit F p i r]
    by_cases e : r = i
    · subst e
      rw [decide_eq_false (Nat.lt_irrefl r), decide_eq_true (Nat.lt_succ_self r)]
      by_cases c : p ≤ F r
      · rw [if_pos c, decide_eq_true c, Nat.testBit_two_pow_self]; rfl
      · rw [if_neg c, decide_eq_false c, Nat.zero_testBit]; rfl
    · have hz : (if p ≤ F i then 2 ^ i else 0).testBit r = false := by
        split
        · rw [Nat.testBit_two_pow]; exact decide_eq_false (by omega)
        · exact Nat.zero_testBit r
      rw [hz, Bool.or_false]
      by_cases c : r < i
      · rw [decide_eq_true c, decide_eq_true (show r < i + 1 by omega)]
      · rw [decide_eq_false c, decide_eq_false (show ¬ r < i + 1 by omega)]
theorem flN_lt (F : Nat → Nat) (p : Nat) : ∀ n, flN F p n < 2 ^ n
  | 0 => Nat.one_pos
  | i + 1 => by
    have ih := flN_lt F p i
    have h2 : 2 ^ i < 2 ^ (i + 1) := Nat.pow_lt_pow_right (by decide) (by omega)
    unfold flN
    refine Nat.or_lt_two_pow (by omega) ?_
    split
    · exact h2
    · exact Nat.two_pow_pos _
theorem flN_0 (F : Nat → Nat) (p n : Nat) : (flN F p n = 0) = ∀ r, r < n → F r < p := by
  apply propext; constructor
  · intro h r hr
    have hb := flN_bit F p n r
    rw [h, Nat.zero_testBit, decide_eq_true hr, Bool.true_and] at hb
    have := of_decide_eq_false hb.symm
    omega
  · intro h
    apply Nat.eq_of_testBit_eq; intro r
    rw [flN_bit, Nat.zero_testBit]
    by_cases c : r < n
    · rw [decide_eq_true c, decide_eq_false (by have := h r c; omega)]; rfl
    · rw [decide_eq_false c]; rfl
theorem flN_first (F : Nat → Nat) : ∀ n, flN F 0 n = 2 ^ n - 1 := fun n => by
  apply Nat.eq_of_testBit_eq; intro r
  rw [flN_bit, Nat.testBit_two_pow_sub_one, decide_eq_true (Nat.zero_le (F r)), Bool.and_true]
theorem flN_next (F : Nat → Nat) (p n D : Nat) (hD : ∀ r, r < n → p ≤ F r → D.testBit r = decide (F r ≠ p)) : flN F p n &&& D = flN F (p + 1) n := by
  apply Nat.eq_of_testBit_eq; intro r
  rw [Nat.testBit_and, flN_bit, flN_bit]
  by_cases c : r < n
  · rw [decide_eq_true c]
    by_cases c2 : p ≤ F r
    · rw [decide_eq_true c2, hD r c c2]
      by_cases c3 : F r = p
      · rw [decide_eq_false (fun q => q c3), decide_eq_false (show ¬ p + 1 ≤ F r by omega)]; rfl
      · rw [decide_eq_true c3, decide_eq_true (show p + 1 ≤ F r by omega)]; rfl
    · rw [decide_eq_false c2, decide_eq_false (show ¬ p + 1 ≤ F r by omega)]; rfl
  · rw [decide_eq_false c]; rfl
