/-! a ringer's course is his own -/
def agR (r : Nat) (x y : pS) : Prop := sF x = sF y ∧ sN x = sN y ∧ sT x r = sT y r ∧ sS x r = sS y r
theorem agR_refl (r : Nat) (x : pS) : agR r x x := ⟨rfl, rfl, rfl, rfl⟩
theorem agR_trans {r : Nat} {x y z : pS} (h : agR r x y) (h2 : agR r y z) : agR r x z := ⟨h.1.trans h2.1, h.2.1.trans h2.2.1, h.2.2.1.trans h2.2.2.1, h.2.2.2.trans h2.2.2.2⟩
theorem agR_tiv {r s : Nat} {x y : pS} (h : agR r x y) (g : pG) : tiv g x s r = tiv g y s r := by
  obtain ⟨h1, h2, h3, h4⟩ := h
  unfold tiv tir thg
  rw [h1, h2, h3, h4]
theorem agR_nx {r : Nat} {x y : pS} (h : agR r x y) (g : pG) : agR r (nx g x 0) (nx g y 0) := by
  have ht := agR_tiv h g (s := 0)
  obtain ⟨h1, h2, h3, h4⟩ := h
  refine ⟨?_, ?_, ?_, ?_⟩
  · show nxF g (sF x) (sN x) = nxF g (sF y) (sN y)
    rw [h1, h2]
  · show sN x + 1 = sN y + 1
    rw [h2]
  · show (if r < gN g then nxT g x 0 r else sT x r) = (if r < gN g then nxT g y 0 r else sT y r)
    unfold nxT
    rw [ht, h3]
  · show (if r < gN g then nxS x 0 r else sS x r) = (if r < gN g then nxS y 0 r else sS y r)
    unfold nxS
    rw [h4]
theorem drN_bit (g : pG) (x : pS) (s : Nat) : ∀ i r, (drN g x s i).testBit r = (decide (r < i) && decide (¬ s.testBit r = true ∧ 99 < tiv g x s r))
  | 0, r => by simp [drN]
  | i + 1, r => by
    rw [drN_s, Nat.testBit_or, drN_bit g x s i r]
    by_cases e : r = i
    · subst e
      rw [decide_eq_false (Nat.lt_irrefl r), decide_eq_true (Nat.lt_succ_self r)]
      by_cases c : ¬ s.testBit r = true ∧ 99 < tiv g x s r
      · rw [if_pos c, decide_eq_true c, Nat.testBit_two_pow_self]; rfl
      · rw [if_neg c, decide_eq_false c, Nat.zero_testBit]; rfl
    · have hz : (if ¬ s.testBit i = true ∧ 99 < tiv g x s i then 2 ^ i else 0).testBit r = false := by
        split
        · rw [Nat.testBit_two_pow]; exact decide_eq_false (by omega)
        · exact Nat.zero_testBit r
      rw [hz, Bool.or_false]
      by_cases c : r < i
      · rw [decide_eq_true c, decide_eq_true (show r < i + 1 by omega)]
      · rw [decide_eq_false c, decide_eq_false (show ¬ r < i + 1 by omega)]
theorem agR_dr {r : Nat} {x y : pS} (h : agR r x y) (g : pG) (i : Nat) : (drN g x 0 i).testBit r = (drN g y 0 i).testBit r := by
  rw [drN_bit, drN_bit, agR_tiv h g]
theorem agR_rd {r : Nat} {x y : pS} (h : agR r x y) (g : pG) : ∀ m, agR r (rdN g x m) (rdN g y m)
  | 0 => h
  | m + 1 => agR_nx (agR_rd h g m) g
theorem agR_wh {r : Nat} {x y : pS} (h : agR r x y) (g : pG) : ∀ m, (whN g x m).testBit r = (whN g y m).testBit r
  | 0 => rfl
  | m + 1 => by
    show (whN g x m ||| drN g (rdN g x m) 0 (gN g)).testBit r = (whN g y m ||| drN g (rdN g y m) 0 (gN g)).testBit r
    rw [Nat.testBit_or, Nat.testBit_or, agR_wh h g m, agR_dr (agR_rd h g m) g]
/-- so many beers -/
def dkN (x : pS) (r : Nat) : Nat → pS
  | 0 => x
  | k + 1 => sDk (dkN x r k) r
def dkA (x : pS) (p : Nat) : Nat → pS
  | 0 => x
  | r + 1 => dkN (dkA x p r) r p
theorem agR_dk {r : Nat} {x y : pS} (h : agR r x y) : agR r (sDk x r) (sDk y r) := by
  obtain ⟨h1, h2, h3, h4⟩ := h
  refine ⟨h1, h2, ?_, h4⟩
  show (if r = r then dk (sT x r) else sT x r) = (if r = r then dk (sT y r) else sT y r)
  rw [h3]
theorem agR_dko {r q : Nat} {x y : pS} (h : agR r x y) (hq : r ≠ q) : agR r (sDk x q) y := by
  obtain ⟨h1, h2, h3, h4⟩ := h
  refine ⟨h1, h2, ?_, h4⟩
  show (if r = q then dk (sT x r) else sT x r) = sT y r
  rw [if_neg hq]; exact h3
theorem agR_dkN {r : Nat} {x y : pS} (h : agR r x y) : ∀ p, agR r (dkN x r p) (dkN y r p)
  | 0 => h
  | p + 1 => agR_dk (agR_dkN h p)
theorem agR_dkNo {r q : Nat} {x y : pS} (h : agR r x y) (hq : r ≠ q) : ∀ p, agR r (dkN x q p) y
  | 0 => h
  | p + 1 => agR_dko (agR_dkNo h hq p) hq
theorem agR_dkA (x : pS) (p r : Nat) : ∀ i, (i ≤ r → agR r (dkA x p i) x) ∧ (r < i → agR r (dkA x p i) (dkN x r p))
  | 0 => ⟨fun _ => agR_refl r x, fun q => absurd q (by omega)⟩
  | i + 1 => by
    obtain ⟨h1, h2⟩ := agR_dkA x p r i
    refine ⟨fun q => ?_, fun q => ?_⟩
    · exact agR_dkNo (h1 (by omega)) (by omega) p
    · by_cases e : r = i
      · subst e
        exact agR_dkN (h1 (Nat.le_refl _)) p
      · exact agR_dkNo (h2 (by omega)) e p
/-- whether ringer r drifts in m rounds, behind p beers: alone, or with all -/
theorem stout_own (g : pG) (x : pS) (p m : Nat) {r : Nat} (hr : r < gN g) : (whN g (dkA x p (gN g)) m).testBit r = (whN g (dkN x r p) m).testBit r :=
  agR_wh ((agR_dkA x p r (gN g)).2 hr) g m
