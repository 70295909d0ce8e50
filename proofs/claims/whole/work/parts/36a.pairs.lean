/-! matches: pairs -/
def clr (s i : Nat) : Nat := s &&& (2 ^ i ^^^ 4294967295)
theorem clr_f {s i : Nat} (hs : s < 128) (hi : i < 7) : (s.testBit i = true → clr s i < s) ∧ (∀ k, k < 7 → (clr s i).testBit k = (s.testBit k && decide (k ≠ i))) ∧ (s.testBit i = true → pcn (clr s i) % 2 = (pcn s + 1) % 2) :=
  (by decide +kernel : ∀ s < 128, ∀ i < 7, (s.testBit i = true → clr s i < s) ∧ (∀ k < 7, (clr s i).testBit k = (s.testBit k && decide (k ≠ i))) ∧ (s.testBit i = true → pcn (clr s i) % 2 = (pcn s + 1) % 2)) s hs i hi
theorem clr_le (s i : Nat) : clr s i ≤ s := Nat.and_le_left
theorem clr_n {s i k : Nat} (hs : s < 128) (hi : i < 7) (hk : k < 7) (h : s.testBit k = false ∨ k = i) : (clr s i).testBit k = false := by
  rw [(clr_f hs hi).2.1 k hk]
  rcases h with h | h
  · rw [h]; rfl
  · rw [decide_eq_false (fun q => q h), Bool.and_false]
theorem clr_y {s i k : Nat} (hs : s < 128) (hi : i < 7) (hk : k < 7) : (clr s i).testBit k = true ↔ s.testBit k = true ∧ k ≠ i := by
  rw [(clr_f hs hi).2.1 k hk, Bool.and_eq_true, decide_eq_true_iff]
theorem clr_I (s i : Nat) (hi : i < 31) : Int32.ofNat s &&& (en_shl (1 : Int32) (Int32.ofNat i) ^^^ (-1 : Int32)) = Int32.ofNat (clr s i) := by
  rw [pb_1 hi, pn_m1, pn_xor, pn_and]; rfl
theorem clr_2 {s i j : Nat} (hs : s < 128) (hi : i < 7) (hj : j < 7) : s &&& ((2 ^ i ||| 2 ^ j) ^^^ 4294967295) = clr (clr s i) j := (by decide +kernel : ∀ s < 128, ∀ i < 7, ∀ j < 7, s &&& ((2 ^ i ||| 2 ^ j) ^^^ 4294967295) = clr (clr s i) j) s hs i hi j hj
theorem clr_I2 {s i j : Nat} (hs : s < 128) (hi : i < 7) (hj : j < 7) : Int32.ofNat s &&& ((en_shl (1 : Int32) (Int32.ofNat i) ||| en_shl (1 : Int32) (Int32.ofNat j)) ^^^ (-1 : Int32)) = Int32.ofNat (clr (clr s i) j) := by
  rw [pb_1 (by omega), pb_1 (by omega), pn_or, pn_m1, pn_xor, pn_and, clr_2 hs hi hj]
theorem even_two {s i : Nat} (hs : s < 128) (hi : i < 7) (h : s.testBit i = true) (hp : pcn s % 2 = 0) : ∃ j, j < 7 ∧ (clr s i).testBit j = true := (by decide +kernel : ∀ s < 128, ∀ i < 7, s.testBit i = true → pcn s % 2 = 0 → ∃ j, j < 7 ∧ (clr s i).testBit j = true) s hs i hi h hp
/-- the best of some options: its worth, and the first that has it -/
def boN (f : Nat → Option Nat) : Nat → Option (Nat × Nat)
  | 0 => none
  | o + 1 => match f o with
    | none => boN f o
    | some v => match boN f o with
      | none => some (v, o)
      | some q => if q.1 < v then some (v, o) else some q
theorem bo_n {f : Nat → Option Nat} {o : Nat} (h : f o = none) : boN f (o + 1) = boN f o := by
  show (match f o with | none => boN f o | some v => match boN f o with | none => some (v, o) | some q => if q.1 < v then some (v, o) else some q) = _
  rw [h]
theorem bo_y0 {f : Nat → Option Nat} {o v : Nat} (h : f o = some v) (h2 : boN f o = none) : boN f (o + 1) = some (v, o) := by
  show (match f o with | none => boN f o | some v => match boN f o with | none => some (v, o) | some q => if q.1 < v then some (v, o) else some q) = _
  rw [h, h2]
theorem bo_y1 {f : Nat → Option Nat} {o v : Nat} {q : Nat × Nat} (h : f o = some v) (h2 : boN f o = some q) : boN f (o + 1) = if q.1 < v then some (v, o) else some q := by
  show (match f o with | none => boN f o | some v => match boN f o with | none => some (v, o) | some q => if q.1 < v then some (v, o) else some q) = _
  rw [h, h2]
theorem bo_skip {f : Nat → Option Nat} {a : Nat} : ∀ b, a ≤ b → (∀ o, a ≤ o → o < b → f o = none) → boN f b = boN f a
  | 0, h, _ => by rw [show a = 0 by omega]
  | b + 1, h, hf => by
    by_cases e : a = b + 1
    · rw [e]
    · rw [bo_n (hf b (by omega) (by omega))]
      exact bo_skip b (by omega) (fun o h1 h2 => hf o h1 (by omega))
theorem bo_ok {f : Nat → Option Nat} : ∀ N, (boN f N = none → ∀ o, o < N → f o = none) ∧ ∀ q, boN f N = some q → f q.2 = some q.1 ∧ q.2 < N ∧ (∀ o, o < q.2 → f o ≠ some q.1) ∧ ∀ o v, o < N → f o = some v → v ≤ q.1
  | 0 => ⟨fun _ o h => absurd h (by omega), fun q h => absurd (show (none : Option (Nat × Nat)) = some q from h) (fun z => by cases z)⟩
  | N + 1 => by
    obtain ⟨i1, i2⟩ := bo_ok (f := f) N
    cases hN : f N with
    | none =>
      rw [bo_n hN]
      refine ⟨fun h o ho => ?_, fun q h => ?_⟩
      · by_cases e : o = N
        · rw [e]; exact hN
        · exact i1 h o (by omega)
      · obtain ⟨a, b, c, d⟩ := i2 q h
        refine ⟨a, by omega, c, fun o v ho hv => ?_⟩
        by_cases e : o = N
        · rw [e, hN] at hv; cases hv
        · exact d o v (by omega) hv
    | some v =>
      cases hB : boN f N with
      | none =>
        rw [bo_y0 hN hB]
        refine ⟨fun h => (by cases h), fun q h => ?_⟩
        cases h
        have i1 := i1 hB
        refine ⟨hN, by show N < N + 1; omega, fun o ho => (by rw [i1 o ho]; intro z; cases z), fun o v' ho hv => ?_⟩
        by_cases e : o = N
        · rw [e, hN] at hv; cases hv; exact Nat.le_refl _
        · rw [i1 o (by omega)] at hv; cases hv
      | some q0 =>
        rw [bo_y1 hN hB]
        obtain ⟨a, b, c, d⟩ := i2 q0 hB
        by_cases cv : q0.1 < v
        · rw [if_pos cv]
          refine ⟨fun h => (by cases h), fun q h => ?_⟩
          cases h
          refine ⟨hN, by show N < N + 1; omega, fun o ho hv => ?_, fun o v' ho hv => ?_⟩
          · have := d o v ho hv
            omega
          · by_cases e : o = N
            · rw [e, hN] at hv; cases hv; exact Nat.le_refl _
            · have := d o v' (by omega) hv
              show v' ≤ v
              omega
        · rw [if_neg cv]
          refine ⟨fun h => (by cases h), fun q h => ?_⟩
          cases h
          refine ⟨a, by omega, c, fun o v' ho hv => ?_⟩
          by_cases e : o = N
          · rw [e, hN] at hv; cases hv; omega
          · exact d o v' (by omega) hv
def mxv : Option (Nat × Nat) → Nat
  | none => 0
  | some q => q.1
/-- the most rounds of those in s, from ringer i on; p may be left over -/
def mtv (W : Nat → Nat → Nat) : Nat → Nat → Nat → Nat → Nat
  | 0, _, _, _ => 0
  | d + 1, i, s, p => if s.testBit i = true then mxv (boN (fun o => if o = 0 then (if 0 < p then some (mtv W d (i + 1) (clr s i) (p - 1)) else none) else if (clr s i).testBit (o - 1) = true then some (W i (o - 1) + mtv W d (i + 1) (clr (clr s i) (o - 1)) p) else none) 8) else mtv W d (i + 1) s p
def voN (W : Nat → Nat → Nat) (d i s p : Nat) : Nat → Option Nat := fun o => if o = 0 then (if 0 < p then some (mtv W d (i + 1) (clr s i) (p - 1)) else none) else if (clr s i).testBit (o - 1) = true then some (W i (o - 1) + mtv W d (i + 1) (clr (clr s i) (o - 1)) p) else none
theorem mtv_y {W : Nat → Nat → Nat} {d i s p : Nat} (h : s.testBit i = true) : mtv W (d + 1) i s p = mxv (boN (voN W d i s p) 8) := if_pos h
theorem mtv_n {W : Nat → Nat → Nat} {d i s p : Nat} (h : ¬ s.testBit i = true) : mtv W (d + 1) i s p = mtv W d (i + 1) s p := if_neg h
theorem mtv_skip {W : Nat → Nat → Nat} {n s p : Nat} : ∀ i, i ≤ n → (∀ k, k < i → s.testBit k = false) → mtv W n 0 s p = mtv W (n - i) i s p
  | 0, _, _ => rfl
  | i + 1, h, hb => by
    rw [mtv_skip i (by omega) (fun k hk => hb k (by omega)), show n - i = (n - (i + 1)) + 1 by omega]
    exact mtv_n (by rw [hb i (by omega)]; decide)
theorem vo_0 {W : Nat → Nat → Nat} {d i s p : Nat} (h : 0 < p) : voN W d i s p 0 = some (mtv W d (i + 1) (clr s i) (p - 1)) := if_pos h
theorem vo_0n {W : Nat → Nat → Nat} {d i s p : Nat} (h : ¬ 0 < p) : voN W d i s p 0 = none := if_neg h
theorem vo_y {W : Nat → Nat → Nat} {d i s p j : Nat} (h : (clr s i).testBit j = true) : voN W d i s p (j + 1) = some (W i j + mtv W d (i + 1) (clr (clr s i) j) p) := by
  show (if (clr s i).testBit (j + 1 - 1) = true then some (W i (j + 1 - 1) + mtv W d (i + 1) (clr (clr s i) (j + 1 - 1)) p) else none) = _
  rw [Nat.add_sub_cancel, if_pos h]
theorem vo_n {W : Nat → Nat → Nat} {d i s p j : Nat} (h : ¬ (clr s i).testBit j = true) : voN W d i s p (j + 1) = none := by
  show (if (clr s i).testBit (j + 1 - 1) = true then some (W i (j + 1 - 1) + mtv W d (i + 1) (clr (clr s i) (j + 1 - 1)) p) else none) = _
  rw [Nat.add_sub_cancel, if_neg h]
theorem bo_le {f : Nat → Option Nat} {b : Nat} (h : ∀ o v, f o = some v → v ≤ b) (N : Nat) : mxv (boN f N) ≤ b := by
  cases hB : boN f N with
  | none => exact Nat.zero_le _
  | some q => exact h q.2 q.1 ((bo_ok N).2 q hB).1
theorem mtv_le {W : Nat → Nat → Nat} {w : Nat} (hW : ∀ a b, W a b ≤ w) : ∀ d i s p, mtv W d i s p ≤ w * d
  | 0, _, _, _ => Nat.zero_le _
  | d + 1, i, s, p => by
    by_cases c : s.testBit i = true
    · rw [mtv_y c]
      refine bo_le (fun o v hv => ?_) 8
      have h1 : w * (d + 1) = w * d + w := Nat.mul_succ w d
      cases o with
      | zero =>
        by_cases hp : 0 < p
        · rw [vo_0 hp] at hv
          cases hv
          have := mtv_le hW d (i + 1) (clr s i) (p - 1)
          omega
        · rw [vo_0n hp] at hv; cases hv
      | succ j =>
        by_cases cj : (clr s i).testBit j = true
        · rw [vo_y cj] at hv
          cases hv
          have := mtv_le hW d (i + 1) (clr (clr s i) j) p
          have := hW i j
          omega
        · rw [vo_n cj] at hv; cases hv
    · rw [mtv_n c]
      have := mtv_le hW d (i + 1) s p
      rw [Nat.mul_succ]; omega
/-- who is with whom -/
def asN (W : Nat → Nat → Nat) : Nat → Nat → Nat → Nat → (Nat → Int32) → Nat → Int32
  | 0, _, _, _, b => b
  | d + 1, i, s, p, b => if s.testBit i = true then (match boN (voN W d i s p) 8 with
      | none => b
      | some q => if q.2 = 0 then asN W d (i + 1) (clr s i) (p - 1) b else asN W d (i + 1) (clr (clr s i) (q.2 - 1)) p (fun r => if r = q.2 - 1 then Int32.ofNat i else if r = i then Int32.ofNat (q.2 - 1) else b r))
    else asN W d (i + 1) s p b
/-- what comes of an option -/
def aoN (W : Nat → Nat → Nat) (d i s p : Nat) (b : Nat → Int32) (o : Nat) : Nat → Int32 := if o = 0 then asN W d (i + 1) (clr s i) (p - 1) b else asN W d (i + 1) (clr (clr s i) (o - 1)) p (fun r => if r = o - 1 then Int32.ofNat i else if r = i then Int32.ofNat (o - 1) else b r)
theorem as_n {W : Nat → Nat → Nat} {d i s p : Nat} {b : Nat → Int32} (h : ¬ s.testBit i = true) : asN W (d + 1) i s p b = asN W d (i + 1) s p b := if_neg h
theorem as_y {W : Nat → Nat → Nat} {d i s p : Nat} {b : Nat → Int32} {q : Nat × Nat} (h : s.testBit i = true) (hq : boN (voN W d i s p) 8 = some q) : asN W (d + 1) i s p b = aoN W d i s p b q.2 := by
  show (if s.testBit i = true then (match boN (voN W d i s p) 8 with
      | none => b
      | some q => if q.2 = 0 then asN W d (i + 1) (clr s i) (p - 1) b else asN W d (i + 1) (clr (clr s i) (q.2 - 1)) p (fun r => if r = q.2 - 1 then Int32.ofNat i else if r = i then Int32.ofNat (q.2 - 1) else b r)) else _) = _
  rw [if_pos h, hq]; rfl
theorem as_low {W : Nat → Nat → Nat} : ∀ d i s p b r, s < 128 → i + d ≤ 7 → (∀ k, k < i → s.testBit k = false) → r < i → asN W d i s p b r = b r
  | 0, _, _, _, _, _, _, _, _, _ => rfl
  | d + 1, i, s, p, b, r, hs, hd, hb, hr => by
    have hc1 : ∀ k, k < i + 1 → (clr s i).testBit k = false := fun k hk => clr_n hs (by omega) (by omega) (by
      by_cases e : k = i
      · exact Or.inr e
      · exact Or.inl (hb k (by omega)))
    have hs1 : clr s i < 128 := Nat.lt_of_le_of_lt (clr_le s i) hs
    by_cases c : s.testBit i = true
    · cases hB : boN (voN W d i s p) 8 with
      | none =>
        show (if s.testBit i = true then (match boN (voN W d i s p) 8 with
          | none => b
          | some q => if q.2 = 0 then asN W d (i + 1) (clr s i) (p - 1) b else asN W d (i + 1) (clr (clr s i) (q.2 - 1)) p (fun r => if r = q.2 - 1 then Int32.ofNat i else if r = i then Int32.ofNat (q.2 - 1) else b r)) else asN W d (i + 1) s p b) r = b r
        rw [if_pos c, hB]
      | some q =>
        rw [as_y c hB]
        obtain ⟨q1, q2, -, -⟩ := (bo_ok 8).2 q hB
        unfold aoN
        by_cases e : q.2 = 0
        · rw [if_pos e]
          exact as_low d (i + 1) _ _ _ r hs1 (by omega) hc1 (by omega)
        · rw [if_neg e]
          obtain ⟨j, hj⟩ : ∃ j, q.2 = j + 1 := ⟨q.2 - 1, by omega⟩
          rw [hj] at q1 q2 ⊢
          have hcj : (clr s i).testBit j = true := Classical.byContradiction fun z => by rw [vo_n z] at q1; cases q1
          have hji : i < j := Nat.lt_of_not_le fun z => by rw [hc1 j (by omega)] at hcj; exact absurd hcj (by decide)
          rw [as_low d (i + 1) _ _ _ r (Nat.lt_of_le_of_lt (clr_le _ _) hs1) (by omega) (fun k hk => clr_n hs1 (by omega) (by omega) (Or.inl (hc1 k hk))) (by omega)]
          show (if r = j + 1 - 1 then Int32.ofNat i else if r = i then Int32.ofNat (j + 1 - 1) else b r) = b r
          rw [if_neg (by omega), if_neg (by omega)]
    · rw [as_n c]
      refine as_low d (i + 1) s p b r hs (by omega) (fun k hk => ?_) (by omega)
      by_cases e : k = i
      · rw [e]; exact Bool.eq_false_iff.mpr c
      · exact hb k (by omega)
