/-! orders, places, the change: both sides against one function of naturals -/
def PMf (n : Nat) (f : Nat → Nat) : Prop := (∀ p, p < 7 → f p < 7) ∧ (∀ p q, p < 7 → q < 7 → f p = f q → p = q) ∧ (∀ p, n ≤ p → p < 7 → f p = p) ∧ ∀ b, b < 7 → ∃ q, q < 7 ∧ f q = b
theorem PMf.lt8 {n : Nat} {f : Nat → Nat} (h : PMf n f) : ∀ p, p < 7 → f p < 8 := fun p hp => by have := h.1 p hp; omega
theorem PMf.ltn {n : Nat} {f : Nat → Nat} (h : PMf n f) {p : Nat} (hp : p < n) (hn : n ≤ 7) : f p < n := by
  refine Nat.lt_of_not_le fun hc => ?_
  have h7 := h.1 p (by omega)
  have := h.2.2.1 (f p) hc h7
  have := h.2.1 (f p) p h7 (by omega) this
  omega
/-- the places of a set, the first i places -/
def plN (f : Nat → Nat) (s : Nat) : Nat → Nat
  | 0 => 0
  | p + 1 => plN f s p ||| (if s.testBit (f p) then 2 ^ p else 0)
theorem plN_lt (f : Nat → Nat) (s : Nat) : ∀ i, plN f s i < 2 ^ i
  | 0 => Nat.one_pos
  | p + 1 => by
    have ih := plN_lt f s p
    have h2 : 2 ^ p < 2 ^ (p + 1) := Nat.pow_lt_pow_right (by decide) (by omega)
    unfold plN
    refine Nat.or_lt_two_pow (by omega) ?_
    split
    · exact h2
    · exact Nat.two_pow_pos _
theorem plN_s (f : Nat → Nat) (s p : Nat) : plN f s (p + 1) = plN f s p ||| (if s.testBit (f p) then 2 ^ p else 0) := rfl
theorem plN_bit (f : Nat → Nat) (s : Nat) : ∀ i p, (plN f s i).testBit p = (decide (p < i) && s.testBit (f p))
  | 0, p => by simp [plN]
  | i + 1, p => by
    unfold plN
    rw [Nat.testBit_or, plN_bit f s i p]
    by_cases h : p < i
    · rw [decide_eq_true h, decide_eq_true (show p < i + 1 by omega)]
      have : (if s.testBit (f i) = true then 2 ^ i else 0).testBit p = false := by
        split
        · rw [Nat.testBit_two_pow]; simp; omega
        · simp
      rw [this]; simp
    · by_cases h2 : p = i
      · subst h2
        rw [decide_eq_false h, decide_eq_true (show p < p + 1 by omega)]
        by_cases h3 : s.testBit (f p)
        · rw [if_pos h3, Nat.testBit_two_pow_self, h3]; rfl
        · rw [if_neg h3]; simp [h3]
      · rw [decide_eq_false h, decide_eq_false (show ¬ p < i + 1 by omega)]
        have : (if s.testBit (f i) = true then 2 ^ i else 0).testBit p = false := by
          split
          · rw [Nat.testBit_two_pow]; simp; omega
          · simp
        rw [this]; simp
theorem plN_ge {n : Nat} {f : Nat → Nat} {s : Nat} (hp : PMf n f) (hs : s < 2 ^ n) : ∀ i, n ≤ i → i ≤ 7 → plN f s i = plN f s n := by
  intro i hi h7
  induction i with
  | zero => rw [show n = 0 by omega]
  | succ i ih =>
    by_cases e : n = i + 1
    · rw [e]
    · have hb : s.testBit (f i) = false := by
        rw [hp.2.2.1 i (by omega) (by omega)]
        exact Nat.testBit_lt_two_pow (Nat.lt_of_lt_of_le hs (Nat.pow_le_pow_right (by decide) (by omega)))
      rw [← ih (by omega) (by omega)]
      show plN f s i ||| (if s.testBit (f i) then 2 ^ i else 0) = _
      rw [hb]; simp
theorem p2lt {n : Nat} (hn : n ≤ 7) : 2 ^ n ≤ 128 := Nat.pow_le_pow_right (n := 2) (by decide) (show n ≤ 7 from hn)
theorem pb_step {s k p : Nat} (hs : s < 2147483648) (hk : k < 31) (hp : p < 31) : en_shl (en_shr (Int32.ofNat s) (Int32.ofNat k) &&& 1) (Int32.ofNat p) = Int32.ofNat (if s.testBit k then 2 ^ p else 0) := by
  rw [pb_bit hs (by omega), pb_shl _ (by omega), Nat.testBit_eq_decide_div_mod_eq]
  rcases Nat.mod_two_eq_zero_or_one (s / 2 ^ k) with h | h
  · rw [h]; simp
  · rw [h]; simp [Nat.shiftLeft_eq]
theorem q_placesOf {n : Nat} {f : Nat → Nat} {s : Nat} (hp : PMf n f) (hn : n ≤ 7) (hs : s < 2 ^ n) (σ : en_M) : O_X11_placesOf [.inl (Int32.ofNat (pkN f)), .inl (Int32.ofNat s)] σ = some (Int32.ofNat (plN f s n), σ) := by
  have h128 := p2lt hn
  rw [o_X11_placesOf, t_X11_placesOf_0]
  refine pl_for1 (F := fun m i (acc : Int32) => T_X11_placesOf_4 m (Int32.ofNat (pkN f)) (Int32.ofNat s) acc (Int32.ofNat i) σ) (P := fun i acc => acc = Int32.ofNat (plN f s i)) (Q := fun r => en_oi r = some (Int32.ofNat (plN f s n), σ)) (N := 7) ?_ ?_ 7 0 en_FU 0 rfl (pl_FU (by omega)) rfl
  · rintro m i acc hi rfl
    refine Or.inl ⟨_, ?_, rfl⟩
    show T_X11_placesOf_4 (m + 1) _ _ _ _ σ = _
    rw [t_X11_placesOf_4, if_pos (show Int32.ofNat i < (7 : Int32) from (pn_lt (b := 7) (by omega) (by omega)).mpr hi), q_bellAt, Option.bind_some]
    dsimp only
    rw [pba hp.lt8 hi, q_bit, Option.bind_some]
    dsimp only
    have := hp.1 i hi
    rw [pb_step (by omega) (by omega) (by omega), pn_or, show (1 : Int32) = Int32.ofNat 1 from rfl, pn_add]
    rfl
  · rintro m acc rfl
    show en_oi (T_X11_placesOf_4 (m + 1) _ _ _ _ σ) = _
    rw [t_X11_placesOf_4, if_neg (by rw [show (7 : Int32) = Int32.ofNat 7 from rfl, pn_lt (by omega) (by omega)]; omega), po_ri, plN_ge hp hs 7 hn (by omega)]
/-- where a bell sounds -/
def pwq (f : Nat → Nat) (b : Nat) : Nat → Nat → Nat
  | 0, p => p
  | k + 1, p => if f p = b then p else pwq f b k (p + 1)
theorem pwq_at {f : Nat → Nat} {b q : Nat} : ∀ (k p : Nat), p ≤ q → q ≤ p + k → f q = b → (∀ r, p ≤ r → r < q → f r ≠ b) → pwq f b k p = q
  | 0, p, h1, h2, _, _ => by unfold pwq; omega
  | k + 1, p, h1, h2, h3, h4 => by
    unfold pwq
    by_cases e : f p = b
    · rw [if_pos e]
      refine Nat.le_antisymm h1 (Nat.le_of_not_lt fun hc => h4 p (Nat.le_refl _) hc e)
    · rw [if_neg e]
      have : p ≠ q := fun q' => e (q' ▸ h3)
      exact pwq_at k (p + 1) (by omega) (by omega) h3 (fun r hr hr2 => h4 r (by omega) hr2)
theorem q_placeOf {n : Nat} {f : Nat → Nat} {q : Nat} (hp : PMf n f) (hq : q < 7) (σ : en_M) : O_X11_placeOf [.inl (Int32.ofNat (pkN f)), .inl (Int32.ofNat (f q))] σ = some (Int32.ofNat q, σ) := by
  rw [o_X11_placeOf, t_X11_placeOf_0]
  have hfq := hp.1 q hq
  have hne : ∀ r, r < 7 → r ≠ q → f r ≠ f q := fun r hr h e => h (hp.2.1 r q hr hq e)
  refine pl_for1 (F := fun m i (_ : Unit) => T_X11_placeOf_2 m (Int32.ofNat (pkN f)) (Int32.ofNat (f q)) (Int32.ofNat i) σ) (P := fun i _ => i ≤ q) (Q := fun r => en_oi r = some (Int32.ofNat q, σ)) (N := 6) ?_ ?_ 6 0 en_FU () rfl (pl_FU (by omega)) (Nat.zero_le _)
  · intro m i _ hi hP
    have hr := hp.1 i (by omega)
    show (∃ s' : Unit, T_X11_placeOf_2 (m + 1) _ _ _ σ = _ ∧ _) ∨ en_oi (T_X11_placeOf_2 (m + 1) _ _ _ σ) = _
    rw [t_X11_placeOf_2, if_pos (show Int32.ofNat i < (6 : Int32) from (pn_lt (b := 6) (by omega) (by omega)).mpr hi), q_bellAt, Option.bind_some]
    dsimp only
    rw [pba hp.lt8 (by omega)]
    by_cases e : i = q
    · subst e
      rw [if_pos rfl]
      exact Or.inr rfl
    · rw [if_neg (by rw [pn_eq (by omega) (by omega)]; exact hne i (by omega) e), show (1 : Int32) = Int32.ofNat 1 from rfl, pn_add]
      exact Or.inl ⟨(), rfl, by omega⟩
  · intro m _ hP
    have hP : 6 ≤ q := hP
    show en_oi (T_X11_placeOf_2 (m + 1) _ _ _ σ) = _
    rw [t_X11_placeOf_2, if_neg (by rw [show (6 : Int32) = Int32.ofNat 6 from rfl, pn_lt (by omega) (by omega)]; omega), po_ri, show q = 6 by omega]
/-! the reference: a row that holds an order -/
def FRow (n : Nat) (row : Nat → Int32) (off : Nat) (f : Nat → Nat) : Prop := ∀ p, p < n → row (off + p) = Int32.ofNat (f p)
theorem r_placeOf {n : Nat} {f : Nat → Nat} {q k : Nat} {σ : en_M} (hp : PMf n f) (hn : n ≤ 7) (hq : q < n) (h : FRow n (σ k) 0 f) : O_X12_placeOf [.inr (185, 12, 0, 0), .inr (k, 20, 53, 0), .inl (Int32.ofNat (f q))] σ = some (Int32.ofNat q, σ) := by
  rw [o_X12_placeOf, t_X12_placeOf_0]
  have hfq := hp.1 q (by omega)
  have hne : ∀ r, r < 7 → r ≠ q → f r ≠ f q := fun r hr h e => h (hp.2.1 r q hr (by omega) e)
  refine pl_for1 (F := fun m i (_ : Unit) => T_X12_placeOf_2 m k (Int32.ofNat (f q)) (Int32.ofNat i) σ) (P := fun i _ => i ≤ q) (Q := fun r => en_oi r = some (Int32.ofNat q, σ)) (N := q) ?_ ?_ q 0 en_FU () (by omega) (pl_FU (by omega)) (Nat.zero_le _)
  · intro m i _ hi hP
    have hr := hp.1 i (by omega)
    have hi0 : σ k i = Int32.ofNat (f i) := by have := h i (by omega); rwa [Nat.zero_add] at this
    show (∃ s' : Unit, T_X12_placeOf_2 (m + 1) _ _ _ σ = _ ∧ _) ∨ _
    rw [t_X12_placeOf_2, pn_ix (by omega) (by omega), Option.bind_some, hi0]
    rw [if_neg (by rw [pn_eq (by omega) (by omega)]; exact hne i (by omega) (by omega)), show (1 : Int32) = Int32.ofNat 1 from rfl, pn_add]
    exact Or.inl ⟨(), rfl, by omega⟩
  · intro m _ hP
    have hi0 : σ k q = Int32.ofNat (f q) := by have := h q hq; rwa [Nat.zero_add] at this
    show en_oi (T_X12_placeOf_2 (m + 1) _ _ _ σ) = _
    rw [t_X12_placeOf_2, pn_ix (by omega) (by omega), Option.bind_some, hi0, if_pos rfl]
    rfl
theorem r_placesOf {n : Nat} {f : Nat → Nat} {s k : Nat} {σ : en_M} (hp : PMf n f) (hn : n ≤ 7) (hs : s < 2 ^ n) (h1 : σ 185 1 = Int32.ofNat n) (h : FRow n (σ k) 0 f) : O_X12_placesOf [.inr (185, 12, 0, 0), .inr (k, 20, 53, 0), .inl (Int32.ofNat s)] σ = some (Int32.ofNat (plN f s n), σ) := by
  have h128 := p2lt hn
  rw [o_X12_placesOf, t_X12_placesOf_0]
  refine pl_for1 (F := fun m i (acc : Int32) => T_X12_placesOf_5 m k (Int32.ofNat s) acc (Int32.ofNat i) σ) (P := fun i acc => acc = Int32.ofNat (plN f s i)) (Q := fun r => en_oi r = some (Int32.ofNat (plN f s n), σ)) (N := n) ?_ ?_ n 0 en_FU 0 (by omega) (pl_FU (by omega)) rfl
  · rintro m i acc hi rfl
    have hi0 : σ k i = Int32.ofNat (f i) := by have := h i hi; rwa [Nat.zero_add] at this
    have := hp.1 i (by omega)
    refine Or.inl ⟨Int32.ofNat (plN f s (i + 1)), ?_, rfl⟩
    show T_X12_placesOf_5 (m + 1) _ _ _ _ σ = _
    rw [t_X12_placesOf_5, h1, if_pos ((pn_lt (by omega) (by omega)).mpr hi), pn_ix (by omega) (by omega), Option.bind_some, hi0, q_has, Option.bind_some]
    dsimp only
    simp only [pb2_0, pb_bit1 (show s < 2147483648 by omega) (show f i < 32 by omega)]
    by_cases hb : s.testBit (f i) = true
    · rw [if_neg (fun q => q hb), pb_1 (by omega), pn_or, show (1 : Int32) = Int32.ofNat 1 from rfl, pn_add, plN_s, if_pos hb]
    · rw [if_pos hb, show (0 : Int32) = Int32.ofNat 0 from rfl, pn_or, show (1 : Int32) = Int32.ofNat 1 from rfl, pn_add, plN_s, if_neg hb]
  · rintro m acc rfl
    show en_oi (T_X12_placesOf_5 (m + 1) _ _ _ _ σ) = _
    rw [t_X12_placesOf_5, h1, if_neg (by rw [pn_lt (by omega) (by omega)]; omega)]
    rfl
/-- swaps of neighbours: t the places that stay, k turns left, at place p -/
def psw (f : Nat → Nat) (p : Nat) : Nat → Nat := pup (pup f p (f (p + 1))) (p + 1) (f p)
def pch (t n : Nat) : Nat → Nat → (Nat → Nat) → (Nat → Nat)
  | 0, _, f => f
  | k + 1, p, f => if p + 1 < n then (if t / 2 ^ p % 4 = 0 then pch t n k (p + 2) (psw f p) else pch t n k (p + 1) f) else f
theorem psw_at {f : Nat → Nat} {p q : Nat} : psw f p q = if q = p + 1 then f p else if q = p then f (p + 1) else f q := by
  unfold psw pup
  by_cases h : q = p + 1
  · rw [if_pos h]
  · rw [if_neg h]
theorem psw_PMf {n : Nat} {f : Nat → Nat} {p : Nat} (h : PMf n f) (hn : n ≤ 7) (hp : p + 1 < n) : PMf n (psw f p) := by
  refine ⟨fun q hq => ?_, fun a b ha hb e => ?_, fun q hq hq7 => ?_, fun b hb => ?_⟩
  · rw [psw_at]
    split
    · exact h.1 p (by omega)
    · split
      · exact h.1 (p + 1) (by omega)
      · exact h.1 q hq
  · have hi := h.2.1
    rw [psw_at, psw_at] at e
    by_cases a1 : a = p + 1
    · rw [if_pos a1] at e
      by_cases b1 : b = p + 1
      · omega
      · rw [if_neg b1] at e
        by_cases b2 : b = p
        · rw [if_pos b2] at e
          have := hi p (p + 1) (by omega) (by omega) e; omega
        · rw [if_neg b2] at e
          have := hi p b (by omega) hb e; omega
    · rw [if_neg a1] at e
      by_cases a2 : a = p
      · rw [if_pos a2] at e
        by_cases b1 : b = p + 1
        · rw [if_pos b1] at e
          have := hi (p + 1) p (by omega) (by omega) e; omega
        · rw [if_neg b1] at e
          by_cases b2 : b = p
          · omega
          · rw [if_neg b2] at e
            have := hi (p + 1) b (by omega) hb e; omega
      · rw [if_neg a2] at e
        by_cases b1 : b = p + 1
        · rw [if_pos b1] at e
          have := hi a p ha (by omega) e; omega
        · rw [if_neg b1] at e
          by_cases b2 : b = p
          · rw [if_pos b2] at e
            have := hi a (p + 1) ha (by omega) e; omega
          · rw [if_neg b2] at e
            exact hi a b ha hb e
  · rw [psw_at, if_neg (by omega), if_neg (by omega)]
    exact h.2.2.1 q hq hq7
  · obtain ⟨q, hq, e⟩ := h.2.2.2 b hb
    by_cases c1 : q = p
    · refine ⟨p + 1, by omega, ?_⟩
      rw [psw_at, if_pos rfl, ← c1]; exact e
    · by_cases c2 : q = p + 1
      · refine ⟨p, by omega, ?_⟩
        rw [psw_at, if_neg (by omega), if_pos rfl, ← c2]; exact e
      · exact ⟨q, hq, by rw [psw_at, if_neg c2, if_neg c1]; exact e⟩
theorem pch_PMf {n t : Nat} (hn : n ≤ 7) : ∀ (k p : Nat) (f : Nat → Nat), PMf n f → PMf n (pch t n k p f)
  | 0, _, _, h => h
  | k + 1, p, f, h => by
    unfold pch
    split
    · rename_i hp
      split
      · exact pch_PMf hn k (p + 2) _ (psw_PMf h hn hp)
      · exact pch_PMf hn k (p + 1) f h
    · exact h
theorem pb_3 {t p : Nat} (ht : t < 128) (hp : p < 7) : (en_shr (Int32.ofNat t) (Int32.ofNat p) &&& 3 = 0) = (t / 2 ^ p % 4 = 0) := by
  rw [pb_shr (by omega) (by omega), show (3 : Int32) = Int32.ofNat 3 from rfl, pn_and, show (0 : Int32) = Int32.ofNat 0 from rfl]
  have h4 : t / 2 ^ p &&& 3 = t / 2 ^ p % 4 := Nat.and_two_pow_sub_one_eq_mod _ 2
  rw [h4, pn_eq (by omega) (by omega)]
theorem pn_a1 (k : Nat) : Int32.ofNat k + (1 : Int32) = Int32.ofNat (k + 1) := pn_add k 1
theorem pn_a2 (k : Nat) : Int32.ofNat k + (2 : Int32) = Int32.ofNat (k + 2) := pn_add k 2
/-- the class's change of the order -/
theorem q_next_loop {n t : Nat} (hn : n ≤ 7) (ht : t < 128) (x1 x3 : Int32) (σ : en_M) : ∀ (k p m : Nat) (f : Nat → Nat) (u7 u8 : en_V), n ≤ p + k + 1 → p ≤ 8 → k < m → PMf n f → en_oi (T_X0_next_18 m x1 (Int32.ofNat n) x3 (Int32.ofNat t) (Int32.ofNat (pkN f)) (Int32.ofNat p) u7 u8 σ) = some (Int32.ofNat (pkN (pch t n k p f)), σ)
  | 0, p, m, f, u7, u8, h1, h8, h2, hp => by
    obtain ⟨m, rfl⟩ : ∃ j, m = j + 1 := ⟨m - 1, by omega⟩
    rw [t_X0_next_18, pn_a1, if_neg (by rw [pn_lt (by omega) (by omega)]; omega)]
    rfl
  | k + 1, p, m, f, u7, u8, h1, h8, h2, hp => by
    obtain ⟨m, rfl⟩ : ∃ j, m = j + 1 := ⟨m - 1, by omega⟩
    rw [t_X0_next_18, pn_a1]
    by_cases hp1 : p + 1 < n
    · rw [if_pos ((pn_lt (by omega) (by omega)).mpr hp1)]
      unfold pch
      rw [if_pos hp1]
      by_cases h4 : t / 2 ^ p % 4 = 0
      · rw [if_pos ((pb_3 ht (by omega)).mpr h4), if_pos h4]
        have hb0 := hp.lt8 p (by omega)
        have hb1 := hp.lt8 (p + 1) (by omega)
        simp only [q_bellAt, q_withBell, Option.bind_some, pn_a1, pn_a2, pba hp.lt8 (show p < 7 by omega), pba hp.lt8 (show p + 1 < 7 by omega), pwb hp.lt8 (show p < 7 by omega) hb1, pwb (pup_lt hp.lt8 hb1) (show p + 1 < 7 by omega) hb0]
        exact q_next_loop hn ht x1 x3 σ k (p + 2) m (psw f p) _ _ (by omega) (by omega) (by omega) (psw_PMf hp hn hp1)
      · rw [if_neg (by rw [pb_3 ht (by omega)]; exact h4), if_neg h4]
        exact q_next_loop hn ht x1 x3 σ k (p + 1) m f _ _ (by omega) (by omega) (by omega) hp
    · rw [if_neg (by rw [pn_lt (by omega) (by omega)]; exact hp1)]
      unfold pch
      rw [if_neg hp1]
      rfl
theorem q_floorMod {a b : Nat} (ha : a < 2147483648) (hb : b < 2147483648) (h0 : 0 < b) (σ : en_M) : O_J9_floorMod_7cf53 [.inl (Int32.ofNat a), .inl (Int32.ofNat b)] σ = some (Int32.ofNat (a % b), σ) := by
  rw [o_J9_floorMod_7cf53, t_J9_floorMod_7cf53_0, if_neg (by rw [show (0 : Int32) = Int32.ofNat 0 from rfl, pn_eq hb (by omega)]; omega), pn_xor, if_neg (Int32.not_lt.mpr (pn_0le (Nat.xor_lt_two_pow (n := 31) ha hb))), pn_mod ha hb]
  rfl
theorem q_changeAt {N m : Nat} {σ : en_M} (hN : N < 2147483648) (h1 : 1 ≤ m) (hm : m ≤ 20) (h : σ 7 2 = Int32.ofNat m) : O_X0_changeAt [.inr (7, 0, 0, 0), .inl (Int32.ofNat N)] σ = some (Int32.ofNat (N % m), σ) := by
  rw [o_X0_changeAt, t_X0_changeAt_0, h, if_neg (by rw [show (1 : Int32) = Int32.ofNat 1 from rfl, pn_lt (by omega) (by omega)]; omega), q_floorMod hN (by omega) (by omega), Option.bind_some]
  rfl
theorem q_next {n m N : Nat} {ch f : Nat → Nat} {σ : en_M} (hp : PMf n f) (hn : n ≤ 7) (hN : N < 2147483648) (h1 : 1 ≤ m) (hm : m ≤ 20) (h : σ 7 2 = Int32.ofNat m) (hc : ∀ j, j < m → σ 8 j = Int32.ofNat (ch j) ∧ ch j < 128) : O_X0_next [.inr (7, 0, 0, 0), .inl (Int32.ofNat (pkN f)), .inl (Int32.ofNat n), .inl (Int32.ofNat N)] σ = some (Int32.ofNat (pkN (pch (ch (N % m)) n 7 0 f)), σ) := by
  have hj := Nat.mod_lt N (show m > 0 by omega)
  rw [o_X0_next, t_X0_next_0, q_changeAt hN h1 hm h, Option.bind_some]
  dsimp only
  rw [pn_ix (by omega) (by omega), Option.bind_some, (hc _ hj).1]
  exact q_next_loop hn (hc _ hj).2 _ _ σ 7 0 en_FU f _ _ (by omega) (by omega) (pl_FU (by omega)) hp
/-! rows of the memory, set whole -/
def pst (σ : en_M) (k : Nat) (row : Nat → Int32) : en_M := fun a => if a = k then row else σ a
def pru (row : Nat → Int32) (j : Nat) (v : Int32) : Nat → Int32 := fun i => if i = j then v else row i
theorem pst_same (σ : en_M) (k : Nat) (row : Nat → Int32) : pst σ k row k = row := if_pos rfl
theorem pst_ne {σ : en_M} {k a : Nat} {row : Nat → Int32} (h : a ≠ k) : pst σ k row a = σ a := if_neg h
theorem pst_self (σ : en_M) (k : Nat) : pst σ k (σ k) = σ := by funext a; unfold pst; split <;> simp_all
theorem pst_pst (σ : en_M) (k : Nat) (r r' : Nat → Int32) : pst (pst σ k r) k r' = pst σ k r' := by funext a; unfold pst; split <;> rfl
theorem pup_pst (σ : en_M) (k j : Nat) (v : Int32) : en_up σ k j v = pst σ k (pru (σ k) j v) := by
  funext a i; unfold en_up pst pru
  by_cases h : a = k
  · subst h; rw [if_pos rfl, if_pos rfl]
  · rw [if_neg h, if_neg h]
theorem pst_up (σ : en_M) (k j : Nat) (row : Nat → Int32) (v : Int32) : en_up (pst σ k row) k j v = pst σ k (pru row j v) := by rw [pup_pst, pst_pst, pst_same]
theorem pru_same (row : Nat → Int32) (j : Nat) (v : Int32) : pru row j v j = v := if_pos rfl
theorem pru_ne {row : Nat → Int32} {j i : Nat} {v : Int32} (h : i ≠ j) : pru row j v i = row i := if_neg h
theorem pb_4 {t p : Nat} (ht : t < 128) (hp : p < 7) : (t / 2 ^ p % 4 = 0) = (¬ t.testBit p = true ∧ ¬ t.testBit (p + 1) = true) :=
  (by decide +kernel : ∀ t < 128, ∀ p < 7, (t / 2 ^ p % 4 = 0) = (¬ t.testBit p = true ∧ ¬ t.testBit (p + 1) = true)) t ht p hp
theorem r_change_loop {n t k0 : Nat} (hn : n ≤ 7) (ht : t < 128) (hk0 : k0 ≠ 185) (σ : en_M) (h185 : σ 185 1 = Int32.ofNat n) : ∀ (k p m : Nat) (f : Nat → Nat) (row : Nat → Int32) (u : en_V), n ≤ p + k + 1 → p ≤ 8 → k < m → FRow n row 0 f →
    ∃ row', en_ov (T_X12_changeOrder_17 m k0 (Int32.ofNat t) (Int32.ofNat p) u (pst σ k0 row)) = some (pst σ k0 row') ∧ FRow n row' 0 (pch t n k p f) ∧ ∀ i, n ≤ i → row' i = row i
  | 0, p, m, f, row, u, h1, h8, h2, hf => by
    obtain ⟨m, rfl⟩ : ∃ j, m = j + 1 := ⟨m - 1, by omega⟩
    rw [t_X12_changeOrder_17, pn_a1, pst_ne (by omega), h185, if_neg (by rw [pn_lt (by omega) (by omega)]; omega)]
    exact ⟨row, rfl, hf, fun _ _ => rfl⟩
  | k + 1, p, m, f, row, u, h1, h8, h2, hf => by
    obtain ⟨m, rfl⟩ : ∃ j, m = j + 1 := ⟨m - 1, by omega⟩
    rw [t_X12_changeOrder_17, pn_a1, pst_ne (by omega), h185]
    by_cases hp1 : p + 1 < n
    · rw [if_pos ((pn_lt (by omega) (by omega)).mpr hp1)]
      unfold pch
      rw [if_pos hp1, q_has, Option.bind_some]
      dsimp only
      have h4 : (t / 2 ^ p % 4 = 0) ↔ (¬ t.testBit p = true ∧ ¬ t.testBit (p + 1) = true) := by rw [pb_4 ht (by omega)]
      simp only [pb2_0, pb_bit1 (show t < 2147483648 by omega) (show p < 32 by omega)]
      by_cases b1 : t.testBit p = true
      · rw [if_neg (fun q => q b1), if_neg (fun q => (h4.mp q).1 b1)]
        exact r_change_loop hn ht hk0 σ h185 k (p + 1) m f row _ (by omega) (by omega) (by omega) hf
      · rw [if_pos b1, q_has, Option.bind_some]
        dsimp only
        simp only [pb2_0, pb_bit1 (show t < 2147483648 by omega) (show p + 1 < 32 by omega)]
        by_cases b2 : t.testBit (p + 1) = true
        · rw [if_neg (fun q => q b2), if_neg (fun q => (h4.mp q).2 b2)]
          exact r_change_loop hn ht hk0 σ h185 k (p + 1) m f row _ (by omega) (by omega) (by omega) hf
        · rw [if_pos b2, if_pos (h4.mpr ⟨b1, b2⟩), pn_ix (show p < 53 by omega) (by omega), pn_ix (show p + 1 < 53 by omega) (by omega)]
          simp only [Option.bind_some, pst_same, pst_up]
          obtain ⟨row', e1, e2, e3⟩ := r_change_loop hn ht hk0 σ h185 k (p + 2) m (psw f p) (pru (pru row p (row (p + 1))) (p + 1) (row p)) (.inl (row p)) (by omega) (by omega) (by omega) (fun q hq => by
            have a0 := hf q hq
            have a1 := hf p (by omega)
            have a2 := hf (p + 1) (by omega)
            rw [Nat.zero_add] at a0 a1 a2 ⊢
            rw [psw_at]
            unfold pru
            by_cases c1 : q = p + 1
            · rw [if_pos c1, if_pos c1, a1]
            · rw [if_neg c1, if_neg c1]
              by_cases c2 : q = p
              · rw [if_pos c2, if_pos c2, a2]
              · rw [if_neg c2, if_neg c2, a0])
          refine ⟨row', ?_, e2, fun i hi => ?_⟩
          · rw [← e1, pn_a1]
          · rw [e3 i hi, pru_ne (by omega), pru_ne (by omega)]
    · rw [if_neg (by rw [pn_lt (by omega) (by omega)]; exact hp1)]
      unfold pch
      rw [if_neg hp1]
      exact ⟨row, rfl, hf, fun _ _ => rfl⟩
theorem r_changeOrder {n m N k0 : Nat} {ch f : Nat → Nat} {σ : en_M} (hn : n ≤ 7) (hN : N < 2147483648) (h1 : 1 ≤ m) (hm : m ≤ 20) (hk0 : k0 ≠ 185) (h185 : σ 185 1 = Int32.ofNat n) (h4 : σ 185 4 = Int32.ofNat m) (hc : ∀ j, j < m → σ 188 j = Int32.ofNat (ch j) ∧ ch j < 128) (h28 : σ k0 28 = Int32.ofNat N) (hf : FRow n (σ k0) 0 f) :
    ∃ row', O_X12_changeOrder [.inr (185, 12, 0, 0), .inr (k0, 20, 53, 0)] σ = some (pst σ k0 row') ∧ FRow n row' 0 (pch (ch (N % m)) n 7 0 f) ∧ ∀ i, n ≤ i → row' i = σ k0 i := by
  have hj := Nat.mod_lt N (show m > 0 by omega)
  rw [o_X12_changeOrder, t_X12_changeOrder_0, show en_ix 28 53 = some 28 from pn_ix (k := 28) (by omega) (by omega), Option.bind_some, h4, h28, if_neg (by rw [show (0 : Int32) = Int32.ofNat 0 from rfl, pn_eq (by omega) (by omega)]; omega), pn_mod hN (by omega), pn_ix (by omega) (by omega), Option.bind_some, (hc _ hj).1]
  have := r_change_loop hn (hc _ hj).2 hk0 σ h185 7 0 en_FU f (σ k0) en_un (by omega) (by omega) (pl_FU (by omega)) hf
  rw [pst_self] at this
  exact this
