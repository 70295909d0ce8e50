/-! night: the acts told -/
def ltN (L : Nat) (tx : Nat → Nat) : Nat → Nat → Nat → Nat × Nat × Bool
  | 0, p, s => (p, s, true)
  | K + 1, p, s => if inS L 60 tx p 97 7 then (if s.testBit (tx p - 97) = true then (p, s, false) else ltN L tx K (p + 1) (s ||| 2 ^ (tx p - 97))) else (p, s, true)
theorem ltN_le (L : Nat) (tx : Nat → Nat) : ∀ K p s, p ≤ (ltN L tx K p s).1 ∧ (p ≤ 60 → (ltN L tx K p s).1 ≤ 60) ∧ (s < 128 → (ltN L tx K p s).2.1 < 128)
  | 0, p, s => ⟨Nat.le_refl _, id, id⟩
  | K + 1, p, s => by
    unfold ltN
    split
    · rename_i c
      split
      · exact ⟨Nat.le_refl _, id, id⟩
      · have h := ltN_le L tx K (p + 1) (s ||| 2 ^ (tx p - 97))
        have c1 := c.2.1
        have c2 := c.2.2
        exact ⟨by omega, fun _ => h.2.1 (by omega), fun hs => h.2.2 (or_128 hs (by omega))⟩
    · exact ⟨Nat.le_refl _, id, id⟩
/-- an act: whether it stands, where it ends (or can't stand), its kind, its value -/
def actN (L : Nat) (tx : Nat → Nat) (p : Nat) : Bool × Nat × Nat × Nat :=
  if hr L 60 tx p = 45 then (true, p + 1, 0, 0)
  else if hr L 60 tx p = 114 then (if inS L 60 tx (p + 1) 48 10 then (if inS L 60 tx (p + 2) 48 10 then (true, p + 3, 1, (tx (p + 1) - 48) * 10 + (tx (p + 2) - 48)) else (true, p + 2, 1, tx (p + 1) - 48)) else (false, p + 1, 0, 0))
  else if hr L 60 tx p = 33 then (if inS L 60 tx (p + 1) 97 7 then (true, p + 2, 2, tx (p + 1) - 97) else (false, p + 1, 0, 0))
  else ((ltN L tx 60 p 0).2.2 && decide ((ltN L tx 60 p 0).1 ≠ p), (ltN L tx 60 p 0).1, 0, (ltN L tx 60 p 0).2.1)
theorem actN_le (L : Nat) (tx : Nat → Nat) (p : Nat) (hp : p ≤ 60) : p ≤ (actN L tx p).2.1 ∧ (actN L tx p).2.1 ≤ 60 ∧ (actN L tx p).2.2.1 ≤ 2 ∧ (actN L tx p).2.2.2 < 128 := by
  have h := ltN_le L tx 60 p 0
  unfold actN
  split
  · rename_i c
    have := hr_lt (u := 45) (by omega) c
    exact ⟨by show p ≤ p + 1; omega, by show p + 1 ≤ 60; omega, by show 0 ≤ 2; omega, by show 0 < 128; omega⟩
  · split
    · rename_i c
      have := hr_lt (u := 114) (by omega) c
      split
      · rename_i c2
        split
        · rename_i c3
          obtain ⟨a1, a2, a3, a4⟩ := c2
          obtain ⟨b1, b2, b3, b4⟩ := c3
          exact ⟨by show p ≤ p + 3; omega, by show p + 3 ≤ 60; omega, by show 1 ≤ 2; omega, by show (tx (p + 1) - 48) * 10 + (tx (p + 2) - 48) < 128; omega⟩
        · obtain ⟨a1, a2, a3, a4⟩ := c2
          exact ⟨by show p ≤ p + 2; omega, by show p + 2 ≤ 60; omega, by show 1 ≤ 2; omega, by show tx (p + 1) - 48 < 128; omega⟩
      · exact ⟨by show p ≤ p + 1; omega, by show p + 1 ≤ 60; omega, by show 0 ≤ 2; omega, by show 0 < 128; omega⟩
    · split
      · rename_i c
        have := hr_lt (u := 33) (by omega) c
        split
        · rename_i c2
          obtain ⟨a1, a2, a3, a4⟩ := c2
          exact ⟨by show p ≤ p + 2; omega, by show p + 2 ≤ 60; omega, Nat.le_refl 2, by show tx (p + 1) - 97 < 128; omega⟩
        · exact ⟨by show p ≤ p + 1; omega, by show p + 1 ≤ 60; omega, by show 0 ≤ 2; omega, by show 0 < 128; omega⟩
      · exact ⟨h.1, h.2.1 hp, by show 0 ≤ 2; omega, h.2.2 (by omega)⟩
/-- 0 and where it can't stand, or how many acts -/
def ntR (L : Nat) (tx : Nat → Nat) : Nat → Nat → Nat → Nat × Nat
  | 0, _, p => (0, p)
  | K + 1, k, p => if (actN L tx p).1 = false then (0, (actN L tx p).2.1) else if L ≤ (actN L tx p).2.1 then (k + 1, 0) else if hr L 60 tx (actN L tx p).2.1 = 59 then ntR L tx K (k + 1) ((actN L tx p).2.1 + 1) else (0, (actN L tx p).2.1)
def ntP (L : Nat) (tx : Nat → Nat) : Nat → Nat
  | 0 => 0
  | k + 1 => (actN L tx (ntP L tx k)).2.1 + 1
def ntK (L : Nat) (tx : Nat → Nat) (k : Nat) : Nat := (actN L tx (ntP L tx k)).2.2.1
def ntV (L : Nat) (tx : Nat → Nat) (k : Nat) : Nat := (actN L tx (ntP L tx k)).2.2.2
theorem ntR_le (L : Nat) (tx : Nat → Nat) : ∀ K k p, p ≤ 60 → (ntR L tx K k p).2 ≤ 60 ∧ (ntR L tx K k p).1 ≤ k + K
  | 0, k, p, h => ⟨h, Nat.zero_le _⟩
  | K + 1, k, p, h => by
    obtain ⟨h1, h2, -, -⟩ := actN_le L tx p h
    unfold ntR
    split
    · exact ⟨h2, Nat.zero_le _⟩
    · split
      · exact ⟨Nat.zero_le _, by show k + 1 ≤ _; omega⟩
      · split
        · rename_i c
          have := hr_lt (u := 59) (by omega) c
          have := ntR_le L tx K (k + 1) ((actN L tx p).2.1 + 1) (by omega)
          exact ⟨this.1, by omega⟩
        · exact ⟨h2, Nat.zero_le _⟩
theorem q_write {σ : en_M} {k : Nat} (h : σ 100 2 = Int32.ofNat k) (hk : k < 30) (a b : Int32) : O_X2_write [.inr (100, 2, 0, 0), .inl a, .inl b] σ = some (en_up (en_up (en_up σ 101 k a) 102 k b) 100 2 (Int32.ofNat (k + 1))) := by
  rw [o_X2_write, t_X2_write_0, h, if_pos (show Int32.ofNat k < (30 : Int32) from (pn_lt (b := 30) (by omega) (by omega)).mpr hk), pn_ix hk (by omega), Option.bind_some, Option.bind_some, pn_a1]; rfl
theorem q_isLetter (x : Int32) (σ : en_M) : O_X2_isLetter [.inl x] σ = some (pb2 (¬ x < 0 ∧ x < 7), σ) := by
  rw [o_X2_isLetter, t_X2_isLetter_0, if_pos (show (1 : Int32) = 0 ∨ (1 : Int32) = 1 from Or.inr rfl), if_pos (show (0 : Int32) = 0 ∨ (0 : Int32) = 1 from Or.inl rfl)]
  unfold pb2
  by_cases c1 : x < 0
  · rw [if_pos c1, if_neg (fun q => q.1 c1)]; rfl
  · rw [if_neg c1]
    by_cases c2 : x < 7
    · rw [if_pos c2, if_pos ⟨c1, c2⟩]; rfl
    · rw [if_neg c2, if_neg (fun q => c2 q.2)]; rfl
theorem s97_l {u : Nat} (hu : u < 256) : (¬ Int32.ofNat u - 97 < 0 ∧ Int32.ofNat u - 97 < 7) = (97 ≤ u ∧ u < 97 + 7) := (by decide +kernel : ∀ u < 256, (¬ Int32.ofNat u - 97 < 0 ∧ Int32.ofNat u - 97 < 7) = (97 ≤ u ∧ u < 97 + 7)) u hu
theorem s48_d {u : Nat} (hu : u < 256) : (¬ Int32.ofNat u - 48 < 0 ∧ ¬ (9 : Int32) < Int32.ofNat u - 48) = (48 ≤ u ∧ u < 48 + 10) := (by decide +kernel : ∀ u < 256, (¬ Int32.ofNat u - 48 < 0 ∧ ¬ (9 : Int32) < Int32.ofNat u - 48) = (48 ≤ u ∧ u < 48 + 10)) u hu
theorem sgn_l {L : Nat} {tx : Nat → Nat} {p : Nat} (hb : ∀ j, tx j < 256) : (¬ sgn L 60 tx p - 97 < 0 ∧ sgn L 60 tx p - 97 < 7) = inS L 60 tx p 97 7 := by
  unfold sgn inS
  by_cases c1 : p < L
  · by_cases c2 : p < 60
    · rw [if_pos c1, if_pos c2, s97_l (hb p)]
      exact propext ⟨fun q => ⟨c1, c2, q⟩, fun q => q.2.2⟩
    · rw [if_pos c1, if_neg c2]
      exact propext ⟨fun q => absurd q (by decide), fun q => absurd q.2.1 c2⟩
  · rw [if_neg c1]
    exact propext ⟨fun q => absurd q (by decide), fun q => absurd q.1 c1⟩
theorem sgn_d {L : Nat} {tx : Nat → Nat} {p : Nat} (hb : ∀ j, tx j < 256) : (¬ sgn L 60 tx p - 48 < 0 ∧ ¬ (9 : Int32) < sgn L 60 tx p - 48) = inS L 60 tx p 48 10 := by
  unfold sgn inS
  by_cases c1 : p < L
  · by_cases c2 : p < 60
    · rw [if_pos c1, if_pos c2, s48_d (hb p)]
      exact propext ⟨fun q => ⟨c1, c2, q⟩, fun q => q.2.2⟩
    · rw [if_pos c1, if_neg c2]
      exact propext ⟨fun q => absurd q (by decide), fun q => absurd q.2.1 c2⟩
  · rw [if_neg c1]
    exact propext ⟨fun q => absurd q (by decide), fun q => absurd q.1 c1⟩
theorem sgn_sub {L a : Nat} {tx : Nat → Nat} {p m : Nat} (h : inS L 60 tx p a m) : sgn L 60 tx p - Int32.ofNat a = Int32.ofNat (tx p - a) := by
  unfold sgn
  rw [if_pos h.1, if_pos h.2.1]
  exact pn_sub h.2.2.1
/-- an act read, on the class's side -/
def AR (σ σ' : en_M) (k kd v : Nat) : Prop := σ' 101 k = Int32.ofNat kd ∧ σ' 102 k = Int32.ofNat v ∧ σ' 100 2 = Int32.ofNat (k + 1) ∧ (∀ j, j ≠ k → σ' 101 j = σ 101 j ∧ σ' 102 j = σ 102 j) ∧ ∀ c, c < 100 ∨ 102 < c → σ' c = σ c
theorem AR.new (σ : en_M) (k kd v : Nat) : AR σ (en_up (en_up (en_up σ 101 k (Int32.ofNat kd)) 102 k (Int32.ofNat v)) 100 2 (Int32.ofNat (k + 1))) k kd v := by
  refine ⟨?_, ?_, ?_, fun j hj => ⟨?_, ?_⟩, fun c hc => ?_⟩
  · rw [pu_cell (by omega), pu_cell (by omega), pu_same]
  · rw [pu_cell (by omega), pu_same]
  · rw [pu_same]
  · rw [pu_cell (by omega), pu_cell (by omega), pu_slot hj]
  · rw [pu_cell (by omega), pu_slot hj, pu_cell (by omega)]
  · rw [pu_row (by omega), pu_row (by omega), pu_row (by omega)]
def AFr (σ σ' : en_M) : Prop := ∀ c, c < 100 ∨ 102 < c → σ' c = σ c
theorem q_readAct {L p k : Nat} {tx : Nat → Nat} {σ : en_M} (hT : CT σ L tx) (hL : L ≤ 80) (hb : ∀ j, tx j < 256) (hk : k < 30) (hp : p ≤ 60) (h2 : σ 100 2 = Int32.ofNat k) :
    ∃ σ', O_X2_readAct [.inr (100, 2, 0, 0), .inr (1, 8, 0, 0), .inl (Int32.ofNat p)] σ = some (if (actN L tx p).1 = true then Int32.ofNat (actN L tx p).2.1 else -1 - Int32.ofNat (actN L tx p).2.1, σ') ∧ AFr σ σ' ∧ ((actN L tx p).1 = true → AR σ σ' k (actN L tx p).2.2.1 (actN L tx p).2.2.2) := by
  have hat : ∀ i, i < 1000 → O_X8_at [.inr (1, 8, 0, 0), .inl (Int32.ofNat i), .inl (60 : Int32)] σ = some (sgn L 60 tx i, σ) := fun i hi => q_at (mx := 60) hT hL hi (by omega)
  have hFU := en_FU_ge
  rw [o_X2_readAct, t_X2_readAct_0, hat p (by omega), Option.bind_some]
  dsimp only
  rw [pi_if (show (sgn L 60 tx p = (45 : Int32)) = (hr L 60 tx p = (45 : Int32)) from sgn_hr (c := 45) (by omega)), pi_if (show (sgn L 60 tx p = (114 : Int32)) = (hr L 60 tx p = (114 : Int32)) from sgn_hr (c := 114) (by omega)), pi_if (show (sgn L 60 tx p = (33 : Int32)) = (hr L 60 tx p = (33 : Int32)) from sgn_hr (c := 33) (by omega))]
  by_cases c1 : hr L 60 tx p = 45
  · have ea : actN L tx p = (true, p + 1, 0, 0) := if_pos c1
    have hw : O_X2_write [.inr (100, 2, 0, 0), .inl (0 : Int32), .inl (0 : Int32)] σ = _ := q_write h2 hk (Int32.ofNat 0) (Int32.ofNat 0)
    have hr := AR.new σ k 0 0
    rw [if_pos c1, ea, hw, Option.bind_some, pn_a1]
    exact ⟨_, rfl, hr.2.2.2.2, fun _ => hr⟩
  rw [if_neg c1]
  by_cases c2 : hr L 60 tx p = 114
  · have ea : actN L tx p = (if inS L 60 tx (p + 1) 48 10 then (if inS L 60 tx (p + 2) 48 10 then (true, p + 3, 1, (tx (p + 1) - 48) * 10 + (tx (p + 2) - 48)) else (true, p + 2, 1, tx (p + 1) - 48)) else (false, p + 1, 0, 0)) := by
      unfold actN
      rw [if_neg c1, if_pos c2]
    have stp : ∀ (f i q : Nat) (x3 : Int32) (u : en_V), i < 2 → q < 1000 → T_X2_readRounds_8 (f + 1) (Int32.ofNat (p + 1)) x3 (Int32.ofNat q) (Int32.ofNat i) u σ = if inS L 60 tx q 48 10 then T_X2_readRounds_8 f (Int32.ofNat (p + 1)) (x3 * 10 + Int32.ofNat (tx q - 48)) (Int32.ofNat (q + 1)) (Int32.ofNat (i + 1)) (.inl (sgn L 60 tx q - 48)) σ else T_X2_readRounds_8 f (Int32.ofNat (p + 1)) x3 (Int32.ofNat q) (Int32.ofNat (i + 1)) (.inl (sgn L 60 tx q - 48)) σ := by
      intro f i q x3 u hi hq
      have hd := sgn_d (L := L) (p := q) hb
      rw [t_X2_readRounds_8, if_pos (show Int32.ofNat i < (2 : Int32) from (pn_lt (b := 2) (by omega) (by omega)).mpr hi), hat q hq, Option.bind_some, pn_a1, pn_a1]
      dsimp only
      by_cases c : inS L 60 tx q 48 10
      · have hd2 := hd.mpr c
        rw [if_neg hd2.1, if_neg hd2.2, if_pos c, show sgn L 60 tx q - (48 : Int32) = Int32.ofNat (tx q - 48) from sgn_sub (a := 48) c]
      · rw [if_neg c]
        by_cases c0 : sgn L 60 tx q - 48 < 0
        · rw [if_pos c0]
        · rw [if_neg c0, if_pos (Classical.byContradiction fun z => c (hd.mp ⟨c0, z⟩))]
    have fin : ∀ (f q v : Nat) (u : en_V), q < 1000 → T_X2_readRounds_8 (f + 1) (Int32.ofNat (p + 1)) (Int32.ofNat v) (Int32.ofNat q) 2 u σ = if p + 1 < q then en_ri (Int32.ofNat q) (en_up (en_up (en_up σ 101 k (Int32.ofNat 1)) 102 k (Int32.ofNat v)) 100 2 (Int32.ofNat (k + 1))) else en_ri (-1 - Int32.ofNat (p + 1)) (en_up (en_up (en_up σ 101 k (Int32.ofNat 1)) 102 k (Int32.ofNat v)) 100 2 (Int32.ofNat (k + 1))) := by
      intro f q v u hq
      have hw : O_X2_write [.inr (100, 2, 0, 0), .inl (1 : Int32), .inl (Int32.ofNat v)] σ = _ := q_write h2 hk (Int32.ofNat 1) (Int32.ofNat v)
      rw [t_X2_readRounds_8, if_neg (show ¬ (2 : Int32) < 2 by decide), hw, Option.bind_some, pi_if (pn_lt (show p + 1 < 2147483648 by omega) (show q < 2147483648 by omega)), q_cannotStand, Option.bind_some]
    obtain ⟨f, hf⟩ : ∃ j, en_FU = j + 1 + 1 + 1 := ⟨en_FU - 3, by omega⟩
    have h0 := stp (f + 1 + 1) 0 (p + 1) (Int32.ofNat 0) en_un (by omega) (by omega)
    have hst : O_X2_readRounds [.inr (100, 2, 0, 0), .inr (1, 8, 0, 0), .inl (Int32.ofNat p + 1)] σ = en_oi (T_X2_readRounds_8 (f + 1 + 1 + 1) (Int32.ofNat (p + 1)) (Int32.ofNat 0) (Int32.ofNat (p + 1)) (Int32.ofNat 0) en_un σ) := by
      rw [pn_a1, o_X2_readRounds, t_X2_readRounds_0, hf]; rfl
    rw [if_pos c2, hst, h0, ea]
    by_cases c3 : inS L 60 tx (p + 1) 48 10
    · rw [if_pos c3, if_pos c3, stp (f + 1) 1 (p + 1 + 1) _ _ (by omega) (by omega)]
      by_cases c4 : inS L 60 tx (p + 2) 48 10
      · rw [if_pos c4, if_pos (show inS L 60 tx (p + 1 + 1) 48 10 from c4), show Int32.ofNat 0 * 10 + Int32.ofNat (tx (p + 1) - 48) = Int32.ofNat (tx (p + 1) - 48) by rw [show (10 : Int32) = Int32.ofNat 10 from rfl, pn_mul, pn_add, Nat.zero_mul, Nat.zero_add], show (10 : Int32) = Int32.ofNat 10 from rfl, pn_mul, pn_add]
        have hfin := fin f (p + 1 + 1 + 1) ((tx (p + 1) - 48) * 10 + (tx (p + 1 + 1) - 48)) (.inl (sgn L 60 tx (p + 1 + 1) - 48)) (by omega)
        have hfin2 : T_X2_readRounds_8 (f + 1) (Int32.ofNat (p + 1)) (Int32.ofNat ((tx (p + 1) - 48) * 10 + (tx (p + 1 + 1) - 48))) (Int32.ofNat (p + 1 + 1 + 1)) (Int32.ofNat (1 + 1)) (.inl (sgn L 60 tx (p + 1 + 1) - 48)) σ = _ := hfin
        have hr := AR.new σ k 1 ((tx (p + 1) - 48) * 10 + (tx (p + 1 + 1) - 48))
        rw [hfin2, if_pos (by omega)]
        exact ⟨_, rfl, hr.2.2.2.2, fun _ => hr⟩
      · rw [if_neg c4, if_neg (show ¬ inS L 60 tx (p + 1 + 1) 48 10 from c4), show Int32.ofNat 0 * 10 + Int32.ofNat (tx (p + 1) - 48) = Int32.ofNat (tx (p + 1) - 48) by rw [show (10 : Int32) = Int32.ofNat 10 from rfl, pn_mul, pn_add, Nat.zero_mul, Nat.zero_add]]
        have hfin := fin f (p + 1 + 1) (tx (p + 1) - 48) (.inl (sgn L 60 tx (p + 1 + 1) - 48)) (by omega)
        have hfin2 : T_X2_readRounds_8 (f + 1) (Int32.ofNat (p + 1)) (Int32.ofNat (tx (p + 1) - 48)) (Int32.ofNat (p + 1 + 1)) (Int32.ofNat (1 + 1)) (.inl (sgn L 60 tx (p + 1 + 1) - 48)) σ = _ := hfin
        have hr := AR.new σ k 1 (tx (p + 1) - 48)
        rw [hfin2, if_pos (by omega)]
        exact ⟨_, rfl, hr.2.2.2.2, fun _ => hr⟩
    · rw [if_neg c3, if_neg c3, stp (f + 1) 1 (p + 1) _ _ (by omega) (by omega), if_neg c3]
      have hfin := fin f (p + 1) 0 (.inl (sgn L 60 tx (p + 1) - 48)) (by omega)
      have hfin2 : T_X2_readRounds_8 (f + 1) (Int32.ofNat (p + 1)) (Int32.ofNat 0) (Int32.ofNat (p + 1)) (Int32.ofNat (1 + 1)) (.inl (sgn L 60 tx (p + 1) - 48)) σ = _ := hfin
      rw [hfin2, if_neg (by omega)]
      exact ⟨_, rfl, (AR.new σ k 1 0).2.2.2.2, fun q => absurd (show false = true from q) (by decide)⟩
  rw [if_neg c2]
  by_cases c3 : hr L 60 tx p = 33
  · have ea : actN L tx p = (if inS L 60 tx (p + 1) 97 7 then (true, p + 2, 2, tx (p + 1) - 97) else (false, p + 1, 0, 0)) := by
      unfold actN
      rw [if_neg c1, if_neg c2, if_pos c3]
    rw [if_pos c3, ea, pn_a1, hat (p + 1) (by omega), Option.bind_some]
    dsimp only
    rw [q_write h2 hk, Option.bind_some, q_isLetter, Option.bind_some]
    dsimp only
    rw [pi_if ((pb2_0 _).trans (congrArg Not (sgn_l (L := L) (p := p + 1) hb))), q_cannotStand, Option.bind_some]
    by_cases c4 : inS L 60 tx (p + 1) 97 7
    · have hr := AR.new σ k 2 (tx (p + 1) - 97)
      rw [if_neg (fun q => q c4), if_pos c4, show sgn L 60 tx (p + 1) - (97 : Int32) = Int32.ofNat (tx (p + 1) - 97) from sgn_sub (a := 97) c4, show Int32.ofNat p + (2 : Int32) = Int32.ofNat (p + 2) from pn_add p 2]
      exact ⟨_, rfl, hr.2.2.2.2, fun _ => hr⟩
    · rw [if_pos c4, if_neg c4]
      refine ⟨_, rfl, fun c hc => ?_, fun q => absurd (show false = true from q) (by decide)⟩
      dsimp only
      rw [pu_row (by omega), pu_row (by omega), pu_row (by omega)]
  rw [if_neg c3]
  have ea : actN L tx p = ((ltN L tx 60 p 0).2.2 && decide ((ltN L tx 60 p 0).1 ≠ p), (ltN L tx 60 p 0).1, 0, (ltN L tx 60 p 0).2.1) := by
    unfold actN
    rw [if_neg c1, if_neg c2, if_neg c3]
  rw [ea]
  dsimp only
  have main : ∀ K q s f, p ≤ q → 60 ≤ q + K → q ≤ 60 → s < 128 → K + 2 < f → ltN L tx 60 p 0 = ltN L tx K q s →
      ∃ σ', en_oi (T_X2_readMissing_18 f (Int32.ofNat p) (Int32.ofNat s) (Int32.ofNat q) (sgn L 60 tx q - 97) σ) = some (if ((ltN L tx 60 p 0).2.2 && decide ((ltN L tx 60 p 0).1 ≠ p)) = true then Int32.ofNat (ltN L tx 60 p 0).1 else -1 - Int32.ofNat (ltN L tx 60 p 0).1, σ') ∧ AFr σ σ' ∧ (((ltN L tx 60 p 0).2.2 && decide ((ltN L tx 60 p 0).1 ≠ p)) = true → AR σ σ' k 0 (ltN L tx 60 p 0).2.1) := by
    intro K
    -- nothing more is told
    have done : ∀ q s r, p ≤ q → q ≤ 60 → ltN L tx 60 p 0 = (q, s, true) → r = ((O_X2_write [.inr (100, 2, 0, 0), .inl (0 : Int32), .inl (Int32.ofNat s)] σ).bind fun r5 => if Int32.ofNat p < Int32.ofNat q then (en_ri (Int32.ofNat q) r5) else ((O_X11_cannotStand [.inl (Int32.ofNat p)] r5).bind fun r6 => en_ri r6.1 r6.2)) → ∃ σ', en_oi r = some (if ((ltN L tx 60 p 0).2.2 && decide ((ltN L tx 60 p 0).1 ≠ p)) = true then Int32.ofNat (ltN L tx 60 p 0).1 else -1 - Int32.ofNat (ltN L tx 60 p 0).1, σ') ∧ AFr σ σ' ∧ (((ltN L tx 60 p 0).2.2 && decide ((ltN L tx 60 p 0).1 ≠ p)) = true → AR σ σ' k 0 (ltN L tx 60 p 0).2.1) := by
      rintro q s r hpq hq he rfl
      have hw : O_X2_write [.inr (100, 2, 0, 0), .inl (0 : Int32), .inl (Int32.ofNat s)] σ = _ := q_write h2 hk (Int32.ofNat 0) (Int32.ofNat s)
      have hr := AR.new σ k 0 s
      rw [he, hw, Option.bind_some, pi_if (pn_lt (show p < 2147483648 by omega) (show q < 2147483648 by omega)), q_cannotStand, Option.bind_some]
      dsimp only
      rw [Bool.true_and]
      by_cases c : p < q
      · rw [if_pos c, if_pos (decide_eq_true (show q ≠ p by omega))]
        exact ⟨_, rfl, hr.2.2.2.2, fun _ => hr⟩
      · rw [if_neg c, if_neg (by rw [decide_eq_true_iff]; omega), show q = p by omega]
        exact ⟨_, rfl, hr.2.2.2.2, fun _ => hr⟩
    induction K with
    | zero =>
      intro q s f hpq hqK hq hs hf he
      obtain ⟨f, rfl⟩ : ∃ j, f = j + 1 := ⟨f - 1, by omega⟩
      refine done q s _ hpq hq he ?_
      rw [t_X2_readMissing_18, if_neg (show ¬ Int32.ofNat q < (60 : Int32) from fun z => by have := (pn_lt (b := 60) (by omega) (by omega)).mp z; omega)]
    | succ K ih =>
      intro q s f hpq hqK hq hs hf he
      obtain ⟨f, rfl⟩ : ∃ j, f = j + 1 := ⟨f - 1, by omega⟩
      conv at he => rhs; unfold ltN
      by_cases c60 : q < 60
      · rw [t_X2_readMissing_18, if_pos (show Int32.ofNat q < (60 : Int32) from (pn_lt (b := 60) (by omega) (by omega)).mpr c60), q_isLetter, Option.bind_some]
        dsimp only
        rw [pi_if ((pb2_0 _).trans (congrArg Not (sgn_l (L := L) (p := q) hb)))]
        by_cases c4 : inS L 60 tx q 97 7
        · rw [if_pos c4] at he
          have hu := c4.2.2
          rw [if_neg (fun z => z c4), show sgn L 60 tx q - (97 : Int32) = Int32.ofNat (tx q - 97) from sgn_sub (a := 97) c4, q_bit, Option.bind_some]
          dsimp only
          rw [pi_if (pb_bit1 (show s < 2147483648 by omega) (show tx q - 97 < 32 by omega))]
          by_cases c5 : s.testBit (tx q - 97) = true
          · rw [if_pos c5] at he
            rw [if_pos c5, q_cannotStand, Option.bind_some, he]
            exact ⟨σ, rfl, fun _ _ => rfl, fun z => absurd (show false = true from z) (by decide)⟩
          · rw [if_neg c5] at he
            rw [if_neg c5, pn_a1, hat (q + 1) (by omega), Option.bind_some]
            dsimp only
            rw [pb_1 (by omega), pn_or]
            exact ih (q + 1) (s ||| 2 ^ (tx q - 97)) f (by omega) (by omega) (by omega) (or_128 hs (by omega)) (by omega) he
        · rw [if_neg c4] at he
          rw [if_pos c4]
          exact done q s _ hpq hq he rfl
      · rw [if_neg (fun z => c60 z.2.1)] at he
        refine done q s _ hpq hq he ?_
        rw [t_X2_readMissing_18, if_neg (show ¬ Int32.ofNat q < (60 : Int32) from fun z => by have := (pn_lt (b := 60) (by omega) (by omega)).mp z; omega)]
  have hm := main 60 p 0 en_FU (Nat.le_refl _) (by omega) hp (by omega) (by omega) rfl
  have hst : O_X2_readMissing [.inr (100, 2, 0, 0), .inr (1, 8, 0, 0), .inl (Int32.ofNat p)] σ = en_oi (T_X2_readMissing_18 en_FU (Int32.ofNat p) (Int32.ofNat 0) (Int32.ofNat p) (sgn L 60 tx p - 97) σ) := by
    rw [o_X2_readMissing, t_X2_readMissing_0, hat p (by omega), Option.bind_some]; rfl
  obtain ⟨σ', m1, m2, m3⟩ := hm
  rw [hst, m1, Option.bind_some]
  exact ⟨σ', rfl, m2, m3⟩
theorem q_nread {L : Nat} {tx : Nat → Nat} {σ : en_M} (hT : CT σ L tx) (hL : L ≤ 80) (hL0 : 0 < L) (hb : ∀ j, tx j < 256) :
    ((ntR L tx 30 0 0).1 = 0 → ∃ σ', O_X2_read [.inr (100, 2, 0, 0), .inr (1, 8, 0, 0)] σ = some (-1 - Int32.ofNat (ntR L tx 30 0 0).2, σ') ∧ AFr σ σ') ∧
    ((ntR L tx 30 0 0).1 ≠ 0 → ∃ σ', O_X2_read [.inr (100, 2, 0, 0), .inr (1, 8, 0, 0)] σ = some (Int32.ofNat (ntR L tx 30 0 0).1, σ') ∧ σ' 100 2 = Int32.ofNat (ntR L tx 30 0 0).1 ∧ (∀ j, j < (ntR L tx 30 0 0).1 → σ' 101 j = Int32.ofNat (ntK L tx j) ∧ σ' 102 j = Int32.ofNat (ntV L tx j)) ∧ AFr σ σ') := by
  rw [o_X2_read, t_X2_read_0]
  refine pl_for1 (F := fun f k (q : Int32 × en_V × en_M) => T_X2_read_9 f q.1 (Int32.ofNat k) q.2.1 q.2.2) (P := fun k q => q.1 = Int32.ofNat (ntP L tx k) ∧ ntP L tx k ≤ 60 ∧ ntR L tx 30 0 0 = ntR L tx (30 - k) k (ntP L tx k) ∧ q.2.2 100 2 = Int32.ofNat k ∧ (∀ j, j < k → q.2.2 101 j = Int32.ofNat (ntK L tx j) ∧ q.2.2 102 j = Int32.ofNat (ntV L tx j)) ∧ AFr σ q.2.2)
    (Q := fun r => ((ntR L tx 30 0 0).1 = 0 → ∃ σ', en_oi r = some (-1 - Int32.ofNat (ntR L tx 30 0 0).2, σ') ∧ AFr σ σ') ∧
    ((ntR L tx 30 0 0).1 ≠ 0 → ∃ σ', en_oi r = some (Int32.ofNat (ntR L tx 30 0 0).1, σ') ∧ σ' 100 2 = Int32.ofNat (ntR L tx 30 0 0).1 ∧ (∀ j, j < (ntR L tx 30 0 0).1 → σ' 101 j = Int32.ofNat (ntK L tx j) ∧ σ' 102 j = Int32.ofNat (ntV L tx j)) ∧ AFr σ σ')) (N := 30) ?_ ?_ 30 0 en_FU (0, en_un, en_up σ 100 2 0) (by omega) (pl_FU (by omega)) ⟨rfl, Nat.zero_le _, rfl, (pu_same σ 100 2 0 : en_up σ 100 2 0 100 2 = 0), fun j hj => absurd hj (by omega), fun c hc => (pu_row (by omega) : en_up σ 100 2 0 c = σ c)⟩
  · rintro f k ⟨x2, u4, υ⟩ hk ⟨p1, p2, p3, p4, p5, p6⟩
    have p1 : x2 = _ := p1
    subst p1
    have p4 : υ 100 2 = _ := p4
    have p5 : ∀ j, j < k → υ 101 j = Int32.ofNat (ntK L tx j) ∧ υ 102 j = Int32.ofNat (ntV L tx j) := p5
    have p6 : AFr σ υ := p6
    rw [show 30 - k = (30 - (k + 1)) + 1 by omega] at p3
    conv at p3 => rhs; unfold ntR
    obtain ⟨hle1, hle2, -, -⟩ := actN_le L tx (ntP L tx k) p2
    have hTu : CT υ L tx := hT.fr (p6 1 (by omega)) (p6 2 (by omega))
    obtain ⟨σ1, e1, e2, e3⟩ := q_readAct hTu hL hb hk p2 p4
    have f1 : AFr σ σ1 := fun c hc => by rw [e2 c hc, p6 c hc]
    have hat : O_X8_at [.inr (1, 8, 0, 0), .inl (Int32.ofNat (actN L tx (ntP L tx k)).2.1), .inl (60 : Int32)] σ1 = some (sgn L 60 tx (actN L tx (ntP L tx k)).2.1, σ1) := q_at (mx := 60) (hT.fr (f1 1 (by omega)) (f1 2 (by omega))) hL (by omega) (by omega)
    have bad : ∀ (p' : Nat) (υ' : en_M) (r : en_R), ntR L tx 30 0 0 = (0, p') → en_oi r = some (-1 - Int32.ofNat p', υ') → AFr σ υ' → ((ntR L tx 30 0 0).1 = 0 → ∃ σ', en_oi r = some (-1 - Int32.ofNat (ntR L tx 30 0 0).2, σ') ∧ AFr σ σ') ∧
        ((ntR L tx 30 0 0).1 ≠ 0 → ∃ σ', en_oi r = some (Int32.ofNat (ntR L tx 30 0 0).1, σ') ∧ σ' 100 2 = Int32.ofNat (ntR L tx 30 0 0).1 ∧ (∀ j, j < (ntR L tx 30 0 0).1 → σ' 101 j = Int32.ofNat (ntK L tx j) ∧ σ' 102 j = Int32.ofNat (ntV L tx j)) ∧ AFr σ σ') := fun p' υ' r h1 h2 h3 => by
      rw [h1]
      exact ⟨fun _ => ⟨υ', h2, h3⟩, fun q => absurd rfl q⟩
    have hneg : ∀ s, s < 61 → (-1 : Int32) - Int32.ofNat s < 0 := by decide
    have f100 : AFr σ (en_up σ1 100 2 0) := fun c hc => by rw [pu_row (by omega), f1 c hc]
    show (∃ q' : Int32 × en_V × en_M, T_X2_read_9 (f + 1) (Int32.ofNat (ntP L tx k)) _ u4 υ = _ ∧ _) ∨ ((_ → ∃ σ', en_oi (T_X2_read_9 (f + 1) (Int32.ofNat (ntP L tx k)) _ u4 υ) = _ ∧ _) ∧ (_ → ∃ σ', en_oi (T_X2_read_9 (f + 1) (Int32.ofNat (ntP L tx k)) _ u4 υ) = _ ∧ _))
    rw [t_X2_read_9, if_pos (show Int32.ofNat k < (30 : Int32) from (pn_lt (b := 30) (by omega) (by omega)).mpr hk), hTu.1, if_pos (show (0 : Int32) < Int32.ofNat L from (pn_lt (a := 0) (by omega) (by omega)).mpr hL0), e1, Option.bind_some]
    dsimp only
    by_cases c1 : (actN L tx (ntP L tx k)).1 = true
    · have hr1 := e3 c1
      rw [if_neg (by rw [c1]; decide)] at p3
      rw [if_pos c1, if_neg (pn_nlt0 (by omega)), hat, Option.bind_some]
      dsimp only
      have tb : ∀ j, j < k + 1 → σ1 101 j = Int32.ofNat (ntK L tx j) ∧ σ1 102 j = Int32.ofNat (ntV L tx j) := fun j hj => by
        by_cases e : j = k
        · rw [e]; exact ⟨hr1.1, hr1.2.1⟩
        · rw [(hr1.2.2.2.1 j e).1, (hr1.2.2.2.1 j e).2]; exact p5 j (by omega)
      by_cases c2 : L ≤ (actN L tx (ntP L tx k)).2.1
      · rw [if_pos c2] at p3
        rw [if_pos (show sgn L 60 tx (actN L tx (ntP L tx k)).2.1 = -1 from if_neg (by omega)), p3, hr1.2.2.1]
        exact Or.inr ⟨fun q => absurd q (by show k + 1 ≠ 0; omega), fun _ => ⟨σ1, rfl, hr1.2.2.1, tb, f1⟩⟩
      · rw [if_neg c2] at p3
        have hs : ¬ sgn L 60 tx (actN L tx (ntP L tx k)).2.1 = -1 := by
          unfold sgn
          rw [if_pos (by omega)]
          split
          · exact pn_nm1 (by have := hb (actN L tx (ntP L tx k)).2.1; omega)
          · decide
        rw [if_neg hs, pi_if (show (sgn L 60 tx (actN L tx (ntP L tx k)).2.1 = (59 : Int32)) = (hr L 60 tx (actN L tx (ntP L tx k)).2.1 = (59 : Int32)) from sgn_hr (c := 59) (by omega)), pn_a1, pn_a1, q_cannotStand, Option.bind_some]
        by_cases c3 : hr L 60 tx (actN L tx (ntP L tx k)).2.1 = 59
        · have := hr_lt (u := 59) (by omega) c3
          rw [if_pos c3] at p3
          rw [if_pos c3]
          exact Or.inl ⟨(Int32.ofNat (ntP L tx (k + 1)), .inl (sgn L 60 tx (actN L tx (ntP L tx k)).2.1), σ1), rfl, rfl, by show (actN L tx (ntP L tx k)).2.1 + 1 ≤ 60; omega, p3, hr1.2.2.1, tb, f1⟩
        · rw [if_neg c3] at p3
          rw [if_neg c3]
          exact Or.inr (bad _ _ _ p3 rfl f100)
    · rw [if_pos (Bool.eq_false_iff.mpr c1)] at p3
      rw [if_neg c1, if_pos (hneg _ (by omega))]
      exact Or.inr (bad _ _ _ p3 rfl f100)
  · rintro f ⟨x2, u4, υ⟩ ⟨p1, p2, p3, p4, p5, p6⟩
    have p1 : x2 = _ := p1
    have p6 : AFr σ υ := p6
    have p3 : ntR L tx 30 0 0 = (0, ntP L tx 30) := p3
    rw [p3]
    show (_ → ∃ σ', en_oi (T_X2_read_9 (f + 1) x2 _ u4 υ) = _ ∧ _) ∧ _
    rw [t_X2_read_9, if_neg (show ¬ Int32.ofNat 30 < (30 : Int32) by decide), p6 1 (by omega), hT.1, if_neg (by rw [pn_eq0 (by omega)]; omega), p1, q_cannotStand, Option.bind_some]
    exact ⟨fun _ => ⟨_, rfl, fun c hc => by dsimp only; rw [pu_row (by omega), p6 c hc]⟩, fun q => absurd rfl q⟩
