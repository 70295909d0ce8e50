/-! method -/
def cgL (n L : Nat) (tx : Nat → Nat) : Nat → Nat → Nat → Nat × Nat
  | 0, p, d => (p, d)
  | k + 1, p, d => if inS L 60 tx p 49 n ∧ d / 2 ^ (tx p - 49) = 0 then cgL n L tx k (p + 1) (d ||| 2 ^ (tx p - 49)) else (p, d)
def cgN (n L : Nat) (tx : Nat → Nat) (p : Nat) : Nat × Nat := if hr L 60 tx p = 120 then (p + 1, 0) else cgL n L tx 7 p 0
theorem cgL_le (n L : Nat) (tx : Nat → Nat) : ∀ k p d, p ≤ (cgL n L tx k p d).1 ∧ (p ≤ 60 → (cgL n L tx k p d).1 ≤ 60)
  | 0, p, d => ⟨Nat.le_refl _, id⟩
  | k + 1, p, d => by
    unfold cgL
    split
    · rename_i c
      have := cgL_le n L tx k (p + 1) (d ||| 2 ^ (tx p - 49))
      have := c.1.2.1
      exact ⟨by omega, fun _ => by omega⟩
    · exact ⟨Nat.le_refl _, id⟩
theorem cgL_lt (n L : Nat) (tx : Nat → Nat) (hn : n ≤ 7) : ∀ k p d, d < 128 → (cgL n L tx k p d).2 < 128
  | 0, p, d, h => h
  | k + 1, p, d, h => by
    unfold cgL
    split
    · rename_i c
      have := c.1.2.2
      exact cgL_lt n L tx hn k (p + 1) _ (or_128 h (by omega))
    · exact h
theorem hr_lt {L mx : Nat} {tx : Nat → Nat} {p : Nat} {u : Nat} (hu : u < 256) (h : hr L mx tx p = Int32.ofNat u) : p < L ∧ p < mx := by
  unfold hr at h
  by_cases c : p < L ∧ p < mx
  · exact c
  · rw [if_neg c] at h
    exact absurd h.symm (pn_nm1 (by omega))
theorem cgN_le (n L : Nat) (tx : Nat → Nat) (p : Nat) : p ≤ (cgN n L tx p).1 ∧ (p ≤ 60 → (cgN n L tx p).1 ≤ 60) := by
  unfold cgN
  split
  · rename_i c
    have := hr_lt (u := 120) (by omega) c
    exact ⟨by show p ≤ p + 1; omega, fun _ => by show p + 1 ≤ 60; omega⟩
  · exact cgL_le n L tx 7 p 0
theorem cgN_lt (n L : Nat) (tx : Nat → Nat) (hn : n ≤ 7) (p : Nat) : (cgN n L tx p).2 < 128 := by
  unfold cgN
  split
  · show 0 < 128; omega
  · exact cgL_lt n L tx hn 7 p 0 (by omega)
/-- 0 and where it can't stand, or how many changes -/
def mdR (n L : Nat) (tx : Nat → Nat) : Nat → Nat → Nat → Nat × Nat
  | 0, _, p => (0, p)
  | K + 1, k, p => if (cgN n L tx p).1 = p then (0, p) else if L ≤ (cgN n L tx p).1 then (k + 1, 0) else if hr L 60 tx (cgN n L tx p).1 = 46 then mdR n L tx K (k + 1) ((cgN n L tx p).1 + 1) else (0, (cgN n L tx p).1)
def mdP (n L : Nat) (tx : Nat → Nat) : Nat → Nat
  | 0 => 0
  | k + 1 => (cgN n L tx (mdP n L tx k)).1 + 1
def mdC (n L : Nat) (tx : Nat → Nat) (k : Nat) : Nat := (cgN n L tx (mdP n L tx k)).2
theorem mdR_le (n L : Nat) (tx : Nat → Nat) : ∀ K k p, p ≤ 60 → (mdR n L tx K k p).2 ≤ 60 ∧ (mdR n L tx K k p).1 ≤ k + K
  | 0, k, p, h => ⟨h, Nat.zero_le _⟩
  | K + 1, k, p, h => by
    have h1 := (cgN_le n L tx p).2 h
    unfold mdR
    split
    · exact ⟨h, Nat.zero_le _⟩
    · split
      · exact ⟨Nat.zero_le _, by show k + 1 ≤ _; omega⟩
      · split
        · rename_i c
          have := hr_lt (u := 46) (by omega) c
          have := mdR_le n L tx K (k + 1) ((cgN n L tx p).1 + 1) (by omega)
          exact ⟨this.1, by omega⟩
        · exact ⟨h1, Nat.zero_le _⟩
theorem s49_0 {u : Nat} (hu : u < 256) : (Int32.ofNat u - 49 < 0) = (u < 49) := (by decide +kernel : ∀ u < 256, (Int32.ofNat u - 49 < 0) = (u < 49)) u hu
theorem sgn_hr {L mx : Nat} {tx : Nat → Nat} {p : Nat} {c : Nat} (hc : c < 256) : (sgn L mx tx p = Int32.ofNat c) = (hr L mx tx p = Int32.ofNat c) := by
  unfold sgn hr
  by_cases c1 : p < L
  · by_cases c2 : p < mx
    · rw [if_pos c1, if_pos c2, if_pos ⟨c1, c2⟩]
    · rw [if_pos c1, if_neg c2, if_neg (fun q => c2 q.2)]
      exact propext ⟨fun q => absurd (pn_0le (show c < 2147483648 by omega)) (by rw [← q]; decide), fun q => absurd q.symm (pn_nm1 (by omega))⟩
  · rw [if_neg c1, if_neg (fun q => c1 q.1)]
theorem q_readChange {n L p k : Nat} {tx : Nat → Nat} {σ : en_M} (hn : n ≤ 7) (hT : CT σ L tx) (hL : L ≤ 80) (hb : ∀ j, tx j < 256) (hk : k < 20) (hp : p ≤ 60) :
    ∃ σ', O_X0_readChange [.inr (7, 0, 0, 0), .inr (1, 8, 0, 0), .inl (Int32.ofNat p), .inl (Int32.ofNat n), .inl (Int32.ofNat k)] σ = some (Int32.ofNat (cgN n L tx p).1, σ') ∧ σ' 9 k = Int32.ofNat (cgN n L tx p).2 ∧ (∀ j, j ≠ k → σ' 9 j = σ 9 j) ∧ ∀ c, c ≠ 9 → σ' c = σ c := by
  have hT' : ∀ υ : en_M, (∀ c, c ≠ 9 → υ c = σ c) → CT υ L tx := fun υ h => hT.fr (h 1 (by omega)) (h 2 (by omega))
  have hat : ∀ (υ : en_M) (i : Nat), i < 1000 → (∀ c, c ≠ 9 → υ c = σ c) → O_X8_at [.inr (1, 8, 0, 0), .inl (Int32.ofNat i), .inl (60 : Int32)] υ = some (sgn L 60 tx i, υ) := fun υ i hi h => q_at (mx := 60) (hT' υ h) hL hi (by omega)
  have f0 : ∀ c, c ≠ 9 → (en_up σ 9 k 0) c = σ c := fun c hc => pu_row hc
  rw [o_X0_readChange, t_X0_readChange_0, pn_ix (show k < 20 by omega) (by omega), Option.bind_some, hat _ p (by omega) f0, Option.bind_some]
  dsimp only
  rw [pi_if (show (sgn L 60 tx p = (120 : Int32)) = (hr L 60 tx p = (120 : Int32)) from sgn_hr (c := 120) (by omega))]
  by_cases c1 : hr L 60 tx p = 120
  · have ec : cgN n L tx p = (p + 1, 0) := if_pos c1
    rw [if_pos c1, ec, pn_a1]
    exact ⟨_, rfl, pu_same _ _ _ _, fun j hj => pu_slot hj, f0⟩
  · have ec : cgN n L tx p = cgL n L tx 7 p 0 := if_neg c1
    rw [if_neg c1, ec]
    refine pl_for1 (F := fun f i (q : Int32 × en_V × en_M) => T_X0_readChange_30 f (Int32.ofNat p) (Int32.ofNat n) (Int32.ofNat k) q.1 (Int32.ofNat i) q.2.1 q.2.2) (P := fun i q => ∃ p' d', p' ≤ p + i ∧ d' < 128 ∧ q.1 = Int32.ofNat p' ∧ q.2.2 9 k = Int32.ofNat d' ∧ cgL n L tx 7 p 0 = cgL n L tx (7 - i) p' d' ∧ (∀ j, j ≠ k → q.2.2 9 j = σ 9 j) ∧ ∀ c, c ≠ 9 → q.2.2 c = σ c)
      (Q := fun r => ∃ σ', en_oi r = some (Int32.ofNat (cgL n L tx 7 p 0).1, σ') ∧ σ' 9 k = Int32.ofNat (cgL n L tx 7 p 0).2 ∧ (∀ j, j ≠ k → σ' 9 j = σ 9 j) ∧ ∀ c, c ≠ 9 → σ' c = σ c) (N := 7) ?_ ?_ 7 0 en_FU (Int32.ofNat p, en_un, en_up σ 9 k 0) (by omega) (pl_FU (by omega)) ⟨p, 0, Nat.le_refl _, by omega, rfl, (pu_same σ 9 k 0 : en_up σ 9 k 0 9 k = 0), rfl, fun j hj => (pu_slot hj : en_up σ 9 k 0 9 j = σ 9 j), f0⟩
    · rintro f i ⟨x5, u7, υ⟩ hi ⟨p', d', h1, h2, h3, h4, h5, h6, h7⟩
      have h3 : x5 = _ := h3
      subst h3
      have h4 : υ 9 k = _ := h4
      have h7 : ∀ c, c ≠ 9 → υ c = σ c := h7
      have h6 : ∀ j, j ≠ k → υ 9 j = σ 9 j := h6
      have hbp := hb p'
      rw [show 7 - i = (7 - (i + 1)) + 1 by omega] at h5
      conv at h5 => rhs; unfold cgL
      have step : T_X0_readChange_30 (f + 1) (Int32.ofNat p) (Int32.ofNat n) (Int32.ofNat k) (Int32.ofNat p') (Int32.ofNat i) u7 υ = if inS L 60 tx p' 49 n ∧ d' / 2 ^ (tx p' - 49) = 0 then T_X0_readChange_30 f (Int32.ofNat p) (Int32.ofNat n) (Int32.ofNat k) (Int32.ofNat (p' + 1)) (Int32.ofNat (i + 1)) (.inl (Int32.ofNat (tx p' - 49))) (en_up υ 9 k (Int32.ofNat (d' ||| 2 ^ (tx p' - 49)))) else en_ri (Int32.ofNat p') υ := by
        rw [t_X0_readChange_30, if_pos (show Int32.ofNat i < (7 : Int32) from (pn_lt (b := 7) (by omega) (by omega)).mpr hi), hat υ p' (by omega) h7, Option.bind_some]
        dsimp only
        by_cases cL : p' < L ∧ p' < 60
        · rw [show sgn L 60 tx p' = Int32.ofNat (tx p') by unfold sgn; rw [if_pos cL.1, if_pos cL.2], pi_if (s49_0 hbp)]
          by_cases c2 : tx p' < 49
          · rw [if_pos c2, if_neg (fun q => by have := q.1.2.2; omega)]
          · rw [if_neg c2, show Int32.ofNat (tx p') - (49 : Int32) = Int32.ofNat (tx p' - 49) from pn_sub (b := 49) (by omega), pi_if (pn_lt (show tx p' - 49 < 2147483648 by omega) (show n < 2147483648 by omega))]
            by_cases c3 : tx p' - 49 < n
            · rw [if_pos c3, pn_ix (show k < 20 by omega) (by omega), Option.bind_some, pi_if (show (en_shr (υ 9 k) (Int32.ofNat (tx p' - 49)) = 0) = (d' / 2 ^ (tx p' - 49) = 0) by rw [h4, pb_shr (by omega) (by omega)]; exact pn_eq0 (Nat.lt_of_le_of_lt (Nat.div_le_self d' (2 ^ (tx p' - 49))) (show d' < 2147483648 by omega))), Option.bind_some, Option.bind_some, h4, pb_1 (by omega), pn_or, pn_a1, pn_a1]
              by_cases c4 : d' / 2 ^ (tx p' - 49) = 0
              · rw [if_pos c4, if_pos ⟨⟨cL.1, cL.2, by omega, by omega⟩, c4⟩]
              · rw [if_neg c4, if_neg (fun q => c4 q.2)]
            · rw [if_neg c3, if_neg (fun q => by have := q.1.2.2; omega)]
        · have hs : sgn L 60 tx p' - 49 < 0 := by
            unfold sgn
            split
            · split
              · exact absurd ⟨by assumption, by assumption⟩ cL
              · decide
            · decide
          rw [if_pos hs, if_neg (fun q => cL ⟨q.1.1, q.1.2.1⟩)]
      show (∃ q' : Int32 × en_V × en_M, T_X0_readChange_30 (f + 1) _ _ _ (Int32.ofNat p') _ u7 υ = _ ∧ _) ∨ ∃ σ', en_oi (T_X0_readChange_30 (f + 1) _ _ _ (Int32.ofNat p') _ u7 υ) = _ ∧ _
      rw [step]
      by_cases c2 : inS L 60 tx p' 49 n ∧ d' / 2 ^ (tx p' - 49) = 0
      · rw [if_pos c2] at h5
        rw [if_pos c2]
        have := c2.1.2.2
        refine Or.inl ⟨(Int32.ofNat (p' + 1), .inl (Int32.ofNat (tx p' - 49)), en_up υ 9 k (Int32.ofNat (d' ||| 2 ^ (tx p' - 49)))), rfl, p' + 1, d' ||| 2 ^ (tx p' - 49), by omega, or_128 h2 (by omega), rfl, (pu_same υ 9 k (Int32.ofNat (d' ||| 2 ^ (tx p' - 49))) : en_up υ 9 k (Int32.ofNat (d' ||| 2 ^ (tx p' - 49))) 9 k = _), h5, fun j hj => ?_, fun c hc => ?_⟩
        · show en_up υ 9 k _ 9 j = _
          rw [pu_slot hj]; exact h6 j hj
        · show en_up υ 9 k _ c = _
          rw [pu_row hc]; exact h7 c hc
      · rw [if_neg c2] at h5
        rw [if_neg c2, h5]
        exact Or.inr ⟨υ, rfl, h4, h6, h7⟩
    · rintro f ⟨x5, u7, υ⟩ ⟨p', d', h1, h2, h3, h4, h5, h6, h7⟩
      have h3 : x5 = _ := h3
      have h5 : cgL n L tx 7 p 0 = (p', d') := h5
      show ∃ σ', en_oi (T_X0_readChange_30 (f + 1) _ _ _ x5 _ u7 υ) = _ ∧ _
      rw [t_X0_readChange_30, if_neg (show ¬ Int32.ofNat 7 < (7 : Int32) by decide), h3, h5]
      exact ⟨υ, rfl, h4, h6, h7⟩
theorem q_take {σ : en_M} (m : Int32) : ∃ σ', O_X0_take [.inr (7, 0, 0, 0), .inl m] σ = some (m, σ') ∧ σ' 7 2 = m ∧ (∀ j, j < 20 → σ' 8 j = σ 9 j) ∧ (∀ j, j ≠ 2 → σ' 7 j = σ 7 j) ∧ ∀ c, c ≠ 7 → c ≠ 8 → σ' c = σ c := by
  rw [o_X0_take, t_X0_take_0, if_neg (by decide), if_pos (by decide)]
  simp only [show (0 : Int32).toNatClampNeg = 0 from rfl, show (20 : Int32).toNatClampNeg = 20 from rfl]
  refine ⟨_, rfl, pu_same _ _ _ _, fun j hj => ?_, fun j hj => ?_, fun c h1 h2 => ?_⟩
  · rw [pu_cell (by omega), pc_dst _ _ _ _ _ hj]
  · rw [pu_slot hj, pc_cell (by omega)]
  · rw [pu_row h1, pc_cell h2]
theorem q_mread {n L : Nat} {tx : Nat → Nat} {σ : en_M} (hn : n ≤ 7) (hT : CT σ L tx) (hL : L ≤ 80) (hL0 : 0 < L) (hb : ∀ j, tx j < 256) :
    ((mdR n L tx 20 0 0).1 = 0 → ∃ σ', O_X0_read [.inr (7, 0, 0, 0), .inr (1, 8, 0, 0), .inl (Int32.ofNat n)] σ = some (-1 - Int32.ofNat (mdR n L tx 20 0 0).2, σ') ∧ ∀ c, c ≠ 9 → σ' c = σ c) ∧
    ((mdR n L tx 20 0 0).1 ≠ 0 → ∃ σ', O_X0_read [.inr (7, 0, 0, 0), .inr (1, 8, 0, 0), .inl (Int32.ofNat n)] σ = some (Int32.ofNat (mdR n L tx 20 0 0).1, σ') ∧ σ' 7 2 = Int32.ofNat (mdR n L tx 20 0 0).1 ∧ (∀ j, j < (mdR n L tx 20 0 0).1 → σ' 8 j = Int32.ofNat (mdC n L tx j)) ∧ (∀ j, j ≠ 2 → σ' 7 j = σ 7 j) ∧ ∀ c, c ≠ 7 → c ≠ 8 → c ≠ 9 → σ' c = σ c) := by
  rw [o_X0_read, t_X0_read_0, hT.1, if_neg (by rw [pn_eq0 (by omega)]; omega)]
  refine pl_for1 (F := fun f k (q : Int32 × en_V × en_V × en_M) => T_X0_read_21 f (Int32.ofNat n) q.1 (Int32.ofNat k) q.2.1 q.2.2.1 q.2.2.2) (P := fun k q => q.1 = Int32.ofNat (mdP n L tx k) ∧ mdP n L tx k ≤ 60 ∧ mdR n L tx 20 0 0 = mdR n L tx (20 - k) k (mdP n L tx k) ∧ (∀ j, j < k → q.2.2.2 9 j = Int32.ofNat (mdC n L tx j)) ∧ ∀ c, c ≠ 9 → q.2.2.2 c = σ c)
    (Q := fun r => ((mdR n L tx 20 0 0).1 = 0 → ∃ σ', en_oi r = some (-1 - Int32.ofNat (mdR n L tx 20 0 0).2, σ') ∧ ∀ c, c ≠ 9 → σ' c = σ c) ∧
    ((mdR n L tx 20 0 0).1 ≠ 0 → ∃ σ', en_oi r = some (Int32.ofNat (mdR n L tx 20 0 0).1, σ') ∧ σ' 7 2 = Int32.ofNat (mdR n L tx 20 0 0).1 ∧ (∀ j, j < (mdR n L tx 20 0 0).1 → σ' 8 j = Int32.ofNat (mdC n L tx j)) ∧ (∀ j, j ≠ 2 → σ' 7 j = σ 7 j) ∧ ∀ c, c ≠ 7 → c ≠ 8 → c ≠ 9 → σ' c = σ c)) (N := 20) ?_ ?_ 20 0 en_FU (0, en_un, en_un, σ) (by omega) (pl_FU (by omega)) ⟨rfl, Nat.zero_le _, rfl, fun j hj => absurd hj (by omega), fun _ _ => rfl⟩
  · rintro f k ⟨x3, u5, u6, υ⟩ hk ⟨p1, p2, p3, p4, p5⟩
    have p1 : x3 = _ := p1
    subst p1
    have p4 : ∀ j, j < k → υ 9 j = Int32.ofNat (mdC n L tx j) := p4
    have p5 : ∀ c, c ≠ 9 → υ c = σ c := p5
    rw [show 20 - k = (20 - (k + 1)) + 1 by omega] at p3
    conv at p3 => rhs; unfold mdR
    have hle := cgN_le n L tx (mdP n L tx k)
    have hle2 := hle.2 p2
    obtain ⟨σ1, e1, e2, e3, e4⟩ := q_readChange (k := k) (p := mdP n L tx k) hn (hT.fr (p5 1 (by omega)) (p5 2 (by omega)) : CT υ L tx) hL hb hk p2
    have hat : O_X8_at [.inr (1, 8, 0, 0), .inl (Int32.ofNat (cgN n L tx (mdP n L tx k)).1), .inl (60 : Int32)] σ1 = some (sgn L 60 tx (cgN n L tx (mdP n L tx k)).1, σ1) := q_at (mx := 60) (hT.fr (by rw [e4 1 (by omega), p5 1 (by omega)]) (by rw [e4 2 (by omega), p5 2 (by omega)])) hL (by omega) (by omega)
    have bad : ∀ (p' : Nat) (υ' : en_M) (r : en_R), mdR n L tx 20 0 0 = (0, p') → en_oi r = some (-1 - Int32.ofNat p', υ') → (∀ c, c ≠ 9 → υ' c = σ c) → ((mdR n L tx 20 0 0).1 = 0 → ∃ σ', en_oi r = some (-1 - Int32.ofNat (mdR n L tx 20 0 0).2, σ') ∧ ∀ c, c ≠ 9 → σ' c = σ c) ∧
        ((mdR n L tx 20 0 0).1 ≠ 0 → ∃ σ', en_oi r = some (Int32.ofNat (mdR n L tx 20 0 0).1, σ') ∧ σ' 7 2 = Int32.ofNat (mdR n L tx 20 0 0).1 ∧ (∀ j, j < (mdR n L tx 20 0 0).1 → σ' 8 j = Int32.ofNat (mdC n L tx j)) ∧ (∀ j, j ≠ 2 → σ' 7 j = σ 7 j) ∧ ∀ c, c ≠ 7 → c ≠ 8 → c ≠ 9 → σ' c = σ c) := fun p' υ' r h1 h2 h3 => by
      rw [h1]
      exact ⟨fun _ => ⟨υ', h2, h3⟩, fun q => absurd rfl q⟩
    have f1 : ∀ c, c ≠ 9 → σ1 c = σ c := fun c hc => by rw [e4 c hc, p5 c hc]
    have step : T_X0_read_21 (f + 1) (Int32.ofNat n) (Int32.ofNat (mdP n L tx k)) (Int32.ofNat k) u5 u6 υ = if (cgN n L tx (mdP n L tx k)).1 = mdP n L tx k then en_ri (-1 - Int32.ofNat (mdP n L tx k)) σ1 else if sgn L 60 tx (cgN n L tx (mdP n L tx k)).1 = -1 then ((O_X0_take [.inr (7, 0, 0, 0), .inl (Int32.ofNat (k + 1))] σ1).bind fun r6 => en_ri r6.1 r6.2) else if sgn L 60 tx (cgN n L tx (mdP n L tx k)).1 = 46 then T_X0_read_21 f (Int32.ofNat n) (Int32.ofNat (mdP n L tx (k + 1))) (Int32.ofNat (k + 1)) (.inl (Int32.ofNat (cgN n L tx (mdP n L tx k)).1)) (.inl (sgn L 60 tx (cgN n L tx (mdP n L tx k)).1)) σ1 else en_ri (-1 - Int32.ofNat (cgN n L tx (mdP n L tx k)).1) σ1 := by
      rw [t_X0_read_21, if_pos (show Int32.ofNat k < (20 : Int32) from (pn_lt (b := 20) (by omega) (by omega)).mpr hk), e1, Option.bind_some]
      dsimp only
      rw [pi_if (pn_eq (show (cgN n L tx (mdP n L tx k)).1 < 2147483648 by omega) (show mdP n L tx k < 2147483648 by omega)), q_cannotStand, Option.bind_some, hat, Option.bind_some, q_cannotStand, Option.bind_some, pn_a1, pn_a1]; rfl
    show (∃ q' : Int32 × en_V × en_V × en_M, T_X0_read_21 (f + 1) _ (Int32.ofNat (mdP n L tx k)) _ u5 u6 υ = _ ∧ _) ∨ ((_ → ∃ σ', en_oi (T_X0_read_21 (f + 1) _ (Int32.ofNat (mdP n L tx k)) _ u5 u6 υ) = _ ∧ _) ∧ (_ → ∃ σ', en_oi (T_X0_read_21 (f + 1) _ (Int32.ofNat (mdP n L tx k)) _ u5 u6 υ) = _ ∧ _))
    rw [step]
    by_cases c1 : (cgN n L tx (mdP n L tx k)).1 = mdP n L tx k
    · rw [if_pos c1] at p3
      rw [if_pos c1]
      exact Or.inr (bad _ σ1 _ p3 rfl f1)
    rw [if_neg c1] at p3
    rw [if_neg c1]
    by_cases c2 : L ≤ (cgN n L tx (mdP n L tx k)).1
    · rw [if_pos c2] at p3
      have hs : sgn L 60 tx (cgN n L tx (mdP n L tx k)).1 = -1 := if_neg (by omega)
      rw [if_pos hs, p3]
      obtain ⟨σ2, t1, t2, t3, t4, t5⟩ := q_take (σ := σ1) (Int32.ofNat (k + 1))
      rw [t1, Option.bind_some]
      refine Or.inr ⟨fun q => absurd q (by show k + 1 ≠ 0; omega), fun _ => ⟨σ2, rfl, t2, fun j hj => ?_, fun j hj => by rw [t4 j hj, f1 7 (by omega)], fun c h7 h8 h9 => by rw [t5 c h7 h8, f1 c h9]⟩⟩
      have hj : j < k + 1 := hj
      rw [t3 j (by omega)]
      by_cases e : j = k
      · rw [e, e2]; rfl
      · rw [e3 j e]; exact p4 j (by omega)
    rw [if_neg c2] at p3
    have hs : ¬ sgn L 60 tx (cgN n L tx (mdP n L tx k)).1 = -1 := by
      unfold sgn
      rw [if_pos (by omega)]
      split
      · exact pn_nm1 (by have := hb (cgN n L tx (mdP n L tx k)).1; omega)
      · decide
    rw [if_neg hs, pi_if (show (sgn L 60 tx (cgN n L tx (mdP n L tx k)).1 = (46 : Int32)) = (hr L 60 tx (cgN n L tx (mdP n L tx k)).1 = (46 : Int32)) from sgn_hr (c := 46) (by omega))]
    by_cases c3 : hr L 60 tx (cgN n L tx (mdP n L tx k)).1 = 46
    · have := hr_lt (u := 46) (by omega) c3
      rw [if_pos c3] at p3
      rw [if_pos c3]
      refine Or.inl ⟨(Int32.ofNat (mdP n L tx (k + 1)), .inl (Int32.ofNat (cgN n L tx (mdP n L tx k)).1), .inl (sgn L 60 tx (cgN n L tx (mdP n L tx k)).1), σ1), rfl, rfl, by show (cgN n L tx (mdP n L tx k)).1 + 1 ≤ 60; omega, p3, fun j hj => ?_, f1⟩
      show σ1 9 j = _
      by_cases e : j = k
      · rw [e, e2]; rfl
      · rw [e3 j e]; exact p4 j (by omega)
    · rw [if_neg c3] at p3
      rw [if_neg c3]
      exact Or.inr (bad _ σ1 _ p3 rfl f1)
  · rintro f ⟨x3, u5, u6, υ⟩ ⟨p1, p2, p3, p4, p5⟩
    have p1 : x3 = _ := p1
    have p3 : mdR n L tx 20 0 0 = (0, mdP n L tx 20) := p3
    rw [p3]
    show (_ → ∃ σ', en_oi (T_X0_read_21 (f + 1) _ x3 _ u5 u6 υ) = _ ∧ _) ∧ _
    rw [t_X0_read_21, if_neg (show ¬ Int32.ofNat 20 < (20 : Int32) by decide), p1, q_cannotStand, Option.bind_some]
    exact ⟨fun _ => ⟨υ, rfl, p5⟩, fun q => absurd rfl q⟩
