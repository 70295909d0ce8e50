/-! rule: the class reads -/
theorem q_indexOf {u : Nat} (hu : u < 256) (σ : en_M) : O_J0_indexOf_0f7a4 [.inr (0, 31, 0, 0), .inl (en_i2c (Int32.ofNat u))] σ = some (if lxN u < 7 then Int32.ofNat (lxN u) else -1, σ) := by
  have h01 : (0 : Int32) = 0 ∨ (0 : Int32) = 1 := Or.inl rfl
  have h11 : (1 : Int32) = 0 ∨ (1 : Int32) = 1 := Or.inr rfl
  have hc : en_i2c (Int32.ofNat u) = Int32.ofNat u := (by decide +kernel : ∀ u < 256, en_i2c (Int32.ofNat u) = Int32.ofNat u) u hu
  have hL : O_J0_isLatin1_aae02 [.inr (0, 31, 0, 0)] σ = some (1, σ) := by
    rw [o_J0_isLatin1_aae02, t_J0_isLatin1_aae02_0, if_neg (show ¬ (1 : Int32) = 0 by decide), if_pos (by decide), if_pos h11]; rfl
  have hcd : O_J0_coder_7d493 [.inr (0, 31, 0, 0)] σ = some (0, σ) := by
    rw [o_J0_coder_7d493, t_J0_coder_7d493_0, if_neg (show ¬ (1 : Int32) = 0 by decide), if_pos (by decide)]; rfl
  have hlen : O_J0_length_8abf5 [.inr (0, 31, 0, 0)] σ = some (7, σ) := by
    rw [o_J0_length_8abf5, t_J0_length_8abf5_0, hcd, Option.bind_some]
    dsimp only
    rw [show en_shr 7 (0 : Int32) = 7 by decide]; rfl
  have hen : O_J1_canEncode_9a6ad [.inl (Int32.ofNat u)] σ = some (1, σ) := by
    rw [o_J1_canEncode_9a6ad, t_J1_canEncode_9a6ad_0, if_neg (pn_nlt0 (by omega)), if_neg (show ¬ (255 : Int32) < Int32.ofNat u from fun z => by have := (pn_lt (a := 255) (by omega) (by omega)).mp z; omega), if_pos h11]; rfl
  have hch : O_J1_indexOfChar_4cfef [.inr (0, 32, 7, 0), .inl (Int32.ofNat u), .inl (0 : Int32), .inl (7 : Int32)] σ = some (if lxN u < 7 then Int32.ofNat (lxN u) else -1, σ) := by
    rw [o_J1_indexOfChar_4cfef, t_J1_indexOfChar_4cfef_0]
    refine pl_for1 (F := fun f j (_ : Unit) => T_J1_indexOfChar_4cfef_7 f (Int32.ofNat u) 0 7 (byt u) (Int32.ofNat j) σ) (P := fun j _ => j ≤ lxN u) (Q := fun r => en_oi r = some (if lxN u < 7 then Int32.ofNat (lxN u) else -1, σ)) (N := 7) ?_ ?_ 7 0 en_FU () (by omega) (pl_FU (by omega)) (Nat.zero_le _)
    · intro f j _ hj hle
      have hle : j ≤ lxN u := hle
      have hw := (by decide +kernel : ∀ u < 256, ∀ j < 7, j ≤ lxN u → ((en_wt j = byt u) ↔ lxN u = j)) u hu j hj hle
      show (∃ _ : Unit, T_J1_indexOfChar_4cfef_7 (f + 1) _ _ _ _ (Int32.ofNat j) σ = _ ∧ _) ∨ en_oi (T_J1_indexOfChar_4cfef_7 (f + 1) _ _ _ _ (Int32.ofNat j) σ) = _
      rw [t_J1_indexOfChar_4cfef_7, if_pos (show Int32.ofNat j < (7 : Int32) from (pn_lt (b := 7) (by omega) (by omega)).mpr hj), pn_ix hj (by omega), Option.bind_some, pn_a1]
      by_cases c : en_wt j = byt u
      · rw [if_pos c, hw.mp c, if_pos hj]
        exact Or.inr rfl
      · rw [if_neg c]
        refine Or.inl ⟨(), rfl, ?_⟩
        have : lxN u ≠ j := fun e => c (hw.mpr e)
        show j + 1 ≤ lxN u
        omega
    · intro f _ hle
      have hle : 7 ≤ lxN u := hle
      show en_oi (T_J1_indexOfChar_4cfef_7 (f + 1) _ _ _ _ (Int32.ofNat 7) σ) = _
      rw [t_J1_indexOfChar_4cfef_7, if_neg (show ¬ Int32.ofNat 7 < (7 : Int32) by decide), if_neg (by omega)]; rfl
  have hix : O_J1_indexOf_4cfef [.inr (0, 32, 7, 0), .inl (Int32.ofNat u), .inl (0 : Int32), .inl (7 : Int32)] σ = some (if lxN u < 7 then Int32.ofNat (lxN u) else -1, σ) := by
    rw [o_J1_indexOf_4cfef, t_J1_indexOf_4cfef_0, hen, Option.bind_some]
    dsimp only
    rw [if_neg (show ¬ (1 : Int32) = 0 by decide), q_max, Option.bind_some]
    dsimp only
    rw [if_neg (show ¬ (0 : Int32) < 0 by decide), q_min, Option.bind_some]
    dsimp only
    rw [if_neg (show ¬ (7 : Int32) < 7 by decide), if_pos (show (0 : Int32) < 7 by decide), hch, Option.bind_some]; rfl
  rw [hc, o_J0_indexOf_0f7a4, t_J0_indexOf_0f7a4_0, o_J0_indexOf_7cf53, t_J0_indexOf_7cf53_0, hL, Option.bind_some]
  dsimp only
  rw [if_neg (show ¬ (1 : Int32) = 0 by decide), hlen, Option.bind_some]
  dsimp only
  rw [hix, Option.bind_some]; rfl
def FW (σ σ' : en_M) : Prop := (∀ c, c ≠ 10 → c ≠ 12 → σ' c = σ c) ∧ ∀ j, j ≠ 5 → j ≠ 6 → σ' 10 j = σ 10 j
theorem FW.refl (σ : en_M) : FW σ σ := ⟨fun _ _ _ => rfl, fun _ _ _ => rfl⟩
theorem FW.trans {a b c : en_M} (h : FW a b) (h2 : FW b c) : FW a c := ⟨fun q x y => (h2.1 q x y).trans (h.1 q x y), fun j x y => (h2.2 j x y).trans (h.2 j x y)⟩
theorem FW.at (σ : en_M) (v : Int32) : FW σ (en_up σ 10 6 v) := ⟨fun c h _ => pu_row h, fun j _ h => pu_slot h⟩
/-- codes written -/
def WC (σ σ' : en_M) (w : Nat) (cs : List Nat) : Prop := (∀ j, j < w → σ' 12 j = σ 12 j) ∧ ∀ j, j < cs.length → σ' 12 (w + j) = Int32.ofNat (cs.getD j 0)
theorem WC.nil (σ : en_M) (w : Nat) : WC σ σ w [] := ⟨fun _ _ => rfl, fun j h => absurd h (Nat.not_lt_zero j)⟩
theorem gd_app (as bs : List Nat) (j : Nat) : (as ++ bs).getD j 0 = if j < as.length then as.getD j 0 else bs.getD (j - as.length) 0 := by
  simp only [List.getD_eq_getElem?_getD, List.getElem?_append]
  split <;> rfl
theorem WC.app {a b c : en_M} {w : Nat} {as bs : List Nat} (h : WC a b w as) (h2 : WC b c (w + as.length) bs) : WC a c w (as ++ bs) := by
  refine ⟨fun j hj => by rw [h2.1 j (by omega), h.1 j hj], fun j hj => ?_⟩
  rw [List.length_append] at hj
  rw [gd_app]
  by_cases e : j < as.length
  · rw [if_pos e, h2.1 _ (by omega)]; exact h.2 j e
  · rw [if_neg e]
    have := h2.2 (j - as.length) (by omega)
    rw [show w + as.length + (j - as.length) = w + j by omega] at this
    exact this
theorem WC.c12 {a b c : en_M} {w : Nat} {as : List Nat} (h : WC a b w as) (h2 : c 12 = b 12) : WC a c w as := ⟨fun j hj => by rw [h2]; exact h.1 j hj, fun j hj => by rw [h2]; exact h.2 j hj⟩
theorem WC.c12b {a b c : en_M} {w : Nat} {as : List Nat} (h : WC b c w as) (h2 : b 12 = a 12) : WC a c w as := ⟨fun j hj => by rw [h.1 j hj, h2], h.2⟩
theorem q_cwrite {σ : en_M} {w : Nat} (h : σ 10 5 = Int32.ofNat w) (hw : w ≤ 40) (c : Nat) : ∃ σ' w', O_X6_write [.inr (10, 6, 0, 0), .inl (Int32.ofNat c)] σ = some σ' ∧ σ' 10 5 = Int32.ofNat w' ∧ w' ≤ 40 ∧ FW σ σ' ∧ σ' 10 6 = σ 10 6 ∧ (w < 40 → w' = w + 1 ∧ WC σ σ' w [c]) := by
  rw [o_X6_write, t_X6_write_0, pi_if (show (σ 10 5 < 40) = (w < 40) by rw [h]; exact pn_lt (b := 40) (by omega) (by omega))]
  by_cases c1 : w < 40
  · rw [if_pos c1, h, pn_ix c1 (by omega), Option.bind_some, pn_a1]
    refine ⟨_, w + 1, rfl, pu_same _ _ _ _, by omega, ⟨fun c h1 h2 => by rw [pu_row h1, pu_row h2], fun j h1 h2 => by rw [pu_slot h1, pu_cell (by omega)]⟩, by rw [pu_slot (by omega), pu_cell (by omega)], fun _ => ⟨rfl, fun j hj => by rw [pu_cell (by omega), pu_slot (by omega)], fun j hj => ?_⟩⟩
    have hj : j < 1 := hj
    rw [show j = 0 by omega, pu_cell (by omega)]
    exact pu_same σ 12 w (Int32.ofNat c)
  · rw [if_neg c1]
    exact ⟨σ, w, rfl, h, hw, FW.refl σ, rfl, fun z => absurd z c1⟩
theorem q_peek {L p : Nat} {tx : Nat → Nat} {σ : en_M} (hT : CT σ L tx) (hL : L ≤ 80) (h6 : σ 10 6 = Int32.ofNat p) (hp : p ≤ 40) : O_X6_peek [.inr (10, 6, 0, 0), .inr (1, 8, 0, 0)] σ = some (sgn L 40 tx p, σ) := by
  have ha : O_X8_at [.inr (1, 8, 0, 0), .inl (Int32.ofNat p), .inl (40 : Int32)] σ = some (sgn L 40 tx p, σ) := q_at (mx := 40) hT hL (by omega) (by omega)
  rw [o_X6_peek, t_X6_peek_0, h6, ha, Option.bind_some]; rfl
theorem sg_eq {L p c : Nat} {tx : Nat → Nat} (hb : ∀ j, tx j < 256) (hc : c < 256) : (sgn L 40 tx p = Int32.ofNat c) = (sgN L tx p = c) := (sgn_hr hc).trans (sgN_hr hb hc)
theorem sg_of {L p : Nat} {tx : Nat → Nat} (h : sgN L tx p < 256) : sgn L 40 tx p = Int32.ofNat (sgN L tx p) := by
  have hi := sgN_in h rfl
  unfold sgn sgN
  rw [if_pos hi.1, if_pos hi.2.1, if_pos ⟨hi.1, hi.2.1⟩]
theorem sg_no {L p : Nat} {tx : Nat → Nat} (hb : ∀ j, tx j < 256) (h : ¬ sgN L tx p < 256) : sgn L 40 tx p < 0 := by
  have := hb p
  unfold sgN at h
  unfold sgn
  by_cases c1 : p < L
  · by_cases c2 : p < 40
    · rw [if_pos ⟨c1, c2⟩] at h; omega
    · rw [if_pos c1, if_neg c2]; decide
  · rw [if_neg c1]; decide
/-- what the class's reader does with a parser -/
def CCr (L : Nat) (tx : Nat → Nat) (f : en_M → Option (Int32 × en_M)) (q : Nat → PRs) : Prop := ∀ σ p w, CT σ L tx → σ 10 6 = Int32.ofNat p → p ≤ 40 → σ 10 5 = Int32.ofNat w → w ≤ p →
  ∃ σ' w', f σ = some (if (q p).1 = true then 1 else 0, σ') ∧ σ' 10 6 = Int32.ofNat (q p).2.1 ∧ σ' 10 5 = Int32.ofNat w' ∧ w' ≤ 40 ∧ FW σ σ' ∧ ((q p).1 = true → w' = w + (q p).2.2.1.length ∧ WC σ σ' w (q p).2.2.1)
theorem CT.fw {σ σ' : en_M} {L : Nat} {tx : Nat → Nat} (h : CT σ L tx) (hf : FW σ σ') : CT σ' L tx := h.fr (hf.1 1 (by omega) (by omega)) (hf.1 2 (by omega) (by omega))
noncomputable def cX (D i d : Nat) : en_M → Option (Int32 × en_M) := RG_X6_readExpression D i [.inr (10, 6, 0, 0), .inr (1, 8, 0, 0), .inl (Int32.ofNat d)]
theorem q_readNumber {L p w : Nat} {tx : Nat → Nat} {σ : en_M} (hb : ∀ j, tx j < 256) (hL : L ≤ 80) (hT : CT σ L tx) (h6 : σ 10 6 = Int32.ofNat p) (hp : p ≤ 40) (h5 : σ 10 5 = Int32.ofNat w) (hw : w ≤ p) (hd : 48 ≤ sgN L tx p ∧ sgN L tx p < 58) :
    ∃ σ' w', O_X6_readNumber [.inr (10, 6, 0, 0), .inr (1, 8, 0, 0)] σ = some σ' ∧ σ' 10 6 = Int32.ofNat (dgN L 40 tx 2 (p + 1) (tx p - 48)).1 ∧ σ' 10 5 = Int32.ofNat w' ∧ w' ≤ 40 ∧ FW σ σ' ∧ w' = w + 1 ∧ WC σ σ' w [(dgN L 40 tx 2 (p + 1) (tx p - 48)).2] := by
  have hFU := en_FU_ge
  have hi := sgN_in (L := L) (tx := tx) (p := p) (by omega) rfl
  rw [o_X6_readNumber, t_X6_readNumber_0, q_peek hT hL h6 hp, Option.bind_some]
  dsimp only
  have fin : ∀ (q v : Nat) (υ : en_M), FW σ υ → υ 10 6 = Int32.ofNat q → υ 12 = σ 12 → υ 10 5 = σ 10 5 → ∃ σ' w', en_ov ((O_X6_write [.inr (10, 6, 0, 0), .inl (Int32.ofNat v)] υ).bind fun r3 => en_rv r3) = some σ' ∧ σ' 10 6 = Int32.ofNat q ∧ σ' 10 5 = Int32.ofNat w' ∧ w' ≤ 40 ∧ FW σ σ' ∧ w' = w + 1 ∧ WC σ σ' w [v] := fun q v υ f1 f2 f3 f4 => by
    obtain ⟨σ', w', e1, e2, e3, e4, e5, e6⟩ := q_cwrite (σ := υ) (w := w) (by rw [f4]; exact h5) (by omega) v
    obtain ⟨e7, e8⟩ := e6 (by omega)
    rw [e1, Option.bind_some]
    exact ⟨σ', w', rfl, by rw [e5]; exact f2, e2, e3, f1.trans e4, e7, e8.c12b f3⟩
  have main : ∀ K i q v f υ, i + K = 2 → K + 5 < f → q ≤ 41 → FW σ υ → υ 10 6 = Int32.ofNat q → υ 12 = σ 12 → υ 10 5 = σ 10 5 → CT υ L tx → q ≤ 40 → dgN L 40 tx 2 (p + 1) (tx p - 48) = dgN L 40 tx K q v →
      ∃ σ' w', en_ov (T_X6_readNumber_11 f (Int32.ofNat v) (sgn L 40 tx q) (Int32.ofNat (i + 1)) υ) = some σ' ∧ σ' 10 6 = Int32.ofNat (dgN L 40 tx 2 (p + 1) (tx p - 48)).1 ∧ σ' 10 5 = Int32.ofNat w' ∧ w' ≤ 40 ∧ FW σ σ' ∧ w' = w + 1 ∧ WC σ σ' w [(dgN L 40 tx 2 (p + 1) (tx p - 48)).2] := by
    intro K
    induction K with
    | zero =>
      intro i q v f υ hiK hf hq f1 f2 f3 f4 f5 f6 he
      obtain ⟨f, rfl⟩ : ∃ j, f = j + 1 := Nat.exists_eq_succ_of_ne_zero (by omega)
      have he : dgN L 40 tx 2 (p + 1) (tx p - 48) = (q, v) := he
      rw [t_X6_readNumber_11, if_neg (show ¬ Int32.ofNat (i + 1) < (3 : Int32) from fun z => by have := (pn_lt (b := 3) (by omega) (by omega)).mp z; omega), he]
      exact fin q v υ f1 f2 f3 f4
    | succ K ih =>
      intro i q v f υ hiK hf hq f1 f2 f3 f4 f5 f6 he
      obtain ⟨f, rfl⟩ : ∃ j, f = j + 1 := Nat.exists_eq_succ_of_ne_zero (by omega)
      conv at he => rhs; unfold dgN
      rw [t_X6_readNumber_11, if_pos (show Int32.ofNat (i + 1) < (3 : Int32) from (pn_lt (b := 3) (by omega) (by omega)).mpr (by omega))]
      have hins : inS L 40 tx q 48 10 ↔ 48 ≤ sgN L tx q ∧ sgN L tx q < 58 := by
        constructor
        · rintro ⟨z1, z2, z3, z4⟩
          unfold sgN
          rw [if_pos ⟨z1, z2⟩]; exact ⟨z3, by omega⟩
        · rintro ⟨z1, z2⟩
          have hz := sgN_in (L := L) (tx := tx) (p := q) (by omega) rfl
          exact ⟨hz.1, hz.2.1, by omega, by omega⟩
      by_cases c : inS L 40 tx q 48 10
      · rw [if_pos c] at he
        have hz := hins.mp c
        have hq40 := c.2.1
        have hsg : sgN L tx q = tx q := (sgN_in (L := L) (tx := tx) (p := q) (by omega) rfl).2.2.symm
        rw [sg_of (by omega), if_neg (show ¬ Int32.ofNat (sgN L tx q) < (48 : Int32) from fun z => by have := (pn_lt (b := 48) (by omega) (by omega)).mp z; omega), if_neg (show ¬ (57 : Int32) < Int32.ofNat (sgN L tx q) from fun z => by have := (pn_lt (a := 57) (by omega) (by omega)).mp z; omega), f2, pn_a1, q_peek (f5.fw (FW.at υ _)) hL (pu_same _ _ _ _) (by omega), Option.bind_some]
        dsimp only
        rw [pn_a1, show Int32.ofNat v * (10 : Int32) + Int32.ofNat (sgN L tx q) - (48 : Int32) = Int32.ofNat (10 * v + (tx q - 48)) by
          rw [show (10 : Int32) = Int32.ofNat 10 from rfl, pn_mul, pn_add, hsg]
          refine (pn_sub (b := 48) (by omega)).trans ?_
          congr 1; omega]
        exact ih (i + 1) (q + 1) _ f _ (by omega) (by omega) (by omega) (f1.trans (FW.at υ _)) (pu_same _ _ _ _) (by rw [pu_row (by omega)]; exact f3) (by rw [pu_slot (by omega)]; exact f4) (f5.fw (FW.at υ _)) (by omega) he
      · rw [if_neg c] at he
        have hz := fun z => c (hins.mpr z)
        rw [he]
        have key : ∀ (r : en_R), r = ((O_X6_write [.inr (10, 6, 0, 0), .inl (Int32.ofNat v)] υ).bind fun r3 => en_rv r3) → ∃ σ' w', en_ov r = some σ' ∧ σ' 10 6 = Int32.ofNat (q, v).1 ∧ σ' 10 5 = Int32.ofNat w' ∧ w' ≤ 40 ∧ FW σ σ' ∧ w' = w + 1 ∧ WC σ σ' w [(q, v).2] := fun r hr => by
          subst hr; exact fin q v υ f1 f2 f3 f4
        by_cases c0 : sgn L 40 tx q < 48
        · rw [if_pos c0]; exact key _ rfl
        · rw [if_neg c0]
          have hlt : sgN L tx q < 256 := Classical.byContradiction fun z => c0 (Int32.lt_trans (sg_no hb z) (by decide))
          rw [sg_of hlt] at c0 ⊢
          have h57 : (57 : Int32) < Int32.ofNat (sgN L tx q) := (pn_lt (a := 57) (by omega) (by omega)).mpr (by
            have : ¬ sgN L tx q < 48 := fun z => c0 ((pn_lt (b := 48) (by omega) (by omega)).mpr z)
            have : ¬ (48 ≤ sgN L tx q ∧ sgN L tx q < 58) := hz
            omega)
          rw [if_pos h57]; exact key _ rfl
  obtain ⟨f, hf⟩ : ∃ j, en_FU = j + 1 := Nat.exists_eq_succ_of_ne_zero (by omega)
  have hsg : sgN L tx p = tx p := hi.2.2.symm
  rw [hf, t_X6_readNumber_11, if_pos (show (0 : Int32) < 3 by decide), sg_of (by omega), if_neg (show ¬ Int32.ofNat (sgN L tx p) < (48 : Int32) from fun z => by have := (pn_lt (b := 48) (by omega) (by omega)).mp z; omega), if_neg (show ¬ (57 : Int32) < Int32.ofNat (sgN L tx p) from fun z => by have := (pn_lt (a := 57) (by omega) (by omega)).mp z; omega), h6, pn_a1, q_peek (hT.fw (FW.at σ _)) hL (pu_same _ _ _ _) (by omega), Option.bind_some]
  dsimp only
  rw [show (0 : Int32) * (10 : Int32) + Int32.ofNat (sgN L tx p) - (48 : Int32) = Int32.ofNat (tx p - 48) by
    rw [show (0 : Int32) * 10 = 0 from rfl, Int32.zero_add, hsg]
    exact pn_sub (b := 48) (by omega)]
  exact main 2 0 (p + 1) (tx p - 48) f _ rfl (by omega) (by omega) (FW.at σ _) (pu_same _ _ _ _) (pu_row (by omega)) (pu_slot (by omega)) (hT.fw (FW.at σ _)) (by omega) rfl
