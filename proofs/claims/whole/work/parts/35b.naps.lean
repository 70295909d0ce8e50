/-! naps counted, both sides -/
theorem q_napsWith {s c t : Nat} {σ : en_M} (hs : s ≤ 2) (hc : c < 1024) (ht : t < 32) (h : σ 103 6 = Int32.ofNat s) : O_X5_napsWith [.inr (103, 5, 0, 0), .inl (Int32.ofNat c), .inl (Int32.ofNat t)] σ = some (Int32.ofNat (nwC s c t 5), σ) := by
  rw [o_X5_napsWith, t_X5_napsWith_0]
  refine pl_for1 (F := fun f i (q : Int32) => T_X5_napsWith_5 f (Int32.ofNat c) (Int32.ofNat t) q (Int32.ofNat i) σ) (P := fun i q => q = Int32.ofNat (nwC s c t i)) (Q := fun r => en_oi r = some (Int32.ofNat (nwC s c t 5), σ)) (N := 5) ?_ ?_ 5 0 en_FU (Int32.ofNat c) (by omega) (pl_FU (by omega)) rfl
  · rintro f i q hi rfl
    have h4 : 2 ^ (2 * i) = 4 ^ i := by rw [Nat.pow_mul]
    have hd : en_shr (Int32.ofNat c) ((2 : Int32) * Int32.ofNat i) &&& 3 = Int32.ofNat (c / 4 ^ i % 4) := by
      rw [show (2 : Int32) * Int32.ofNat i = Int32.ofNat (2 * i) from pn_mul 2 i, pb_shr (by omega) (by omega), show (3 : Int32) = Int32.ofNat 3 from rfl, pn_and, h4, show (3 : Nat) = 2 ^ 2 - 1 from rfl, Nat.and_two_pow_sub_one_eq_mod]
    have hm : c / 4 ^ i % 4 < 4 := Nat.mod_lt _ (by omega)
    refine Or.inl ⟨Int32.ofNat (nwC s c t (i + 1)), ?_, rfl⟩
    show T_X5_napsWith_5 (f + 1) _ _ _ _ σ = _
    rw [t_X5_napsWith_5, if_pos (show Int32.ofNat i < (5 : Int32) from (pn_lt (b := 5) (by omega) (by omega)).mpr hi), q_bit, Option.bind_some]
    dsimp only
    rw [pi_if (pb_bit1 (show t < 2147483648 by omega) (show i < 32 by omega)), pi_if (show (en_shr (Int32.ofNat c) ((2 : Int32) * Int32.ofNat i) &&& 3 < σ 103 6) = (c / 4 ^ i % 4 < s) by rw [hd, h]; exact pn_lt (by omega) (by omega)), show (2 : Int32) * Int32.ofNat i = Int32.ofNat (2 * i) from pn_mul 2 i, pb_1 (by omega), pn_add, h4, pn_a1]
    conv => rhs; unfold nwC
    by_cases c1 : t.testBit i = true
    · rw [if_pos c1]
      by_cases c2 : c / 4 ^ i % 4 < s
      · rw [if_pos c2, if_pos ⟨c1, c2⟩]
      · rw [if_neg c2, if_neg (fun z => c2 z.2)]; rfl
    · rw [if_neg c1, if_neg (fun z => c1 z.1)]; rfl
  · rintro f q rfl
    show en_oi (T_X5_napsWith_5 (f + 1) _ _ _ _ σ) = _
    rw [t_X5_napsWith_5, if_neg (show ¬ Int32.ofNat 5 < (5 : Int32) by decide)]; rfl
theorem m_withSet {n s v t : Nat} {τ : en_M} (hn : n ≤ 5) (hs : s ≤ 2) (hv : v < 243) (ht : t < 2 ^ n) (h : τ 185 1 = Int32.ofNat n) : O_X12_withSet [.inr (185, 12, 0, 0), .inl (Int32.ofNat v), .inl (Int32.ofNat t), .inl (Int32.ofNat s)] τ = some (Int32.ofNat (nwM s v t 5), τ) := by
  have ht32 : t < 32 := Nat.lt_of_lt_of_le ht (Nat.pow_le_pow_right (n := 2) (by decide) hn)
  rw [o_X12_withSet, t_X12_withSet_0, nwM_ge ht 5 hn]
  refine pl_for1 (F := fun f i (q : Int32) => T_X12_withSet_9 f (Int32.ofNat v) (Int32.ofNat t) (Int32.ofNat s) q (Int32.ofNat (3 ^ i)) (Int32.ofNat i) τ) (P := fun i q => q = Int32.ofNat (nwM s v t i)) (Q := fun r => en_oi r = some (Int32.ofNat (nwM s v t n), τ)) (N := n) ?_ ?_ n 0 en_FU (Int32.ofNat v) (by omega) (pl_FU (by omega)) rfl
  · rintro f i q hi rfl
    have h3 : 3 ^ i < 243 := Nat.lt_of_le_of_lt (Nat.pow_le_pow_right (n := 3) (by decide) (show i ≤ 4 by omega)) (by decide)
    have hp : 0 < 3 ^ i := Nat.pow_pos (by omega)
    have hdv : v / 3 ^ i ≤ v := Nat.div_le_self _ _
    have hd : Int32.ofNat v / Int32.ofNat (3 ^ i) - Int32.ofNat v / Int32.ofNat (3 ^ i) / (3 : Int32) * (3 : Int32) = Int32.ofNat (v / 3 ^ i % 3) := by
      rw [pn_div (by omega) (by omega)]; exact pn_mod (b := 3) (by omega) (by omega)
    have hm : v / 3 ^ i % 3 < 3 := Nat.mod_lt _ (by omega)
    refine Or.inl ⟨Int32.ofNat (nwM s v t (i + 1)), ?_, rfl⟩
    show T_X12_withSet_9 (f + 1) _ _ _ _ (Int32.ofNat (3 ^ i)) (Int32.ofNat i) τ = T_X12_withSet_9 f _ _ _ _ (Int32.ofNat (3 ^ (i + 1))) (Int32.ofNat (i + 1)) τ
    rw [t_X12_withSet_9, h, if_pos ((pn_lt (by omega) (by omega)).mpr hi), q_has, Option.bind_some]
    dsimp only
    rw [pi_if ((pb2_0 _).trans (congrArg Not (pb_bit1 (show t < 2147483648 by omega) (show i < 32 by omega)))), if_neg (show ¬ Int32.ofNat (3 ^ i) = 0 by rw [pn_eq0 (by omega)]; omega), if_neg (show ¬ (3 : Int32) = 0 by decide), pi_if (show (Int32.ofNat v / Int32.ofNat (3 ^ i) - Int32.ofNat v / Int32.ofNat (3 ^ i) / (3 : Int32) * (3 : Int32) < Int32.ofNat s) = (v / 3 ^ i % 3 < s) by rw [hd]; exact pn_lt (by omega) (by omega)), pn_add, show Int32.ofNat (3 ^ i) * (3 : Int32) = Int32.ofNat (3 ^ (i + 1)) by rw [Nat.pow_succ]; exact pn_mul (3 ^ i) 3, pn_a1]
    conv => rhs; unfold nwM
    by_cases c1 : t.testBit i = true
    · rw [if_neg (fun z => z c1)]
      by_cases c2 : v / 3 ^ i % 3 < s
      · rw [if_pos c2, if_pos ⟨c1, c2⟩]
      · rw [if_neg c2, if_neg (fun z => c2 z.2)]; rfl
    · rw [if_pos c1, if_neg (fun z => c1 z.1)]; rfl
  · rintro f q rfl
    show en_oi (T_X12_withSet_9 (f + 1) _ _ _ _ _ _ τ) = _
    rw [t_X12_withSet_9, h, if_neg (by rw [pn_lt (by omega) (by omega)]; omega)]; rfl
theorem m_wholeOf {n s : Nat} {τ : en_M} (hn : n ≤ 5) (hs : s = 1 ∨ s = 2) (h : τ 185 1 = Int32.ofNat n) : O_X12_wholeOf [.inr (185, 12, 0, 0), .inl (Int32.ofNat s)] τ = some (Int32.ofNat (fuM s n), τ) := by
  rw [o_X12_wholeOf, t_X12_wholeOf_0]
  refine pl_for1 (F := fun f i (q : Int32) => T_X12_wholeOf_4 f (Int32.ofNat s) q (Int32.ofNat i) τ) (P := fun i q => q = Int32.ofNat (fuM s i)) (Q := fun r => en_oi r = some (Int32.ofNat (fuM s n), τ)) (N := n) ?_ ?_ n 0 en_FU 0 (by omega) (pl_FU (by omega)) rfl
  · rintro f i q hi rfl
    refine Or.inl ⟨Int32.ofNat (fuM s (i + 1)), ?_, rfl⟩
    show T_X12_wholeOf_4 (f + 1) _ _ _ τ = _
    rw [t_X12_wholeOf_4, h, if_pos ((pn_lt (by omega) (by omega)).mpr hi), show (3 : Int32) * Int32.ofNat (fuM s i) = Int32.ofNat (3 * fuM s i) from pn_mul 3 _, pn_add, pn_a1]; rfl
  · rintro f q rfl
    show en_oi (T_X12_wholeOf_4 (f + 1) _ _ _ τ) = _
    rw [t_X12_wholeOf_4, h, if_neg (by rw [pn_lt (by omega) (by omega)]; omega)]; rfl
