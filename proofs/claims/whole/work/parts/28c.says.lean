/-! says -/
theorem k_look2 {g t ro x us kp} {B m : Nat} {σ : en_M} (hA : AV B (g, t, ro, x, us, kp)) (hB : B < 1000000000) (hC : CI σ (g, t, ro, x, us, kp)) (hm : m ≤ 200) : ∃ σ', O_X11_lookAhead [.inr (0, 11, 0, 0), .inl (Int32.ofNat m)] σ = some σ' ∧ CI σ' (g, t, ro, x, us, kp) ∧ (∀ k, k ≤ m → σ' 182 k = Int32.ofNat (pkN (odN g x k))) ∧ ∀ c, c ≠ 182 → σ' c = σ c := by
  obtain ⟨σ', e1, e2, e3⟩ := q_lookAhead hA.1 hC.1 hC.2.2.2.1 hA.2.2.2.2.2.2.2.1 hB hm
  exact ⟨σ', e1, hC.kept (fun c hc => e3 c (by omega)) (by rw [e3 10 (by omega)]), e2, e3⟩
theorem brN_le (g : pG) (x : pS) (w : Nat → Nat) : ∀ m k, (brN g x w m k).1 ≤ k + m
  | 0, k => Nat.le_refl _
  | m + 1, k => by
    unfold brN
    split
    · have := brN_le g x w m (k + 1); omega
    · show k ≤ _; omega
/-- who misses: nobody, or a ringer -/
def syD (d : Nat) : Nat := if d = 0 then 0 else 2 ^ (d - 1)
def syW (X n m k : Nat) : Nat := syD (X / (n + 1) ^ (m - 1 - k) % (n + 1))
theorem syD_lt {d n : Nat} (h : d < n + 1) : syD d < 2 ^ n := by
  unfold syD
  split
  · exact Nat.two_pow_pos n
  · exact Nat.pow_lt_pow_right (by decide) (by omega)
theorem sy_down {k : Nat} (h : k < 100) : Int32.ofNat k + (-1 : Int32) = if k = 0 then -1 else Int32.ofNat (k - 1) := (by decide +kernel : ∀ k < 100, Int32.ofNat k + (-1 : Int32) = if k = 0 then -1 else Int32.ofNat (k - 1)) k h
theorem p_says : en_st_says pInv := by
  intro c v w hc
  refine p_two hc (fun A σ0 hA hB => ?_)
  have hA0 := hA
  obtain ⟨g, t, ro, x, us, kp⟩ := A
  have hgv : GV g := hA.1
  have hn : gN g ≤ 7 := hgv.1
  have hVS : VS (gN g) (2000 * c) x := hA.2.2.2.2.2.2.2.1
  by_cases hz : gN g = 0 ∨ v < 0 ∨ w < 1 ∨ 9 < w
  · refine p_no hA (-1) (fun hC => ?_) (fun τ hM => ?_)
    · rw [o_X11_says, t_X11_says_0, show σ0 5 3 = Int32.ofNat (gN g) from hC.1.1, pi_if (pn_eq0 (by omega))]
      by_cases c1 : gN g = 0
      · rw [if_pos c1]; rfl
      rw [if_neg c1]
      by_cases c2 : v < 0
      · rw [if_pos c2]; rfl
      rw [if_neg c2]
      by_cases c3 : w < 1
      · rw [if_pos c3]; rfl
      rw [if_neg c3, if_pos (show 9 < w by rcases hz with h | h | h | h <;> first | exact absurd h c1 | exact absurd h c2 | exact absurd h c3 | exact h)]; rfl
    · have hM2 := hM.slot 11 0 (by omega)
      have h1 : (en_up τ 185 11 0) 185 1 = Int32.ofNat (gN g) := hM2.1.1
      rw [o_X12_says, t_X12_says_0, q_in, Option.bind_some]
      dsimp only
      rw [pi_if (pb2_0 _), pi_if (show ((en_up τ 185 11 0) 185 1 = 0) = (gN g = 0) by rw [h1]; exact pn_eq0 (by omega))]
      by_cases c4 : ¬ (¬ w < 1 ∧ ¬ 9 < w)
      · rw [if_pos c4]; rfl
      rw [if_neg c4]
      have c4 := Classical.not_not.mp c4
      by_cases c2 : v < 0
      · rw [if_pos c2]; rfl
      rw [if_neg c2, if_pos (show gN g = 0 by rcases hz with h | h | h | h <;> first | exact h | exact absurd h c2 | exact absurd h c4.1 | exact absurd h c4.2)]; rfl
  have hz0 : ¬ gN g = 0 := fun q => hz (Or.inl q)
  have hz1 : ¬ v < 0 := fun q => hz (Or.inr (Or.inl q))
  have hz2 : ¬ w < 1 := fun q => hz (Or.inr (Or.inr (Or.inl q)))
  have hz3 : ¬ 9 < w := fun q => hz (Or.inr (Or.inr (Or.inr q)))
  obtain ⟨X, hX, rfl⟩ := pn_nn (Int32.not_lt.mp hz1)
  obtain ⟨m, hm, rfl⟩ : isR 10 w := isR_1 (by omega) (by omega) hz2 hz3
  have hm0 : m ≠ 0 := fun q => hz2 (by rw [q]; decide)
  have hn0 : 0 < gN g := by omega
  have nz : ¬ Int32.ofNat (gN g) = 0 := by rw [pn_eq0 (by omega)]; exact hz0
  have nz1 : ¬ Int32.ofNat (gN g + 1) = 0 := by rw [pn_eq0 (by omega)]; omega
  have hXd : ∀ i, X / (gN g + 1) ^ i < 2147483648 := fun i => Nat.lt_of_le_of_lt (Nat.div_le_self _ _) hX
  have hmd : ∀ i, X / (gN g + 1) ^ i % (gN g + 1) < gN g + 1 := fun i => Nat.mod_lt _ (by omega)
  have hwl : ∀ k, syW X (gN g) m k < 2 ^ gN g := fun k => syD_lt (hmd _)
  have hxm : ∀ i, Int32.ofNat (X / (gN g + 1) ^ i) - Int32.ofNat (X / (gN g + 1) ^ i) / Int32.ofNat (gN g + 1) * Int32.ofNat (gN g + 1) = Int32.ofNat (X / (gN g + 1) ^ i % (gN g + 1)) := fun i => pn_mod (hXd i) (by omega)
  have hxd : ∀ i, Int32.ofNat (X / (gN g + 1) ^ i) / Int32.ofNat (gN g + 1) = Int32.ofNat (X / (gN g + 1) ^ (i + 1)) := fun i => by
    rw [pn_div (hXd i) (by omega), Nat.div_div_eq_div_mul, Nat.pow_succ]
  have hsd : ∀ d, d < gN g + 1 → ¬ d = 0 → en_shl 1 (Int32.ofNat d - 1) = Int32.ofNat (syD d) := fun d hd h0 => by
    rw [show Int32.ofNat d - (1 : Int32) = Int32.ofNat (d - 1) from pn_sub (b := 1) (by omega), pb_1 (by omega)]
    unfold syD; rw [if_neg h0]
  have hsm : Int32.ofNat m - (1 : Int32) = if 0 < m then Int32.ofNat (m - 1 - 0) else -1 := by
    rw [if_pos (by omega)]; exact pn_sub (b := 1) (by omega)
  -- what both say
  obtain ⟨v', A', q1, q2, q3, q4⟩ : ∃ (v' : Int32) (A' : pI), (0 < X / (gN g + 1) ^ m → v' = -2 ∧ A' = (g, t, ro, x, us, kp)) ∧ (¬ 0 < X / (gN g + 1) ^ m → (brN g x (syW X (gN g) m) m 0).1 < m → v' = 0 ∧ A' = (g, t, ro, x, us, kp)) ∧ (¬ 0 < X / (gN g + 1) ^ m → ¬ (brN g x (syW X (gN g) m) m 0).1 < m → v' = 1 ∧ A' = (g, t, rwL (fun k => Int32.ofNat (syW X (gN g) m k)) m, x, us, kp)) ∧ AV (2000 * (c + 1)) A' := by
    by_cases d1 : 0 < X / (gN g + 1) ^ m
    · exact ⟨-2, (g, t, ro, x, us, kp), fun _ => ⟨rfl, rfl⟩, fun q => absurd d1 q, fun q => absurd d1 q, hA.mono (by omega)⟩
    · by_cases d2 : (brN g x (syW X (gN g) m) m 0).1 < m
      · exact ⟨0, (g, t, ro, x, us, kp), fun q => absurd q d1, fun _ _ => ⟨rfl, rfl⟩, fun _ q => absurd d2 q, hA.mono (by omega)⟩
      · exact ⟨1, (g, t, rwL (fun k => Int32.ofNat (syW X (gN g) m k)) m, x, us, kp), fun q => absurd q d1, fun _ q => absurd q d2, fun _ _ => ⟨rfl, rfl⟩, (hA.row (by rw [rwL_len]; omega)).mono (by omega)⟩
  refine ⟨v', A', fun hC => ?_, fun τ hM => ?_, q4⟩
  · rw [o_X11_says, t_X11_says_0, show σ0 5 3 = Int32.ofNat (gN g) from hC.1.1, if_neg nz, if_neg hz1, if_neg hz2, if_neg hz3, pn_a1]
    obtain ⟨⟨r4, r5, ru, σ1⟩, b1, b2, b3, b4, b5⟩ := pl_to (F := fun f i (q : Int32 × Int32 × en_V × en_M) => T_X11_says_45 f (Int32.ofNat X) (Int32.ofNat m) (Int32.ofNat (gN g + 1)) q.1 q.2.1 q.2.2.1 q.2.2.2) (P := fun i q => q.1 = Int32.ofNat (X / (gN g + 1) ^ i) ∧ q.2.1 = (if i < m then Int32.ofNat (m - 1 - i) else -1) ∧ (∀ k, m - i ≤ k → k < m → q.2.2.2 183 k = Int32.ofNat (syW X (gN g) m k)) ∧ ∀ c, c ≠ 183 → q.2.2.2 c = σ0 c) (N := m) (by
      rintro f i ⟨r4, r5, ru, σ⟩ hi ⟨p1, p2, p3, p4⟩
      have p1 : r4 = _ := p1
      have p2 : r5 = _ := p2
      have p3 : ∀ k, m - i ≤ k → k < m → σ 183 k = _ := p3
      have p4 : ∀ c, c ≠ 183 → σ c = σ0 c := p4
      rw [if_pos hi] at p2
      have hd := hmd i
      have hsw : syD (X / (gN g + 1) ^ i % (gN g + 1)) = syW X (gN g) m (m - 1 - i) := by unfold syW; rw [show m - 1 - (m - 1 - i) = i by omega]
      show ∃ q' : Int32 × Int32 × en_V × en_M, T_X11_says_45 (f + 1) _ _ _ r4 r5 ru σ = _ ∧ _
      rw [p1, p2, t_X11_says_45, if_neg (pn_nlt0 (by omega)), if_neg nz1, hxm, hxd, pi_if (pn_eq0 (show X / (gN g + 1) ^ i % (gN g + 1) < 2147483648 by omega)), pn_ix (by omega) (by omega), Option.bind_some, Option.bind_some, if_neg nz1, if_neg nz1, sy_down (by omega)]
      have tail : ∀ z : Int32, z = Int32.ofNat (syW X (gN g) m (m - 1 - i)) → ∃ q' : Int32 × Int32 × en_V × en_M, T_X11_says_45 f (Int32.ofNat X) (Int32.ofNat m) (Int32.ofNat (gN g + 1)) (Int32.ofNat (X / (gN g + 1) ^ (i + 1))) (if m - 1 - i = 0 then -1 else Int32.ofNat (m - 1 - i - 1)) (.inl (Int32.ofNat (X / (gN g + 1) ^ i % (gN g + 1)))) (en_up σ 183 (m - 1 - i) z) = T_X11_says_45 f (Int32.ofNat X) (Int32.ofNat m) (Int32.ofNat (gN g + 1)) q'.1 q'.2.1 q'.2.2.1 q'.2.2.2 ∧ q'.1 = Int32.ofNat (X / (gN g + 1) ^ (i + 1)) ∧ q'.2.1 = (if i + 1 < m then Int32.ofNat (m - 1 - (i + 1)) else -1) ∧ (∀ k, m - (i + 1) ≤ k → k < m → q'.2.2.2 183 k = Int32.ofNat (syW X (gN g) m k)) ∧ ∀ c, c ≠ 183 → q'.2.2.2 c = σ0 c := by
        rintro z rfl
        refine ⟨(_, _, _, en_up σ 183 (m - 1 - i) (Int32.ofNat (syW X (gN g) m (m - 1 - i)))), rfl, rfl, ?_, fun k k1 k2 => ?_, fun c hc => ?_⟩
        · show (if m - 1 - i = 0 then (-1 : Int32) else Int32.ofNat (m - 1 - i - 1)) = _
          by_cases e : i + 1 < m
          · rw [if_neg (by omega), if_pos e, show m - 1 - i - 1 = m - 1 - (i + 1) by omega]
          · rw [if_pos (by omega), if_neg e]
        · show en_up σ 183 (m - 1 - i) _ 183 k = _
          rw [pu_at]
          by_cases e : k = m - 1 - i
          · rw [if_pos e, e]
          · rw [if_neg e]; exact p3 k (by omega) k2
        · show en_up σ 183 (m - 1 - i) _ c = _
          rw [pu_row hc]; exact p4 c hc
      by_cases d0 : X / (gN g + 1) ^ i % (gN g + 1) = 0
      · rw [if_pos d0]
        exact tail 0 (by rw [← hsw, d0]; rfl)
      · rw [if_neg d0]
        exact tail _ (by rw [hsd _ hd d0, hsw])) m 0 en_FU (Int32.ofNat X, Int32.ofNat m - 1, en_un, σ0) (by omega) (by have := en_FU_ge; omega) ⟨by rw [Nat.pow_zero, Nat.div_one], hsm, fun k k1 k2 => absurd k1 (by omega), fun _ _ => rfl⟩
    have b1 : T_X11_says_45 en_FU (Int32.ofNat X) (Int32.ofNat m) (Int32.ofNat (gN g + 1)) (Int32.ofNat X) (Int32.ofNat m - 1) en_un σ0 = T_X11_says_45 (en_FU - m) (Int32.ofNat X) (Int32.ofNat m) (Int32.ofNat (gN g + 1)) r4 r5 ru σ1 := b1
    have b2 : r4 = Int32.ofNat (X / (gN g + 1) ^ m) := b2
    have b3 : r5 = if m < m then Int32.ofNat (m - 1 - m) else -1 := b3
    rw [if_neg (Nat.lt_irrefl _)] at b3
    have b4 : ∀ k, m - m ≤ k → k < m → σ1 183 k = Int32.ofNat (syW X (gN g) m k) := b4
    have b5 : ∀ c, c ≠ 183 → σ1 c = σ0 c := b5
    obtain ⟨d, hd⟩ : ∃ d, en_FU - m = d + 1 := ⟨en_FU - m - 1, by have := en_FU_ge; omega⟩
    have hd2 : 900000 < d := by have := en_FU_ge; omega
    have hC1 : CI σ1 (g, t, ro, x, us, kp) := hC.kept (fun c hc => b5 c (by omega)) (by rw [b5 10 (by omega)])
    rw [b1, hd, t_X11_says_45, b2, b3, if_pos (show (-1 : Int32) < 0 by decide), pi_if (show ((0 : Int32) < Int32.ofNat (X / (gN g + 1) ^ m)) = (0 < X / (gN g + 1) ^ m) from pn_lt (a := 0) (by omega) (hXd m))]
    by_cases d1 : 0 < X / (gN g + 1) ^ m
    · rw [if_pos d1]
      obtain ⟨rfl, rfl⟩ := q1 d1
      exact ⟨σ1, rfl, hC1, fun c hc => b5 c (by omega)⟩
    · rw [if_neg d1]
      obtain ⟨σ2, e1, e2, e3, e4⟩ := k_look2 hA (by omega) hC1 (m := m) (by omega)
      obtain ⟨σ3, k1, k2, k3, k4⟩ := q_lawfulRounds (w := syW X (gN g) m) hA (by omega) e2 hn0 (show m ≤ 60 by omega) e3 (fun k hk => ⟨hwl k, by rw [e4 183 (by omega)]; exact b4 k (by omega) hk⟩)
      have hle := brN_le g x (syW X (gN g) m) m 0
      rw [e1, Option.bind_some, k1, Option.bind_some]
      dsimp only
      rw [pi_if (pn_lt (show (brN g x (syW X (gN g) m) m 0).1 < 2147483648 by omega) (show m < 2147483648 by omega))]
      by_cases d2 : (brN g x (syW X (gN g) m) m 0).1 < m
      · rw [if_pos d2]
        obtain ⟨rfl, rfl⟩ := q2 d1 d2
        exact ⟨σ3, rfl, k3, fun c hc => by rw [k4 c (by omega), e4 c (by omega), b5 c (by omega)]⟩
      · rw [if_neg d2, q_tbegin, Option.bind_some]
        obtain ⟨rfl, rfl⟩ := q3 d1 d2
        refine pl_for1 (F := fun f i (q : en_M) => T_X11_says_124 f (Int32.ofNat X) (Int32.ofNat m) (Int32.ofNat (gN g + 1)) (Int32.ofNat (X / (gN g + 1) ^ m)) (Int32.ofNat i) ru q) (P := fun i q => CI q (g, t, rwL (fun k => Int32.ofNat (syW X (gN g) m k)) i, x, us, kp) ∧ ∀ c, c ≠ 3 → c ≠ 4 → q c = σ3 c) (Q := fun r => ∃ σ', en_oi r = some (1, σ') ∧ CI σ' (g, t, rwL (fun k => Int32.ofNat (syW X (gN g) m k)) m, x, us, kp) ∧ FrC σ0 σ') (N := m) ?_ ?_ m 0 d (en_up σ3 3 1 0) (by omega) (by omega) ⟨k3.begin, fun c h1 h2 => pu_row h1⟩
        · rintro f i σ hi ⟨p1, p2⟩
          obtain ⟨σ', s1, s2, s3⟩ := p1.add (by rw [rwL_len]; omega) (Int32.ofNat (syW X (gN g) m i))
          refine Or.inl ⟨σ', ?_, s2, fun c h1 h2 => by rw [s3 c h1 h2, p2 c h1 h2]⟩
          show T_X11_says_124 (f + 1) _ _ _ _ _ _ σ = _
          rw [t_X11_says_124, if_pos ((pn_lt (by omega) (by omega)).mpr hi), pn_ix (by omega) (by omega), Option.bind_some, show σ 183 i = Int32.ofNat (syW X (gN g) m i) by rw [p2 183 (by omega) (by omega), k4 183 (by omega), e4 183 (by omega)]; exact b4 i (by omega) hi, s1, Option.bind_some, pn_a1]
        · rintro f σ ⟨p1, p2⟩
          show ∃ σ', en_oi (T_X11_says_124 (f + 1) _ _ _ _ _ _ σ) = _ ∧ _
          rw [t_X11_says_124, if_neg (by rw [pn_lt (by omega) (by omega)]; omega)]
          exact ⟨σ, rfl, p1, fun c hc => by rw [p2 c (by omega) (by omega), k4 c (by omega), e4 c (by omega), b5 c (by omega)]⟩
  · have hM2 := hM.slot 11 0 (by omega)
    have hfr : FrM τ (en_up τ 185 11 0) := FrM.up (by omega) (by omega)
    rw [o_X12_says, t_X12_says_0, q_in, Option.bind_some, if_neg (by dsimp only; rw [pb2_0]; exact fun q => q ⟨hz2, hz3⟩), if_neg hz1]
    dsimp only
    generalize en_up τ 185 11 0 = τ0 at hM2 hfr ⊢
    have h1 : τ0 185 1 = Int32.ofNat (gN g) := hM2.1.1
    rw [if_neg (show ¬ τ0 185 1 = 0 by rw [h1]; exact nz)]
    obtain ⟨⟨r4, r5, ru, σ1⟩, b1, b2, b3, b4, b5⟩ := pl_to (F := fun f i (q : Int32 × Int32 × en_V × en_M) => T_X12_says_35 f (Int32.ofNat X) (Int32.ofNat m) q.1 q.2.1 q.2.2.1 q.2.2.2) (P := fun i q => q.1 = Int32.ofNat (X / (gN g + 1) ^ i) ∧ q.2.1 = (if i < m then Int32.ofNat (m - 1 - i) else -1) ∧ (∀ k, m - i ≤ k → k < m → q.2.2.2 205 k = Int32.ofNat (syW X (gN g) m k)) ∧ ∀ c, c ≠ 205 → q.2.2.2 c = τ0 c) (N := m) (by
      rintro f i ⟨r4, r5, ru, σ⟩ hi ⟨p1, p2, p3, p4⟩
      have p1 : r4 = _ := p1
      have p2 : r5 = _ := p2
      have p3 : ∀ k, m - i ≤ k → k < m → σ 205 k = _ := p3
      have p4 : ∀ c, c ≠ 205 → σ c = τ0 c := p4
      rw [if_pos hi] at p2
      have hd := hmd i
      have hs1 : σ 185 1 + (1 : Int32) = Int32.ofNat (gN g + 1) := by rw [p4 185 (by omega), h1, pn_a1]
      have hsw : syD (X / (gN g + 1) ^ i % (gN g + 1)) = syW X (gN g) m (m - 1 - i) := by unfold syW; rw [show m - 1 - (m - 1 - i) = i by omega]
      show ∃ q' : Int32 × Int32 × en_V × en_M, T_X12_says_35 (f + 1) _ _ r4 r5 ru σ = _ ∧ _
      rw [p1, p2, t_X12_says_35, if_neg (pn_nlt0 (by omega))]
      simp only [hs1]
      rw [if_neg nz1, hxm, hxd, pi_if (pn_eq0 (show X / (gN g + 1) ^ i % (gN g + 1) < 2147483648 by omega)), pn_ix (by omega) (by omega), Option.bind_some, Option.bind_some, if_neg nz1, if_neg nz1, sy_down (by omega)]
      have tail : ∀ z : Int32, z = Int32.ofNat (syW X (gN g) m (m - 1 - i)) → ∃ q' : Int32 × Int32 × en_V × en_M, T_X12_says_35 f (Int32.ofNat X) (Int32.ofNat m) (Int32.ofNat (X / (gN g + 1) ^ (i + 1))) (if m - 1 - i = 0 then -1 else Int32.ofNat (m - 1 - i - 1)) (.inl (Int32.ofNat (X / (gN g + 1) ^ i % (gN g + 1)))) (en_up σ 205 (m - 1 - i) z) = T_X12_says_35 f (Int32.ofNat X) (Int32.ofNat m) q'.1 q'.2.1 q'.2.2.1 q'.2.2.2 ∧ q'.1 = Int32.ofNat (X / (gN g + 1) ^ (i + 1)) ∧ q'.2.1 = (if i + 1 < m then Int32.ofNat (m - 1 - (i + 1)) else -1) ∧ (∀ k, m - (i + 1) ≤ k → k < m → q'.2.2.2 205 k = Int32.ofNat (syW X (gN g) m k)) ∧ ∀ c, c ≠ 205 → q'.2.2.2 c = τ0 c := by
        rintro z rfl
        refine ⟨(_, _, _, en_up σ 205 (m - 1 - i) (Int32.ofNat (syW X (gN g) m (m - 1 - i)))), rfl, rfl, ?_, fun k k1 k2 => ?_, fun c hc => ?_⟩
        · show (if m - 1 - i = 0 then (-1 : Int32) else Int32.ofNat (m - 1 - i - 1)) = _
          by_cases e : i + 1 < m
          · rw [if_neg (by omega), if_pos e, show m - 1 - i - 1 = m - 1 - (i + 1) by omega]
          · rw [if_pos (by omega), if_neg e]
        · show en_up σ 205 (m - 1 - i) _ 205 k = _
          rw [pu_at]
          by_cases e : k = m - 1 - i
          · rw [if_pos e, e]
          · rw [if_neg e]; exact p3 k (by omega) k2
        · show en_up σ 205 (m - 1 - i) _ c = _
          rw [pu_row hc]; exact p4 c hc
      by_cases d0 : X / (gN g + 1) ^ i % (gN g + 1) = 0
      · rw [if_pos d0]
        exact tail 0 (by rw [← hsw, d0]; rfl)
      · rw [if_neg d0]
        exact tail _ (by rw [hsd _ hd d0, hsw])) m 0 en_FU (Int32.ofNat X, Int32.ofNat m - 1, en_un, τ0) (by omega) (by have := en_FU_ge; omega) ⟨by rw [Nat.pow_zero, Nat.div_one], hsm, fun k k1 k2 => absurd k1 (by omega), fun _ _ => rfl⟩
    have b1 : T_X12_says_35 en_FU (Int32.ofNat X) (Int32.ofNat m) (Int32.ofNat X) (Int32.ofNat m - 1) en_un τ0 = T_X12_says_35 (en_FU - m) (Int32.ofNat X) (Int32.ofNat m) r4 r5 ru σ1 := b1
    have b2 : r4 = Int32.ofNat (X / (gN g + 1) ^ m) := b2
    have b3 : r5 = if m < m then Int32.ofNat (m - 1 - m) else -1 := b3
    rw [if_neg (Nat.lt_irrefl _)] at b3
    have b4 : ∀ k, m - m ≤ k → k < m → σ1 205 k = Int32.ofNat (syW X (gN g) m k) := b4
    have b5 : ∀ c, c ≠ 205 → σ1 c = τ0 c := b5
    obtain ⟨d, hd⟩ : ∃ d, en_FU - m = d + 1 := ⟨en_FU - m - 1, by have := en_FU_ge; omega⟩
    have hd2 : 900000 < d := by have := en_FU_ge; omega
    have hM3 : MI σ1 (g, t, ro, x, us, kp) := hM2.kept (fun j _ => by rw [b5 185 (by omega)]) (fun c hc => b5 c (by omega))
    have hf1 : FrM τ σ1 := fun c hc => by rw [b5 c (by omega), hfr c hc]
    rw [b1, hd, t_X12_says_35, b2, b3, if_pos (show (-1 : Int32) < 0 by decide), pi_if (show ((0 : Int32) < Int32.ofNat (X / (gN g + 1) ^ m)) = (0 < X / (gN g + 1) ^ m) from pn_lt (a := 0) (by omega) (hXd m))]
    by_cases d1 : 0 < X / (gN g + 1) ^ m
    · rw [if_pos d1]
      obtain ⟨rfl, rfl⟩ := q1 d1
      exact ⟨σ1, rfl, hM3, hf1⟩
    · rw [if_neg d1]
      obtain ⟨σ2, e1, e2, e3, e4⟩ := m_trial (A := (g, t, ro, x, us, kp)) hn hM3
      rw [e1, Option.bind_some]
      refine pl_for (F := fun f i (q : en_M) => T_X12_says_109 f (Int32.ofNat X) (Int32.ofNat m) (Int32.ofNat (X / (gN g + 1) ^ m)) (Int32.ofNat i) ru q) (P := fun i q => MI q (g, t, ro, x, us, kp) ∧ MSr (gN g) (q 198) (rsN g x (syW X (gN g) m) i) ∧ (∀ k, k < m → q 205 k = Int32.ofNat (syW X (gN g) m k)) ∧ brN g x (syW X (gN g) m) m 0 = brN g x (syW X (gN g) m) (m - i) i ∧ FrM τ q) (Q := fun r => ∃ τ2, en_oi r = some (v', τ2) ∧ MI τ2 A' ∧ FrM τ τ2) (N := m) (C := 1) (C0 := 100) ?_ ?_ m 0 d σ2 (by omega) (by omega) ⟨e2, e3, fun k hk => by rw [e4 205 (by omega)]; exact b4 k (by omega) hk, rfl, fun c hc => by rw [e4 c (by omega), hf1 c hc]⟩
      · rintro f i υ hi hf ⟨p1, p2, p3, p4, p5⟩
        obtain ⟨f, rfl⟩ : ∃ j, f = j + 1 := ⟨f - 1, by omega⟩
        rw [show m - i = (m - (i + 1)) + 1 by omega] at p4
        conv at p4 => rhs; unfold brN
        have hvi : VS (gN g) (2000 * c + i) (rsN g x (syW X (gN g) m) i) := rsN_VS hgv hVS i (fun j _ => hwl j)
        obtain ⟨υ', r1, r2, r3, r4, r5, r6⟩ := m_go (A := (g, t, ro, x, us, kp)) hgv p1 p2 hvi (by omega) hn0 (hwl i)
        have r4 : υ' 185 25 = Int32.ofNat (lawS g (rsN g x (syW X (gN g) m) i) (syW X (gN g) m i)) := r4
        have hl6 : lawS g (rsN g x (syW X (gN g) m) i) (syW X (gN g) m i) < 6 := lawN_lt _ _ _ _ _ _ _
        show (∃ n', ∃ υ'', T_X12_says_109 (f + 1) _ _ _ _ ru υ = _ ∧ _) ∨ ∃ τ2, en_oi (T_X12_says_109 (f + 1) _ _ _ _ ru υ) = _ ∧ _
        rw [t_X12_says_109, if_pos ((pn_lt (by omega) (by omega)).mpr hi), pn_ix (by omega) (by omega), Option.bind_some, p3 i hi, r1, Option.bind_some, r4, pi_if (pn_eq0 (show lawS g (rsN g x (syW X (gN g) m) i) (syW X (gN g) m i) < 2147483648 by omega)), pn_a1]
        by_cases c1 : lawS g (rsN g x (syW X (gN g) m) i) (syW X (gN g) m i) = 0
        · rw [if_pos c1] at p4
          rw [if_pos c1]
          exact Or.inl ⟨f, υ', rfl, by omega, r2, r3, fun k hk => by rw [r6.1 205 (by omega) (by omega) (by omega)]; exact p3 k hk, p4, p5.trans r6.frm⟩
        · rw [if_neg c1] at p4
          rw [if_neg c1]
          obtain ⟨rfl, rfl⟩ := q2 d1 (by rw [p4]; exact hi)
          exact Or.inr ⟨υ', rfl, r2, p5.trans r6.frm⟩
      · rintro f υ hf ⟨p1, p2, p3, p4, p5⟩
        obtain ⟨f, rfl⟩ : ∃ j, f = j + 1 := ⟨f - 1, by omega⟩
        rw [Nat.sub_self] at p4
        have p4 : brN g x (syW X (gN g) m) m 0 = (m, 0) := p4
        obtain ⟨rfl, rfl⟩ := q3 d1 (by rw [p4]; exact Nat.lt_irrefl m)
        show ∃ τ2, en_oi (T_X12_says_109 (f + 1) _ _ _ _ ru υ) = _ ∧ _
        rw [t_X12_says_109, if_neg (by rw [pn_lt (by omega) (by omega)]; omega)]
        refine pl_for1 (F := fun f i (q : en_M) => T_X12_says_153 f (Int32.ofNat X) (Int32.ofNat m) (Int32.ofNat (X / (gN g + 1) ^ m)) (Int32.ofNat i) ru q) (P := fun i q => MI q (g, t, rwL (fun k => Int32.ofNat (syW X (gN g) m k)) i, x, us, kp) ∧ ∀ c, c ≠ 185 → c ≠ 190 → q c = υ c) (Q := fun r => ∃ τ2, en_oi r = some (1, τ2) ∧ MI τ2 (g, t, rwL (fun k => Int32.ofNat (syW X (gN g) m k)) m, x, us, kp) ∧ FrM τ τ2) (N := m) ?_ ?_ m 0 f (en_up υ 185 10 0) (by omega) (by omega) ⟨p1.begin, fun c h1 h2 => pu_row h1⟩
        · rintro f i σ hi ⟨o1, o2⟩
          obtain ⟨σ', s1, s2, s3, -⟩ := o1.add (by rw [rwL_len]; omega) (Int32.ofNat (syW X (gN g) m i))
          refine Or.inl ⟨σ', ?_, s2, fun c h1 h2 => by rw [s3 c h1 h2, o2 c h1 h2]⟩
          show T_X12_says_153 (f + 1) _ _ _ _ _ σ = _
          rw [t_X12_says_153, if_pos ((pn_lt (by omega) (by omega)).mpr hi), pn_ix (by omega) (by omega), Option.bind_some, show σ 205 i = Int32.ofNat (syW X (gN g) m i) by rw [o2 205 (by omega) (by omega)]; exact p3 i hi, s1, Option.bind_some, pn_a1]
        · rintro f σ ⟨o1, o2⟩
          show ∃ σ', en_oi (T_X12_says_153 (f + 1) _ _ _ _ _ σ) = _ ∧ _
          rw [t_X12_says_153, if_neg (by rw [pn_lt (by omega) (by omega)]; omega)]
          exact ⟨σ, rfl, o1, fun c hc => by rw [o2 c (by omega) (by omega), p5 c hc]⟩
