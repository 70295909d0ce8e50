/-! said, sheet -/
/-- said: the number and the gaps, the rounds j-th ahead down to the latest; j rounds are still to be read -/
def sdV (n : Nat) (x : pS) : Nat → Int32 → Int32
  | 0, a => a
  | j + 1, a => sdV n x j (a * (Int32.ofNat n + 1) + (fsI (sM x j) 7 0 + 1))
def sdG (x : pS) : Nat → Int32 → Int32
  | 0, a => a
  | j + 1, a => sdG x j (a + (if sM x j = 0 then 0 else 1))
theorem p_said : en_st_said pInv := by
  intro c v hc
  refine p_two hc (fun A σ0 hA hB => ?_)
  obtain ⟨g, t, ro, x, us, kp⟩ := A
  have hn : gN g ≤ 7 := hA.1.1
  have hVS : VS (gN g) (2000 * c) x := hA.2.2.2.2.2.2.2.1
  have hN : sN x ≤ 2000 * c := hVS.2.1
  have same : ∀ w : Int32, (CI σ0 (g, t, ro, x, us, kp) → O_X11_said [.inr (0, 11, 0, 0), .inl v] σ0 = some (w, σ0)) → (∀ τ, MI τ (g, t, ro, x, us, kp) → O_X12_said [.inr (185, 12, 0, 0), .inl v] τ = some (w, en_up τ 185 11 0)) → ∃ v' A', (CI σ0 (g, t, ro, x, us, kp) → ∃ σ', O_X11_said [.inr (0, 11, 0, 0), .inl v] σ0 = some (v', σ') ∧ CI σ' A' ∧ FrC σ0 σ') ∧ (∀ τ, MI τ (g, t, ro, x, us, kp) → ∃ τ', O_X12_said [.inr (185, 12, 0, 0), .inl v] τ = some (v', τ') ∧ MI τ' A' ∧ FrM τ τ') ∧ AV (2000 * (c + 1)) A' :=
    fun w h1 h2 => ⟨w, _, fun hC => ⟨σ0, h1 hC, hC, FrC.refl _⟩, fun τ hM => ⟨_, h2 τ hM, hM.slot 11 0 (by omega), FrM.up (by omega) (by omega)⟩, hA.mono (by omega)⟩
  have i32 : en_ix 32 53 = some 32 := pn_ix (k := 32) (by omega) (by omega)
  by_cases hv : ¬ v < 1 ∧ ¬ 9 < v
  · obtain ⟨k, hk, rfl⟩ := pn_nn (x := v) (Int32.le_trans (by decide : (0 : Int32) ≤ 1) (Int32.not_lt.mp hv.1))
    have k1 : 1 ≤ k := Nat.le_of_not_lt fun q => hv.1 ((pn_lt (b := 1) hk (by omega)).mpr q)
    have k9 : k ≤ 9 := Nat.le_of_not_lt fun q => hv.2 ((pn_lt (a := 9) (by omega) hk).mpr q)
    have hin : ∀ τ : en_M, ¬ ((pb2 (¬ Int32.ofNat k < 1 ∧ ¬ (9 : Int32) < Int32.ofNat k), τ) : Int32 × en_M).1 = 0 := fun τ => by dsimp only; rw [pb2_0]; exact fun q => q hv
    by_cases hz : gN g = 0
    · refine same (-1) (fun hC => ?_) (fun τ hM => ?_)
      · rw [o_X11_said, t_X11_said_0, show σ0 5 3 = Int32.ofNat (gN g) from hC.1.1, hz, if_pos (by decide)]; rfl
      · rw [o_X12_said, t_X12_said_0, q_in, Option.bind_some, if_neg (hin _)]
        dsimp only
        rw [if_pos (show (en_up τ 185 11 0) 185 1 = 0 by rw [pu_slot (by omega), show τ 185 1 = Int32.ofNat (gN g) from hM.1.1, hz]; rfl)]; rfl
    have nz : ¬ Int32.ofNat (gN g) = 0 := by rw [pn_eq0 (by omega)]; exact hz
    by_cases hkn : k ≤ sN x
    · refine ⟨sdV (gN g) x k 0, (g, t, [sdG x k 0], x, us, kp), fun hC => ?_, fun τ hM => ?_, (hA.row (ro' := [sdG x k 0]) (by simp)).mono (by omega)⟩
      · have hS := hC.2.2.2.1
        rw [o_X11_said, t_X11_said_0, show σ0 5 3 = Int32.ofNat (gN g) from hC.1.1, if_neg nz, if_neg hv.1, if_neg hv.2, q_knows hS.2.1 (by show sN x < _; omega) hk, Option.bind_some, if_pos (show 1 ≤ k ∧ k ≤ 20 ∧ k ≤ sN (iS (g, t, ro, x, us, kp)) from ⟨k1, by omega, hkn⟩), if_neg (show ¬ (1 : Int32) = 0 by decide)]
        refine pl_for1 (F := fun m i (q : Int32 × Int32 × en_V) => T_X11_said_44 m (Int32.ofNat k) q.1 q.2.1 (Int32.ofNat (k - i)) q.2.2 σ0) (P := fun i q => sdV (gN g) x k 0 = sdV (gN g) x (k - i) q.1 ∧ sdG x k 0 = sdG x (k - i) q.2.1) (Q := fun r => ∃ σ', en_oi r = some (sdV (gN g) x k 0, σ') ∧ CI σ' (g, t, [sdG x k 0], x, us, kp) ∧ FrC σ0 σ') (N := k) ?_ ?_ k 0 en_FU (0, 0, en_un) (by omega) (pl_FU (by omega)) ⟨rfl, rfl⟩
        · rintro m i ⟨a, b, u⟩ hi ⟨p1, p2⟩
          dsimp only at p1 p2
          rw [show k - i = (k - (i + 1)) + 1 by omega] at p1 p2
          have hM' := hVS.2.2.2.2.1 (k - (i + 1)) (by omega)
          have h128 := p2lt hn
          refine Or.inl ⟨(a * (Int32.ofNat (gN g) + 1) + (fsI (sM x (k - (i + 1))) 7 0 + 1), b + (if sM x (k - (i + 1)) = 0 then 0 else 1), .inl (Int32.ofNat (sM x (k - (i + 1))))), ?_, p1, p2⟩
          show T_X11_said_44 (m + 1) _ _ _ (Int32.ofNat (k - i)) _ σ0 = _
          rw [t_X11_said_44, if_neg (show ¬ Int32.ofNat (k - i) < (1 : Int32) from fun q => by have := (pn_lt (b := 1) (by omega) (by omega)).mp q; omega), q_missedIn hS (by show sN x < _; omega) (by omega) (by omega) (by show k - i ≤ sN x; omega), Option.bind_some]
          dsimp only
          rw [show sM (iS (g, t, ro, x, us, kp)) (k - i - 1) = sM x (k - (i + 1)) by rw [show k - i - 1 = k - (i + 1) by omega]; rfl, q_firstOf (by omega), Option.bind_some, show σ0 5 3 = Int32.ofNat (gN g) from hC.1.1, pn_dec (by omega), show k - i - 1 = k - (i + 1) by omega, pi_if (pn_eq0 (by omega))]
          dsimp only
          by_cases hs : sM x (k - (i + 1)) = 0
          · rw [if_pos hs, if_pos hs, Int32.add_assoc]
          · rw [if_neg hs, if_neg hs, Int32.add_assoc]
        · rintro m ⟨a, b, u⟩ ⟨p1, p2⟩
          dsimp only at p1 p2
          rw [Nat.sub_self] at p1 p2
          have p1 : sdV (gN g) x k 0 = a := p1
          have p2 : sdG x k 0 = b := p2
          show ∃ σ', en_oi (T_X11_said_44 (m + 1) _ _ _ (Int32.ofNat (k - k)) _ σ0) = _ ∧ _
          obtain ⟨σ3, g1, g2, g3⟩ := hC.begin.add (by simp) b
          rw [t_X11_said_44, if_pos (show Int32.ofNat (k - k) < (1 : Int32) by rw [Nat.sub_self]; decide), q_tbegin, Option.bind_some, g1, Option.bind_some, p1, p2]
          exact ⟨σ3, rfl, g2, fun c hc => by rw [g3 c (by omega) (by omega), pu_row (by omega)]⟩
      · have hM2 := hM.slot 11 0 (by omega)
        generalize hτ0 : en_up τ 185 11 0 = τ0 at hM2
        obtain ⟨-, -, -, -, -, -, h7, h8⟩ := hM2.2.2.2.1
        have h7 : τ0 186 32 = Int32.ofNat (min 20 (sN x)) := h7
        have h8 : ∀ j, j < 20 → τ0 186 (33 + j) = Int32.ofNat (sM x j) := h8
        have h1 : τ0 185 1 = Int32.ofNat (gN g) := hM2.1.1
        have hf0 : ∀ c, c ≠ 185 → τ0 c = τ c := fun c h => by rw [← hτ0, pu_row h]
        rw [o_X12_said, t_X12_said_0, hτ0, q_in, Option.bind_some, if_neg (hin _)]
        dsimp only
        rw [if_neg (show ¬ τ0 185 1 = 0 by rw [h1]; exact nz), i32, Option.bind_some, if_neg (show ¬ τ0 186 32 < Int32.ofNat k by rw [h7, pn_lt (by omega) hk]; omega), show (Int32.ofNat k - 1 : Int32) = Int32.ofNat (k - 1) by rw [show (1 : Int32) = Int32.ofNat 1 from rfl, pn_sub k1]]
        refine pl_for1 (F := fun m i (q : Int32 × Int32 × Int32 × en_V) => T_X12_said_47 m (Int32.ofNat k) q.1 q.2.1 q.2.2.1 q.2.2.2 τ0) (P := fun i q => sdV (gN g) x k 0 = sdV (gN g) x (k - i) q.1 ∧ sdG x k 0 = sdG x (k - i) q.2.1 ∧ q.2.2.1 = if i < k then Int32.ofNat (k - 1 - i) else -1) (Q := fun r => ∃ τ', en_oi r = some (sdV (gN g) x k 0, τ') ∧ MI τ' (g, t, [sdG x k 0], x, us, kp) ∧ FrM τ τ') (N := k) ?_ ?_ k 0 en_FU (0, 0, Int32.ofNat (k - 1), en_un) (by omega) (pl_FU (by omega)) ⟨rfl, rfl, by rw [if_pos (by omega)]; rfl⟩
        · rintro m i ⟨a, b, y, u⟩ hi ⟨p1, p2, p3⟩
          dsimp only at p1 p2 p3
          rw [if_pos hi] at p3
          subst p3
          rw [show k - i = (k - (i + 1)) + 1 by omega] at p1 p2
          have hM' := hVS.2.2.2.2.1 (k - (i + 1)) (by omega)
          have h128 := p2lt hn
          have ey : Int32.ofNat (k - 1 - i) + (-1) = if i + 1 < k then Int32.ofNat (k - 1 - (i + 1)) else -1 := by
            by_cases h : i + 1 < k
            · rw [if_pos h, pn_dec (by omega)]; rfl
            · rw [if_neg h, show k - 1 - i = 0 by omega]; decide
          refine Or.inl ⟨(a * (Int32.ofNat (gN g) + 1) + (fsI (sM x (k - (i + 1))) 7 0 + 1), b + (if sM x (k - (i + 1)) = 0 then 0 else 1), Int32.ofNat (k - 1 - i) + (-1), .inl (Int32.ofNat (sM x (k - (i + 1))))), ?_, p1, p2, ey⟩
          show T_X12_said_47 (m + 1) _ _ _ (Int32.ofNat (k - 1 - i)) _ τ0 = _
          rw [t_X12_said_47, if_neg (pn_nlt0 (by omega)), show (33 : Int32) + Int32.ofNat (k - 1 - i) = Int32.ofNat (33 + (k - 1 - i)) from pn_add 33 _, pn_ix (by omega) (by omega), Option.bind_some, show k - 1 - i = k - (i + 1) by omega, h8 _ (by omega), h1, q_ntz, Option.bind_some]
          dsimp only
          simp only [pi_if (pn_eq0 (show sM x (k - (i + 1)) < 2147483648 by omega))]
          by_cases hs : sM x (k - (i + 1)) = 0
          · simp only [if_pos hs]
            rw [hs, fs_0]; rfl
          · simp only [if_neg hs]
            rw [ntz_fs (by omega) hs]
        · rintro m ⟨a, b, y, u⟩ ⟨p1, p2, p3⟩
          dsimp only at p1 p2 p3
          rw [if_neg (Nat.lt_irrefl k)] at p3
          subst p3
          rw [Nat.sub_self] at p1 p2
          have p1 : sdV (gN g) x k 0 = a := p1
          have p2 : sdG x k 0 = b := p2
          show ∃ τ', en_oi (T_X12_said_47 (m + 1) _ _ _ (-1) _ τ0) = _ ∧ _
          obtain ⟨τ3, g1, g2, g3, g4⟩ := hM2.begin.add (by simp) b
          rw [t_X12_said_47, if_pos (by decide), g1, Option.bind_some, p1, p2]
          exact ⟨τ3, rfl, g2, fun c hc => by rw [g3 c (by omega) (by omega), pu_row (by omega), hf0 c (by omega)]⟩
    · refine same (-2) (fun hC => ?_) (fun τ hM => ?_)
      · have hS := hC.2.2.2.1
        rw [o_X11_said, t_X11_said_0, show σ0 5 3 = Int32.ofNat (gN g) from hC.1.1, if_neg nz, if_neg hv.1, if_neg hv.2, q_knows hS.2.1 (by show sN x < _; omega) hk, Option.bind_some, if_neg (show ¬ (1 ≤ k ∧ k ≤ 20 ∧ k ≤ sN (iS (g, t, ro, x, us, kp))) from fun q => hkn q.2.2), if_pos (show (0 : Int32) = 0 from rfl)]; rfl
      · obtain ⟨-, -, -, -, -, -, h7, h8⟩ := (hM.slot 11 0 (by omega)).2.2.2.1
        rw [o_X12_said, t_X12_said_0, q_in, Option.bind_some, if_neg (hin _)]
        dsimp only
        rw [if_neg (show ¬ (en_up τ 185 11 0) 185 1 = 0 by rw [pu_slot (by omega), show τ 185 1 = Int32.ofNat (gN g) from hM.1.1]; exact nz), i32, Option.bind_some, if_pos (show (en_up τ 185 11 0) 186 32 < Int32.ofNat k by rw [h7, pn_lt (by omega) hk]; show min 20 (sN x) < k; omega)]; rfl
  · refine same (-1) (fun hC => ?_) (fun τ hM => ?_)
    · rw [o_X11_said, t_X11_said_0]
      by_cases hz : σ0 5 3 = 0
      · rw [if_pos hz]; rfl
      · rw [if_neg hz]
        by_cases v1 : v < 1
        · rw [if_pos v1]; rfl
        · rw [if_neg v1, if_pos (Classical.byContradiction fun q => hv ⟨v1, q⟩)]; rfl
    · rw [o_X12_said, t_X12_said_0, q_in, Option.bind_some]
      rw [if_pos (by dsimp only; rw [pb2_0]; exact hv)]; rfl
