/-! naps: in how many rounds, the class -/
theorem q_fewest {g t ro x us kp} {B N s : Nat} {σ : en_M} (hA : AV B (g, t, ro, x, us, kp)) (hC : CI σ (g, t, ro, x, us, kp)) (hn5 : gN g ≤ 5) (hs : s = 1 ∨ s = 2) (hN : N ≤ 12) (hN1 : 1 ≤ N) (hP : ∀ k, k < N → PP g x σ k) :
    (∀ m, 1 ≤ m → m ≤ N → (∃ w, RE g x s m (fuC s (gN g)) w) → (∀ m', 1 ≤ m' → m' < m → ¬ ∃ w, RE g x s m' (fuC s (gN g)) w) → ∃ σ', O_X5_fewestRounds [.inr (103, 5, 0, 0), .inr (15, 7, 0, 0), .inl (Int32.ofNat (gN g)), .inl (Int32.ofNat s), .inl (Int32.ofNat N), .inr (3, 9, 0, 0)] σ = some (Int32.ofNat m, σ') ∧ CI σ' (g, t, rwL (fun k => Int32.ofNat (wkN g x s (fuC s (gN g)) m (k + 1)).2) m, x, us, kp) ∧ FrC σ σ') ∧
    ((∀ m, 1 ≤ m → m ≤ N → ¬ ∃ w, RE g x s m (fuC s (gN g)) w) → ∃ σ', O_X5_fewestRounds [.inr (103, 5, 0, 0), .inr (15, 7, 0, 0), .inl (Int32.ofNat (gN g)), .inl (Int32.ofNat s), .inl (Int32.ofNat N), .inr (3, 9, 0, 0)] σ = some (-2, σ') ∧ CI σ' (g, t, ro, x, us, kp) ∧ FrC σ σ') := by
  have hg : GV g := hA.1
  have hv : VS (gN g) B x := hA.2.2.2.2.2.2.2.1
  have h32 : 2 ^ gN g ≤ 32 := Nat.pow_le_pow_right (n := 2) (by decide) hn5
  have hFU := en_FU_ge
  have hF1 : fuC s (gN g) < 1024 := by rw [← (fu_e hs hn5).1]; exact eNM_lt (fu_e hs hn5).2
  have hCS : CS σ 15 x := hC.2.2.2.1
  have hf0 : ∀ c, c ≠ 103 → (en_up σ 103 6 (Int32.ofNat s)) c = σ c := fun c hc => pu_row hc
  have h60 : (en_up σ 103 6 (Int32.ofNat s)) 103 6 = Int32.ofNat s := pu_same _ _ _ _
  rw [o_X5_fewestRounds, t_X5_fewestRounds_0]
  generalize en_up σ 103 6 (Int32.ofNat s) = σa at hf0 h60 ⊢
  obtain ⟨q', e1, e2⟩ := pl_to (F := fun f i (q : Int32) => T_X5_fewestRounds_11 f 15 (Int32.ofNat (gN g)) (Int32.ofNat s) (Int32.ofNat N) q (Int32.ofNat i) σa) (P := fun i q => q = Int32.ofNat (fuC s i)) (N := gN g) (by
    rintro f i q hi rfl
    refine ⟨Int32.ofNat (fuC s (i + 1)), ?_, rfl⟩
    show T_X5_fewestRounds_11 (f + 1) 15 _ _ _ _ _ σa = _
    rw [t_X5_fewestRounds_11, if_pos ((pn_lt (by omega) (by omega)).mpr hi), if_pos (show Int32.ofNat i < (5 : Int32) from (pn_lt (b := 5) (by omega) (by omega)).mpr (by omega)), show (2 : Int32) * Int32.ofNat i = Int32.ofNat (2 * i) from pn_mul 2 i, pb_shl s (by omega), pn_or, pn_a1]; rfl) (gN g) 0 en_FU 0 (by omega) (by omega) rfl
  have e2 : q' = Int32.ofNat (fuC s (gN g)) := e2
  subst e2
  have e1 : T_X5_fewestRounds_11 en_FU 15 (Int32.ofNat (gN g)) (Int32.ofNat s) (Int32.ofNat N) 0 0 σa = T_X5_fewestRounds_11 (en_FU - gN g) 15 (Int32.ofNat (gN g)) (Int32.ofNat s) (Int32.ofNat N) (Int32.ofNat (fuC s (gN g))) (Int32.ofNat (gN g)) σa := e1
  obtain ⟨f1, hf1⟩ : ∃ j, en_FU - gN g = j + 1 := ⟨en_FU - gN g - 1, by omega⟩
  generalize hFd : fuC s (gN g) = F at *
  obtain ⟨σb, b1, b2, b3, b4, b5⟩ := q_beginNaps (n := N) (s := s) (σ := σa) hg hn5 hv hs hN hN1 (fun k hk => (hP k hk).fr (by omega) (fun c _ _ => hf0 c (by omega))) h60 (by rw [hf0 15 (by omega)]; exact hCS.2.2.2.1) (by rw [hf0 15 (by omega)]; exact hCS.2.2.2.2.1)
  rw [e1, hf1, t_X5_fewestRounds_11, if_neg (show ¬ Int32.ofNat (gN g) < Int32.ofNat (gN g) by rw [pn_lt (by omega) (by omega)]; omega), b1, Option.bind_some]
  have hPb : ∀ (q : en_M), (∀ a, a < 146 ∨ 159 ≤ a → q a = σb a) → ∀ k, k < N → PP g x q k := fun q hq k hk => (hP k hk).fr (by omega) (fun c _ _ => by rw [hq c (by omega), b5 c (by omega), hf0 c (by omega)])
  have hCb : ∀ (q : en_M), (∀ a, a < 146 ∨ 159 ≤ a → q a = σb a) → CI q (g, t, ro, x, us, kp) := fun q hq => hC.kept (fun c hc => by rw [hq c (by omega), b5 c (by omega), hf0 c (by omega)]) (by rw [hq 10 (by omega), b5 10 (by omega), hf0 10 (by omega)])
  have hfr : ∀ (q : en_M), (∀ a, a < 146 ∨ 159 ≤ a → q a = σb a) → FrC σ q := fun q hq c hc => by rw [hq c (by omega), b5 c (by omega), hf0 c (by omega)]
  have h6b : ∀ (q : en_M), (∀ a, a < 146 ∨ 159 ≤ a → q a = σb a) → q 103 6 = Int32.ofNat s := fun q hq => by rw [hq 103 (by omega), b5 103 (by omega)]; exact h60
  have hFb : ∀ (q : en_M), (∀ a, a < 146 ∨ 159 ≤ a → q a = σb a) → ∀ k, 1 ≤ k → k < N → BF g x q k := fun q hq k h1 h2 t ht hl => by rw [hq _ (by omega)]; exact b4 k h1 h2 t ht hl
  have found : ∀ (m : Nat) (q : en_M) (r : en_R), 1 ≤ m → m ≤ N → (∀ a, a < 146 ∨ 159 ≤ a → q a = σb a) → (∀ k, 1 ≤ k → k ≤ m → CL g x s q k) → (∃ w, RE g x s m F w) → (∀ m', 1 ≤ m' → m' < m → ¬ ∃ w, RE g x s m' F w) → r = ((O_X5_narrow [.inr (103, 5, 0, 0), .inl (Int32.ofNat m), .inl (Int32.ofNat F)] q).bind fun r5 => (O_X5_tellNaps [.inr (103, 5, 0, 0), .inr (15, 7, 0, 0), .inl (Int32.ofNat m), .inr (3, 9, 0, 0)] r5).bind fun r6 => en_ri (Int32.ofNat m) r6) →
      (∀ m, 1 ≤ m → m ≤ N → (∃ w, RE g x s m F w) → (∀ m', 1 ≤ m' → m' < m → ¬ ∃ w, RE g x s m' F w) → ∃ σ', en_oi r = some (Int32.ofNat m, σ') ∧ CI σ' (g, t, rwL (fun k => Int32.ofNat (wkN g x s F m (k + 1)).2) m, x, us, kp) ∧ FrC σ σ') ∧ ((∀ m, 1 ≤ m → m ≤ N → ¬ ∃ w, RE g x s m F w) → ∃ σ', en_oi r = some (-2, σ') ∧ CI σ' (g, t, ro, x, us, kp) ∧ FrC σ σ') := by
    rintro m q r hm1 hm2 hq hL hw hmin rfl
    refine ⟨fun m2 h1 h2 h3 h4 => ?_, fun h => absurd hw (h m hm1 hm2)⟩
    have : m2 = m := by
      refine Nat.le_antisymm (Nat.le_of_not_lt fun hlt => h4 m hm1 hlt hw) (Nat.le_of_not_lt fun hlt => hmin m2 h1 hlt h3)
    subst this
    obtain ⟨w, hw⟩ := hw
    obtain ⟨q2, n1, n2, n3⟩ := q_narrow (F := F) (m := m2) (σ := q) hn5 hs (by omega) hm1 hF1 (fun k hk => hPb q hq k (by omega)) (h6b q hq) (fun k h1 h2 => hFb q hq k h1 (by omega)) hL
    have hq2 : ∀ a, a < 146 ∨ 159 ≤ a → q2 a = σb a := fun a ha => by rw [n3 a ha, hq a ha]
    obtain ⟨q3, t1, t2, t3⟩ := q_tellNaps (F := F) (m := m2) (σ := q2) hA (hCb q2 hq2) hn5 hs (by omega) (fun k hk => hPb q2 hq2 k (by omega)) (h6b q2 hq2) n2 hw
    rw [n1, Option.bind_some, t1, Option.bind_some]
    exact ⟨q3, rfl, t2, (hfr q2 hq2).trans t3⟩
  have hz : ∀ (m : Nat) (q : en_M), CL g x s q m → ((q (145 + 1 + m) F = 0) = ¬ ∃ w, RE g x s m F w) := fun m q hL => by
    rw [BS_z (hL F hF1)]
    exact propext ⟨fun h ⟨w, hw⟩ => h w (by have := RE_lt hw; omega) hw, fun h i _ hh => h ⟨i, hh⟩⟩
  refine pl_for1 (F := fun f i (q : en_M) => T_X5_fewestRounds_50 f 15 (Int32.ofNat (gN g)) (Int32.ofNat s) (Int32.ofNat N) (Int32.ofNat F) (Int32.ofNat (i + 1)) q) (P := fun i q => (∀ a, a < 146 ∨ 159 ≤ a → q a = σb a) ∧ (∀ k, 1 ≤ k → k ≤ i + 1 → CL g x s q k) ∧ (∀ k, i + 2 ≤ k → k ≤ N → ∀ c, c < 1024 → q (145 + 1 + k) c = 0) ∧ ∀ m', 1 ≤ m' → m' < i + 1 → ¬ ∃ w, RE g x s m' F w)
    (Q := fun r => (∀ m, 1 ≤ m → m ≤ N → (∃ w, RE g x s m F w) → (∀ m', 1 ≤ m' → m' < m → ¬ ∃ w, RE g x s m' F w) → ∃ σ', en_oi r = some (Int32.ofNat m, σ') ∧ CI σ' (g, t, rwL (fun k => Int32.ofNat (wkN g x s F m (k + 1)).2) m, x, us, kp) ∧ FrC σ σ') ∧ ((∀ m, 1 ≤ m → m ≤ N → ¬ ∃ w, RE g x s m F w) → ∃ σ', en_oi r = some (-2, σ') ∧ CI σ' (g, t, ro, x, us, kp) ∧ FrC σ σ')) (N := N - 1) ?_ ?_ (N - 1) 0 f1 σb (by omega) (by omega) ⟨fun _ _ => rfl, fun k h1 h2 => by rw [show k = 1 by omega]; exact b2, fun k h1 h2 => b3 k (by omega) h2, fun m' h1 h2 => absurd h2 (by omega)⟩
  · rintro f i q hi ⟨p1, p2, p3, p4⟩
    have hzq := hz (i + 1) q (p2 (i + 1) (by omega) (by omega))
    show (∃ q', T_X5_fewestRounds_50 (f + 1) 15 _ _ _ _ (Int32.ofNat (i + 1)) q = _ ∧ _) ∨ ((∀ m, 1 ≤ m → m ≤ N → (∃ w, RE g x s m F w) → (∀ m', 1 ≤ m' → m' < m → ¬ ∃ w, RE g x s m' F w) → ∃ σ', en_oi (T_X5_fewestRounds_50 (f + 1) 15 _ _ _ _ (Int32.ofNat (i + 1)) q) = _ ∧ _) ∧ (_ → ∃ σ', en_oi (T_X5_fewestRounds_50 (f + 1) 15 _ _ _ _ (Int32.ofNat (i + 1)) q) = _ ∧ _))
    rw [t_X5_fewestRounds_50, if_pos (show Int32.ofNat (i + 1) < Int32.ofNat N from (pn_lt (by omega) (by omega)).mpr (by omega)), pn_ix (show i + 1 < 13 by omega) (by omega), Option.bind_some, pn_ix hF1 (by omega), Option.bind_some, Option.bind_some, Option.bind_some]
    by_cases c : q (145 + 1 + (i + 1)) F = 0
    · have hno := (iff_of_eq hzq).mp c
      rw [if_pos c]
      obtain ⟨q', w1, w2, w3⟩ := q_widen (k := i + 1) (σ := q) hn5 hs (by omega) (by omega) (hPb q p1 (i + 1) (by omega)) (h6b q p1) (p2 (i + 1) (by omega) (by omega)) (hFb q p1 (i + 1) (by omega) (by omega)) (p3 (i + 2) (by omega) (by omega))
      rw [w1, Option.bind_some, pn_a1]
      refine Or.inl ⟨q', rfl, fun a ha => by rw [w3 a (by omega)]; exact p1 a ha, fun k h1 h2 => ?_, fun k h1 h2 c hc => by rw [w3 _ (by omega)]; exact p3 k (by omega) h2 c hc, fun m' h1 h2 => ?_⟩
      · by_cases e : k = i + 1 + 1
        · rw [e]; exact w2
        · intro c hc
          rw [w3 _ (by omega)]; exact p2 k h1 (by omega) c hc
      · by_cases e : m' = i + 1
        · rw [e]; exact hno
        · exact p4 m' h1 (by omega)
    · rw [if_neg c, if_neg c]
      exact Or.inr (found (i + 1) q _ (by omega) (by omega) p1 p2 (Classical.byContradiction fun h => c ((iff_of_eq hzq).mpr h)) p4 rfl)
  · rintro f q ⟨p1, p2, p3, p4⟩
    rw [show N - 1 + 1 = N by omega] at p2 p4
    have hzq := hz N q (p2 N (by omega) (by omega))
    show (∀ m, 1 ≤ m → m ≤ N → (∃ w, RE g x s m F w) → (∀ m', 1 ≤ m' → m' < m → ¬ ∃ w, RE g x s m' F w) → ∃ σ', en_oi (T_X5_fewestRounds_50 (f + 1) 15 _ _ _ _ (Int32.ofNat (N - 1 + 1)) q) = _ ∧ _) ∧ (_ → ∃ σ', en_oi (T_X5_fewestRounds_50 (f + 1) 15 _ _ _ _ (Int32.ofNat (N - 1 + 1)) q) = _ ∧ _)
    rw [show N - 1 + 1 = N by omega, t_X5_fewestRounds_50, if_neg (show ¬ Int32.ofNat N < Int32.ofNat N by rw [pn_lt (by omega) (by omega)]; omega), pn_ix (show N < 13 by omega) (by omega), Option.bind_some, pn_ix hF1 (by omega), Option.bind_some]
    by_cases c : q (145 + 1 + N) F = 0
    · have hno := (iff_of_eq hzq).mp c
      rw [if_pos c]
      refine ⟨fun m h1 h2 h3 h4 => ?_, fun _ => ⟨q, rfl, hCb q p1, hfr q p1⟩⟩
      by_cases e : m = N
      · rw [e] at h3; exact absurd h3 hno
      · exact absurd h3 (p4 m h1 (by omega))
    · rw [if_neg c]
      exact found N q _ hN1 (Nat.le_refl _) p1 p2 (Classical.byContradiction fun h => c ((iff_of_eq hzq).mpr h)) p4 rfl
