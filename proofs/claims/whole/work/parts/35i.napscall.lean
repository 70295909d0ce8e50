/-! naps: the call -/
theorem r_naps {g t x us kp ro} {B N s : Nat} {τ : en_M} (hA : AV B (g, t, ro, x, us, kp)) (hM : MI τ (g, t, ro, x, us, kp)) (hB : B + N < 1000000000) (hn0 : 0 < gN g) (hn5 : gN g ≤ 5) (hs : s = 1 ∨ s = 2) (h197 : ∀ k p, k ≤ N → p < gN g → τ 197 (7 * k + p) = Int32.ofNat (odN g x k p)) (hN : N ≤ 12) (hN1 : 1 ≤ N) :
    (∀ m, 1 ≤ m → m ≤ N → (∃ w, RE g x s m (fuC s (gN g)) w) → (∀ m', 1 ≤ m' → m' < m → ¬ ∃ w, RE g x s m' (fuC s (gN g)) w) → ∃ τ', en_oi (T_X12_naps_58 en_FU (Int32.ofNat s) (Int32.ofNat N) (Int32.ofNat (fuM s (gN g))) 0 τ) = some (Int32.ofNat m, τ') ∧ MI τ' (g, t, rwL (fun k => Int32.ofNat (wkN g x s (fuC s (gN g)) m (k + 1)).2) m, x, us, kp) ∧ FrM τ τ') ∧
    ((∀ m, 1 ≤ m → m ≤ N → ¬ ∃ w, RE g x s m (fuC s (gN g)) w) → ∃ τ', en_oi (T_X12_naps_58 en_FU (Int32.ofNat s) (Int32.ofNat N) (Int32.ofNat (fuM s (gN g))) 0 τ) = some (-2, τ') ∧ MI τ' (g, t, ro, x, us, kp) ∧ FrM τ τ') := by
  have hg : GV g := hA.1
  have h32 : 2 ^ gN g ≤ 32 := Nat.pow_le_pow_right (n := 2) (by decide) hn5
  have hFU := en_FU_ge
  obtain ⟨hfe, hfl⟩ := fu_e hs hn5
  have hfp := fuM_pos hs (gN g) hn0
  generalize hFd : fuC s (gN g) = F at *
  generalize hMd : fuM s (gN g) = fm at *
  -- the tables cleared
  obtain ⟨q1, e1, a1, a2⟩ := pl_to (F := fun f i (q : en_M) => T_X12_naps_58 f (Int32.ofNat s) (Int32.ofNat N) (Int32.ofNat fm) (Int32.ofNat i) q) (P := fun i q => (∀ j, j < i → q 203 j = 0 ∧ q 204 j = 0) ∧ ∀ a, a ≠ 203 → a ≠ 204 → q a = τ a) (N := 3159) (by
    rintro f i q hi ⟨o1, o2⟩
    refine ⟨en_up (en_up q 203 i 0) 204 i 0, ?_, fun j hj => ?_, fun a h1 h2 => by rw [pu_row h2, pu_row h1]; exact o2 a h1 h2⟩
    · show T_X12_naps_58 (f + 1) _ _ _ (Int32.ofNat i) q = _
      rw [t_X12_naps_58, if_pos (show Int32.ofNat i < Int32.ofNat 3159 from (pn_lt (by omega) (by omega)).mpr hi), pn_ix hi (by omega), Option.bind_some, Option.bind_some, pn_a1]
    · by_cases e : j = i
      · rw [e, pu_cell (show 203 ≠ 204 by omega), pu_same q 203 i 0, pu_same _ 204 i 0]
        exact ⟨rfl, rfl⟩
      · rw [pu_cell (show 203 ≠ 204 by omega), pu_slot e, pu_slot e, pu_cell (show 204 ≠ 203 by omega)]
        exact o1 j (by omega)) 3159 0 en_FU τ (by omega) (by omega) ⟨fun j hj => absurd hj (by omega), fun _ _ _ => rfl⟩
  have e1 : T_X12_naps_58 en_FU (Int32.ofNat s) (Int32.ofNat N) (Int32.ofNat fm) 0 τ = T_X12_naps_58 (en_FU - 3159) (Int32.ofNat s) (Int32.ofNat N) (Int32.ofNat fm) (Int32.ofNat 3159) q1 := e1
  obtain ⟨f1, hf1⟩ : ∃ j, en_FU - 3159 = j + 1 := Nat.exists_eq_succ_of_ne_zero (by omega)
  rw [e1, hf1, t_X12_naps_58, if_neg (show ¬ Int32.ofNat 3159 < Int32.ofNat 3159 by rw [pn_lt (by omega) (by omega)]; omega), show en_ix (0 : Int32) 3159 = some 0 from pn_ix (k := 0) (by omega) (by omega), Option.bind_some]
  -- the beginning
  have b1 : MTb g x s (en_up q1 203 0 1) 0 := fun v hv => by
    have hz : ∀ w, RE g x s 0 (eNM v) w ↔ v = 0 ∧ w = 0 := fun w => ⟨fun h => ⟨eNM_inj hv (by omega) (by rw [h.1]; rfl), h.2⟩, fun h => ⟨by rw [h.1]; rfl, h.2⟩⟩
    rw [Nat.mul_zero, Nat.zero_add]
    by_cases e : v = 0
    · rw [e, pu_same q1 203 0 1]
      have h1 : BS (1 : Int32) (fun i => i = 0) := BS_1 (j := 0) (by omega)
      rw [e] at hz
      exact BS_of h1 (fun w _ => ⟨fun h => (hz w).mpr ⟨rfl, h⟩, fun h => ((hz w).mp h).2⟩)
    · rw [pu_slot e, (a1 v (by omega)).1]
      exact BS_0 (fun w _ h => e ((hz w).mp h).1)
  have b2 : ∀ k, 1 ≤ k → k ≤ 12 → ∀ v, v < 243 → (en_up q1 203 0 1) 203 (243 * k + v) = 0 := fun k h1 h2 v hv => by rw [pu_slot (by omega)]; exact (a1 _ (by omega)).1
  have b3 : ∀ j, j < 3159 → (en_up q1 203 0 1) 204 j = 0 := fun j hj => by rw [pu_cell (by omega)]; exact (a1 j hj).2
  have b4 : ∀ a, a ≠ 203 → a ≠ 204 → (en_up q1 203 0 1) a = τ a := fun a h1 h2 => by rw [pu_row h1]; exact a2 a h1 h2
  generalize en_up q1 203 0 1 = σb at b1 b2 b3 b4 ⊢
  have hMq : ∀ q : en_M, (∀ a, a ≠ 203 → a ≠ 204 → q a = τ a) → MI q (g, t, ro, x, us, kp) := fun q h => hM.off2 h
  have h197q : ∀ q : en_M, (∀ a, a ≠ 203 → a ≠ 204 → q a = τ a) → ∀ k p, k ≤ N → p < gN g → q 197 (7 * k + p) = Int32.ofNat (odN g x k p) := fun q h k p h1 h2 => by rw [h 197 (by omega) (by omega)]; exact h197 k p h1 h2
  have hfr : ∀ q : en_M, (∀ a, a ≠ 203 → a ≠ 204 → q a = τ a) → FrM τ q := fun q h c hc => h c (by omega) (by omega)
  have hix : ∀ k, k ≤ 12 → en_ix ((243 : Int32) * Int32.ofNat k + Int32.ofNat fm) 3159 = some (243 * k + fm) := fun k hk => by
    rw [show (243 : Int32) * Int32.ofNat k = Int32.ofNat (243 * k) from pn_mul 243 _, pn_add]
    exact pn_ix (by omega) (by omega)
  have hz : ∀ (m : Nat) (q : en_M), MTb g x s q m → ((q 203 (243 * m + fm) = 0) = ¬ ∃ w, RE g x s m F w) := fun m q hL => by
    rw [BS_z (hL fm hfl), hfe]
    exact propext ⟨fun h ⟨w, hw⟩ => h w (by have := RE_lt hw; omega) hw, fun h i _ hh => h ⟨i, hh⟩⟩
  have found : ∀ (m f : Nat) (q : en_M) (r : en_R), 1 ≤ m → m ≤ N → 20000 < f → (∀ a, a ≠ 203 → a ≠ 204 → q a = τ a) → (∀ k, k ≤ m → MTb g x s q k) → (∀ j, j < 3159 → q 204 j = 0) → (∃ w, RE g x s m F w) → (∀ m', 1 ≤ m' → m' < m → ¬ ∃ w, RE g x s m' F w) → r = T_X12_naps_186 f (Int32.ofNat s) (Int32.ofNat N) (Int32.ofNat fm) (Int32.ofNat m) (Int32.ofNat m - (1 : Int32)) (en_up q 204 (243 * m + fm) (q 203 (243 * m + fm))) →
      (∀ m, 1 ≤ m → m ≤ N → (∃ w, RE g x s m F w) → (∀ m', 1 ≤ m' → m' < m → ¬ ∃ w, RE g x s m' F w) → ∃ τ', en_oi r = some (Int32.ofNat m, τ') ∧ MI τ' (g, t, rwL (fun k => Int32.ofNat (wkN g x s F m (k + 1)).2) m, x, us, kp) ∧ FrM τ τ') ∧ ((∀ m, 1 ≤ m → m ≤ N → ¬ ∃ w, RE g x s m F w) → ∃ τ', en_oi r = some (-2, τ') ∧ MI τ' (g, t, ro, x, us, kp) ∧ FrM τ τ') := by
    rintro m f q r hm1 hm2 hf hq hL h0 hw hmin rfl
    refine ⟨fun m2 h1 h2 h3 h4 => ?_, fun h => absurd hw (h m hm1 hm2)⟩
    have : m2 = m := by
      refine Nat.le_antisymm (Nat.le_of_not_lt fun hlt => h4 m hm1 hlt hw) (Nat.le_of_not_lt fun hlt => hmin m2 h1 hlt h3)
    subst this
    obtain ⟨w, hw⟩ := hw
    -- the last row
    have c1 : NTb g x s F m2 (en_up q 204 (243 * m2 + fm) (q 203 (243 * m2 + fm))) m2 := fun v hv => by
      rw [Nat.sub_self]
      by_cases e : v = fm
      · rw [e, pu_same]
        exact BS_of (hL m2 (Nat.le_refl _) fm hfl) (fun u _ => ⟨fun h => ⟨h, hfe⟩, fun h => h.1⟩)
      · rw [pu_slot (by omega), h0 _ (by omega)]
        exact BS_0 (fun u _ h => e (eNM_inj hv hfl (by rw [hfe]; exact h.2)))
    have c2 : ∀ j, j < 243 * m2 → (en_up q 204 (243 * m2 + fm) (q 203 (243 * m2 + fm))) 204 j = 0 := fun j hj => by rw [pu_slot (by omega)]; exact h0 j (by omega)
    have c3 : (en_up q 204 (243 * m2 + fm) (q 203 (243 * m2 + fm))) 203 = q 203 := pu_row (by omega)
    have c4 : ∀ a, a ≠ 203 → a ≠ 204 → (en_up q 204 (243 * m2 + fm) (q 203 (243 * m2 + fm))) a = τ a := fun a h1 h2 => by rw [pu_row h2]; exact hq a h1 h2
    generalize en_up q 204 (243 * m2 + fm) (q 203 (243 * m2 + fm)) = q2 at c1 c2 c3 c4 ⊢
    have go := pl_for (F := fun f i (q : en_M) => T_X12_naps_186 f (Int32.ofNat s) (Int32.ofNat N) (Int32.ofNat fm) (Int32.ofNat m2) (dwn m2 i) q) (P := fun i q => (∀ k, m2 - i ≤ k → k ≤ m2 → NTb g x s F m2 q k) ∧ (∀ j, j < 243 * (m2 - i) → q 204 j = 0) ∧ (∀ a, a ≠ 204 → q a = q2 a))
      (Q := fun r => ∃ f q', 10000 < f ∧ r = T_X12_naps_218 f (Int32.ofNat s) (Int32.ofNat N) (Int32.ofNat fm) (Int32.ofNat m2) 0 0 0 en_un (en_up q' 185 10 0) ∧ (∀ k, k ≤ m2 → NTb g x s F m2 q' k) ∧ ∀ a, a ≠ 204 → q' a = q2 a) (N := m2) (C := 1) (C0 := 10010) (by
        rintro f i q hi hf ⟨o1, o2, o4⟩
        obtain ⟨f, rfl⟩ : ∃ j, f = j + 1 := Nat.exists_eq_succ_of_ne_zero (by omega)
        left
        obtain ⟨q', d1, d2, d3, d4⟩ := r_gather (k := m2 - 1 - i) (m := m2) (F := F) (τ := q) hA (hMq q (fun a h1 h2 => by rw [o4 a h2]; exact c4 a h1 h2)) hB hn0 hn5 hs (h197q q (fun a h1 h2 => by rw [o4 a h2]; exact c4 a h1 h2)) hN (by omega) (by omega) (fun v hv => by rw [o4 203 (by omega), c3]; exact hL _ (by omega) v hv) (by rw [show m2 - 1 - i + 1 = m2 - i by omega]; exact o1 _ (Nat.le_refl _) (by omega)) (fun v hv => o2 _ (by omega))
        refine ⟨f, q', ?_, Nat.le_refl _, fun k h1 h2 => ?_, fun j hj => by rw [d3 j (by omega)]; exact o2 j (by omega), fun a ha => by rw [d4 a ha, o4 a ha]⟩
        · show T_X12_naps_186 (f + 1) _ _ _ _ (dwn m2 i) q = T_X12_naps_186 f _ _ _ _ (dwn m2 (i + 1)) q'
          rw [t_X12_naps_186, ← dwn_s hi, dwn_lt hi, if_neg (pn_nlt0 (by omega)), d1, Option.bind_some]
        · by_cases e : k = m2 - 1 - i
          · rw [e]; exact d2
          · intro v hv
            rw [d3 _ (by omega)]; exact o1 k (by omega) h2 v hv) (by
        rintro f q hf ⟨o1, o2, o4⟩
        obtain ⟨f, rfl⟩ : ∃ j, f = j + 1 := Nat.exists_eq_succ_of_ne_zero (by omega)
        refine ⟨f, q, by omega, ?_, fun k hk => o1 k (by omega) hk, o4⟩
        show T_X12_naps_186 (f + 1) _ _ _ _ (dwn m2 m2) q = _
        rw [t_X12_naps_186, dwn_n, if_pos (show (-1 : Int32) < 0 by decide)]) m2 0 f q2 (by omega) (by omega) ⟨fun k h1 h2 => by rw [show k = m2 by omega]; exact c1, fun j hj => c2 j (by omega), fun _ _ => rfl⟩
    obtain ⟨f3, q3, hf3, d1, d2, d3⟩ := go
    have d1 : T_X12_naps_186 f (Int32.ofNat s) (Int32.ofNat N) (Int32.ofNat fm) (Int32.ofNat m2) (Int32.ofNat m2 - 1) q2 = _ := d1
    have hq3 : ∀ a, a ≠ 203 → a ≠ 204 → q3 a = τ a := fun a h1 h2 => by rw [d3 a h2]; exact c4 a h1 h2
    have hM3 : MI (en_up q3 185 10 0) (g, t, [], x, us, kp) := MI.begin (hMq q3 hq3)
    obtain ⟨τ', k1, k2, k3⟩ := r_napsWalk (n := N) (m := m2) (F := F) (f := f3) (x2 := Int32.ofNat N) (x3 := Int32.ofNat fm) (u8 := en_un) (hA.row (ro' := []) (by simp)) hM3 hB hn0 hn5 hs (fun k p h1 h2 => by rw [pu_cell (by omega)]; exact h197q q3 hq3 k p h1 h2) hN hm2 (fun k hk v hv => by rw [pu_cell (by omega)]; exact d2 k hk v hv) hw hf3
    rw [d1]
    exact ⟨τ', k1, k2, fun c hc => by rw [k3 c hc, pu_row (by omega), hq3 c (by omega) (by omega)]⟩
  refine pl_for (F := fun f i (q : en_M) => T_X12_naps_100 f (Int32.ofNat s) (Int32.ofNat N) (Int32.ofNat fm) (Int32.ofNat i) q) (P := fun i q => (∀ a, a ≠ 203 → a ≠ 204 → q a = τ a) ∧ (∀ k, k ≤ i → MTb g x s q k) ∧ (∀ k, i + 1 ≤ k → k ≤ 12 → ∀ v, v < 243 → q 203 (243 * k + v) = 0) ∧ (∀ j, j < 3159 → q 204 j = 0) ∧ ∀ m', 1 ≤ m' → m' < i → ¬ ∃ w, RE g x s m' F w)
    (Q := fun r => (∀ m, 1 ≤ m → m ≤ N → (∃ w, RE g x s m F w) → (∀ m', 1 ≤ m' → m' < m → ¬ ∃ w, RE g x s m' F w) → ∃ τ', en_oi r = some (Int32.ofNat m, τ') ∧ MI τ' (g, t, rwL (fun k => Int32.ofNat (wkN g x s F m (k + 1)).2) m, x, us, kp) ∧ FrM τ τ') ∧ ((∀ m, 1 ≤ m → m ≤ N → ¬ ∃ w, RE g x s m F w) → ∃ τ', en_oi r = some (-2, τ') ∧ MI τ' (g, t, ro, x, us, kp) ∧ FrM τ τ')) (N := N) (C := 30000) (C0 := 30000) ?_ ?_ N 0 f1 σb (by omega) (by omega) ⟨b4, fun k hk => by rw [show k = 0 by omega]; exact b1, fun k h1 h2 => b2 k (by omega) h2, b3, fun m' h1 h2 => absurd h2 (by omega)⟩
  · rintro f i q hi hf ⟨p1, p2, p3, p4, p5⟩
    obtain ⟨f, rfl⟩ : ∃ j, f = j + 1 := Nat.exists_eq_succ_of_ne_zero (by omega)
    have hzq := hz i q (p2 i (Nat.le_refl _))
    show (∃ n', ∃ q', T_X12_naps_100 (f + 1) _ _ _ (Int32.ofNat i) q = _ ∧ _) ∨ ((∀ m, 1 ≤ m → m ≤ N → (∃ w, RE g x s m F w) → (∀ m', 1 ≤ m' → m' < m → ¬ ∃ w, RE g x s m' F w) → ∃ τ', en_oi (T_X12_naps_100 (f + 1) _ _ _ (Int32.ofNat i) q) = _ ∧ _) ∧ (_ → ∃ τ', en_oi (T_X12_naps_100 (f + 1) _ _ _ (Int32.ofNat i) q) = _ ∧ _))
    rw [t_X12_naps_100, if_pos ((pn_lt (by omega) (by omega)).mpr hi), hix i (by omega), Option.bind_some, Option.bind_some, Option.bind_some, Option.bind_some]
    by_cases c : q 203 (243 * i + fm) = 0
    · have hno := (iff_of_eq hzq).mp c
      rw [if_pos c]
      obtain ⟨q', w1, w2, w3, w4⟩ := r_spread (k := i) (τ := q) hA (hMq q p1) hB hn0 hn5 hs (h197q q p1) hN hi (p2 i (Nat.le_refl _)) (p3 (i + 1) (Nat.le_refl _) (by omega))
      rw [w1, Option.bind_some, pn_a1]
      refine Or.inl ⟨f, q', rfl, by omega, fun a h1 h2 => by rw [w4 a h1]; exact p1 a h1 h2, fun k hk => ?_, fun k h1 h2 v hv => by rw [w3 _ (by omega)]; exact p3 k (by omega) h2 v hv, fun j hj => by rw [w4 204 (by omega)]; exact p4 j hj, fun m' h1 h2 => ?_⟩
      · by_cases e : k = i + 1
        · rw [e]; exact w2
        · intro v hv
          rw [w3 _ (by omega)]; exact p2 k (by omega) v hv
      · by_cases e : m' = i
        · rw [e]; exact hno
        · exact p5 m' h1 (by omega)
    · rw [if_neg c, if_neg c]
      have hex : ∃ w, RE g x s i F w := Classical.byContradiction fun h => c ((iff_of_eq hzq).mpr h)
      have hi1 : 1 ≤ i := by
        refine Nat.pos_of_ne_zero fun e => ?_
        subst e
        obtain ⟨w, hw⟩ := hex
        have h0 : F = 0 := hw.1
        have : fm = 0 := eNM_inj hfl (by omega) (by rw [hfe, h0]; rfl)
        omega
      exact Or.inr (found i f q _ hi1 (by omega) (by omega) p1 p2 p4 hex p5 rfl)
  · rintro f q hf ⟨p1, p2, p3, p4, p5⟩
    obtain ⟨f, rfl⟩ : ∃ j, f = j + 1 := Nat.exists_eq_succ_of_ne_zero (by omega)
    have hzq := hz N q (p2 N (Nat.le_refl _))
    show (∀ m, 1 ≤ m → m ≤ N → (∃ w, RE g x s m F w) → (∀ m', 1 ≤ m' → m' < m → ¬ ∃ w, RE g x s m' F w) → ∃ τ', en_oi (T_X12_naps_100 (f + 1) _ _ _ (Int32.ofNat N) q) = _ ∧ _) ∧ (_ → ∃ τ', en_oi (T_X12_naps_100 (f + 1) _ _ _ (Int32.ofNat N) q) = _ ∧ _)
    rw [t_X12_naps_100, if_neg (show ¬ Int32.ofNat N < Int32.ofNat N by rw [pn_lt (by omega) (by omega)]; omega), hix N (by omega), Option.bind_some, Option.bind_some, Option.bind_some]
    by_cases c : q 203 (243 * N + fm) = 0
    · have hno := (iff_of_eq hzq).mp c
      rw [if_pos c]
      refine ⟨fun m h1 h2 h3 h4 => ?_, fun _ => ⟨q, rfl, hMq q p1, hfr q p1⟩⟩
      by_cases e : m = N
      · rw [e] at h3; exact absurd h3 hno
      · exact absurd h3 (p5 m h1 (by omega))
    · rw [if_neg c]
      exact found N f q _ hN1 (Nat.le_refl _) (by omega) p1 p2 p4 (Classical.byContradiction fun h => c ((iff_of_eq hzq).mpr h)) p5 rfl
theorem p_naps : en_st_naps pInv := by
  intro c v1 v2 hc
  refine p_two hc (fun A σ0 hA hB => ?_)
  obtain ⟨g, t, ro, x, us, kp⟩ := A
  have hgv : GV g := hA.1
  have hn : gN g ≤ 7 := hgv.1
  by_cases ok : gN g ≠ 0 ∧ (¬ v1 < 1 ∧ ¬ (2 : Int32) < v1) ∧ ¬ v2 < 1 ∧ ¬ (12 : Int32) < v2
  · obtain ⟨hz0, ⟨a1, a2⟩, a3, a4⟩ := ok
    have hn0 : 0 < gN g := by omega
    have nz : ¬ Int32.ofNat (gN g) = 0 := by rw [pn_eq0 (by omega)]; exact hz0
    obtain ⟨s, hs, rfl⟩ : ∃ s, (s = 1 ∨ s = 2) ∧ v1 = Int32.ofNat s := by
      obtain ⟨s, h1, h2⟩ := isR_1 (n := 3) (by omega) (by omega) a1 a2
      refine ⟨s, ?_, h2⟩
      have : s ≠ 0 := fun e => a1 (by rw [h2, e]; decide)
      omega
    obtain ⟨N, hN1, hN, rfl⟩ : ∃ N, 1 ≤ N ∧ N ≤ 12 ∧ v2 = Int32.ofNat N := by
      obtain ⟨N, h1, h2⟩ := isR_1 (n := 13) (by omega) (by omega) a3 a4
      refine ⟨N, ?_, by omega, h2⟩
      exact Nat.pos_of_ne_zero fun e => a3 (by rw [h2, e]; decide)
    have hpre : ∀ τ : en_M, MI τ (g, t, ro, x, us, kp) → O_X12_naps [.inr (185, 12, 0, 0), .inl (Int32.ofNat s), .inl (Int32.ofNat N)] τ = en_oi (if (5 : Int32) < Int32.ofNat (gN g) then (en_ri (-3 : Int32) (en_up τ 185 11 0)) else ((O_X12_layOrders [.inr (185, 12, 0, 0), .inl (Int32.ofNat N)] (en_up τ 185 11 0)).bind fun r3 => (O_X12_wholeOf [.inr (185, 12, 0, 0), .inl (Int32.ofNat s)] r3).bind fun r4 => T_X12_naps_58 en_FU (Int32.ofNat s) (Int32.ofNat N) r4.1 (0 : Int32) r4.2)) := fun τ hM => by
      have hM2 := hM.slot 11 0 (by omega)
      rw [o_X12_naps, t_X12_naps_0, q_in, Option.bind_some, if_neg (by dsimp only; rw [pb2_0]; exact fun q => q ⟨a1, a2⟩)]
      dsimp only
      rw [q_in, Option.bind_some, if_neg (by dsimp only; rw [pb2_0]; exact fun q => q ⟨a3, a4⟩)]
      dsimp only
      have h1 : (en_up τ 185 11 0) 185 1 = Int32.ofNat (gN g) := hM2.1.1
      rw [if_neg (show ¬ (en_up τ 185 11 0) 185 1 = 0 by rw [h1]; exact nz), pi_if (show ((5 : Int32) < (en_up τ 185 11 0) 185 1) = ((5 : Int32) < Int32.ofNat (gN g)) by rw [h1])]
    have hcpre : CI σ0 (g, t, ro, x, us, kp) → O_X11_naps [.inr (0, 11, 0, 0), .inl (Int32.ofNat s), .inl (Int32.ofNat N)] σ0 = en_oi (if (5 : Int32) < Int32.ofNat (gN g) then (en_ri (-3 : Int32) σ0) else ((O_X11_lookAhead [.inr (0, 11, 0, 0), .inl (Int32.ofNat N)] σ0).bind fun r1 => (O_X5_prepare [.inr (103, 5, 0, 0), .inr (5, 10, 0, 0), .inr (182, 20, 201, 0), .inl (r1 15 5), .inl (Int32.ofNat N)] r1).bind fun r2 => (O_X5_fewestRounds [.inr (103, 5, 0, 0), .inr (15, 7, 0, 0), .inl (r2 5 3), .inl (Int32.ofNat s), .inl (Int32.ofNat N), .inr (3, 9, 0, 0)] r2).bind fun r3 => en_ri r3.1 r3.2)) := fun hC => by
      rw [o_X11_naps, t_X11_naps_0, show σ0 5 3 = Int32.ofNat (gN g) from hC.1.1, if_neg nz, if_neg a1, if_neg a2, if_neg a3, if_neg a4]
    have h5 : ((5 : Int32) < Int32.ofNat (gN g)) = (5 < gN g) := pn_lt (a := 5) (by omega) (by omega)
    by_cases c5 : 5 < gN g
    · refine p_no hA (-3) (fun hC => ?_) (fun τ hM => ?_)
      · rw [hcpre hC, pi_if h5, if_pos c5]; rfl
      · rw [hpre τ hM, pi_if h5, if_pos c5]; rfl
    have hn5 : gN g ≤ 5 := by omega
    have clside : CI σ0 (g, t, ro, x, us, kp) → ∃ σ2, CI σ2 (g, t, ro, x, us, kp) ∧ (∀ k, k < N → PP g x σ2 k) ∧ FrC σ0 σ2 ∧ O_X11_naps [.inr (0, 11, 0, 0), .inl (Int32.ofNat s), .inl (Int32.ofNat N)] σ0 = en_oi ((O_X5_fewestRounds [.inr (103, 5, 0, 0), .inr (15, 7, 0, 0), .inl (Int32.ofNat (gN g)), .inl (Int32.ofNat s), .inl (Int32.ofNat N), .inr (3, 9, 0, 0)] σ2).bind fun r3 => en_ri r3.1 r3.2) := fun hC => by
      obtain ⟨σ1, e1, e2, e3, e4⟩ := k_look hA (by omega) hC (m := N) (by omega)
      have e1' : O_X11_lookAhead [.inr (0, 11, 0, 0), .inl (Int32.ofNat N)] σ0 = some σ1 := e1
      obtain ⟨σ2, f1, f2, f3⟩ := q_prepare hA (by omega) e2 hN hn0 e3
      have hC2 : CI σ2 (g, t, ro, x, us, kp) := e2.kept (fun c hc => f3 c (by omega)) (by rw [f3 10 (by omega)])
      refine ⟨σ2, hC2, f2, fun c hc => by rw [f3 c (by omega), e4 c hc], ?_⟩
      rw [hcpre hC, pi_if h5, if_neg c5, e1', Option.bind_some, show σ1 15 5 = Int32.ofNat (sN x) from e2.2.2.2.1.2.1, f1, Option.bind_some, show σ2 5 3 = Int32.ofNat (gN g) from hC2.1.1]
    have mside : ∀ τ : en_M, MI τ (g, t, ro, x, us, kp) → ∃ τ2, MI τ2 (g, t, ro, x, us, kp) ∧ (∀ k p, k ≤ N → p < gN g → τ2 197 (7 * k + p) = Int32.ofNat (odN g x k p)) ∧ FrM τ τ2 ∧ O_X12_naps [.inr (185, 12, 0, 0), .inl (Int32.ofNat s), .inl (Int32.ofNat N)] τ = en_oi (T_X12_naps_58 en_FU (Int32.ofNat s) (Int32.ofNat N) (Int32.ofNat (fuM s (gN g))) 0 τ2) := fun τ hM => by
      have hM2 := hM.slot 11 0 (by omega)
      obtain ⟨τ1, e1, e2, e3, e4⟩ := m_lay hA (by omega) hM2 (m := N) (by omega)
      have e1' : O_X12_layOrders [.inr (185, 12, 0, 0), .inl (Int32.ofNat N)] (en_up τ 185 11 0) = some τ1 := e1
      refine ⟨τ1, e2, e3, fun c hc => by rw [e4 c hc, pu_row (by omega)], ?_⟩
      rw [hpre τ hM, pi_if h5, if_neg c5, e1', Option.bind_some, m_wholeOf hn5 hs e2.1.1, Option.bind_some]
    by_cases hex : ∃ m, 1 ≤ m ∧ m ≤ N ∧ ∃ w, RE g x s m (fuC s (gN g)) w
    · obtain ⟨m0, hm0⟩ := hex
      obtain ⟨m, ⟨m1, m2, m3⟩, m4⟩ := ex_least (P := fun m => 1 ≤ m ∧ m ≤ N ∧ ∃ w, RE g x s m (fuC s (gN g)) w) m0 hm0
      have m5 : ∀ m', 1 ≤ m' → m' < m → ¬ ∃ w, RE g x s m' (fuC s (gN g)) w := fun m' h1 h2 h3 => m4 m' h2 ⟨h1, by omega, h3⟩
      refine ⟨Int32.ofNat m, (g, t, rwL (fun k => Int32.ofNat (wkN g x s (fuC s (gN g)) m (k + 1)).2) m, x, us, kp), fun hC => ?_, fun τ hM => ?_, (hA.row (by rw [rwL_len]; omega)).mono (by omega)⟩
      · obtain ⟨σ2, e1, e2, e3, e4⟩ := clside hC
        obtain ⟨σ', r1, r2, r3⟩ := (q_fewest hA e1 hn5 hs hN hN1 e2).1 m m1 m2 m3 m5
        rw [e4, r1, Option.bind_some]
        exact ⟨σ', rfl, r2, e3.trans r3⟩
      · obtain ⟨τ2, e1, e2, e3, e4⟩ := mside τ hM
        obtain ⟨τ', r1, r2, r3⟩ := (r_naps (B := 2000 * c) hA e1 (by omega) hn0 hn5 hs e2 hN hN1).1 m m1 m2 m3 m5
        rw [e4, r1]
        exact ⟨τ', rfl, r2, e3.trans r3⟩
    · have hnx : ∀ m, 1 ≤ m → m ≤ N → ¬ ∃ w, RE g x s m (fuC s (gN g)) w := fun m h1 h2 h3 => hex ⟨m, h1, h2, h3⟩
      refine ⟨-2, (g, t, ro, x, us, kp), fun hC => ?_, fun τ hM => ?_, hA.mono (by omega)⟩
      · obtain ⟨σ2, e1, e2, e3, e4⟩ := clside hC
        obtain ⟨σ', r1, r2, r3⟩ := (q_fewest hA e1 hn5 hs hN hN1 e2).2 hnx
        rw [e4, r1, Option.bind_some]
        exact ⟨σ', rfl, r2, e3.trans r3⟩
      · obtain ⟨τ2, e1, e2, e3, e4⟩ := mside τ hM
        obtain ⟨τ', r1, r2, r3⟩ := (r_naps (B := 2000 * c) hA e1 (by omega) hn0 hn5 hs e2 hN hN1).2 hnx
        rw [e4, r1]
        exact ⟨τ', rfl, r2, e3.trans r3⟩
  · refine p_no hA (-1) (fun hC => ?_) (fun τ hM => ?_)
    · rw [o_X11_naps, t_X11_naps_0, show σ0 5 3 = Int32.ofNat (gN g) from hC.1.1]
      by_cases c0 : gN g = 0
      · rw [c0, if_pos (by decide)]; rfl
      rw [if_neg (by rw [pn_eq0 (by omega)]; exact c0)]
      by_cases c1 : v1 < 1
      · rw [if_pos c1]; rfl
      rw [if_neg c1]
      by_cases c2 : (2 : Int32) < v1
      · rw [if_pos c2]; rfl
      rw [if_neg c2]
      by_cases c3 : v2 < 1
      · rw [if_pos c3]; rfl
      rw [if_neg c3, if_pos (Classical.byContradiction fun q => ok ⟨c0, ⟨c1, c2⟩, c3, q⟩)]; rfl
    · have hM2 := hM.slot 11 0 (by omega)
      rw [o_X12_naps, t_X12_naps_0, q_in, Option.bind_some]
      by_cases c1 : ¬ v1 < 1 ∧ ¬ (2 : Int32) < v1
      · rw [if_neg (by dsimp only; rw [pb2_0]; exact fun q => q c1)]
        dsimp only
        rw [q_in, Option.bind_some]
        by_cases c2 : ¬ v2 < 1 ∧ ¬ (12 : Int32) < v2
        · rw [if_neg (by dsimp only; rw [pb2_0]; exact fun q => q c2)]
          dsimp only
          rw [if_pos (show (en_up τ 185 11 0) 185 1 = 0 by rw [show (en_up τ 185 11 0) 185 1 = Int32.ofNat (gN g) from hM2.1.1, pn_eq0 (by omega)]; exact Classical.byContradiction fun q => ok ⟨q, c1, c2⟩)]; rfl
        · rw [if_pos (by dsimp only; rw [pb2_0]; exact c2)]; rfl
      · rw [if_pos (by dsimp only; rw [pb2_0]; exact c1)]; rfl
