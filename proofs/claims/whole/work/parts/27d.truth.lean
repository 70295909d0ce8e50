/-! truth and lead -/
def fa (W : Nat → Nat) (w : Nat) : Nat → Nat → Nat
  | 0, i => i
  | k + 1, i => if W i = w then i else fa W w k (i + 1)
theorem fa_le (W : Nat → Nat) (w : Nat) : ∀ k i, fa W w k i ≤ i + k
  | 0, i => Nat.le_refl _
  | k + 1, i => by
    have := fa_le W w k (i + 1)
    unfold fa; split <;> omega
theorem q_firstAhead {W : Nat → Nat} {w n : Nat} {σ : en_M} (hn : n ≤ 200) (hw : w < 2147483648) (hW : ∀ k, k ≤ 200 → W k < 2147483648 ∧ σ 182 k = Int32.ofNat (W k)) : O_X11_firstAhead [.inr (0, 11, 0, 0), .inl (Int32.ofNat w), .inl (Int32.ofNat n)] σ = some (Int32.ofNat (fa W w n 0), σ) := by
  rw [o_X11_firstAhead, t_X11_firstAhead_0]
  suffices h : ∀ k i f, i + k = n → k < f → en_oi (T_X11_firstAhead_2 f (Int32.ofNat w) (Int32.ofNat n) (Int32.ofNat i) σ) = some (Int32.ofNat (fa W w k i), σ) from h n 0 en_FU (by omega) (pl_FU (by omega))
  intro k
  induction k with
  | zero =>
    intro i f hi hf
    obtain ⟨f, rfl⟩ : ∃ j, f = j + 1 := ⟨f - 1, by omega⟩
    rw [t_X11_firstAhead_2, if_neg (by rw [pn_lt (by omega) (by omega)]; omega)]; rfl
  | succ k ih =>
    intro i f hi hf
    obtain ⟨f, rfl⟩ : ∃ j, f = j + 1 := ⟨f - 1, by omega⟩
    obtain ⟨w1, w2⟩ := hW i (by omega)
    rw [t_X11_firstAhead_2, if_pos ((pn_lt (by omega) (by omega)).mpr (by omega)), if_neg (show ¬ (200 : Int32) < Int32.ofNat i from fun q => by have := (pn_lt (a := 200) (by omega) (by omega)).mp q; omega), pn_ix (by omega) (by omega), Option.bind_some, w2, pi_if (pn_eq w1 hw), pn_a1]
    unfold fa
    by_cases c : W i = w
    · rw [if_pos c, if_pos c]; rfl
    · rw [if_neg c, if_neg c]; exact ih (i + 1) f (by omega) (by omega)
theorem r_areLike {n j i : Nat} {f h : Nat → Nat} {τ : en_M} (hf : PMf n f) (hh : PMf n h) (hn : n ≤ 7) (hj : j ≤ 200) (hi : i ≤ 200) (h1 : τ 185 1 = Int32.ofNat n) (a : ∀ p, p < n → τ 197 (7 * j + p) = Int32.ofNat (f p)) (b : ∀ p, p < n → τ 197 (7 * i + p) = Int32.ofNat (h p)) : O_X12_areLike [.inr (185, 12, 0, 0), .inl (Int32.ofNat j), .inl (Int32.ofNat i)] τ = some (pb2 (pkN f = pkN h), τ) := by
  have hk : (pkN f = pkN h) = ∀ p, p < 7 → f p = h p := pkN_inj hf.lt8 hh.lt8
  rw [o_X12_areLike, t_X12_areLike_0]
  refine pl_for1 (F := fun m p (_ : Unit) => T_X12_areLike_2 m (Int32.ofNat j) (Int32.ofNat i) (Int32.ofNat p) τ) (P := fun p _ => ∀ q, q < p → f q = h q) (Q := fun r => en_oi r = some (pb2 (pkN f = pkN h), τ)) (N := n) ?_ ?_ n 0 en_FU () (by omega) (pl_FU (by omega)) (fun q hq => absurd hq (by omega))
  · intro m p _ hp hP
    have f8 := hf.lt8 p (by omega)
    have h8 := hh.lt8 p (by omega)
    show (∃ s' : Unit, T_X12_areLike_2 (m + 1) _ _ _ τ = _ ∧ _) ∨ en_oi (T_X12_areLike_2 (m + 1) _ _ _ τ) = _
    rw [t_X12_areLike_2, h1, if_pos ((pn_lt (by omega) (by omega)).mpr hp), show (7 : Int32) * Int32.ofNat j = Int32.ofNat (7 * j) from pn_mul 7 j, show (7 : Int32) * Int32.ofNat i = Int32.ofNat (7 * i) from pn_mul 7 i, pn_add, pn_add, pn_ix (by omega) (by omega), Option.bind_some, pn_ix (by omega) (by omega), Option.bind_some, a p hp, b p hp, pi_if (pn_eq (by omega) (by omega)), pn_a1]
    by_cases c : f p = h p
    · rw [if_pos c]
      refine Or.inl ⟨(), rfl, fun q hq => ?_⟩
      by_cases e : q = p
      · rw [e]; exact c
      · exact hP q (by omega)
    · rw [if_neg c, if_pos (Or.inl rfl)]
      refine Or.inr ?_
      rw [show pb2 (pkN f = pkN h) = 0 from if_neg (by rw [hk]; exact fun q => c (q p (by omega)))]; rfl
  · intro m _ hP
    show en_oi (T_X12_areLike_2 (m + 1) _ _ _ τ) = _
    rw [t_X12_areLike_2, h1, if_neg (by rw [pn_lt (by omega) (by omega)]; omega), if_pos (Or.inr rfl), show pb2 (pkN f = pkN h) = 1 from if_pos (by
      rw [hk]; intro p hp
      by_cases c : p < n
      · exact hP p c
      · rw [hf.2.2.1 p (by omega) hp, hh.2.2.1 p (by omega) hp])]; rfl
/-- the first that was there before, and when -/
def trN (W : Nat → Nat) : Nat → Nat → Option (Nat × Nat)
  | 0, _ => none
  | k + 1, i => if fa W (W i) i 0 < i then some (i, fa W (W i) i 0) else trN W k (i + 1)
theorem p_truth : en_st_truth pInv := by
  intro c hc
  refine p_two hc (fun A σ0 hA hB => ?_)
  obtain ⟨g, t, ro, x, us, kp⟩ := A
  have hgv : GV g := hA.1
  have hn : gN g ≤ 7 := hgv.1
  by_cases hz : gN g = 0
  · refine p_no hA (-2) (fun hC => ?_) (fun τ hM => ?_)
    · rw [o_X11_truth, t_X11_truth_0, show σ0 5 3 = Int32.ofNat (gN g) from hC.1.1, hz, if_pos (by decide)]; rfl
    · rw [o_X12_truth, t_X12_truth_0, show τ 185 1 = Int32.ofNat (gN g) from hM.1.1, hz, if_pos (by decide)]; rfl
  have nz : ¬ Int32.ofNat (gN g) = 0 := by rw [pn_eq0 (by omega)]; exact hz
  have hpm : ∀ k, PMf (gN g) (odN g x k) := fun k => odN_PMf hgv hA.2.2.2.2.2.2.2.1.1 k
  have hW : ∀ k, pkN (odN g x k) < 2097152 := fun k => pkN_lt (hpm k).lt8
  generalize hWd : (fun k => pkN (odN g x k)) = W
  have hWe : ∀ k, pkN (odN g x k) = W k := fun k => by rw [← hWd]
  obtain ⟨v', A', f1, f2, f3⟩ : ∃ v' A', (trN W 200 1 = none → v' = -2 ∧ A' = (g, t, ro, x, us, kp)) ∧ (∀ i j, trN W 200 1 = some (i, j) → v' = Int32.ofNat i ∧ A' = (g, t, [Int32.ofNat j], x, us, kp)) ∧ AV (2000 * (c + 1)) A' := by
    rcases e : trN W 200 1 with _ | ⟨i, j⟩
    · exact ⟨-2, (g, t, ro, x, us, kp), fun _ => ⟨rfl, rfl⟩, fun _ _ q => (by simp at q), hA.mono (by omega)⟩
    · refine ⟨Int32.ofNat i, (g, t, [Int32.ofNat j], x, us, kp), fun q => (by simp at q), fun i' j' q => ?_, (hA.row (by simp)).mono (by omega)⟩
      have q' := Option.some.inj q
      obtain ⟨rfl, rfl⟩ := Prod.mk.inj q'
      exact ⟨rfl, rfl⟩
  refine ⟨v', A', fun hC => ?_, fun τ hM => ?_, f3⟩
  · obtain ⟨σ1, e1, e2, e3, e4⟩ := k_look hA (by omega) hC (m := 200) (by omega)
    have e1' : O_X11_lookAhead [.inr (0, 11, 0, 0), .inl (200 : Int32)] σ0 = some σ1 := e1
    rw [o_X11_truth, t_X11_truth_0, show σ0 5 3 = Int32.ofNat (gN g) from hC.1.1, if_neg nz, e1', Option.bind_some]
    refine pl_for1 (F := fun f i (u : en_V) => T_X11_truth_22 f (Int32.ofNat (1 + i)) u σ1) (P := fun i _ => trN W 200 1 = trN W (200 - i) (1 + i)) (Q := fun r => ∃ σ', en_oi r = some (v', σ') ∧ CI σ' A' ∧ FrC σ0 σ') (N := 200) ?_ ?_ 200 0 en_FU en_un (by omega) (pl_FU (by omega)) rfl
    · intro f i u hi hP
      have hP : trN W 200 1 = trN W (200 - i) (1 + i) := hP
      rw [show 200 - i = (200 - (i + 1)) + 1 by omega] at hP
      have hl := fa_le W (W (1 + i)) (1 + i) 0
      show (∃ u' : en_V, T_X11_truth_22 (f + 1) _ u σ1 = _ ∧ _) ∨ ∃ σ', en_oi (T_X11_truth_22 (f + 1) _ u σ1) = _ ∧ _
      rw [t_X11_truth_22, if_neg (show ¬ (200 : Int32) < Int32.ofNat (1 + i) from fun q => by have := (pn_lt (a := 200) (by omega) (by omega)).mp q; omega), pn_ix (by omega) (by omega), Option.bind_some, e3 (1 + i) (by omega), hWe, q_firstAhead (W := W) (by omega) (by rw [← hWe]; have := hW (1 + i); omega) (fun k hk => ⟨by rw [← hWe]; have := hW k; omega, by rw [e3 k hk, hWe]⟩), Option.bind_some]
      dsimp only
      rw [pi_if (pn_lt (show fa W (W (1 + i)) (1 + i) 0 < 2147483648 by omega) (by omega)), pn_a1]
      unfold trN at hP
      by_cases c1 : fa W (W (1 + i)) (1 + i) 0 < 1 + i
      · rw [if_pos c1] at hP
        rw [if_pos c1]
        obtain ⟨rfl, rfl⟩ := f2 _ _ hP
        obtain ⟨σ3, g1, g2, g3⟩ := CI.add (CI.begin e2) (by simp) (Int32.ofNat (fa W (W (1 + i)) (1 + i) 0))
        rw [q_tbegin, Option.bind_some, g1, Option.bind_some]
        exact Or.inr ⟨σ3, rfl, g2, fun c hc => by rw [g3 c (by omega) (by omega), pu_row (by omega), e4 c hc]⟩
      · rw [if_neg c1] at hP
        rw [if_neg c1]
        exact Or.inl ⟨_, rfl, hP⟩
    · intro f u hP
      have hP : trN W 200 1 = none := hP
      show ∃ σ', en_oi (T_X11_truth_22 (f + 1) _ u σ1) = _ ∧ _
      rw [t_X11_truth_22, if_pos (show (200 : Int32) < Int32.ofNat (1 + 200) by decide)]
      obtain ⟨rfl, rfl⟩ := f1 hP
      exact ⟨σ1, rfl, e2, e4⟩
  · have hM2 := hM.slot 11 0 (by omega)
    obtain ⟨τ1, e1, e2, e3, e4⟩ := m_lay hA (by omega) hM2 (m := 200) (by omega)
    have e1' : O_X12_layOrders [.inr (185, 12, 0, 0), .inl (200 : Int32)] (en_up τ 185 11 0) = some τ1 := e1
    have hfr : FrM τ τ1 := fun c hc => by rw [e4 c hc, pu_row (by omega)]
    rw [o_X12_truth, t_X12_truth_0, show τ 185 1 = Int32.ofNat (gN g) from hM.1.1, if_neg nz, e1', Option.bind_some]
    have h1 : τ1 185 1 = Int32.ofNat (gN g) := e2.1.1
    have inner : ∀ k j f i, i ≤ 200 → j + k = i → k < f → (fa W (W i) k j < i → ∃ τ', en_oi (T_X12_truth_33 f (Int32.ofNat i) (Int32.ofNat j) τ1) = some (Int32.ofNat i, τ') ∧ MI τ' (g, t, [Int32.ofNat (fa W (W i) k j)], x, us, kp) ∧ FrM τ τ') ∧ (¬ fa W (W i) k j < i → T_X12_truth_33 f (Int32.ofNat i) (Int32.ofNat j) τ1 = T_X12_truth_24 (f - k - 1) (Int32.ofNat (i + 1)) (.inl (Int32.ofNat i)) τ1) := by
      intro k
      induction k with
      | zero =>
        intro j f i hi hj hf
        obtain ⟨f, rfl⟩ : ∃ m, f = m + 1 := ⟨f - 1, by omega⟩
        have hj' : j = i := hj
        subst hj'
        refine ⟨fun q => absurd q (Nat.lt_irrefl _), fun _ => ?_⟩
        rw [t_X12_truth_33, if_neg (by rw [pn_lt (by omega) (by omega)]; omega), pn_a1]; rfl
      | succ k ih =>
        intro j f i hi hj hf
        obtain ⟨f, rfl⟩ : ∃ m, f = m + 1 := ⟨f - 1, by omega⟩
        rw [t_X12_truth_33, if_pos ((pn_lt (by omega) (by omega)).mpr (by omega)), r_areLike (hpm j) (hpm i) hn (by omega) hi h1 (fun p hp => e3 j p (by omega) hp) (fun p hp => e3 i p hi hp), Option.bind_some]
        dsimp only
        rw [hWe, hWe, pi_if (pb2_0 (W j = W i)), pn_a1]
        unfold fa
        by_cases c1 : W j = W i
        · rw [if_pos c1, if_neg (fun q => q c1)]
          refine ⟨fun _ => ?_, fun q => absurd (show j < i by omega) q⟩
          obtain ⟨τ3, g1, g2, g3, g4⟩ := MI.add (MI.begin e2) (by simp) (Int32.ofNat j)
          rw [g1, Option.bind_some]
          exact ⟨τ3, rfl, g2, fun c hc => by rw [g3 c (by omega) (by omega), pu_row (by omega), hfr c hc]⟩
        · rw [if_neg c1, if_pos c1, show f + 1 - (k + 1) - 1 = f - k - 1 by omega]
          exact ih (j + 1) f i hi (by omega) (by omega)
    refine pl_for (F := fun f i (u : en_V) => T_X12_truth_24 f (Int32.ofNat (1 + i)) u τ1) (P := fun i _ => trN W 200 1 = trN W (200 - i) (1 + i)) (Q := fun r => ∃ τ', en_oi r = some (v', τ') ∧ MI τ' A' ∧ FrM τ τ') (N := 200) (C := 300) (C0 := 1) ?_ ?_ 200 0 en_FU en_un (by omega) (by have := en_FU_ge; omega) rfl
    · intro f i u hi hf hP
      obtain ⟨f, rfl⟩ : ∃ m, f = m + 1 := ⟨f - 1, by omega⟩
      have hP : trN W 200 1 = trN W (200 - i) (1 + i) := hP
      rw [show 200 - i = (200 - (i + 1)) + 1 by omega] at hP
      show (∃ n', ∃ u' : en_V, T_X12_truth_24 (f + 1) _ u τ1 = _ ∧ _) ∨ ∃ τ', en_oi (T_X12_truth_24 (f + 1) _ u τ1) = _ ∧ _
      rw [t_X12_truth_24, if_neg (show ¬ (200 : Int32) < Int32.ofNat (1 + i) from fun q => by have := (pn_lt (a := 200) (by omega) (by omega)).mp q; omega)]
      unfold trN at hP
      obtain ⟨i1, i2⟩ := inner (1 + i) 0 f (1 + i) (by omega) (by omega) (by omega)
      by_cases c1 : fa W (W (1 + i)) (1 + i) 0 < 1 + i
      · rw [if_pos c1] at hP
        obtain ⟨rfl, rfl⟩ := f2 _ _ hP
        exact Or.inr (i1 c1)
      · rw [if_neg c1] at hP
        have i2' : T_X12_truth_33 f (Int32.ofNat (1 + i)) 0 τ1 = _ := i2 c1
        rw [i2']
        exact Or.inl ⟨_, _, rfl, by omega, hP⟩
    · intro f u hf hP
      obtain ⟨f, rfl⟩ : ∃ m, f = m + 1 := ⟨f - 1, by omega⟩
      have hP : trN W 200 1 = none := hP
      show ∃ τ', en_oi (T_X12_truth_24 (f + 1) _ u τ1) = _ ∧ _
      rw [t_X12_truth_24, if_pos (show (200 : Int32) < Int32.ofNat (1 + 200) by decide)]
      obtain ⟨rfl, rfl⟩ := f1 hP
      exact ⟨τ1, rfl, e2, hfr⟩
