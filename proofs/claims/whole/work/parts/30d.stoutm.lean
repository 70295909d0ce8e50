/-! stout: the reference's side -/
theorem r_stout1 {A : pI} {B m r : Nat} (hg : GV (iG A)) (hv : VS (gN (iG A)) B (iS A)) (hB : B + m < 1000000000) (hm : m ≤ 60) (hr : r < gN (iG A)) (x2 : Int32) : ∀ k p f (τ : en_M), p + k = 11 → k < f → MI τ A → ftF (iG A) (iS A) m r = fwN (fun p => (whN (iG A) (dkN (iS A) r p) m).testBit r) k p →
    (ftF (iG A) (iS A) m r ≤ 10 → ∃ f' u τ', T_X12_stout_39 f (Int32.ofNat m) x2 (Int32.ofNat r) (Int32.ofNat p) τ = T_X12_stout_28 f' (Int32.ofNat m) (x2 + Int32.ofNat (ftF (iG A) (iS A) m r)) (Int32.ofNat (r + 1)) u (en_up τ' 206 r (Int32.ofNat (ftF (iG A) (iS A) m r))) ∧ f ≤ f' + k + 1 ∧ MI τ' A ∧ FrM τ τ' ∧ τ' 206 = τ 206) ∧
    (¬ ftF (iG A) (iS A) m r ≤ 10 → ∃ τ', en_oi (T_X12_stout_39 f (Int32.ofNat m) x2 (Int32.ofNat r) (Int32.ofNat p) τ) = some (-2, τ') ∧ MI τ' A ∧ FrM τ τ') := by
  have hn : gN (iG A) ≤ 7 := hg.1
  intro k
  induction k with
  | zero =>
    intro p f τ hp hf hM hF
    obtain ⟨f, rfl⟩ : ∃ j, f = j + 1 := ⟨f - 1, by omega⟩
    have hF : ftF (iG A) (iS A) m r = p := hF
    have h10 : (10 : Int32) < Int32.ofNat p := (pn_lt (a := 10) (by omega) (by omega)).mpr (by omega)
    rw [t_X12_stout_39, if_pos h10, if_pos h10]
    exact ⟨fun q => absurd q (by omega), fun _ => ⟨τ, rfl, hM, FrM.refl _⟩⟩
  | succ k ih =>
    intro p f τ hp hf hM hF
    obtain ⟨f, rfl⟩ : ∃ j, f = j + 1 := ⟨f - 1, by omega⟩
    have h10 : ¬ (10 : Int32) < Int32.ofNat p := fun q => by have := (pn_lt (a := 10) (by omega) (by omega)).mp q; omega
    obtain ⟨τ1, s1, s2, s3, s4⟩ := r_serves hg hM hv hB (show p ≤ 10 by omega) hm hr
    conv at hF => rhs; unfold fwN
    rw [t_X12_stout_39, if_neg h10, s1, Option.bind_some]
    dsimp only
    by_cases c : (whN (iG A) (dkN (iS A) r p) m).testBit r = true
    · rw [if_pos c] at hF
      rw [if_pos c, if_pos rfl, pn_a1]
      obtain ⟨i1, i2⟩ := ih (p + 1) f τ1 (by omega) (by omega) s2 hF
      refine ⟨fun q => ?_, fun q => ?_⟩
      · obtain ⟨f', u, τ', j1, j2, j3, j4, j5⟩ := i1 q
        exact ⟨f', u, τ', j1, by omega, j3, s3.trans j4, by rw [j5, s4]⟩
      · obtain ⟨τ', j1, j2, j3⟩ := i2 q
        exact ⟨τ', j1, j2, s3.trans j3⟩
    · rw [if_neg c] at hF
      rw [if_neg c, if_neg (show ¬ (1 : Int32) = 0 by decide), if_neg h10, pn_ix (by omega) (by omega), Option.bind_some, pn_a1, hF]
      exact ⟨fun _ => ⟨f, _, τ1, rfl, by omega, s2, s3, s4⟩, fun q => absurd (show p ≤ 10 by omega) q⟩
