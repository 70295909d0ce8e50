/-! stout: the class's side, one number of beers -/
theorem pb_bit0 {s i : Nat} (hs : s < 2147483648) (hi : i < 32) : (en_shr (Int32.ofNat s) (Int32.ofNat i) &&& 1 = 0) = ¬ s.testBit i = true := by
  rw [pb_bit hs hi, pn_eq0 (by omega), Nat.testBit_eq_decide_div_mod_eq, decide_eq_true_eq]
  exact propext (by omega)
theorem k_stout1 {F : Nat → Nat} {n p m D : Nat} {σ : en_M} (hn : n ≤ 7) (hp : p ≤ 10) (h53 : σ 5 3 = Int32.ofNat n) (hD : D < 128) (hDb : ∀ r, r < n → p ≤ F r → D.testBit r = decide (F r ≠ p)) {f : Nat} (hf : n < f) : ∃ σ', T_X11_stout_63 f (Int32.ofNat m) (Int32.ofNat (flN F p n)) (Int32.ofNat (fsN F p n)) (Int32.ofNat p) (Int32.ofNat D) 0 σ = T_X11_stout_40 (f - n - 1) (Int32.ofNat m) (Int32.ofNat (flN F (p + 1) n)) (Int32.ofNat (fsN F (p + 1) n)) (Int32.ofNat (p + 1)) (.inl (Int32.ofNat D)) (.inl (Int32.ofNat n)) σ' ∧ (∀ r, r < n → σ' 184 r = if F r = p then Int32.ofNat p else σ 184 r) ∧ ∀ c, c ≠ 184 → σ' c = σ c := by
  have h128 := p2lt hn
  have hfl := flN_lt F p n
  obtain ⟨⟨x3, σ'⟩, b1, b2, b3, b4⟩ := pl_to (F := fun f i (q : Int32 × en_M) => T_X11_stout_63 f (Int32.ofNat m) (Int32.ofNat (flN F p n)) q.1 (Int32.ofNat p) (Int32.ofNat D) (Int32.ofNat i) q.2) (P := fun i q => q.1 = Int32.ofNat (fsN F p n + feN F p i) ∧ (∀ r, r < n → q.2 184 r = if r < i ∧ F r = p then Int32.ofNat p else σ 184 r) ∧ ∀ c, c ≠ 184 → q.2 c = σ c) (N := n) (by
    rintro f i ⟨x3, τ⟩ hi ⟨p1, p2, p3⟩
    have p1 : x3 = _ := p1
    have p2 : ∀ r, r < n → τ 184 r = if r < i ∧ F r = p then Int32.ofNat p else σ 184 r := p2
    have p3 : ∀ c, c ≠ 184 → τ c = σ c := p3
    have hfb := flN_bit F p n i
    rw [decide_eq_true hi, Bool.true_and] at hfb
    show ∃ q' : Int32 × en_M, T_X11_stout_63 (f + 1) _ _ x3 _ _ _ τ = _ ∧ _
    rw [t_X11_stout_63, p3 5 (by omega), h53, if_pos ((pn_lt (by omega) (by omega)).mpr hi), q_bit, Option.bind_some]
    dsimp only
    rw [pi_if (pb_bit1 (show flN F p n < 2147483648 by omega) (show i < 32 by omega)), q_bit, Option.bind_some]
    dsimp only
    rw [pi_if (pb_bit0 (show D < 2147483648 by omega) (show i < 32 by omega)), pn_ix (show i < 7 by omega) (by omega), Option.bind_some, pn_a1]
    have miss : F i ≠ p → ∃ q' : Int32 × en_M, T_X11_stout_63 f (Int32.ofNat m) (Int32.ofNat (flN F p n)) x3 (Int32.ofNat p) (Int32.ofNat D) (Int32.ofNat (i + 1)) τ = T_X11_stout_63 f (Int32.ofNat m) (Int32.ofNat (flN F p n)) q'.1 (Int32.ofNat p) (Int32.ofNat D) (Int32.ofNat (i + 1)) q'.2 ∧ q'.1 = Int32.ofNat (fsN F p n + feN F p (i + 1)) ∧ (∀ r, r < n → q'.2 184 r = if r < i + 1 ∧ F r = p then Int32.ofNat p else σ 184 r) ∧ ∀ c, c ≠ 184 → q'.2 c = σ c := fun h => by
      refine ⟨(x3, τ), rfl, ?_, fun r hr => ?_, p3⟩
      · show x3 = Int32.ofNat (fsN F p n + (feN F p i + (if F i = p then p else 0)))
        rw [p1, if_neg h]; rfl
      · show τ 184 r = _
        rw [p2 r hr]
        by_cases e : r = i
        · rw [if_neg (fun q => by omega), if_neg (fun q => h (by rw [← e]; exact q.2))]
        · exact pi_if (propext ⟨fun q => ⟨by omega, q.2⟩, fun q => ⟨by omega, q.2⟩⟩) _ _
    by_cases c1 : p ≤ F i
    · rw [if_pos (show (flN F p n).testBit i = true by rw [hfb]; exact decide_eq_true c1)]
      by_cases c2 : F i = p
      · rw [if_pos (show ¬ D.testBit i = true by rw [hDb i hi c1]; simp [c2])]
        refine ⟨(x3 + Int32.ofNat p, en_up τ 184 i (Int32.ofNat p)), rfl, ?_, fun r hr => ?_, fun c hc => ?_⟩
        · show x3 + Int32.ofNat p = Int32.ofNat (fsN F p n + (feN F p i + (if F i = p then p else 0)))
          rw [p1, if_pos c2, pn_add, Nat.add_assoc]
        · show en_up τ 184 i (Int32.ofNat p) 184 r = _
          rw [pu_at]
          by_cases e : r = i
          · rw [if_pos e, if_pos ⟨by omega, by rw [e]; exact c2⟩]
          · rw [if_neg e, p2 r hr]
            exact pi_if (propext ⟨fun q => ⟨by omega, q.2⟩, fun q => ⟨by omega, q.2⟩⟩) _ _
        · show en_up τ 184 i _ c = _
          rw [pu_row hc]; exact p3 c hc
      · rw [if_neg (show ¬ ¬ D.testBit i = true by rw [hDb i hi c1]; simp [c2])]
        exact miss c2
    · rw [if_neg (show ¬ (flN F p n).testBit i = true by rw [hfb, decide_eq_false c1]; decide)]
      exact miss (by omega)) n 0 f (Int32.ofNat (fsN F p n), σ) (by omega) (by omega) ⟨rfl, fun r hr => by rw [if_neg (fun q => by omega)], fun _ _ => rfl⟩
  have b1 : T_X11_stout_63 f (Int32.ofNat m) (Int32.ofNat (flN F p n)) (Int32.ofNat (fsN F p n)) (Int32.ofNat p) (Int32.ofNat D) 0 σ = T_X11_stout_63 (f - n) (Int32.ofNat m) (Int32.ofNat (flN F p n)) x3 (Int32.ofNat p) (Int32.ofNat D) (Int32.ofNat n) σ' := b1
  have b2 : x3 = Int32.ofNat (fsN F p n + feN F p n) := b2
  have b3 : ∀ r, r < n → σ' 184 r = if r < n ∧ F r = p then Int32.ofNat p else σ 184 r := b3
  have b4 : ∀ c, c ≠ 184 → σ' c = σ c := b4
  obtain ⟨d, hd⟩ : ∃ d, f - n = d + 1 := ⟨f - n - 1, by omega⟩
  refine ⟨σ', ?_, fun r hr => by rw [b3 r hr]; exact pi_if (propext ⟨fun q => q.2, fun q => ⟨hr, q⟩⟩) _ _, b4⟩
  rw [b1, hd, t_X11_stout_63, b4 5 (by omega), h53, if_neg (by rw [pn_lt (by omega) (by omega)]; omega), pn_a1, pn_and, flN_next F p n D hDb, b2, ← fs_fe]; rfl
