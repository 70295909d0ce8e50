/-! stout: the reference's side -/
theorem r_stout1 {A : pI} {B m r : Nat} (hg : GV (iG A)) (hv : VS (gN (iG A)) B (iS A)) (hB : B + m < 1000000000) (hm : m ≤ 60) (hr : r < gN (iG A)) (x2 : Int32) : ∀ k p f (τ : en_M), p + k = 11 → k < f → MI τ A → ftF (iG A) (iS A) m r = fwN (fun p => (whN (iG A) (dkN (iS A) r p) m).testBit r) k p →
    (ftF (iG A) (iS A) m r ≤ 10 → ∃ f' u τ', T_X12_stout_39 f (Int32.ofNat m) x2 (Int32.ofNat r) (Int32.ofNat p) τ = T_X12_stout_28 f' (Int32.ofNat m) (x2 + Int32.ofNat (ftF (iG A) (iS A) m r)) (Int32.ofNat (r + 1)) u (en_up τ' 206 r (Int32.ofNat (ftF (iG A) (iS A) m r))) ∧ f ≤ f' + k + 1 ∧ MI τ' A ∧ FrM τ τ' ∧ τ' 206 = τ 206) ∧
    (¬ ftF (iG A) (iS A) m r ≤ 10 → ∃ τ', en_oi (T_X12_stout_39 f (Int32.ofNat m) x2 (Int32.ofNat r) (Int32.ofNat p) τ) = some (-2, τ') ∧ MI τ' A ∧ FrM τ τ') := by
  have hn : gN (iG A) ≤ 7 := hg.1
  intro k
  induction k with
  | zero =>
    intro p f τ hp hf hM hF
    obtain ⟨f, rfl⟩ : ∃ j, f = j + 1 := ⟨f - 1, by omega⟩
    have hF : ftF (iG A) (iS A) m r = p := hF
    have h10 : (10 : Int32) < Int32.ofNat p := (pn_lt (a := 10) (by omega) (by omega)).mpr (by omega)
    rw [t_X12_stout_39, if_pos h10, if_pos h10]
    exact ⟨fun q => absurd q (by omega), fun _ => ⟨τ, rfl, hM, FrM.refl _⟩⟩
  | succ k ih =>
    intro p f τ hp hf hM hF
    obtain ⟨f, rfl⟩ : ∃ j, f = j + 1 := ⟨f - 1, by omega⟩
    have h10 : ¬ (10 : Int32) < Int32.ofNat p := fun q => by have := (pn_lt (a := 10) (by omega) (by omega)).mp q; omega
    obtain ⟨τ1, s1, s2, s3, s4⟩ := r_serves hg hM hv hB (show p ≤ 10 by omega) hm hr
    conv at hF => rhs; unfold fwN
    rw [t_X12_stout_39, if_neg h10, s1, Option.bind_some]
    dsimp only
    by_cases c : (whN (iG A) (dkN (iS A) r p) m).testBit r = true
    · rw [if_pos c] at hF
      rw [if_pos c, if_pos rfl, pn_a1]
      obtain ⟨i1, i2⟩ := ih (p + 1) f τ1 (by omega) (by omega) s2 hF
      refine ⟨fun q => ?_, fun q => ?_⟩
      · obtain ⟨f', u, τ', j1, j2, j3, j4, j5⟩ := i1 q
        exact ⟨f', u, τ', j1, by omega, j3, s3.trans j4, by rw [j5, s4]⟩
      · obtain ⟨τ', j1, j2, j3⟩ := i2 q
        exact ⟨τ', j1, j2, s3.trans j3⟩
    · rw [if_neg c] at hF
      rw [if_neg c, if_neg (show ¬ (1 : Int32) = 0 by decide), if_neg h10, pn_ix (by omega) (by omega), Option.bind_some, pn_a1, hF]
      exact ⟨fun _ => ⟨f, _, τ1, rfl, by omega, s2, s3, s4⟩, fun q => absurd (show p ≤ 10 by omega) q⟩
theorem r_stout {g t ro x us kp} {B m : Nat} {τ0 : en_M} (hA : AV B (g, t, ro, x, us, kp)) (hM : MI τ0 (g, t, ro, x, us, kp)) (hB : B + m < 1000000000) (hm : m ≤ 60) :
    ((∀ r, r < gN g → ftF g x m r ≤ 10) → ∃ τ', en_oi (T_X12_stout_28 en_FU (Int32.ofNat m) 0 0 en_un τ0) = some (Int32.ofNat (fsN (ftF g x m) 11 (gN g)), τ') ∧ MI τ' (g, t, rwL (fun r => Int32.ofNat (ftF g x m r)) (gN g), x, us, kp) ∧ FrM τ0 τ') ∧
    ((¬ ∀ r, r < gN g → ftF g x m r ≤ 10) → ∃ τ', en_oi (T_X12_stout_28 en_FU (Int32.ofNat m) 0 0 en_un τ0) = some (-2, τ') ∧ MI τ' (g, t, ro, x, us, kp) ∧ FrM τ0 τ') := by
  have hgv : GV g := hA.1
  have hn : gN g ≤ 7 := hgv.1
  have hVS : VS (gN g) B x := hA.2.2.2.2.2.2.2.1
  have hFU := en_FU_ge
  refine pl_for (F := fun f i (q : Int32 × en_V × en_M) => T_X12_stout_28 f (Int32.ofNat m) q.1 (Int32.ofNat i) q.2.1 q.2.2) (P := fun i q => q.1 = Int32.ofNat (fsN (ftF g x m) 11 i) ∧ (∀ r, r < i → ftF g x m r ≤ 10 ∧ q.2.2 206 r = Int32.ofNat (ftF g x m r)) ∧ MI q.2.2 (g, t, ro, x, us, kp) ∧ FrM τ0 q.2.2)
    (Q := fun res => ((∀ r, r < gN g → ftF g x m r ≤ 10) → ∃ τ', en_oi res = some (Int32.ofNat (fsN (ftF g x m) 11 (gN g)), τ') ∧ MI τ' (g, t, rwL (fun r => Int32.ofNat (ftF g x m r)) (gN g), x, us, kp) ∧ FrM τ0 τ') ∧ ((¬ ∀ r, r < gN g → ftF g x m r ≤ 10) → ∃ τ', en_oi res = some (-2, τ') ∧ MI τ' (g, t, ro, x, us, kp) ∧ FrM τ0 τ')) (N := gN g) (C := 20) (C0 := 100) ?_ ?_ (gN g) 0 en_FU (0, en_un, τ0) (by omega) (by omega) ⟨rfl, fun r hr => absurd hr (by omega), hM, FrM.refl _⟩
  · rintro f i ⟨x2, u, τ⟩ hi hf ⟨p1, p2, p3, p4⟩
    have p1 : x2 = _ := p1
    have p4 : FrM τ0 τ := p4
    have p2 : ∀ r, r < i → ftF g x m r ≤ 10 ∧ τ 206 r = Int32.ofNat (ftF g x m r) := p2
    obtain ⟨f, rfl⟩ : ∃ j, f = j + 1 := ⟨f - 1, by omega⟩
    obtain ⟨i1, i2⟩ := r_stout1 (A := (g, t, ro, x, us, kp)) hgv hVS hB hm hi x2 11 0 f τ rfl (by omega) p3 rfl
    have i1 : ftF g x m i ≤ 10 → _ := i1
    have i2 : ¬ ftF g x m i ≤ 10 → _ := i2
    have hst : T_X12_stout_28 (f + 1) (Int32.ofNat m) x2 (Int32.ofNat i) u τ = T_X12_stout_39 f (Int32.ofNat m) x2 (Int32.ofNat i) (Int32.ofNat 0) τ := by
      rw [t_X12_stout_28, show τ 185 1 = Int32.ofNat (gN g) from p3.1.1, if_pos ((pn_lt (by omega) (by omega)).mpr hi)]; rfl
    by_cases c : ftF g x m i ≤ 10
    · obtain ⟨f', u', τ', j1, j2, j3, j4, j5⟩ := i1 c
      have j1 : T_X12_stout_39 f (Int32.ofNat m) x2 (Int32.ofNat i) (Int32.ofNat 0) τ = T_X12_stout_28 f' (Int32.ofNat m) (x2 + Int32.ofNat (ftF g x m i)) (Int32.ofNat (i + 1)) u' (en_up τ' 206 i (Int32.ofNat (ftF g x m i))) := j1
      have hM' : MI (en_up τ' 206 i (Int32.ofNat (ftF g x m i))) (g, t, ro, x, us, kp) := j3.kept (fun j _ => by rw [pu_row (by omega)]) (fun c hc => pu_row (by omega))
      have hfs : fsN (ftF g x m) 11 (i + 1) = fsN (ftF g x m) 11 i + ftF g x m i := by
        show fsN (ftF g x m) 11 i + (if ftF g x m i < 11 then ftF g x m i else 0) = _
        rw [if_pos (by omega)]
      refine Or.inl ⟨f', (Int32.ofNat (fsN (ftF g x m) 11 (i + 1)), u', en_up τ' 206 i (Int32.ofNat (ftF g x m i))), ?_, by omega, rfl, fun r hr => ?_, hM', (p4.trans j4).trans (FrM.up (by omega) (by omega))⟩
      · show T_X12_stout_28 (f + 1) (Int32.ofNat m) x2 (Int32.ofNat i) u τ = T_X12_stout_28 f' (Int32.ofNat m) (Int32.ofNat (fsN (ftF g x m) 11 (i + 1))) (Int32.ofNat (i + 1)) u' (en_up τ' 206 i (Int32.ofNat (ftF g x m i)))
        rw [hst, j1, p1, pn_add, hfs]
      · show ftF g x m r ≤ 10 ∧ en_up τ' 206 i (Int32.ofNat (ftF g x m i)) 206 r = _
        rw [pu_at]
        by_cases e : r = i
        · rw [if_pos e, e]; exact ⟨c, rfl⟩
        · rw [if_neg e, j5]; exact p2 r (by omega)
    · obtain ⟨τ', j1, j2, j3⟩ := i2 c
      refine Or.inr ⟨fun q => absurd (q i hi) c, fun _ => ⟨τ', ?_, j2, p4.trans j3⟩⟩
      show en_oi (T_X12_stout_28 (f + 1) (Int32.ofNat m) x2 (Int32.ofNat i) u τ) = _
      rw [hst]; exact j1
  · rintro f ⟨x2, u, τ⟩ hf ⟨p1, p2, p3, p4⟩
    have p1 : x2 = _ := p1
    have p4 : FrM τ0 τ := p4
    have p2 : ∀ r, r < gN g → ftF g x m r ≤ 10 ∧ τ 206 r = Int32.ofNat (ftF g x m r) := p2
    obtain ⟨f, rfl⟩ : ∃ j, f = j + 1 := ⟨f - 1, by omega⟩
    refine ⟨fun _ => ?_, fun q => absurd (fun r hr => (p2 r hr).1) q⟩
    show ∃ τ', en_oi (T_X12_stout_28 (f + 1) (Int32.ofNat m) x2 (Int32.ofNat (gN g)) u τ) = _ ∧ _
    rw [t_X12_stout_28, show τ 185 1 = Int32.ofNat (gN g) from p3.1.1, if_neg (by rw [pn_lt (by omega) (by omega)]; omega), p1]
    refine pl_for1 (F := fun f i (q : en_M) => T_X12_stout_99 f (Int32.ofNat m) (Int32.ofNat (fsN (ftF g x m) 11 (gN g))) (Int32.ofNat i) u q) (P := fun i q => MI q (g, t, rwL (fun r => Int32.ofNat (ftF g x m r)) i, x, us, kp) ∧ ∀ c, c ≠ 185 → c ≠ 190 → q c = τ c) (Q := fun res => ∃ τ', en_oi res = some (Int32.ofNat (fsN (ftF g x m) 11 (gN g)), τ') ∧ MI τ' (g, t, rwL (fun r => Int32.ofNat (ftF g x m r)) (gN g), x, us, kp) ∧ FrM τ0 τ') (N := gN g) ?_ ?_ (gN g) 0 f (en_up τ 185 10 0) (by omega) (by omega) ⟨p3.begin, fun c h1 h2 => pu_row h1⟩
    · rintro f i σ hi ⟨o1, o2⟩
      obtain ⟨σ', s1, s2, s3, -⟩ := o1.add (by rw [rwL_len]; omega) (Int32.ofNat (ftF g x m i))
      refine Or.inl ⟨σ', ?_, s2, fun c h1 h2 => by rw [s3 c h1 h2, o2 c h1 h2]⟩
      show T_X12_stout_99 (f + 1) _ _ _ _ σ = _
      rw [t_X12_stout_99, show σ 185 1 = Int32.ofNat (gN g) from o1.1.1, if_pos ((pn_lt (by omega) (by omega)).mpr hi), pn_ix (by omega) (by omega), Option.bind_some, show σ 206 i = Int32.ofNat (ftF g x m i) by rw [o2 206 (by omega) (by omega)]; exact (p2 i hi).2, s1, Option.bind_some, pn_a1]
    · rintro f σ ⟨o1, o2⟩
      show ∃ τ', en_oi (T_X12_stout_99 (f + 1) _ _ _ _ σ) = _ ∧ _
      rw [t_X12_stout_99, show σ 185 1 = Int32.ofNat (gN g) from o1.1.1, if_neg (by rw [pn_lt (by omega) (by omega)]; omega)]
      exact ⟨σ, rfl, o1, fun c hc => by rw [o2 c (by omega) (by omega), p4 c hc]⟩
