/-! orders to come, laid on both sides -/
theorem pl_to {S R : Type} (F : Nat → Nat → S → R) (P : Nat → S → Prop) {N : Nat} (h1 : ∀ n i s, i < N → P i s → ∃ s', F (n + 1) i s = F n (i + 1) s' ∧ P (i + 1) s') : ∀ k i n s, i + k = N → k ≤ n → P i s → ∃ s', F n i s = F (n - k) N s' ∧ P N s' := by
  intro k
  induction k with
  | zero => intro i n s hi hn hP; have hi : i = N := hi; subst hi; exact ⟨s, rfl, hP⟩
  | succ k ih =>
    intro i n s hi hn hP
    obtain ⟨m, rfl⟩ : ∃ m, n = m + 1 := ⟨n - 1, by omega⟩
    obtain ⟨s', e, hP'⟩ := h1 m i s (by omega) hP
    obtain ⟨s'', e2, hP''⟩ := ih (i + 1) m s' (by omega) (by omega) hP'
    exact ⟨s'', by rw [e, e2, Nat.add_sub_add_right], hP''⟩
def odN (g : pG) (x : pS) : Nat → Nat → Nat
  | 0 => sF x
  | k + 1 => nxF g (odN g x k) (sN x + k)
theorem odN_PMf {g : pG} {x : pS} (hg : GV g) (hp : PMf (gN g) (sF x)) : ∀ k, PMf (gN g) (odN g x k)
  | 0 => hp
  | k + 1 => pch_PMf hg.1 7 0 _ (odN_PMf hg hp k)
theorem odN_rdN {g : pG} {x : pS} : ∀ k, sF (rdN g x k) = odN g x k ∧ sN (rdN g x k) = sN x + k
  | 0 => ⟨rfl, rfl⟩
  | k + 1 => by
    obtain ⟨h1, h2⟩ := odN_rdN (g := g) (x := x) k
    refine ⟨?_, ?_⟩
    · show nxF g (sF (rdN g x k)) (sN (rdN g x k)) = nxF g (odN g x k) (sN x + k)
      rw [h1, h2]
    · show sN (rdN g x k) + 1 = _
      rw [h2]; rfl
theorem q_lookAhead {g : pG} {x : pS} {m B : Nat} {σ : en_M} (hg : GV g) (hc : CG σ g) (hx : CS σ 15 x) (hv : VS (gN g) B x) (hB : B < 1000000000) (hm : m ≤ 200) : ∃ σ', O_X11_lookAhead [.inr (0, 11, 0, 0), .inl (Int32.ofNat m)] σ = some σ' ∧ (∀ k, k ≤ m → σ' 182 k = Int32.ofNat (pkN (odN g x k))) ∧ ∀ c, c ≠ 182 → σ' c = σ c := by
  have hN : sN x ≤ B := hv.2.1
  rw [o_X11_lookAhead, t_X11_lookAhead_0, show en_ix 0 201 = some 0 from pn_ix (k := 0) (by omega) (by omega), Option.bind_some, hx.1]
  refine pl_for1 (F := fun f i (q : en_M) => T_X11_lookAhead_15 f (Int32.ofNat m) (Int32.ofNat i) q) (P := fun i q => (∀ k, k ≤ i → q 182 k = Int32.ofNat (pkN (odN g x k))) ∧ ∀ c, c ≠ 182 → q c = σ c) (Q := fun r => ∃ σ', en_ov r = some σ' ∧ (∀ k, k ≤ m → σ' 182 k = Int32.ofNat (pkN (odN g x k))) ∧ ∀ c, c ≠ 182 → σ' c = σ c) (N := m) ?_ ?_ m 0 en_FU _ (by omega) (pl_FU (by omega)) ⟨fun k hk => ?_, fun c hc => pu_row hc⟩
  · rintro f i τ hi ⟨p1, p2⟩
    have hcτ : CG τ g := hc.kept (p2 5 (by omega)) (p2 6 (by omega)) (p2 7 (by omega)) (p2 8 (by omega)) (by rw [p2 10 (by omega)]) (p2 11 (by omega))
    refine Or.inl ⟨en_up τ 182 (i + 1) (Int32.ofNat (pkN (odN g x (i + 1)))), ?_, fun k hk => ?_, fun c hc => by rw [pu_row hc, p2 c hc]⟩
    · show T_X11_lookAhead_15 (f + 1) _ _ τ = _
      rw [t_X11_lookAhead_15, if_pos ((pn_lt (by omega) (by omega)).mpr hi), if_pos (show Int32.ofNat i < (200 : Int32) from (pn_lt (b := 200) (by omega) (by omega)).mpr (by omega)), pn_ix (by omega) (by omega), Option.bind_some, p1 i (Nat.le_refl _), hcτ.1, show τ 15 5 = Int32.ofNat (sN x) by rw [p2 15 (by omega)]; exact hx.2.1, pn_add,
        q_next (odN_PMf hg hv.1 i) hg.1 (by omega) hg.2.1 hg.2.2.1 hcτ.2.2.2.2.2.1 (fun j hj => ⟨hcτ.2.2.2.2.2.2.1 j hj, hg.2.2.2.1 j hj⟩), Option.bind_some, pn_a1, pn_ix (by omega) (by omega), Option.bind_some]; rfl
    · rw [pu_at]
      by_cases e : k = i + 1
      · rw [if_pos e, e]
      · rw [if_neg e]; exact p1 k (by omega)
  · rintro f τ ⟨p1, p2⟩
    show ∃ σ', en_ov (T_X11_lookAhead_15 (f + 1) _ _ τ) = some σ' ∧ _
    rw [t_X11_lookAhead_15, if_neg (by rw [pn_lt (by omega) (by omega)]; omega)]
    exact ⟨τ, rfl, p1, p2⟩
  · rw [show k = 0 by omega, pu_same]; rfl
/-- what laying orders leaves of the reference's memory -/
theorem r_layOrders {g : pG} {x : pS} {m B : Nat} {σ : en_M} (hg : GV g) (hc : MG σ g) (hM : MSr (gN g) (σ 186) x) (hv : VS (gN g) B x) (hB : B < 1000000000) (hm : m ≤ 200) : ∃ σ', O_X12_layOrders [.inr (185, 12, 0, 0), .inl (Int32.ofNat m)] σ = some σ' ∧ (∀ k p, k ≤ m → p < gN g → σ' 197 (7 * k + p) = Int32.ofNat (odN g x k p)) ∧ ∀ c, c ≠ 197 → c ≠ 198 → σ' c = σ c := by
  have hN : sN x ≤ B := hv.2.1
  have hn := hg.1
  obtain ⟨σ0, hl', z1, z2⟩ : ∃ σ0, O_X12_lay [.inr (186, 20, 53, 0), .inr (198, 20, 53, 0), .inl (0 : Int32)] σ = some σ0 ∧ (∀ j, j < 53 → σ0 198 j = σ 186 j) ∧ ∀ c, c ≠ 198 → σ0 c = σ c :=
    ⟨_, r_lay (σ := σ) (k0 := 186) (k1 := 198) (n1 := 53) (o := 0) (by omega) (by omega) (by omega), fun j hj => by rw [pst_same, if_pos (by omega), Nat.sub_zero], fun c hc => pst_ne hc⟩
  rw [o_X12_layOrders, t_X12_layOrders_0, hl', Option.bind_some]
  refine pl_for (F := fun f i (q : en_V × en_M) => T_X12_layOrders_14 f (Int32.ofNat m) (Int32.ofNat i) q.1 q.2) (P := fun i q => (∀ k p, k < i → p < gN g → q.2 197 (7 * k + p) = Int32.ofNat (odN g x k p)) ∧ FRow (gN g) (q.2 198) 0 (odN g x i) ∧ q.2 198 28 = Int32.ofNat (sN x + i) ∧ ∀ c, c ≠ 197 → c ≠ 198 → q.2 c = σ c)
    (Q := fun r => ∃ σ', en_ov r = some σ' ∧ (∀ k p, k ≤ m → p < gN g → σ' 197 (7 * k + p) = Int32.ofNat (odN g x k p)) ∧ ∀ c, c ≠ 197 → c ≠ 198 → σ' c = σ c) (N := m + 1) (C := 10) (C0 := 1) ?_ ?_ (m + 1) 0 en_FU (en_un, σ0) (by omega) (by have := en_FU_ge; omega) ⟨fun k p hk _ => absurd hk (Nat.not_lt_zero k), fun p hp => ?_, ?_, fun c h1 h2 => z2 c h2⟩
  · rintro f i ⟨u, τ⟩ hi hf ⟨p1, p2, p3, p4⟩
    dsimp only at p1 p2 p3 p4
    obtain ⟨f, rfl⟩ : ∃ j, f = j + 1 := ⟨f - 1, by omega⟩
    have h1 : τ 185 1 = Int32.ofNat (gN g) := by rw [p4 185 (by omega) (by omega)]; exact hc.1
    left
    show ∃ n' s', T_X12_layOrders_14 (f + 1) _ _ u τ = _ ∧ _
    rw [t_X12_layOrders_14, if_neg (show ¬ Int32.ofNat m < Int32.ofNat i by rw [pn_lt (by omega) (by omega)]; omega)]
    obtain ⟨τ1, e1, a1, a2⟩ := pl_to (F := fun f p (q : en_M) => T_X12_layOrders_21 f (Int32.ofNat m) (Int32.ofNat i) (Int32.ofNat p) q) (P := fun p q => (∀ j, q 197 j = if 7 * i ≤ j ∧ j < 7 * i + p then Int32.ofNat (odN g x i (j - 7 * i)) else τ 197 j) ∧ ∀ c, c ≠ 197 → q c = τ c) (N := gN g) (fun f p q hp hP => by
      obtain ⟨b1, b2⟩ := hP
      have hr := p2 p hp
      rw [Nat.zero_add] at hr
      refine ⟨en_up q 197 (7 * i + p) (Int32.ofNat (odN g x i p)), ?_, fun j => ?_, fun c hc => by rw [pu_row hc, b2 c hc]⟩
      · show T_X12_layOrders_21 (f + 1) _ _ _ q = _
        rw [t_X12_layOrders_21, b2 185 (by omega), h1, if_pos ((pn_lt (by omega) (by omega)).mpr hp), pn_ix (by omega) (by omega), Option.bind_some, show (7 : Int32) * Int32.ofNat i = Int32.ofNat (7 * i) from pn_mul 7 i, pn_add, pn_ix (by omega) (by omega), Option.bind_some, b2 198 (by omega), hr, pn_a1]
      · rw [pu_at]
        by_cases e : j = 7 * i + p
        · rw [if_pos e, if_pos (by omega), show j - 7 * i = p by omega]
        · rw [if_neg e, b1 j]
          by_cases h : 7 * i ≤ j ∧ j < 7 * i + p
          · rw [if_pos h, if_pos (by omega)]
          · rw [if_neg h, if_neg (by omega)]) (gN g) 0 f τ (by omega) (by omega) ⟨fun j => by rw [if_neg (by omega)], fun _ _ => rfl⟩
    have e1' : T_X12_layOrders_21 f (Int32.ofNat m) (Int32.ofNat i) 0 τ = _ := e1
    rw [e1']
    obtain ⟨d, hd⟩ : ∃ d, f - gN g = d + 1 := ⟨f - gN g - 1, by omega⟩
    have hcτ : MG τ1 g := by
      have hcc : ∀ c, c ≠ 197 → c ≠ 198 → τ1 c = σ c := fun c h1 h2 => by rw [a2 c h1, p4 c h1 h2]
      exact hc.keep (fun j _ => by rw [hcc 185 (by omega) (by omega)]) (hcc 187 (by omega) (by omega)) (hcc 188 (by omega) (by omega)) (hcc 192 (by omega) (by omega))
    obtain ⟨row', c1, c2, c3⟩ := r_changeOrder (k0 := 198) (N := sN x + i) (f := odN g x i) hn (by omega) hg.2.1 hg.2.2.1 (by omega) hcτ.1 hcτ.2.2.2.2.1 (fun j hj => ⟨hcτ.2.2.2.2.2.1 j hj, hg.2.2.2.1 j hj⟩) (by rw [a2 198 (by omega)]; exact p3) (by rw [a2 198 (by omega)]; exact p2)
    have i28 : en_ix 28 53 = some 28 := pn_ix (k := 28) (by omega) (by omega)
    rw [hd, t_X12_layOrders_21, hcτ.1, if_neg (by rw [pn_lt (by omega) (by omega)]; omega), c1, Option.bind_some, i28, Option.bind_some, Option.bind_some, pst_same, c3 28 (by omega), a2 198 (by omega), p3, pn_a1, pn_a1]
    refine ⟨d, (.inl (Int32.ofNat (gN g)), en_up (pst τ1 198 row') 198 28 (Int32.ofNat (sN x + i + 1))), rfl, by omega, fun k p hk hp => ?_, fun p hp => ?_, ?_, fun c h1 h2 => ?_⟩
    · dsimp only
      rw [pu_cell (by omega), pst_ne (by omega), a1]
      by_cases e : k = i
      · subst e; rw [if_pos (by omega), show 7 * k + p - 7 * k = p by omega]
      · rw [if_neg (by omega)]; exact p1 k p (by omega) hp
    · dsimp only
      rw [pu_slot (by omega), pst_same]; exact c2 p hp
    · dsimp only
      rw [pu_same]; rfl
    · dsimp only
      rw [pu_row h2, pst_ne h2, a2 c h1, p4 c h1 h2]
  · rintro f ⟨u, τ⟩ hf ⟨p1, p2, p3, p4⟩
    obtain ⟨f, rfl⟩ : ∃ j, f = j + 1 := ⟨f - 1, by omega⟩
    show ∃ σ', en_ov (T_X12_layOrders_14 (f + 1) _ _ u τ) = some σ' ∧ _
    rw [t_X12_layOrders_14, if_pos ((pn_lt (by omega) (by omega)).mpr (by omega))]
    exact ⟨τ, rfl, fun k p hk hp => p1 k p (by omega) hp, p4⟩
  · show σ0 198 (0 + p) = _
    have := hM.1 p hp
    rw [Nat.zero_add] at this ⊢
    rw [z1 p (by omega)]; exact this
  · show σ0 198 28 = _
    rw [z1 28 (by omega)]
    exact hM.2.2.1
