/-! matches: the call -/
theorem q_pairs {g t ro x us kp} {B m those : Nat} {σ : en_M} (hA : AV B (g, t, ro, x, us, kp)) (hB : B < 1000000000) (hm : m ≤ 60) (hC : CI σ (g, t, ro, x, us, kp)) (h182 : ∀ k, k ≤ m → σ 182 k = Int32.ofNat (pkN (odN g x k))) (hs : those < 2 ^ gN g) (h2 : σ 172 2 = Int32.ofNat those) :
    ∃ σ', T_X11_matches_39 en_FU (Int32.ofNat those) (Int32.ofNat m) 0 en_un σ = ((O_X3_match [.inr (172, 3, 0, 0), .inl (Int32.ofNat (gN g)), .inr (3, 9, 0, 0)] σ').bind fun r4 => en_ri r4.1 r4.2) ∧ CI σ' (g, t, ro, x, us, kp) ∧ WT (WN g x m) (gN g) those σ' ∧ ∀ c, c ≠ 0 → c ≠ 183 → (c < 174 ∨ 181 ≤ c) → σ' c = σ c := by
  have hn : gN g ≤ 7 := hA.1.1
  have h128 := p2lt hn
  have hFU := en_FU_ge
  have hCq : ∀ q : en_M, CI q (g, t, ro, x, us, kp) → q 5 3 = Int32.ofNat (gN g) := fun q h => h.1.1
  have h1if : ∀ s i : Nat, s < 128 → i < 7 → (en_shr (Int32.ofNat s) (Int32.ofNat i) &&& 1 = 1) = (s.testBit i = true) := fun s i hs hi => pb_bit1 (by omega) (by omega)
  refine pl_for (F := fun f a (q : en_V × en_M) => T_X11_matches_39 f (Int32.ofNat those) (Int32.ofNat m) (Int32.ofNat a) q.1 q.2) (P := fun a q => CI q.2 (g, t, ro, x, us, kp) ∧ (∀ a' b, a' < a → a' < b → b < gN g → those.testBit a' = true → those.testBit b = true → q.2 (173 + 1 + a') b = Int32.ofNat (WN g x m a' b)) ∧ ∀ c, c ≠ 0 → c ≠ 183 → (c < 174 ∨ 181 ≤ c) → q.2 c = σ c)
    (Q := fun r => ∃ σ', r = ((O_X3_match [.inr (172, 3, 0, 0), .inl (Int32.ofNat (gN g)), .inr (3, 9, 0, 0)] σ').bind fun r4 => en_ri r4.1 r4.2) ∧ CI σ' (g, t, ro, x, us, kp) ∧ WT (WN g x m) (gN g) those σ' ∧ ∀ c, c ≠ 0 → c ≠ 183 → (c < 174 ∨ 181 ≤ c) → σ' c = σ c) (N := gN g) (C := 20) (C0 := 10) ?_ ?_ (gN g) 0 en_FU (en_un, σ) (by omega) (by omega) ⟨hC, fun a' b h => absurd h (by omega), fun _ _ _ _ => rfl⟩
  · rintro f a ⟨u4, q⟩ ha hf ⟨p1, p2, p3⟩
    have p1 : CI q (g, t, ro, x, us, kp) := p1
    have p2 : ∀ a' b, a' < a → a' < b → b < gN g → those.testBit a' = true → those.testBit b = true → q (173 + 1 + a') b = Int32.ofNat (WN g x m a' b) := p2
    have p3 : ∀ c, c ≠ 0 → c ≠ 183 → (c < 174 ∨ 181 ≤ c) → q c = σ c := p3
    obtain ⟨f, rfl⟩ : ∃ j, f = j + 1 := Nat.exists_eq_succ_of_ne_zero (by omega)
    obtain ⟨q', e1, o1, o2, o3, o4⟩ := pl_to (F := fun f b (q : en_M) => T_X11_matches_55 f (Int32.ofNat those) (Int32.ofNat m) (Int32.ofNat a) (Int32.ofNat b) q) (P := fun b q => CI q (g, t, ro, x, us, kp) ∧ (∀ a' b, a' < a → a' < b → b < gN g → those.testBit a' = true → those.testBit b = true → q (173 + 1 + a') b = Int32.ofNat (WN g x m a' b)) ∧ (a < b ∧ ∀ b', a < b' → b' < b → those.testBit a = true → those.testBit b' = true → q (173 + 1 + a) b' = Int32.ofNat (WN g x m a b')) ∧ ∀ c, c ≠ 0 → c ≠ 183 → (c < 174 ∨ 181 ≤ c) → q c = σ c) (N := gN g) (by
      rintro f b q hb ⟨z1, z2, ⟨z3, z3'⟩, z4⟩
      have hboth : O_X3_both [.inr (172, 3, 0, 0), .inl (Int32.ofNat a), .inl (Int32.ofNat b)] q = some (if those.testBit a = true ∧ those.testBit b = true then 1 else 0, q) := by
        rw [o_X3_both, t_X3_both_0, z4 172 (by omega) (by omega) (by omega), h2, q_bit, Option.bind_some]
        dsimp only
        rw [z4 172 (by omega) (by omega) (by omega), h2, q_bit, Option.bind_some, pi_if (h1if those a (by omega) (by omega)), if_pos (show (1 : Int32) = 0 ∨ (1 : Int32) = 1 from Or.inr rfl), if_pos (show (0 : Int32) = 0 ∨ (0 : Int32) = 1 from Or.inl rfl)]
        dsimp only
        rw [pi_if (h1if those b (by omega) (by omega))]
        by_cases c1 : those.testBit a = true
        · rw [if_pos c1]
          by_cases c2 : those.testBit b = true
          · rw [if_pos c2, if_pos ⟨c1, c2⟩]; rfl
          · rw [if_neg c2, if_neg (fun z => c2 z.2)]; rfl
        · rw [if_neg c1, if_neg (fun z => c1 z.1)]; rfl
      show ∃ q', T_X11_matches_55 (f + 1) _ _ _ (Int32.ofNat b) q = _ ∧ _
      rw [t_X11_matches_55, hCq q z1, if_pos ((pn_lt (by omega) (by omega)).mpr hb), hboth, Option.bind_some, pn_a1]
      by_cases c : those.testBit a = true ∧ those.testBit b = true
      · obtain ⟨q2, k1, -, k3, k4⟩ := k_inTurn (a := a) (b := b) hA hB hm z1 (fun k hk => by rw [z4 182 (by omega) (by omega) (by omega)]; exact h182 k hk) (by omega) hb
        have k1 : O_X11_roundsInTurn [.inr (0, 11, 0, 0), .inl (Int32.ofNat a), .inl (Int32.ofNat b), .inl (Int32.ofNat m)] q = some (Int32.ofNat (WN g x m a b), q2) := k1
        rw [if_pos c]
        dsimp only
        rw [if_neg (show ¬ (1 : Int32) = 0 by decide), k1, Option.bind_some]
        dsimp only
        rw [o_X3_put, t_X3_put_0, pn_ix (show a < 7 by omega) (by omega), Option.bind_some, pn_ix (show b < 7 by omega) (by omega), Option.bind_some, Option.bind_some, Option.bind_some]
        refine ⟨en_up (en_up q2 (173 + 1 + a) b (Int32.ofNat (WN g x m a b))) (173 + 1 + b) a (Int32.ofNat (WN g x m a b)), rfl, k3.kept (fun c hc => by rw [pu_row (by omega), pu_row (by omega)]) (by rw [pu_cell (by omega), pu_cell (by omega)]), fun a' b' h1 h2 h3 h4 h5 => ?_, ⟨by omega, fun b' h1 h2 h3 h4 => ?_⟩, fun c h1 h2 h3 => by rw [pu_row (by omega), pu_row (by omega), k4 c h1 h2]; exact z4 c h1 h2 h3⟩
        · rw [pu_cell (by omega), pu_cell (by omega), k4 _ (by omega) (by omega)]; exact z2 a' b' h1 h2 h3 h4 h5
        · rw [pu_cell (by omega)]
          by_cases e : b' = b
          · rw [e, pu_same]
          · rw [pu_slot e, k4 _ (by omega) (by omega)]; exact z3' b' h1 (by omega) h3 h4
      · rw [if_neg c]
        dsimp only
        rw [if_pos (show (0 : Int32) = 0 from rfl)]
        refine ⟨q, rfl, z1, z2, ⟨by omega, fun b' h1 h2 h3 h4 => ?_⟩, z4⟩
        have : b' ≠ b := fun e => c ⟨h3, by rw [← e]; exact h4⟩
        exact z3' b' h1 (by omega) h3 h4) (gN g - (a + 1)) (a + 1) f q (by omega) (by omega) ⟨p1, p2, ⟨by omega, fun b' h1 h2 => absurd h2 (by omega)⟩, p3⟩
    obtain ⟨f2, hf2⟩ : ∃ j, f - (gN g - (a + 1)) = j + 1 := Nat.exists_eq_succ_of_ne_zero (by omega)
    have e1 : T_X11_matches_55 f (Int32.ofNat those) (Int32.ofNat m) (Int32.ofNat a) (Int32.ofNat (a + 1)) q = T_X11_matches_55 (f - (gN g - (a + 1))) (Int32.ofNat those) (Int32.ofNat m) (Int32.ofNat a) (Int32.ofNat (gN g)) q' := e1
    refine Or.inl ⟨f2, (.inl (Int32.ofNat (gN g)), q'), ?_, by omega, o1, fun a' b h1 h2 h3 h4 h5 => ?_, o4⟩
    · show T_X11_matches_39 (f + 1) _ _ (Int32.ofNat a) u4 q = _
      rw [t_X11_matches_39, hCq q p1, if_pos ((pn_lt (by omega) (by omega)).mpr ha), pn_a1, e1, hf2, t_X11_matches_55, hCq q' o1, if_neg (by rw [pn_lt (by omega) (by omega)]; omega), pn_a1]
    · by_cases e : a' = a
      · rw [e] at h2 h4 ⊢; exact o3.2 b h2 h3 h4 h5
      · exact o2 a' b (by omega) h2 h3 h4 h5
  · rintro f ⟨u4, q⟩ hf ⟨p1, p2, p3⟩
    obtain ⟨f, rfl⟩ : ∃ j, f = j + 1 := Nat.exists_eq_succ_of_ne_zero (by omega)
    refine ⟨q, ?_, p1, fun a b h1 h2 h3 h4 => p2 a b (by omega) h1 h2 h3 h4, p3⟩
    show T_X11_matches_39 (f + 1) _ _ (Int32.ofNat (gN g)) u4 q = _
    rw [t_X11_matches_39, show q 5 3 = Int32.ofNat (gN g) from p1.1.1, if_neg (by rw [pn_lt (by omega) (by omega)]; omega)]
theorem r_matches {g t ro x us kp} {B m those : Nat} {τ : en_M} (hA : AV B (g, t, ro, x, us, kp)) (hB : B + m < 1000000000) (hm : m ≤ 60) (hM : MI τ (g, t, ro, x, us, kp)) (hs : those < 2 ^ gN g) :
    ∃ τ', en_oi (T_X12_matches_27 en_FU (Int32.ofNat those) (Int32.ofNat m) 0 τ) = some (Int32.ofNat (BVm (WN g x m) (gN g) those), τ') ∧ MI τ' (g, t, rwL (RRm (WN g x m) (gN g) those) (gN g), x, us, kp) ∧ FrM τ τ' := by
  have hgv : GV g := hA.1
  have hn : gN g ≤ 7 := hgv.1
  have h128 := p2lt hn
  have hFU := en_FU_ge
  have hVS : VS (gN g) B x := hA.2.2.2.2.2.2.2.1
  have hpc := pcn_lt those
  obtain ⟨q1, e1, a1, a2⟩ := pl_to (F := fun f i (q : en_M) => T_X12_matches_27 f (Int32.ofNat those) (Int32.ofNat m) (Int32.ofNat i) q) (P := fun i q => (∀ k, k < i → q 200 k = -1) ∧ ∀ c, c ≠ 200 → q c = τ c) (N := 7) (by
    rintro f i q hi ⟨o1, o2⟩
    refine ⟨en_up q 200 i (-1), ?_, fun k hk => ?_, fun c hc => by rw [pu_row hc]; exact o2 c hc⟩
    · show T_X12_matches_27 (f + 1) _ _ (Int32.ofNat i) q = _
      rw [t_X12_matches_27, if_pos (show Int32.ofNat i < (7 : Int32) from (pn_lt (b := 7) (by omega) (by omega)).mpr hi), pn_ix hi (by omega), Option.bind_some, pn_a1]
    · by_cases e : k = i
      · rw [e, pu_same]
      · rw [pu_slot e]; exact o1 k (by omega)) 7 0 en_FU τ (by omega) (by omega) ⟨fun k hk => absurd hk (by omega), fun _ _ => rfl⟩
  have e1 : T_X12_matches_27 en_FU (Int32.ofNat those) (Int32.ofNat m) 0 τ = T_X12_matches_27 (en_FU - 7) (Int32.ofNat those) (Int32.ofNat m) (Int32.ofNat 7) q1 := e1
  obtain ⟨f1, hf1⟩ : ∃ j, en_FU - 7 = j + 1 := Nat.exists_eq_succ_of_ne_zero (by omega)
  have hM1 : MI (en_up q1 185 36 (-1)) (g, t, ro, x, us, kp) := (hM.kept (fun j _ => by rw [a2 185 (by omega)]) (fun c hc => a2 c (by omega)) : MI q1 _).slot 36 _ (by omega)
  have hf36 : (en_up q1 185 36 (-1)) 185 36 = -1 := pu_same _ _ _ _
  have h200 : ∀ k, k < 7 → (en_up q1 185 36 (-1)) 200 k = -1 := fun k hk => by rw [pu_cell (by omega)]; exact a1 k hk
  have hfr : FrM τ (en_up q1 185 36 (-1)) := fun c hc => by rw [pu_row (by omega), a2 c (by omega)]
  rw [e1, hf1, t_X12_matches_27, if_neg (show ¬ Int32.ofNat 7 < (7 : Int32) by decide), q_bitCount, Option.bind_some]
  dsimp only
  rw [if_neg (show ¬ (2 : Int32) = 0 by decide), pbc_n (show those < 128 by omega), show Int32.ofNat (pcn those) - Int32.ofNat (pcn those) / (2 : Int32) * (2 : Int32) = Int32.ofNat (pcn those % 2) from pn_mod (b := 2) (by omega) (by omega)]
  generalize en_up q1 185 36 (-1) = q2 at hM1 hf36 h200 hfr ⊢
  obtain ⟨q3, g1, g2, g3, g4, g5⟩ := r_go (t := t) (ro := ro) (us := us) (kp := kp) hgv hVS hB hm (gN g) 0 250 those (pcn those % 2) 0 q2 (by omega) (by omega) hs (fun k hk => absurd hk (by omega)) rfl (by omega) hM1 (fun k hk _ => h200 k hk)
  have g1 : O_X12_goMatches [.inr (185, 12, 0, 0), .inl (0 : Int32), .inl (Int32.ofNat those), .inl (Int32.ofNat (pcn those % 2)), .inl (0 : Int32), .inl (Int32.ofNat m)] q2 = some q3 := by rw [oe_X12_goMatches]; exact g1
  have hv := mtv_le (W := WN g x m) (fun a b => Nat.le_trans (WN_le g x m a b) hm) (gN g) 0 those (pcn those % 2)
  obtain ⟨y1, y2⟩ := g5.1 (by rw [hf36]; exact Int32.lt_of_lt_of_le (by decide) (pn_0le (by omega)))
  rw [Nat.zero_add] at y1
  have hval : q3 185 36 = Int32.ofNat (BVm (WN g x m) (gN g) those) := y1
  have hrow : ∀ r, r < gN g → q3 201 r = RRm (WN g x m) (gN g) those r := fun r hr => by
    rw [y2 r hr]
    exact as_congr (gN g) 0 those _ _ _ (by omega) (by omega) (fun k hk => absurd hk (by omega)) (fun r hr => h200 r hr) r (by omega)
  rw [g1, Option.bind_some]
  refine pl_for1 (F := fun f r (q : en_M) => T_X12_matches_72 f (Int32.ofNat those) (Int32.ofNat m) (Int32.ofNat r) q) (P := fun r q => MI q (g, t, rwL (RRm (WN g x m) (gN g) those) r, x, us, kp) ∧ q 201 = q3 201 ∧ q 185 36 = q3 185 36 ∧ FrM τ q)
    (Q := fun r => ∃ τ', en_oi r = some (Int32.ofNat (BVm (WN g x m) (gN g) those), τ') ∧ MI τ' (g, t, rwL (RRm (WN g x m) (gN g) those) (gN g), x, us, kp) ∧ FrM τ τ') (N := gN g) ?_ ?_ (gN g) 0 f1 (en_up q3 185 10 0) (by omega) (by omega) ⟨MI.begin g2, pu_row (by omega), pu_slot (by omega), fun c hc => by rw [pu_row (by omega), g3 c hc, hfr c hc]⟩
  · rintro f r q hr ⟨p1, p2, p3, p4⟩
    obtain ⟨q', k1, k2, k3, k4⟩ := p1.add (by rw [rwL_len]; omega) (RRm (WN g x m) (gN g) those r)
    left
    refine ⟨q', ?_, k2, by rw [k3 201 (by omega) (by omega), p2], by rw [k4 36 (by omega), p3], fun c hc => by rw [k3 c (by omega) (by omega)]; exact p4 c hc⟩
    show T_X12_matches_72 (f + 1) _ _ (Int32.ofNat r) q = _
    rw [t_X12_matches_72, show q 185 1 = Int32.ofNat (gN g) from p1.1.1, if_pos ((pn_lt (by omega) (by omega)).mpr hr), pn_ix (show r < 7 by omega) (by omega), Option.bind_some, p2, hrow r hr, k1, Option.bind_some, pn_a1]
  · rintro f q ⟨p1, p2, p3, p4⟩
    show ∃ τ', en_oi (T_X12_matches_72 (f + 1) _ _ (Int32.ofNat (gN g)) q) = _ ∧ _
    rw [t_X12_matches_72, show q 185 1 = Int32.ofNat (gN g) from p1.1.1, if_neg (by rw [pn_lt (by omega) (by omega)]; omega), p3, hval]
    exact ⟨q, rfl, p1, p4⟩
theorem p_matches : en_st_matches pInv := by
  intro c v w hc
  refine p_two0 hc (fun A σ0 hA hB h0 => ?_)
  have hA0 := hA
  obtain ⟨g, t, ro, x, us, kp⟩ := A
  have hgv : GV g := hA.1
  have hn : gN g ≤ 7 := hgv.1
  have no : (CI σ0 (g, t, ro, x, us, kp) → O_X11_matches [.inr (0, 11, 0, 0), .inl v, .inl w] σ0 = some (-1, σ0)) → (∀ τ, MI τ (g, t, ro, x, us, kp) → O_X12_matches [.inr (185, 12, 0, 0), .inl v, .inl w] τ = some (-1, en_up τ 185 11 0)) → ∃ v' A', (CI σ0 (g, t, ro, x, us, kp) → ∃ σ', O_X11_matches [.inr (0, 11, 0, 0), .inl v, .inl w] σ0 = some (v', σ') ∧ CI σ' A' ∧ (∀ c, 185 ≤ c → σ' c = σ0 c) ∧ σ' 181 0 = 0) ∧ (∀ τ, MI τ (g, t, ro, x, us, kp) → ∃ τ', O_X12_matches [.inr (185, 12, 0, 0), .inl v, .inl w] τ = some (v', τ') ∧ MI τ' A' ∧ FrM τ τ') ∧ AV (2000 * (c + 1)) A' := fun h1 h2 =>
    ⟨-1, _, fun hC => ⟨σ0, h1 hC, hC, fun _ _ => rfl, h0⟩, fun τ hM => ⟨_, h2 τ hM, hM.slot 11 0 (by omega), FrM.up (by omega) (by omega)⟩, hA.mono (by omega)⟩
  by_cases hv : isR (2 ^ gN g) v
  · by_cases hz : ¬ w < 1 ∧ ¬ (60 : Int32) < w
    · obtain ⟨those, hs, rfl⟩ := hv
      obtain ⟨m, hm, rfl⟩ : isR 61 w := isR_1 (by omega) (by omega) hz.1 hz.2
      have rv : isR (2 ^ gN g) (Int32.ofNat those) := ⟨those, hs, rfl⟩
      have hWb : ∀ a b, WN g x m a b ≤ 60 := fun a b => Nat.le_trans (WN_le g x m a b) (by omega)
      refine ⟨Int32.ofNat (BVm (WN g x m) (gN g) those), (g, t, rwL (RRm (WN g x m) (gN g) those) (gN g), x, us, kp), fun hC => ?_, fun τ hM => ?_, (hA.row (by rw [rwL_len]; omega)).mono (by omega)⟩
      · obtain ⟨σ1, e1, e2, e3, e4⟩ := k_look hA (by omega) hC (m := m) (by omega)
        have e1' : O_X11_lookAhead [.inr (0, 11, 0, 0), .inl (Int32.ofNat m)] σ0 = some σ1 := e1
        have hC2 : CI (en_up σ1 172 2 (Int32.ofNat those)) (g, t, ro, x, us, kp) := e2.kept (fun c hc => pu_row (by omega)) (pu_cell (by omega))
        obtain ⟨σ2, f1, f2, f3, f4⟩ := q_pairs (m := m) hA (by omega) (by omega) hC2 (fun k hk => by rw [pu_cell (by omega)]; exact e3 k hk) hs (pu_same _ _ _ _)
        have h20 : σ2 181 0 = 0 := by rw [f4 181 (by omega) (by omega) (by omega), pu_cell (by omega), e4 181 (Or.inr rfl)]; exact h0
        obtain ⟨σ3, k1, k2, k3, k4⟩ := q_match hA f2 hWb hs (by rw [f4 172 (by omega) (by omega) (by omega), pu_same]) f3 h20
        have hbeg : O_X3_begin [.inr (172, 3, 0, 0), .inl (Int32.ofNat those)] σ1 = some (en_up σ1 172 2 (Int32.ofNat those)) := by rw [o_X3_begin, t_X3_begin_0]; rfl
        rw [o_X11_matches, t_X11_matches_0, k_hasAll_y hA0 hC rv, Option.bind_some, if_neg (show ¬ (1 : Int32) = 0 by decide), if_neg hz.1, if_neg hz.2]
        dsimp only
        rw [e1', Option.bind_some, hbeg, Option.bind_some, f1, k1, Option.bind_some]
        exact ⟨σ3, rfl, k2, fun c hc => by rw [k3 c (by omega) (by omega) (by omega), f4 c (by omega) (by omega) (by omega), pu_row (by omega), e4 c (Or.inl hc)], k4⟩
      · have hM2 := hM.slot 11 0 (by omega)
        obtain ⟨τ', r1, r2, r3⟩ := r_matches (B := 2000 * c) (m := m) (those := those) hA (by omega) (by omega) hM2 hs
        rw [o_X12_matches, t_X12_matches_0, m_areThose_y hA0 hM2.1 rv, Option.bind_some]
        dsimp only
        rw [if_neg (show ¬ (1 : Int32) = 0 by decide), q_in, Option.bind_some, if_neg (by dsimp only; rw [pb2_0]; exact fun q => q hz)]
        dsimp only
        rw [r1]
        exact ⟨τ', rfl, r2, fun c hc => by rw [r3 c hc, pu_row (by omega)]⟩
    · refine no (fun hC => ?_) (fun τ hM => ?_)
      · rw [o_X11_matches, t_X11_matches_0, k_hasAll_y hA0 hC hv, Option.bind_some, if_neg (show ¬ (1 : Int32) = 0 by decide)]
        by_cases v0 : w < 1
        · rw [if_pos v0]; rfl
        · rw [if_neg v0, if_pos (show (60 : Int32) < w from Classical.byContradiction fun q => hz ⟨v0, q⟩)]; rfl
      · have hM2 := hM.slot 11 0 (by omega)
        rw [o_X12_matches, t_X12_matches_0, m_areThose_y hA0 hM2.1 hv, Option.bind_some]
        dsimp only
        rw [if_neg (show ¬ (1 : Int32) = 0 by decide), q_in, Option.bind_some, if_pos (by dsimp only; rw [pb2_0]; exact hz)]; rfl
  · refine no (fun hC => ?_) (fun τ hM => ?_)
    · rw [o_X11_matches, t_X11_matches_0, k_hasAll_n hA0 hC hv, Option.bind_some, if_pos (show (0 : Int32) = 0 from rfl)]; rfl
    · have hM2 := hM.slot 11 0 (by omega)
      rw [o_X12_matches, t_X12_matches_0, m_areThose_n hA0 hM2.1 hv, Option.bind_some]
      dsimp only
      rw [if_pos (show (0 : Int32) = 0 from rfl)]; rfl
