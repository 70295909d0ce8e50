/-! set, may, bound, missed, count -/
/-- nothing changes: the two answers -/
theorem p_ask {c : Nat} {f g : en_M → Option (Int32 × en_M)} (hc : c < 512) (h : ∀ A : pI, AV (2000 * c) A → 2000 * c ≤ 2000000 → ∃ v, (∀ σ, CI σ A → f σ = some (v, σ)) ∧ ∀ τ, MI τ A → g τ = some (v, en_up τ 185 11 0)) : en_two pInv c f g :=
  p_two hc (fun A _ hA hB => by
    obtain ⟨v, h1, h2⟩ := h A hA hB
    exact ⟨v, A, fun hC => ⟨_, h1 _ hC, hC, FrC.refl _⟩, fun τ hM => ⟨_, h2 τ hM, hM.slot 11 0 (by omega), FrM.up (by omega) (by omega)⟩, hA.mono (by omega)⟩)
theorem k_hasAll_y {A : pI} {B : Nat} {σ : en_M} (hA : AV B A) (hC : CI σ A) {x : Int32} (h : isR (2 ^ gN (iG A)) x) : O_X10_hasAll [.inr (5, 10, 0, 0), .inl x] σ = some (1, σ) := by
  obtain ⟨w, e1, e2⟩ := q_hasAll (n8 hA) hC.1.1 x
  rcases e2 with ⟨rfl, q⟩ | ⟨rfl, q⟩
  · exact absurd h q
  · exact e1
theorem k_hasAll_n {A : pI} {B : Nat} {σ : en_M} (hA : AV B A) (hC : CI σ A) {x : Int32} (h : ¬ isR (2 ^ gN (iG A)) x) : O_X10_hasAll [.inr (5, 10, 0, 0), .inl x] σ = some (0, σ) := by
  obtain ⟨w, e1, e2⟩ := q_hasAll (n8 hA) hC.1.1 x
  rcases e2 with ⟨rfl, q⟩ | ⟨rfl, q⟩
  · exact e1
  · exact absurd q h
theorem k_hasRinger_y {A : pI} {B : Nat} {σ : en_M} (hA : AV B A) (hC : CG σ (iG A)) {x : Int32} (h : isR (gN (iG A)) x) : O_X10_hasRinger [.inr (5, 10, 0, 0), .inl x] σ = some (1, σ) := by
  obtain ⟨w, e1, e2⟩ := q_hasRinger (n := gN (iG A)) (by have := n8 hA; omega) hC.1 x
  rcases e2 with ⟨rfl, q⟩ | ⟨rfl, q⟩
  · exact absurd h q
  · exact e1
theorem k_hasRinger_n {A : pI} {B : Nat} {σ : en_M} (hA : AV B A) (hC : CG σ (iG A)) {x : Int32} (h : ¬ isR (gN (iG A)) x) : O_X10_hasRinger [.inr (5, 10, 0, 0), .inl x] σ = some (0, σ) := by
  obtain ⟨w, e1, e2⟩ := q_hasRinger (n := gN (iG A)) (by have := n8 hA; omega) hC.1 x
  rcases e2 with ⟨rfl, q⟩ | ⟨rfl, q⟩
  · exact e1
  · exact absurd q h
theorem m_areThose_y {A : pI} {B : Nat} {σ : en_M} (hA : AV B A) (hC : MG σ (iG A)) {x : Int32} (h : isR (2 ^ gN (iG A)) x) : O_X12_areThose [.inr (185, 12, 0, 0), .inl x] σ = some (1, σ) := by
  obtain ⟨w, e1, e2⟩ := q_areThose (n8 hA) hC.1 x
  rcases e2 with ⟨rfl, q⟩ | ⟨rfl, q⟩
  · exact absurd h q
  · exact e1
theorem m_areThose_n {A : pI} {B : Nat} {σ : en_M} (hA : AV B A) (hC : MG σ (iG A)) {x : Int32} (h : ¬ isR (2 ^ gN (iG A)) x) : O_X12_areThose [.inr (185, 12, 0, 0), .inl x] σ = some (0, σ) := by
  obtain ⟨w, e1, e2⟩ := q_areThose (n8 hA) hC.1 x
  rcases e2 with ⟨rfl, q⟩ | ⟨rfl, q⟩
  · exact e1
  · exact absurd q h
theorem m_isOne_y {A : pI} {B : Nat} {σ : en_M} (hA : AV B A) (hC : MG σ (iG A)) {x : Int32} (h : isR (gN (iG A)) x) : O_X12_isOne [.inr (185, 12, 0, 0), .inl x] σ = some (1, σ) := by
  obtain ⟨w, e1, e2⟩ := q_isOne (n := gN (iG A)) (by have := n8 hA; omega) hC.1 x
  rcases e2 with ⟨rfl, q⟩ | ⟨rfl, q⟩
  · exact absurd h q
  · exact e1
theorem m_isOne_n {A : pI} {B : Nat} {σ : en_M} (hA : AV B A) (hC : MG σ (iG A)) {x : Int32} (h : ¬ isR (gN (iG A)) x) : O_X12_isOne [.inr (185, 12, 0, 0), .inl x] σ = some (0, σ) := by
  obtain ⟨w, e1, e2⟩ := q_isOne (n := gN (iG A)) (by have := n8 hA; omega) hC.1 x
  rcases e2 with ⟨rfl, q⟩ | ⟨rfl, q⟩
  · exact e1
  · exact absurd q h
theorem q_brokenNow {A : pI} {B s : Nat} {σ : en_M} (hA : AV B A) (hB : B < 1000000000) (hC : CI σ A) (hn0 : 0 < gN (iG A)) (hs : s < 2 ^ gN (iG A)) : O_X11_brokenNow [.inr (0, 11, 0, 0), .inl (Int32.ofNat s)] σ = some (Int32.ofNat (lawS (iG A) (iS A) s), σ) := by
  have hg := hA.1
  have hV := hA.2.2.2.2.2.2.2.1
  have hN : sN (iS A) ≤ B := hV.2.1
  obtain ⟨a1, a2, a3, a4, a5, -⟩ := hC.2.2.2.1
  have htn := tnN_lt (gW (iG A)) (gN (iG A)) hn0
  have hn : gN (iG A) ≤ 7 := hg.1
  rw [o_X11_brokenNow, t_X11_brokenNow_0, a1, a2, a4, a5, q_breach hV.1 hg.1 hs hg.2.2.2.2.2.1 (show tnN (gW (iG A)) (gN (iG A)) < 7 by omega) (show sN (iS A) < 2147483648 by omega) hC.1.2.2.2.1 (by rw [hC.1.2.2.1, if_neg (by omega)]), Option.bind_some]
  rfl
theorem p_may : en_st_may pInv := by
  intro c v hc
  refine p_ask hc (fun A hA hB => ?_)
  have hn := n8 hA
  by_cases hz : gN (iG A) = 0
  · refine ⟨-2, fun σ hC => ?_, fun τ hM => ?_⟩
    · rw [o_X11_may, t_X11_may_0, hC.1.1, hz, if_pos (by decide)]; rfl
    · rw [o_X12_may, t_X12_may_0, hM.1.1, hz, if_pos (by decide)]; rfl
  have nz : ¬ Int32.ofNat (gN (iG A)) = 0 := by rw [pn_eq0 (by omega)]; exact hz
  by_cases hv : isR (2 ^ gN (iG A)) v
  · obtain ⟨s, hs, rfl⟩ := hv
    refine ⟨Int32.ofNat (lawS (iG A) (iS A) s), fun σ hC => ?_, fun τ hM => ?_⟩
    · rw [o_X11_may, t_X11_may_0, hC.1.1, if_neg nz, k_hasAll_y hA hC ⟨s, hs, rfl⟩, Option.bind_some, if_neg (show ¬ (1 : Int32) = 0 by decide)]
      dsimp only
      rw [q_brokenNow hA (by omega) hC (by omega) hs, Option.bind_some]; rfl
    · have hM2 := hM.slot 11 0 (by omega)
      rw [o_X12_may, t_X12_may_0, hM.1.1, if_neg nz, m_areThose_y hA hM2.1 ⟨s, hs, rfl⟩, Option.bind_some, if_neg (show ¬ (1 : Int32) = 0 by decide)]
      dsimp only
      rw [r_broken (k := 186) hA.1 hM2.1 hM2.2.2.2.1 hA.2.2.2.2.2.2.2.1.1 (by have : sN (iS A) ≤ 2000 * c := hA.2.2.2.2.2.2.2.1.2.1; omega) (by omega) hs, Option.bind_some]; rfl
  · refine ⟨-1, fun σ hC => ?_, fun τ hM => ?_⟩
    · rw [o_X11_may, t_X11_may_0, hC.1.1, if_neg nz, k_hasAll_n hA hC hv, Option.bind_some, if_pos (show (0 : Int32) = 0 from rfl)]; rfl
    · have hM2 := hM.slot 11 0 (by omega)
      rw [o_X12_may, t_X12_may_0, hM.1.1, if_neg nz, m_areThose_n hA hM2.1 hv, Option.bind_some, if_pos (show (0 : Int32) = 0 from rfl)]; rfl
theorem p_set : en_st_set pInv := by
  intro c w v hc
  refine p_two hc (fun A σ0 hA hB => ?_)
  have hA' := hA.mono (show 2000 * c ≤ 2000 * (c + 1) by omega)
  obtain ⟨g, t, ro, x, us, kp⟩ := A
  obtain ⟨n, ww, ch, m, mo, re, V⟩ := g
  by_cases c1 : w = 0 ∧ ¬ v < 1 ∧ ¬ 3 < v
  · obtain ⟨rfl, c2, c3⟩ := c1
    obtain ⟨k, hk, rfl⟩ := pn_nn (x := v) (Int32.le_trans (by decide : (0 : Int32) ≤ 1) (Int32.not_lt.mp c2))
    have k1 : 1 ≤ k := Nat.le_of_not_lt fun q => c2 ((pn_lt (b := 1) hk (by omega)).mpr q)
    have k3 : k ≤ 3 := Nat.le_of_not_lt fun q => c3 ((pn_lt (a := 3) (by omega) hk).mpr q)
    refine ⟨Int32.ofNat mo, ((n, ww, ch, m, k, re, V), t, ro, x, us, kp), fun hC => ⟨en_up σ0 5 5 (Int32.ofNat k), ?_, ?_, FrC.up (by omega)⟩, fun τ hM => ⟨en_up (en_up τ 185 11 0) 185 5 (Int32.ofNat k), ?_, ?_, (FrM.up (by omega) (by omega)).trans (FrM.up (by omega) (by omega))⟩, ?_⟩
    · rw [o_X11_set, t_X11_set_0, if_pos rfl, if_neg c2, if_neg c3, hC.1.2.2.2.1]; rfl
    · obtain ⟨⟨h1, h2, h3, h4, h5, h6, h7, h8⟩, h9, h10, h11, h12, h13⟩ := hC
      have e : ∀ c, c ≠ 5 → en_up σ0 5 5 (Int32.ofNat k) c = σ0 c := fun c hc => pu_row hc
      exact ⟨⟨by rw [pu_slot (by omega)]; exact h1, fun r hr => by rw [e 6 (by omega)]; exact h2 r hr, by rw [pu_slot (by omega)]; exact h3, pu_same _ _ _ _, by rw [pu_slot (by omega)]; exact h5, by rw [e 7 (by omega)]; exact h6, fun j hj => by rw [e 8 (by omega)]; exact h7 j hj, fun σ1 e1 e2 => h8 σ1 (by rw [e1, e 10 (by omega)]) (by rw [e2, e 11 (by omega)])⟩, h9.fr (e 1 (by omega)) (e 2 (by omega)), h10.fr (e 3 (by omega)) (e 4 (by omega)), h11.all (fun j hj => e _ (by omega)), h12.fr (fun c _ _ => e c (by omega)), h13.fr (fun c _ _ => e c (by omega))⟩
    · have h5 : τ 185 5 = Int32.ofNat mo := hM.1.2.2.1
      rw [o_X12_set, t_X12_set_0, q_in, Option.bind_some]
      rw [if_neg (by dsimp only; rw [pb2_0]; decide), if_pos rfl, q_in, Option.bind_some]
      rw [if_neg (by dsimp only; rw [pb2_0]; exact fun q => q ⟨c2, c3⟩), if_pos rfl, if_pos rfl]
      dsimp only
      rw [pu_slot (by omega), h5]; rfl
    · obtain ⟨⟨h1, h2, h3, h4, h5, h6, h7⟩, h9, h10, h11, h12, h13⟩ := hM.slot 11 0 (by omega)
      have e : ∀ c, c ≠ 185 → en_up (en_up τ 185 11 0) 185 5 (Int32.ofNat k) c = (en_up τ 185 11 0) c := fun c hc => pu_row hc
      have e5 : ∀ j, j ≠ 5 → en_up (en_up τ 185 11 0) 185 5 (Int32.ofNat k) 185 j = (en_up τ 185 11 0) 185 j := fun j hj => pu_slot hj
      refine ⟨⟨by rw [e5 1 (by omega)]; exact h1, fun r hr => by rw [e 187 (by omega)]; exact h2 r hr, pu_same _ _ _ _, by rw [e5 6 (by omega)]; exact h4, by rw [e5 4 (by omega)]; exact h5, fun j hj => by rw [e 188 (by omega)]; exact h6 j hj, ?_⟩, h9.fr (e5 8 (by omega)) (e 189 (by omega)), h10.fr (e5 10 (by omega)) (e 190 (by omega)), by rw [e 186 (by omega)]; exact h11, h12.fr (e5 23 (by omega)) (e 194 (by omega)), h13.fr (e 208 (by omega)) (e 207 (by omega))⟩
      rcases h7 with ⟨b1, b2⟩ | ⟨b1, b2⟩
      · exact Or.inl ⟨by rw [e5 19 (by omega)]; exact b1, b2⟩
      · exact Or.inr ⟨by rw [e5 19 (by omega)]; exact b1, fun σ1 e1 e2 e3 e4 e6 => b2 σ1 (by rw [e1, e5 19 (by omega)]) (by rw [e2, e 192 (by omega)]) e3 e4 (by rw [e6, e5 19 (by omega)])⟩
    · obtain ⟨⟨a1, a2, a3, a4, a5, a6, a7, a8⟩, b2, b3, b4, b5⟩ := hA'
      exact ⟨⟨a1, a2, a3, a4, k1, (by show k < 100; omega), a7, a8⟩, b2, k3, b4, b5⟩
  · by_cases c2 : w = 1 ∧ ¬ v < 1 ∧ ¬ 99 < v
    · obtain ⟨rfl, c2, c3⟩ := c2
      obtain ⟨k, hk, rfl⟩ := pn_nn (x := v) (Int32.le_trans (by decide : (0 : Int32) ≤ 1) (Int32.not_lt.mp c2))
      have k1 : 1 ≤ k := Nat.le_of_not_lt fun q => c2 ((pn_lt (b := 1) hk (by omega)).mpr q)
      have k3 : k ≤ 99 := Nat.le_of_not_lt fun q => c3 ((pn_lt (a := 99) (by omega) hk).mpr q)
      refine ⟨Int32.ofNat re, ((n, ww, ch, m, mo, k, V), t, ro, x, us, kp), fun hC => ⟨en_up σ0 5 6 (Int32.ofNat k), ?_, ?_, FrC.up (by omega)⟩, fun τ hM => ⟨en_up (en_up τ 185 11 0) 185 6 (Int32.ofNat k), ?_, ?_, (FrM.up (by omega) (by omega)).trans (FrM.up (by omega) (by omega))⟩, ?_⟩
      · rw [o_X11_set, t_X11_set_0, if_neg (show ¬ (1 : Int32) = 0 by decide), if_pos rfl, if_neg c2, if_neg c3, hC.1.2.2.2.2.1]; rfl
      · obtain ⟨⟨h1, h2, h3, h4, h5, h6, h7, h8⟩, h9, h10, h11, h12, h13⟩ := hC
        have e : ∀ c, c ≠ 5 → en_up σ0 5 6 (Int32.ofNat k) c = σ0 c := fun c hc => pu_row hc
        exact ⟨⟨by rw [pu_slot (by omega)]; exact h1, fun r hr => by rw [e 6 (by omega)]; exact h2 r hr, by rw [pu_slot (by omega)]; exact h3, by rw [pu_slot (by omega)]; exact h4, pu_same _ _ _ _, by rw [e 7 (by omega)]; exact h6, fun j hj => by rw [e 8 (by omega)]; exact h7 j hj, fun σ1 e1 e2 => h8 σ1 (by rw [e1, e 10 (by omega)]) (by rw [e2, e 11 (by omega)])⟩, h9.fr (e 1 (by omega)) (e 2 (by omega)), h10.fr (e 3 (by omega)) (e 4 (by omega)), h11.all (fun j hj => e _ (by omega)), h12.fr (fun c _ _ => e c (by omega)), h13.fr (fun c _ _ => e c (by omega))⟩
      · have h5 : τ 185 6 = Int32.ofNat re := hM.1.2.2.2.1
        rw [o_X12_set, t_X12_set_0, q_in, Option.bind_some]
        rw [if_neg (by dsimp only; rw [pb2_0]; decide), if_neg (show ¬ (1 : Int32) = 0 by decide), q_in, Option.bind_some]
        rw [if_neg (by dsimp only; rw [pb2_0]; exact fun q => q ⟨c2, c3⟩), if_neg (show ¬ (1 : Int32) = 0 by decide), if_neg (show ¬ (1 : Int32) = 0 by decide)]
        dsimp only
        rw [pu_slot (by omega), h5]; rfl
      · obtain ⟨⟨h1, h2, h3, h4, h5, h6, h7⟩, h9, h10, h11, h12, h13⟩ := hM.slot 11 0 (by omega)
        have e : ∀ c, c ≠ 185 → en_up (en_up τ 185 11 0) 185 6 (Int32.ofNat k) c = (en_up τ 185 11 0) c := fun c hc => pu_row hc
        have e5 : ∀ j, j ≠ 6 → en_up (en_up τ 185 11 0) 185 6 (Int32.ofNat k) 185 j = (en_up τ 185 11 0) 185 j := fun j hj => pu_slot hj
        refine ⟨⟨by rw [e5 1 (by omega)]; exact h1, fun r hr => by rw [e 187 (by omega)]; exact h2 r hr, by rw [e5 5 (by omega)]; exact h3, pu_same _ _ _ _, by rw [e5 4 (by omega)]; exact h5, fun j hj => by rw [e 188 (by omega)]; exact h6 j hj, ?_⟩, h9.fr (e5 8 (by omega)) (e 189 (by omega)), h10.fr (e5 10 (by omega)) (e 190 (by omega)), by rw [e 186 (by omega)]; exact h11, h12.fr (e5 23 (by omega)) (e 194 (by omega)), h13.fr (e 208 (by omega)) (e 207 (by omega))⟩
        rcases h7 with ⟨b1, b2⟩ | ⟨b1, b2⟩
        · exact Or.inl ⟨by rw [e5 19 (by omega)]; exact b1, b2⟩
        · exact Or.inr ⟨by rw [e5 19 (by omega)]; exact b1, fun σ1 e1 e2 e3 e4 e6 => b2 σ1 (by rw [e1, e5 19 (by omega)]) (by rw [e2, e 192 (by omega)]) e3 e4 (by rw [e6, e5 19 (by omega)])⟩
      · obtain ⟨⟨a1, a2, a3, a4, a5, a6, a7, a8⟩, b2, b3, b4, b5⟩ := hA'
        exact ⟨⟨a1, a2, a3, a4, a5, a6, (by show k < 100; omega), a8⟩, b2, b3, k1, b5⟩
    · refine ⟨-1, _, fun hC => ⟨σ0, ?_, hC, FrC.refl _⟩, fun τ hM => ⟨en_up τ 185 11 0, ?_, hM.slot 11 0 (by omega), FrM.up (by omega) (by omega)⟩, hA'⟩
      · rw [o_X11_set, t_X11_set_0]
        by_cases w0 : w = 0
        · subst w0
          rw [if_pos rfl]
          by_cases v1 : v < 1
          · rw [if_pos v1, if_neg (show ¬ (0 : Int32) = 1 by decide)]; rfl
          · by_cases v3 : 3 < v
            · rw [if_neg v1, if_pos v3, if_neg (show ¬ (0 : Int32) = 1 by decide)]; rfl
            · exact absurd ⟨rfl, v1, v3⟩ c1
        · rw [if_neg w0]
          by_cases w1 : w = 1
          · subst w1
            rw [if_pos rfl]
            by_cases v1 : v < 1
            · rw [if_pos v1]; rfl
            · by_cases v3 : 99 < v
              · rw [if_neg v1, if_pos v3]; rfl
              · exact absurd ⟨rfl, v1, v3⟩ c2
          · rw [if_neg w1]; rfl
      · rw [o_X12_set, t_X12_set_0, q_in, Option.bind_some]
        by_cases w0 : w = 0
        · subst w0
          rw [if_neg (by dsimp only; rw [pb2_0]; decide), if_pos rfl, q_in, Option.bind_some]
          rw [if_pos (by dsimp only; rw [pb2_0]; exact fun q => c1 ⟨rfl, q⟩)]; rfl
        · by_cases w1 : w = 1
          · subst w1
            rw [if_neg (by dsimp only; rw [pb2_0]; decide), if_neg w0, q_in, Option.bind_some]
            rw [if_pos (by dsimp only; rw [pb2_0]; exact fun q => c2 ⟨rfl, q⟩)]; rfl
          · rw [if_pos (by
              dsimp only; rw [pb2_0]
              intro q
              obtain ⟨k, hk, e⟩ := (isR_iff2 (n := 2) (by omega) w).mpr q
              rcases (show k = 0 ∨ k = 1 by omega) with rfl | rfl
              · exact w0 e
              · exact w1 e)]; rfl
