/-! rows told; bound, missed, count -/
theorem CI.begin {σ : en_M} {g : pG} {t : Nat × (Nat → Nat)} {ro : List Int32} {x : pS} {us : List pS} {kp : Nat → Bool × pS} (h : CI σ (g, t, ro, x, us, kp)) : CI (en_up σ 3 1 0) (g, t, [], x, us, kp) := by
  obtain ⟨h1, h2, h3, h4, h5, h6⟩ := h
  have e : ∀ c, c ≠ 3 → en_up σ 3 1 0 c = σ c := fun c hc => pu_row hc
  exact ⟨h1.kept (e 5 (by omega)) (e 6 (by omega)) (e 7 (by omega)) (e 8 (by omega)) (by rw [e 10 (by omega)]) (e 11 (by omega)), h2.fr (e 1 (by omega)) (e 2 (by omega)), CR.nil (pu_same _ _ _ _), h4.all (fun j hj => e _ (by omega)), h5.fr (fun c _ _ => e c (by omega)), h6.fr (fun c _ _ => e c (by omega))⟩
theorem CI.add {σ : en_M} {g : pG} {t : Nat × (Nat → Nat)} {ro : List Int32} {x : pS} {us : List pS} {kp : Nat → Bool × pS} (h : CI σ (g, t, ro, x, us, kp)) (hl : ro.length < 16) (v : Int32) : ∃ σ', O_X9_add [.inr (3, 9, 0, 0), .inl v] σ = some σ' ∧ CI σ' (g, t, ro ++ [v], x, us, kp) ∧ ∀ c, c ≠ 3 → c ≠ 4 → σ' c = σ c := by
  obtain ⟨h1, h2, h3, h4, h5, h6⟩ := h
  obtain ⟨σ', e1, e2, e⟩ := h3.add hl v
  exact ⟨σ', e1, ⟨h1.kept (e 5 (by omega) (by omega)) (e 6 (by omega) (by omega)) (e 7 (by omega) (by omega)) (e 8 (by omega) (by omega)) (by rw [e 10 (by omega) (by omega)]) (e 11 (by omega) (by omega)), h2.fr (e 1 (by omega) (by omega)) (e 2 (by omega) (by omega)), e2, h4.all (fun j hj => e _ (by omega) (by omega)), h5.fr (fun c _ _ => e c (by omega) (by omega)), h6.fr (fun c _ _ => e c (by omega) (by omega))⟩, e⟩
theorem MI.begin {σ : en_M} {g : pG} {t : Nat × (Nat → Nat)} {ro : List Int32} {x : pS} {us : List pS} {kp : Nat → Bool × pS} (h : MI σ (g, t, ro, x, us, kp)) : MI (en_up σ 185 10 0) (g, t, [], x, us, kp) := by
  obtain ⟨h1, h2, h3, h4, h5, h6⟩ := h
  have e : ∀ c, c ≠ 185 → en_up σ 185 10 0 c = σ c := fun c hc => pu_row hc
  have e2 : ∀ j, j ≠ 10 → en_up σ 185 10 0 185 j = σ 185 j := fun j hj => pu_slot hj
  exact ⟨h1.keep (fun j hj => e2 j (by omega)) (e 187 (by omega)) (e 188 (by omega)) (e 192 (by omega)), h2.fr (e2 8 (by omega)) (e 189 (by omega)), MR.nil (pu_same _ _ _ _), by rw [e 186 (by omega)]; exact h4, h5.fr (e2 23 (by omega)) (e 194 (by omega)), h6.fr (e 208 (by omega)) (e 207 (by omega))⟩
theorem MI.add {σ : en_M} {g : pG} {t : Nat × (Nat → Nat)} {ro : List Int32} {x : pS} {us : List pS} {kp : Nat → Bool × pS} (h : MI σ (g, t, ro, x, us, kp)) (hl : ro.length < 20) (v : Int32) : ∃ σ', O_X12_tell [.inr (185, 12, 0, 0), .inl v] σ = some σ' ∧ MI σ' (g, t, ro ++ [v], x, us, kp) ∧ (∀ c, c ≠ 185 → c ≠ 190 → σ' c = σ c) ∧ ∀ j, j ≠ 10 → σ' 185 j = σ 185 j := by
  obtain ⟨h1, h2, h3, h4, h5, h6⟩ := h
  obtain ⟨σ', e1, e2, e, e3⟩ := h3.add hl v
  exact ⟨σ', e1, ⟨h1.keep (fun j hj => e3 j (by omega)) (e 187 (by omega) (by omega)) (e 188 (by omega) (by omega)) (e 192 (by omega) (by omega)), h2.fr (e3 8 (by omega)) (e 189 (by omega) (by omega)), e2, by rw [e 186 (by omega) (by omega)]; exact h4, h5.fr (e3 23 (by omega)) (e 194 (by omega) (by omega)), h6.fr (e 208 (by omega) (by omega)) (e 207 (by omega) (by omega))⟩, e, e3⟩
theorem AV.row {B : Nat} {g : pG} {t : Nat × (Nat → Nat)} {ro ro' : List Int32} {x : pS} {us : List pS} {kp : Nat → Bool × pS} (h : AV B (g, t, ro, x, us, kp)) (hl : ro'.length ≤ 14) : AV B (g, t, ro', x, us, kp) := by
  obtain ⟨a1, a2, a3, a4, a5, a6, a7, a8⟩ := h
  exact ⟨a1, a2, a3, a4, a5, a6, hl, a8⟩
theorem p_bound : en_st_bound pInv := by
  intro c v hc
  by_cases hv : ¬ v < 1 ∧ ¬ 99 < v
  · refine p_two hc (fun A σ0 hA hB => ?_)
    have hA' := hA.mono (show 2000 * c ≤ 2000 * (c + 1) by omega)
    obtain ⟨g, t, ro, x, us, kp⟩ := A
    have hn : gN g < 8 := n8 hA
    have hmo : 1 ≤ gT g := hA.1.2.2.2.2.1
    have hmo2 : gT g < 100 := hA.1.2.2.2.2.2.1
    have m0 : ¬ Int32.ofNat (gT g) = 0 := by rw [pn_eq0 (by omega)]; omega
    have m1 : ¬ Int32.ofNat (gT g) < 1 := fun q => by have := (pn_lt (b := 1) (by omega) (by omega)).mp q; omega
    refine ⟨((Int32.ofNat (gN g) * v + Int32.ofNat (gT g)) - 1) / Int32.ofNat (gT g), (g, t, [if gN g = 0 then 0 else 2 * v - 1], x, us, kp), fun hC => ?_, fun τ hM => ?_, hA'.row (by simp)⟩
    · have key : ∀ w : Int32, ∃ σ', O_X9_add [.inr (3, 9, 0, 0), .inl w] (en_up σ0 3 1 0) = some σ' ∧ CI σ' (g, t, [w], x, us, kp) ∧ FrC σ0 σ' := fun w => by
        obtain ⟨σ', e1, e2, e3⟩ := hC.begin.add (by simp) w
        exact ⟨σ', e1, e2, fun c hc => by rw [e3 c (by omega) (by omega), pu_row (by omega)]⟩
      have h53 : (en_up σ0 3 1 0) 5 3 = Int32.ofNat (gN g) := by rw [pu_cell (by omega)]; exact hC.1.1
      by_cases hz : gN g = 0
      · rw [if_pos hz]
        obtain ⟨σ', e1, e2, e3⟩ := key 0
        have h55 : σ' 5 5 = Int32.ofNat (gT g) := e2.1.2.2.2.1
        have h53' : σ' 5 3 = Int32.ofNat (gN g) := e2.1.1
        refine ⟨σ', ?_, e2, e3⟩
        rw [o_X11_bound, t_X11_bound_0, if_neg hv.1, if_neg hv.2, q_tbegin, Option.bind_some, h53, if_pos (by rw [hz]; decide), e1, Option.bind_some, h53']
        simp only [h55]
        rw [if_neg m1, if_neg m0]; rfl
      · rw [if_neg hz]
        obtain ⟨σ', e1, e2, e3⟩ := key (2 * v - 1)
        have h55 : σ' 5 5 = Int32.ofNat (gT g) := e2.1.2.2.2.1
        have h53' : σ' 5 3 = Int32.ofNat (gN g) := e2.1.1
        refine ⟨σ', ?_, e2, e3⟩
        rw [o_X11_bound, t_X11_bound_0, if_neg hv.1, if_neg hv.2, q_tbegin, Option.bind_some, h53, if_neg (by rw [pn_eq0 (by omega)]; exact hz), e1, Option.bind_some, h53']
        simp only [h55]
        rw [if_neg m1, if_neg m0]; rfl
    · have hM2 := hM.slot 11 0 (by omega)
      have key : ∀ w : Int32, ∃ τ', O_X12_tell [.inr (185, 12, 0, 0), .inl w] (en_up (en_up τ 185 11 0) 185 10 0) = some τ' ∧ MI τ' (g, t, [w], x, us, kp) ∧ FrM τ τ' := fun w => by
        obtain ⟨τ', e1, e2, e3, e4⟩ := hM2.begin.add (by simp) w
        exact ⟨τ', e1, e2, fun c hc => by rw [e3 c (by omega) (by omega), pu_row (by omega), pu_row (by omega)]⟩
      have h1 : (en_up τ 185 11 0) 185 1 = Int32.ofNat (gN g) := hM2.1.1
      rw [o_X12_bound, t_X12_bound_0, q_in, Option.bind_some]
      rw [if_neg (by dsimp only; rw [pb2_0]; exact fun q => q hv)]
      simp only [h1]
      by_cases hz : gN g = 0
      · rw [if_pos (show Int32.ofNat (gN g) = 0 by rw [hz]; rfl), if_pos hz]
        obtain ⟨τ', e1, e2, e3⟩ := key 0
        have h55 : τ' 185 5 = Int32.ofNat (gT g) := e2.1.2.2.1
        have h53' : τ' 185 1 = Int32.ofNat (gN g) := e2.1.1
        refine ⟨τ', ?_, e2, e3⟩
        rw [e1, Option.bind_some, h53', h55, if_neg m0]; rfl
      · rw [if_neg (show ¬ Int32.ofNat (gN g) = 0 by rw [pn_eq0 (by omega)]; exact hz), if_neg hz]
        obtain ⟨τ', e1, e2, e3⟩ := key (2 * v - 1)
        have h55 : τ' 185 5 = Int32.ofNat (gT g) := e2.1.2.2.1
        have h53' : τ' 185 1 = Int32.ofNat (gN g) := e2.1.1
        refine ⟨τ', ?_, e2, e3⟩
        rw [e1, Option.bind_some, h53', h55, if_neg m0]; rfl
  · refine p_ask hc (fun A hA hB => ⟨-1, fun σ hC => ?_, fun τ hM => ?_⟩)
    · rw [o_X11_bound, t_X11_bound_0]
      by_cases v1 : v < 1
      · rw [if_pos v1]; rfl
      · rw [if_neg v1, if_pos (Classical.byContradiction fun q => hv ⟨v1, q⟩)]; rfl
    · rw [o_X12_bound, t_X12_bound_0, q_in, Option.bind_some]
      rw [if_pos (by dsimp only; rw [pb2_0]; exact hv)]; rfl
theorem q_knows {σ : en_M} {k N j : Nat} (h : σ k 5 = Int32.ofNat N) (hN : N < 2147483648) (hj : j < 2147483648) : O_X7_knows [.inr (k, 7, 0, 0), .inl (Int32.ofNat j)] σ = some (if 1 ≤ j ∧ j ≤ 20 ∧ j ≤ N then 1 else 0, σ) := by
  rw [o_X7_knows, t_X7_knows_0]
  simp only [true_or, or_true, if_true]
  by_cases c1 : 1 ≤ j
  · rw [if_neg (show ¬ Int32.ofNat j < (1 : Int32) from fun q => by have := (pn_lt (b := 1) hj (by omega)).mp q; omega)]
    by_cases c2 : j ≤ 20
    · rw [if_neg (show ¬ (20 : Int32) < Int32.ofNat j from fun q => by have := (pn_lt (a := 20) (by omega) hj).mp q; omega), h]
      by_cases c3 : j ≤ N
      · rw [if_neg (by rw [pn_lt hN hj]; omega), if_pos ⟨c1, c2, c3⟩]; rfl
      · rw [if_pos (by rw [pn_lt hN hj]; omega), if_neg (fun q => c3 q.2.2)]; rfl
    · rw [if_pos (show (20 : Int32) < Int32.ofNat j from (pn_lt (a := 20) (by omega) hj).mpr (by omega)), if_neg (fun q => c2 q.2.1)]; rfl
  · rw [if_pos (show Int32.ofNat j < (1 : Int32) from (pn_lt (b := 1) hj (by omega)).mpr (by omega)), if_neg (fun q => c1 q.1)]; rfl
theorem q_missedIn {σ : en_M} {k j : Nat} {x : pS} (h : CS σ k x) (hN : sN x < 2147483648) (h1 : 1 ≤ j) (h2 : j ≤ 20) (h3 : j ≤ sN x) : O_X7_missedIn [.inr (k, 7, 0, 0), .inl (Int32.ofNat j)] σ = some (Int32.ofNat (sM x (j - 1)), σ) := by
  have hm := Nat.mod_lt (sN x - j) (show 20 > 0 by omega)
  rw [o_X7_missedIn, t_X7_missedIn_0, q_knows h.2.1 hN (by omega), Option.bind_some, if_pos (show 1 ≤ j ∧ j ≤ 20 ∧ j ≤ sN x from ⟨h1, h2, h3⟩), if_neg (show ¬ (1 : Int32) = 0 by decide)]
  dsimp only
  rw [h.2.1, pn_sub h3, show (20 : Int32) = Int32.ofNat 20 from rfl, q_floorMod (by omega) (by omega) (by omega), Option.bind_some]
  dsimp only
  rw [pn_ix hm (by omega), Option.bind_some]
  have := h.2.2.2.2.2.2 (j - 1) (by omega) (by omega)
  rw [show sN x - 1 - (j - 1) = sN x - j by omega] at this
  rw [this]; rfl
theorem p_missed : en_st_missed pInv := by
  intro c v hc
  refine p_ask hc (fun A hA hB => ?_)
  have hN : sN (iS A) ≤ 2000 * c := hA.2.2.2.2.2.2.2.1.2.1
  by_cases v1 : v < 1
  · refine ⟨-1, fun σ hC => ?_, fun τ hM => ?_⟩
    · rw [o_X11_missed, t_X11_missed_0, if_pos v1]; rfl
    · rw [o_X12_missed, t_X12_missed_0, if_pos v1]; rfl
  obtain ⟨k, hk, rfl⟩ := pn_nn (x := v) (Int32.le_trans (by decide : (0 : Int32) ≤ 1) (Int32.not_lt.mp v1))
  have k1 : 1 ≤ k := Nat.le_of_not_lt fun q => v1 ((pn_lt (b := 1) hk (by omega)).mpr q)
  have i32 : en_ix 32 53 = some 32 := pn_ix (k := 32) (by omega) (by omega)
  by_cases hkn : k ≤ 20 ∧ k ≤ sN (iS A)
  · refine ⟨Int32.ofNat (sM (iS A) (k - 1)), fun σ hC => ?_, fun τ hM => ?_⟩
    · have hS := hC.2.2.2.1
      rw [o_X11_missed, t_X11_missed_0, if_neg v1, q_knows hS.2.1 (by omega) hk, Option.bind_some, if_pos (show 1 ≤ k ∧ k ≤ 20 ∧ k ≤ sN (iS A) from ⟨k1, hkn.1, hkn.2⟩), if_neg (show ¬ (1 : Int32) = 0 by decide)]
      dsimp only
      rw [q_missedIn hS (by omega) k1 hkn.1 hkn.2, Option.bind_some]; rfl
    · obtain ⟨-, -, -, -, -, -, h7, h8⟩ := hM.2.2.2.1
      rw [o_X12_missed, t_X12_missed_0, if_neg v1, i32, Option.bind_some, h7, if_neg (by rw [pn_lt (by omega) hk]; omega), show (33 : Int32) + Int32.ofNat k = Int32.ofNat (33 + k) from pn_add 33 k, show (1 : Int32) = Int32.ofNat 1 from rfl, pn_sub (by omega), pn_ix (by omega) (by omega), Option.bind_some]
      have := h8 (k - 1) (by omega)
      rw [show 33 + (k - 1) = 33 + k - 1 by omega] at this
      rw [this]; rfl
  · refine ⟨-2, fun σ hC => ?_, fun τ hM => ?_⟩
    · have hS := hC.2.2.2.1
      rw [o_X11_missed, t_X11_missed_0, if_neg v1, q_knows hS.2.1 (by omega) hk, Option.bind_some, if_neg (show ¬ (1 ≤ k ∧ k ≤ 20 ∧ k ≤ sN (iS A)) from fun q => hkn q.2), if_pos (show (0 : Int32) = 0 from rfl)]; rfl
    · obtain ⟨-, -, -, -, -, -, h7, h8⟩ := hM.2.2.2.1
      rw [o_X12_missed, t_X12_missed_0, if_neg v1, i32, Option.bind_some, h7, if_pos (by rw [pn_lt (by omega) hk]; omega)]; rfl
theorem sum_same {A : pI} {B : Nat} (hA : AV B A) : smN (sT (iS A)) 7 = smN (sT (iS A)) (gN (iG A)) ∧ smN (sS (iS A)) 7 = smN (sS (iS A)) (gN (iG A)) ∧ smN (sR (iS A)) 7 = smN (sR (iS A)) (gN (iG A)) := by
  have hn := hA.1.1
  have h := hA.2.2.2.2.2.2.2.1.2.2.2.2.2
  exact ⟨smN_ge (fun r a b => (h r a b).1) 7 hn (by omega), smN_ge (fun r a b => (h r a b).2.1) 7 hn (by omega), smN_ge (fun r a b => (h r a b).2.2) 7 hn (by omega)⟩
theorem p_count : en_st_count pInv := by
  intro c v hc
  refine p_ask hc (fun A hA hB => ?_)
  have hn := hA.1.1
  obtain ⟨s1, s2, s3⟩ := sum_same hA
  have i28 : en_ix 28 53 = some 28 := pn_ix (k := 28) (by omega) (by omega)
  have i29 : en_ix 29 53 = some 29 := pn_ix (k := 29) (by omega) (by omega)
  have i31 : en_ix 31 53 = some 31 := pn_ix (k := 31) (by omega) (by omega)
  have cs : ∀ (σ : en_M) (k : Nat) (T : Nat → Int32), (∀ r, r < 7 → σ k r = T r) → O_X11_sum [.inr (k, 20, 7, 0)] σ = some (smN T 7, σ) := fun σ k T h => by rw [q_sum, smN_congr 7 h]
  have ms : ∀ (τ : en_M) (o : Nat) (T : Nat → Int32), MI τ A → o ≤ 21 → (∀ r, r < 7 → τ 186 (o + r) = T r) → O_X12_sumOf [.inr (185, 12, 0, 0), .inl (Int32.ofNat o)] (en_up τ 185 11 0) = some (smN T (gN (iG A)), en_up τ 185 11 0) := fun τ o T hM ho h => by
    rw [r_sumOf (σ := en_up τ 185 11 0) hn ho (by rw [pu_slot (by omega)]; exact hM.1.1), smN_congr (U := T) (gN (iG A)) (fun r hr => (pu_cell (show 186 ≠ 185 by omega)).trans (h r (by omega)))]
  by_cases hv : isR 14 v
  · obtain ⟨k, hk, rfl⟩ := hv
    match k, hk with
    | 0, _ => exact ⟨Int32.ofNat (gN (iG A)), fun σ hC => by rw [o_X11_count, t_X11_count_0, if_pos (by decide), hC.1.1]; rfl, fun τ hM => by rw [o_X12_count, t_X12_count_0, if_pos (by decide), hM.1.1]; rfl⟩
    | 1, _ => exact ⟨Int32.ofNat (gM (iG A)), fun σ hC => by rw [o_X11_count, t_X11_count_0, if_neg (by decide), if_pos (by decide), hC.1.2.2.2.2.2.1]; rfl, fun τ hM => by rw [o_X12_count, t_X12_count_0, if_neg (by decide), if_pos (by decide), hM.1.2.2.2.2.1]; rfl⟩
    | 2, _ => exact ⟨Int32.ofNat (sN (iS A)), fun σ hC => by rw [o_X11_count, t_X11_count_0, if_neg (by decide), if_neg (by decide), if_pos (by decide), hC.2.2.2.1.2.1]; rfl, fun τ hM => by rw [o_X12_count, t_X12_count_0, if_neg (by decide), if_neg (by decide), if_pos (by decide), i28, Option.bind_some, hM.2.2.2.1.2.2.1]; rfl⟩
    | 3, _ => exact ⟨sD (iS A), fun σ hC => by rw [o_X11_count, t_X11_count_0, if_neg (by decide), if_neg (by decide), if_neg (by decide), if_pos (by decide), hC.2.2.2.1.2.2.1]; rfl, fun τ hM => by rw [o_X12_count, t_X12_count_0, if_neg (by decide), if_neg (by decide), if_neg (by decide), if_pos (by decide), i29, Option.bind_some, hM.2.2.2.1.2.2.2.1]; rfl⟩
    | 4, _ => exact ⟨smN (sR (iS A)) (gN (iG A)), fun σ hC => by rw [o_X11_count, t_X11_count_0, if_neg (by decide), if_neg (by decide), if_neg (by decide), if_neg (by decide), if_pos (by decide), cs σ 18 _ (fun r hr => (hC.2.2.2.1.2.2.2.2.2.1 r hr).2.2), s3]; rfl, fun τ hM => by
        have := ms τ 21 _ hM (by omega) (fun r hr => (hM.2.2.2.1.2.1 r hr).2.2)
        have h2 : O_X12_sumOf [.inr (185, 12, 0, 0), .inl (21 : Int32)] (en_up τ 185 11 0) = _ := this
        rw [o_X12_count, t_X12_count_0, if_neg (by decide), if_neg (by decide), if_neg (by decide), if_neg (by decide), if_pos (by decide), h2]; rfl⟩
    | 5, _ => exact ⟨smN (sS (iS A)) (gN (iG A)), fun σ hC => by rw [o_X11_count, t_X11_count_0, if_neg (by decide), if_neg (by decide), if_neg (by decide), if_neg (by decide), if_neg (by decide), if_pos (by decide), cs σ 17 _ (fun r hr => (hC.2.2.2.1.2.2.2.2.2.1 r hr).2.1), s2]; rfl, fun τ hM => by
        have := ms τ 14 _ hM (by omega) (fun r hr => (hM.2.2.2.1.2.1 r hr).2.1)
        have h2 : O_X12_sumOf [.inr (185, 12, 0, 0), .inl (14 : Int32)] (en_up τ 185 11 0) = _ := this
        rw [o_X12_count, t_X12_count_0, if_neg (by decide), if_neg (by decide), if_neg (by decide), if_neg (by decide), if_neg (by decide), if_pos (by decide), h2]; rfl⟩
    | 6, _ => exact ⟨smN (sT (iS A)) (gN (iG A)), fun σ hC => by rw [o_X11_count, t_X11_count_0, if_neg (by decide), if_neg (by decide), if_neg (by decide), if_neg (by decide), if_neg (by decide), if_neg (by decide), if_pos (by decide), cs σ 16 _ (fun r hr => (hC.2.2.2.1.2.2.2.2.2.1 r hr).1), s1]; rfl, fun τ hM => by
        have := ms τ 7 _ hM (by omega) (fun r hr => (hM.2.2.2.1.2.1 r hr).1)
        have h2 : O_X12_sumOf [.inr (185, 12, 0, 0), .inl (7 : Int32)] (en_up τ 185 11 0) = _ := this
        rw [o_X12_count, t_X12_count_0, if_neg (by decide), if_neg (by decide), if_neg (by decide), if_neg (by decide), if_neg (by decide), if_neg (by decide), if_pos (by decide), h2]; rfl⟩
    | 7, _ => exact ⟨if gN (iG A) = 0 then -1 else Int32.ofNat (tnN (gW (iG A)) (gN (iG A))), fun σ hC => by rw [o_X11_count, t_X11_count_0, if_neg (by decide), if_neg (by decide), if_neg (by decide), if_neg (by decide), if_neg (by decide), if_neg (by decide), if_neg (by decide), if_pos (by decide), hC.1.2.2.1]; rfl, fun τ hM => by
        have hM2 := hM.slot 11 0 (by omega)
        rw [o_X12_count, t_X12_count_0, if_neg (by decide), if_neg (by decide), if_neg (by decide), if_neg (by decide), if_neg (by decide), if_neg (by decide), if_neg (by decide), if_pos (by decide), r_tenor hn hM2.1.1 hM2.1.2.1]; rfl⟩
    | 8, _ => exact ⟨Int32.ofNat (sP (iS A)), fun σ hC => by rw [o_X11_count, t_X11_count_0, if_neg (by decide), if_neg (by decide), if_neg (by decide), if_neg (by decide), if_neg (by decide), if_neg (by decide), if_neg (by decide), if_neg (by decide), if_pos (by decide), hC.2.2.2.1.2.2.2.2.1]; rfl, fun τ hM => by rw [o_X12_count, t_X12_count_0, if_neg (by decide), if_neg (by decide), if_neg (by decide), if_neg (by decide), if_neg (by decide), if_neg (by decide), if_neg (by decide), if_neg (by decide), if_pos (by decide), i31, Option.bind_some, hM.2.2.2.1.2.2.2.2.2.1]; rfl⟩
    | 9, _ => exact ⟨Int32.ofNat (gT (iG A)), fun σ hC => by rw [o_X11_count, t_X11_count_0, if_neg (by decide), if_neg (by decide), if_neg (by decide), if_neg (by decide), if_neg (by decide), if_neg (by decide), if_neg (by decide), if_neg (by decide), if_neg (by decide), if_pos (by decide), hC.1.2.2.2.1]; rfl, fun τ hM => by rw [o_X12_count, t_X12_count_0, if_neg (by decide), if_neg (by decide), if_neg (by decide), if_neg (by decide), if_neg (by decide), if_neg (by decide), if_neg (by decide), if_neg (by decide), if_neg (by decide), if_pos (by decide), hM.1.2.2.1]; rfl⟩
    | 10, _ => exact ⟨Int32.ofNat (gR (iG A)), fun σ hC => by rw [o_X11_count, t_X11_count_0, if_neg (by decide), if_neg (by decide), if_neg (by decide), if_neg (by decide), if_neg (by decide), if_neg (by decide), if_neg (by decide), if_neg (by decide), if_neg (by decide), if_neg (by decide), if_pos (by decide), hC.1.2.2.2.2.1]; rfl, fun τ hM => by rw [o_X12_count, t_X12_count_0, if_neg (by decide), if_neg (by decide), if_neg (by decide), if_neg (by decide), if_neg (by decide), if_neg (by decide), if_neg (by decide), if_neg (by decide), if_neg (by decide), if_neg (by decide), if_pos (by decide), hM.1.2.2.2.1]; rfl⟩
    | 11, _ => exact ⟨Int32.ofNat (iU A).length, fun σ hC => by rw [o_X11_count, t_X11_count_0, if_neg (by decide), if_neg (by decide), if_neg (by decide), if_neg (by decide), if_neg (by decide), if_neg (by decide), if_neg (by decide), if_neg (by decide), if_neg (by decide), if_neg (by decide), if_neg (by decide), if_pos (by decide), hC.2.2.2.2.1.1]; rfl, fun τ hM => by rw [o_X12_count, t_X12_count_0, if_neg (by decide), if_neg (by decide), if_neg (by decide), if_neg (by decide), if_neg (by decide), if_neg (by decide), if_neg (by decide), if_neg (by decide), if_neg (by decide), if_neg (by decide), if_neg (by decide), if_pos (by decide), hM.2.2.2.2.1.1]; rfl⟩
    | 12, _ => exact ⟨Int32.ofNat (iR A).length, fun σ hC => by rw [o_X11_count, t_X11_count_0, if_neg (by decide), if_neg (by decide), if_neg (by decide), if_neg (by decide), if_neg (by decide), if_neg (by decide), if_neg (by decide), if_neg (by decide), if_neg (by decide), if_neg (by decide), if_neg (by decide), if_neg (by decide), if_pos (by decide), hC.2.2.1.1]; rfl, fun τ hM => by rw [o_X12_count, t_X12_count_0, if_neg (by decide), if_neg (by decide), if_neg (by decide), if_neg (by decide), if_neg (by decide), if_neg (by decide), if_neg (by decide), if_neg (by decide), if_neg (by decide), if_neg (by decide), if_neg (by decide), if_neg (by decide), if_pos (by decide), hM.2.2.1.1]; rfl⟩
    | 13, _ => exact ⟨Int32.ofNat (iL A), fun σ hC => by rw [o_X11_count, t_X11_count_0, if_neg (by decide), if_neg (by decide), if_neg (by decide), if_neg (by decide), if_neg (by decide), if_neg (by decide), if_neg (by decide), if_neg (by decide), if_neg (by decide), if_neg (by decide), if_neg (by decide), if_neg (by decide), if_neg (by decide), if_pos (by decide), hC.2.1.1]; rfl, fun τ hM => by rw [o_X12_count, t_X12_count_0, if_neg (by decide), if_neg (by decide), if_neg (by decide), if_neg (by decide), if_neg (by decide), if_neg (by decide), if_neg (by decide), if_neg (by decide), if_neg (by decide), if_neg (by decide), if_neg (by decide), if_neg (by decide), if_neg (by decide), if_pos (by decide), hM.2.1.1]; rfl⟩
  · have nk : ∀ j, j < 14 → ¬ v = Int32.ofNat j := fun j hj e => hv ⟨j, hj, e⟩
    refine ⟨-100, fun σ hC => ?_, fun τ hM => ?_⟩
    · rw [o_X11_count, t_X11_count_0, if_neg (show ¬ v = (0 : Int32) from nk 0 (by omega)), if_neg (show ¬ v = (1 : Int32) from nk 1 (by omega)), if_neg (show ¬ v = (2 : Int32) from nk 2 (by omega)), if_neg (show ¬ v = (3 : Int32) from nk 3 (by omega)), if_neg (show ¬ v = (4 : Int32) from nk 4 (by omega)), if_neg (show ¬ v = (5 : Int32) from nk 5 (by omega)), if_neg (show ¬ v = (6 : Int32) from nk 6 (by omega)), if_neg (show ¬ v = (7 : Int32) from nk 7 (by omega)), if_neg (show ¬ v = (8 : Int32) from nk 8 (by omega)), if_neg (show ¬ v = (9 : Int32) from nk 9 (by omega)), if_neg (show ¬ v = (10 : Int32) from nk 10 (by omega)), if_neg (show ¬ v = (11 : Int32) from nk 11 (by omega)), if_neg (show ¬ v = (12 : Int32) from nk 12 (by omega)), if_neg (show ¬ v = (13 : Int32) from nk 13 (by omega))]; rfl
    · rw [o_X12_count, t_X12_count_0, if_neg (show ¬ v = (0 : Int32) from nk 0 (by omega)), if_neg (show ¬ v = (1 : Int32) from nk 1 (by omega)), if_neg (show ¬ v = (2 : Int32) from nk 2 (by omega)), if_neg (show ¬ v = (3 : Int32) from nk 3 (by omega)), if_neg (show ¬ v = (4 : Int32) from nk 4 (by omega)), if_neg (show ¬ v = (5 : Int32) from nk 5 (by omega)), if_neg (show ¬ v = (6 : Int32) from nk 6 (by omega)), if_neg (show ¬ v = (7 : Int32) from nk 7 (by omega)), if_neg (show ¬ v = (8 : Int32) from nk 8 (by omega)), if_neg (show ¬ v = (9 : Int32) from nk 9 (by omega)), if_neg (show ¬ v = (10 : Int32) from nk 10 (by omega)), if_neg (show ¬ v = (11 : Int32) from nk 11 (by omega)), if_neg (show ¬ v = (12 : Int32) from nk 12 (by omega)), if_neg (show ¬ v = (13 : Int32) from nk 13 (by omega))]; rfl
