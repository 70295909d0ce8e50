/-! weariest -/
def wyN (W : Nat → Int32) : Nat → Nat
  | 0 => 0
  | k + 1 => if W (wyN W k) < W k then k else wyN W k
theorem wyN_lt (W : Nat → Int32) {K : Nat} (hK : 0 < K) : ∀ k, k ≤ K → wyN W k < K
  | 0, _ => hK
  | k + 1, h => by
    have := wyN_lt W hK k (by omega)
    unfold wyN
    split <;> omega
theorem wyN_1 (W : Nat → Int32) : wyN W 1 = 0 := if_neg Int32.lt_irrefl
def wyW (x y : pS) (r : Nat) : Int32 := sT y r + (100 : Int32) * (sR y r - sR x r)
theorem m_goRounds {A : pI} {τ : en_M} {m B : Nat} (hg : GV (iG A)) (hM : MI τ A) (hy : MSr (gN (iG A)) (τ 198) (iS A)) (hv : VS (gN (iG A)) B (iS A)) (hB : B + m < 1000000000) (hn0 : 0 < gN (iG A)) {F : Nat → Nat → en_M → en_R} (hF : ∀ f i υ, i < m → F (f + 1) i υ = ((O_X12_goRound [.inr (185, 12, 0, 0), .inr (198, 20, 53, 0), .inl (0 : Int32)] υ).bind fun r => F f (i + 1) r)) : ∀ f, m ≤ f → ∃ τ', F f 0 τ = F (f - m) m τ' ∧ MI τ' A ∧ MSr (gN (iG A)) (τ' 198) (rdN (iG A) (iS A) m) ∧ FrM τ τ' := by
  intro f hf
  obtain ⟨τ', b1, b2, b3, b4⟩ := pl_to F (fun i q => MI q A ∧ MSr (gN (iG A)) (q 198) (rdN (iG A) (iS A) i) ∧ FrM τ q) (N := m) (fun f i υ hi hP => by
    obtain ⟨p1, p2, p3⟩ := hP
    obtain ⟨υ', r1, r2, r3, r4, r5, r6⟩ := m_go hg p1 p2 (rdN_VS hg hv i) (by omega) hn0 (Nat.two_pow_pos _)
    refine ⟨υ', ?_, r2, r3, p3.trans r6.frm⟩
    have r1 : O_X12_goRound [.inr (185, 12, 0, 0), .inr (198, 20, 53, 0), .inl (0 : Int32)] υ = some υ' := r1
    rw [hF f i υ hi, r1, Option.bind_some]) m 0 f τ (by omega) hf ⟨hM, hy, FrM.refl _⟩
  exact ⟨τ', b1, b2, b3, b4⟩
theorem p_weariest : en_st_weariest pInv := by
  intro c v hc
  refine p_two hc (fun A σ0 hA hB => ?_)
  have hA0 := hA
  obtain ⟨g, t, ro, x, us, kp⟩ := A
  have hgv : GV g := hA.1
  have hn : gN g ≤ 7 := hgv.1
  have hVS : VS (gN g) (2000 * c) x := hA.2.2.2.2.2.2.2.1
  by_cases hz : gN g ≠ 0 ∧ isR 61 v
  · obtain ⟨hz0, m, hm, rfl⟩ := hz
    have hn0 : 0 < gN g := by omega
    have nz : ¬ Int32.ofNat (gN g) = 0 := by rw [pn_eq0 (by omega)]; exact hz0
    have v60 : ¬ (60 : Int32) < Int32.ofNat m := fun q => by have := (pn_lt (a := 60) (by omega) (by omega)).mp q; omega
    generalize hW : wyW x (rdN g x m) = W
    have hWr : ∀ r, sT (rdN g x m) r + (100 : Int32) * (sR (rdN g x m) r - sR x r) = W r := fun r => by rw [← hW]; rfl
    have hbl : ∀ k, k ≤ gN g → wyN W k < gN g := wyN_lt W hn0
    have hb := hbl (gN g) (Nat.le_refl _)
    refine ⟨Int32.ofNat (wyN W (gN g)), (g, t, [sT (rdN g x m) (wyN W (gN g)), sR (rdN g x m) (wyN W (gN g)) - sR x (wyN W (gN g))], x, us, kp), fun hC => ?_, fun τ hM => ?_, (hA.row (by simp)).mono (by omega)⟩
    · obtain ⟨σ1, e1, e2, e3, e4⟩ := k_trial hC
      obtain ⟨σ2, f1, f2, f3, f4⟩ := q_ringAll (g := g) (x := x) (k := 20) (m := m) (B := 2000 * c) hgv e2.1 e3 hVS (by omega) (by omega) hn0 (by omega) (by omega)
      have hC2 : CI σ2 (g, t, ro, x, us, kp) := e2.kept (fun c hc => f4 c (by omega) (by omega) (by omega)) (by rw [f4 10 (by omega) (by omega) (by omega)])
      have hx18 : ∀ r, r < 7 → σ2 18 r = sR x r := fun r hr => (hC2.2.2.2.1.2.2.2.2.2.1 r hr).2.2
      have hx21 : ∀ r, r < 7 → σ2 21 r = sT (rdN g x m) r := fun r hr => (f2.2.2.2.2.2.1 r hr).1
      have hx23 : ∀ r, r < 7 → σ2 23 r = sR (rdN g x m) r := fun r hr => (f2.2.2.2.2.2.1 r hr).2.2
      have hwe : ∀ r, r < 7 → O_X11_weariness [.inr (0, 11, 0, 0), .inl (Int32.ofNat r)] σ2 = some (W r, σ2) := fun r hr => by
        rw [o_X11_weariness, t_X11_weariness_0, pn_ix hr (by omega), Option.bind_some, Option.bind_some, Option.bind_some, hx21 r hr, hx23 r hr, hx18 r hr, hWr]; rfl
      rw [o_X11_weariest, t_X11_weariest_0, show σ0 5 3 = Int32.ofNat (gN g) from hC.1.1, if_neg nz, if_neg (pn_nlt0 (by omega)), if_neg v60, e1, Option.bind_some, f1, Option.bind_some]
      dsimp only
      refine pl_for1 (F := fun f i (q : Int32) => T_X11_weariest_47 f (Int32.ofNat m) q (Int32.ofNat (1 + i)) σ2) (P := fun i q => q = Int32.ofNat (wyN W (1 + i))) (Q := fun r => ∃ σ', en_oi r = some (Int32.ofNat (wyN W (gN g)), σ') ∧ CI σ' (g, t, [sT (rdN g x m) (wyN W (gN g)), sR (rdN g x m) (wyN W (gN g)) - sR x (wyN W (gN g))], x, us, kp) ∧ FrC σ0 σ') (N := gN g - 1) ?_ ?_ (gN g - 1) 0 en_FU 0 (by omega) (pl_FU (by omega)) (by show (0 : Int32) = Int32.ofNat (wyN W 1); rw [wyN_1]; rfl)
      · rintro f i q hi rfl
        have hb1 := hbl (1 + i) (by omega)
        refine Or.inl ⟨Int32.ofNat (wyN W (1 + (i + 1))), ?_, rfl⟩
        show T_X11_weariest_47 (f + 1) _ _ _ σ2 = _
        rw [t_X11_weariest_47, show σ2 5 3 = Int32.ofNat (gN g) from hC2.1.1, if_pos ((pn_lt (by omega) (by omega)).mpr (by omega)), hwe _ (by omega), Option.bind_some]
        dsimp only
        rw [hwe _ (by omega), Option.bind_some]
        dsimp only
        rw [pn_a1, show 1 + (i + 1) = (1 + i) + 1 by omega]
        conv => rhs; unfold wyN
        by_cases c1 : W (wyN W (1 + i)) < W (1 + i)
        · rw [if_pos c1, if_pos c1]
        · rw [if_neg c1, if_neg c1]
      · rintro f q hP
        rw [show 1 + (gN g - 1) = gN g by omega] at hP
        subst hP
        obtain ⟨σ3, g1, g2, g3⟩ := CI.add (CI.begin hC2) (by simp) (sT (rdN g x m) (wyN W (gN g)))
        obtain ⟨σ4, k1, k2, k3⟩ := CI.add g2 (by simp) (sR (rdN g x m) (wyN W (gN g)) - sR x (wyN W (gN g)))
        have s3 : ∀ c, c ≠ 3 → c ≠ 4 → σ3 c = σ2 c := fun c h1 h2 => by rw [g3 c h1 h2, pu_row h1]
        show ∃ σ', en_oi (T_X11_weariest_47 (f + 1) _ _ _ σ2) = _ ∧ _
        rw [t_X11_weariest_47, show σ2 5 3 = Int32.ofNat (gN g) from hC2.1.1, if_neg (by rw [pn_lt (by omega) (by omega)]; omega), q_tbegin, Option.bind_some, pn_ix (by omega) (by omega), Option.bind_some, show (en_up σ2 3 1 0) 21 (wyN W (gN g)) = sT (rdN g x m) (wyN W (gN g)) by rw [pu_cell (by omega)]; exact hx21 _ (by omega), g1, Option.bind_some, Option.bind_some, Option.bind_some, s3 23 (by omega) (by omega), s3 18 (by omega) (by omega), hx23 _ (by omega), hx18 _ (by omega), k1, Option.bind_some]
        exact ⟨σ4, rfl, k2, fun c hc => by rw [k3 c (by omega) (by omega), s3 c (by omega) (by omega), f4 c (by omega) (by omega) (by omega), e4 c hc]⟩
    · have hM2 := hM.slot 11 0 (by omega)
      have hfr : FrM τ (en_up τ 185 11 0) := FrM.up (by omega) (by omega)
      rw [o_X12_weariest, t_X12_weariest_0, q_in, Option.bind_some, if_neg (by dsimp only; rw [pb2_0]; exact fun q => q ⟨pn_nlt0 (by omega), v60⟩)]
      dsimp only
      generalize en_up τ 185 11 0 = τ0 at hM2 hfr ⊢
      obtain ⟨τ1, e1, e2, e3, e4⟩ := m_trial (A := (g, t, ro, x, us, kp)) hn hM2
      rw [if_neg (show ¬ τ0 185 1 = 0 by rw [show τ0 185 1 = Int32.ofNat (gN g) from hM2.1.1]; exact nz), e1, Option.bind_some]
      obtain ⟨τ2, f1, f2, f3, f4⟩ := m_goRounds (A := (g, t, ro, x, us, kp)) (m := m) (B := 2000 * c) (F := fun f i υ => T_X12_weariest_38 f (Int32.ofNat m) (Int32.ofNat i) υ) hgv e2 e3 hVS (by omega) hn0 (fun f i υ hi => by
        show T_X12_weariest_38 (f + 1) _ _ υ = _
        rw [t_X12_weariest_38, if_pos ((pn_lt (by omega) (by omega)).mpr hi), pn_a1]) en_FU (by have := en_FU_ge; omega)
      have f1 : T_X12_weariest_38 en_FU (Int32.ofNat m) 0 τ1 = T_X12_weariest_38 (en_FU - m) (Int32.ofNat m) (Int32.ofNat m) τ2 := f1
      have f3 : MSr (gN g) (τ2 198) (rdN g x m) := f3
      obtain ⟨d, hd⟩ : ∃ d, en_FU - m = d + 1 := ⟨en_FU - m - 1, by have := en_FU_ge; omega⟩
      have hd2 : 900000 < d := by have := en_FU_ge; omega
      have hx18 : ∀ r, r < 7 → τ2 186 (21 + r) = sR x r := fun r hr => (f2.2.2.2.1.2.1 r hr).2.2
      have hx21 : ∀ r, r < 7 → τ2 198 (7 + r) = sT (rdN g x m) r := fun r hr => (f3.2.1 r hr).1
      have hx23 : ∀ r, r < 7 → τ2 198 (21 + r) = sR (rdN g x m) r := fun r hr => (f3.2.1 r hr).2.2
      have hwe : ∀ r, r < 7 → O_X12_wearyOf [.inr (185, 12, 0, 0), .inl (Int32.ofNat r)] τ2 = some (W r, τ2) := fun r hr => by
        rw [o_X12_wearyOf, t_X12_wearyOf_0, show (7 : Int32) + Int32.ofNat r = Int32.ofNat (7 + r) from pn_add 7 r, show (21 : Int32) + Int32.ofNat r = Int32.ofNat (21 + r) from pn_add 21 r, pn_ix (show 7 + r < 53 by omega) (by omega), pn_ix (show 21 + r < 53 by omega) (by omega), Option.bind_some, Option.bind_some, Option.bind_some, hx21 r hr, hx23 r hr, hx18 r hr, hWr]; rfl
      rw [f1, hd, t_X12_weariest_38, if_neg (by rw [pn_lt (by omega) (by omega)]; omega)]
      refine pl_for1 (F := fun f i (q : Int32) => T_X12_weariest_62 f (Int32.ofNat m) q (Int32.ofNat (1 + i)) τ2) (P := fun i q => q = Int32.ofNat (wyN W (1 + i))) (Q := fun r => ∃ τ', en_oi r = some (Int32.ofNat (wyN W (gN g)), τ') ∧ MI τ' (g, t, [sT (rdN g x m) (wyN W (gN g)), sR (rdN g x m) (wyN W (gN g)) - sR x (wyN W (gN g))], x, us, kp) ∧ FrM τ τ') (N := gN g - 1) ?_ ?_ (gN g - 1) 0 d 0 (by omega) (by omega) (by show (0 : Int32) = Int32.ofNat (wyN W 1); rw [wyN_1]; rfl)
      · rintro f i q hi rfl
        have hb1 := hbl (1 + i) (by omega)
        refine Or.inl ⟨Int32.ofNat (wyN W (1 + (i + 1))), ?_, rfl⟩
        show T_X12_weariest_62 (f + 1) _ _ _ τ2 = _
        rw [t_X12_weariest_62, show τ2 185 1 = Int32.ofNat (gN g) from f2.1.1, if_pos ((pn_lt (by omega) (by omega)).mpr (by omega)), hwe _ (by omega), Option.bind_some]
        dsimp only
        rw [hwe _ (by omega), Option.bind_some]
        dsimp only
        rw [pn_a1, show 1 + (i + 1) = (1 + i) + 1 by omega]
        conv => rhs; unfold wyN
        by_cases c1 : W (wyN W (1 + i)) < W (1 + i)
        · rw [if_pos c1, if_pos c1]
        · rw [if_neg c1, if_neg c1]
      · rintro f q hP
        rw [show 1 + (gN g - 1) = gN g by omega] at hP
        subst hP
        obtain ⟨τ3, g1, g2, g3, -⟩ := MI.add (MI.begin f2) (by simp) (sT (rdN g x m) (wyN W (gN g)))
        obtain ⟨τ4, k1, k2, k3, -⟩ := MI.add g2 (by simp) (sR (rdN g x m) (wyN W (gN g)) - sR x (wyN W (gN g)))
        have s3 : ∀ c, c ≠ 185 → c ≠ 190 → τ3 c = τ2 c := fun c h1 h2 => by rw [g3 c h1 h2, pu_row h1]
        show ∃ τ', en_oi (T_X12_weariest_62 (f + 1) _ _ _ τ2) = _ ∧ _
        rw [t_X12_weariest_62, show τ2 185 1 = Int32.ofNat (gN g) from f2.1.1, if_neg (by rw [pn_lt (by omega) (by omega)]; omega), show (7 : Int32) + Int32.ofNat (wyN W (gN g)) = Int32.ofNat (7 + wyN W (gN g)) from pn_add 7 _, show (21 : Int32) + Int32.ofNat (wyN W (gN g)) = Int32.ofNat (21 + wyN W (gN g)) from pn_add 21 _, pn_ix (show 7 + wyN W (gN g) < 53 by omega) (by omega), Option.bind_some, hx21 _ (by omega), g1, Option.bind_some, pn_ix (show 21 + wyN W (gN g) < 53 by omega) (by omega), Option.bind_some, Option.bind_some, s3 198 (by omega) (by omega), s3 186 (by omega) (by omega), hx23 _ (by omega), hx18 _ (by omega), k1, Option.bind_some]
        exact ⟨τ4, rfl, k2, fun c hc => by rw [k3 c (by omega) (by omega), s3 c (by omega) (by omega), f4 c hc, e4 c (by omega), hfr c hc]⟩
  · refine p_no hA (-1) (fun hC => ?_) (fun τ hM => ?_)
    · rw [o_X11_weariest, t_X11_weariest_0, show σ0 5 3 = Int32.ofNat (gN g) from hC.1.1, pi_if (pn_eq0 (by omega))]
      by_cases c1 : gN g = 0
      · rw [if_pos c1]; rfl
      rw [if_neg c1]
      by_cases c2 : v < 0
      · rw [if_pos c2]; rfl
      rw [if_neg c2, if_pos (show 60 < v from Classical.byContradiction fun q => hz ⟨c1, (isR_iff2 (n := 61) (by omega) v).mpr ⟨c2, q⟩⟩)]; rfl
    · have hM2 := hM.slot 11 0 (by omega)
      have h1 : (en_up τ 185 11 0) 185 1 = Int32.ofNat (gN g) := hM2.1.1
      rw [o_X12_weariest, t_X12_weariest_0, q_in, Option.bind_some]
      dsimp only
      rw [pi_if (pb2_0 _), pi_if (show ((en_up τ 185 11 0) 185 1 = 0) = (gN g = 0) by rw [h1]; exact pn_eq0 (by omega))]
      by_cases c4 : ¬ (¬ v < 0 ∧ ¬ 60 < v)
      · rw [if_pos c4]; rfl
      rw [if_neg c4, if_pos (show gN g = 0 from Classical.byContradiction fun q => hz ⟨q, (isR_iff2 (n := 61) (by omega) v).mpr (Classical.not_not.mp c4)⟩)]; rfl
