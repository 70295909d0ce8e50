/-! heard -/
theorem p_no {A : pI} {c : Nat} {σ0 : en_M} {fC fM : en_M → Option (Int32 × en_M)} (hA : AV (2000 * c) A) (w : Int32) (h1 : CI σ0 A → fC σ0 = some (w, σ0)) (h2 : ∀ τ, MI τ A → fM τ = some (w, en_up τ 185 11 0)) : ∃ v' A', (CI σ0 A → ∃ σ', fC σ0 = some (v', σ') ∧ CI σ' A' ∧ FrC σ0 σ') ∧ (∀ τ, MI τ A → ∃ τ', fM τ = some (v', τ') ∧ MI τ' A' ∧ FrM τ τ') ∧ AV (2000 * (c + 1)) A' :=
  ⟨w, A, fun hC => ⟨σ0, h1 hC, hC, FrC.refl _⟩, fun τ hM => ⟨_, h2 τ hM, hM.slot 11 0 (by omega), FrM.up (by omega) (by omega)⟩, hA.mono (by omega)⟩
def heN (f : Nat → Nat → Nat) (m p : Nat) : Nat → Int32
  | 0 => 0
  | k + 1 => heN f m p k ||| en_shl 1 (Int32.ofNat (f (m + k) p))
theorem p_heard : en_st_heard pInv := by
  intro c v w hc
  refine p_two hc (fun A σ0 hA hB => ?_)
  obtain ⟨g, t, ro, x, us, kp⟩ := A
  have hn : gN g ≤ 7 := hA.1.1
  by_cases hv : isR (gN g) v
  · by_cases hw : isR 61 w
    · obtain ⟨p, hp, rfl⟩ := hv
      obtain ⟨m, hm, rfl⟩ := hw
      have ho : ∀ k p, p < 7 → odN g x k p < 8 := fun k => od8 hA k
      have a9 : Int32.ofNat m + (9 : Int32) = Int32.ofNat (m + 9) := pn_add m 9
      have hin : ∀ τ : en_M, ¬ ((pb2 (¬ Int32.ofNat m < 0 ∧ ¬ (60 : Int32) < Int32.ofNat m), τ) : Int32 × en_M).1 = 0 := fun τ => by
        dsimp only; rw [pb2_0]
        exact fun q => q ⟨pn_nlt0 (by omega), fun q => by have := (pn_lt (a := 60) (by omega) (by omega)).mp q; omega⟩
      refine ⟨Int32.ofNat (odN g x m p), (g, t, [heN (odN g x) m p 10], x, us, kp), fun hC => ?_, fun τ hM => ?_, (hA.row (by simp)).mono (by omega)⟩
      · obtain ⟨σ1, e1, e2, e3, e4⟩ := k_look hA (by omega) hC (m := m + 9) (by omega)
        rw [o_X11_heard, t_X11_heard_0, k_hasRinger_y hA hC.1 ⟨p, hp, rfl⟩, Option.bind_some, if_neg (show ¬ (1 : Int32) = 0 by decide), if_neg (pn_nlt0 (by omega)), if_neg (show ¬ (60 : Int32) < Int32.ofNat m from fun q => by have := (pn_lt (a := 60) (by omega) (by omega)).mp q; omega), a9, e1, Option.bind_some]
        refine pl_for1 (F := fun f i (q : Int32) => T_X11_heard_36 f (Int32.ofNat p) (Int32.ofNat m) q (Int32.ofNat (m + i)) σ1) (P := fun i q => q = heN (odN g x) m p i) (Q := fun r => ∃ σ', en_oi r = some (Int32.ofNat (odN g x m p), σ') ∧ CI σ' (g, t, [heN (odN g x) m p 10], x, us, kp) ∧ FrC σ0 σ') (N := 10) ?_ ?_ 10 0 en_FU 0 (by omega) (pl_FU (by omega)) rfl
        · rintro f i q hi rfl
          refine Or.inl ⟨heN (odN g x) m p (i + 1), ?_, rfl⟩
          show T_X11_heard_36 (f + 1) _ _ _ _ σ1 = _
          rw [t_X11_heard_36, a9, if_neg (by rw [pn_lt (by omega) (by omega)]; omega), pn_ix (by omega) (by omega), Option.bind_some, q_bellAt, Option.bind_some]
          dsimp only
          rw [e3 (m + i) (by omega), pba (ho _) (by omega), pn_a1]
          rfl
        · rintro f q rfl
          obtain ⟨σ3, g1, g2, g3⟩ := CI.add (CI.begin e2) (by simp) (heN (odN g x) m p 10)
          have e182 : σ3 182 m = Int32.ofNat (pkN (odN g x m)) := by rw [g3 182 (by omega) (by omega), pu_row (by omega)]; exact e3 m (by omega)
          show ∃ σ', en_oi (T_X11_heard_36 (f + 1) _ _ _ _ σ1) = _ ∧ _
          rw [t_X11_heard_36, a9, if_pos ((pn_lt (by omega) (by omega)).mpr (by omega)), q_tbegin, Option.bind_some, g1, Option.bind_some, pn_ix (by omega) (by omega), Option.bind_some, q_bellAt, Option.bind_some]
          dsimp only
          rw [e182, pba (ho _) (by omega)]
          exact ⟨σ3, rfl, g2, fun c hc => by rw [g3 c (by omega) (by omega), pu_row (by omega), e4 c hc]⟩
      · have hM2 := hM.slot 11 0 (by omega)
        have a10 : Int32.ofNat m + (10 : Int32) = Int32.ofNat (m + 10) := pn_add m 10
        obtain ⟨τ1, e1, e2, e3, e4⟩ := m_lay hA (by omega) hM2 (m := m + 9) (by omega)
        rw [o_X12_heard, t_X12_heard_0, m_isOne_y hA hM2.1 ⟨p, hp, rfl⟩, Option.bind_some, if_neg (show ¬ (1 : Int32) = 0 by decide)]
        dsimp only
        rw [q_in, Option.bind_some, if_neg (hin _)]
        dsimp only
        rw [a9, e1, Option.bind_some]
        refine pl_for1 (F := fun f i (q : Int32) => T_X12_heard_38 f (Int32.ofNat p) (Int32.ofNat m) q (Int32.ofNat (m + i)) τ1) (P := fun i q => q = heN (odN g x) m p i) (Q := fun r => ∃ τ', en_oi r = some (Int32.ofNat (odN g x m p), τ') ∧ MI τ' (g, t, [heN (odN g x) m p 10], x, us, kp) ∧ FrM τ τ') (N := 10) ?_ ?_ 10 0 en_FU 0 (by omega) (pl_FU (by omega)) rfl
        · rintro f i q hi rfl
          refine Or.inl ⟨heN (odN g x) m p (i + 1), ?_, rfl⟩
          show T_X12_heard_38 (f + 1) _ _ _ _ τ1 = _
          rw [t_X12_heard_38, a10, if_pos ((pn_lt (by omega) (by omega)).mpr (by omega)), show (7 : Int32) * Int32.ofNat (m + i) = Int32.ofNat (7 * (m + i)) from pn_mul 7 (m + i), pn_add, pn_ix (by omega) (by omega), Option.bind_some, e3 (m + i) p (by omega) hp, pn_a1]
          rfl
        · rintro f q rfl
          obtain ⟨τ3, g1, g2, g3, g4⟩ := MI.add (MI.begin e2) (by simp) (heN (odN g x) m p 10)
          have e197 : τ3 197 (7 * m + p) = Int32.ofNat (odN g x m p) := by rw [g3 197 (by omega) (by omega), pu_row (by omega)]; exact e3 m p (by omega) hp
          show ∃ τ', en_oi (T_X12_heard_38 (f + 1) _ _ _ _ τ1) = _ ∧ _
          rw [t_X12_heard_38, a10, if_neg (by rw [pn_lt (by omega) (by omega)]; omega), g1, Option.bind_some, show (7 : Int32) * Int32.ofNat m = Int32.ofNat (7 * m) from pn_mul 7 m, pn_add, pn_ix (by omega) (by omega), Option.bind_some, e197]
          exact ⟨τ3, rfl, g2, fun c hc => by rw [g3 c (by omega) (by omega), pu_row (by omega), e4 c hc, pu_row (by omega)]⟩
    · refine p_no hA (-1) (fun hC => ?_) (fun τ hM => ?_)
      · rw [o_X11_heard, t_X11_heard_0, k_hasRinger_y hA hC.1 hv, Option.bind_some, if_neg (show ¬ (1 : Int32) = 0 by decide)]
        by_cases v0 : w < 0
        · rw [if_pos v0]; rfl
        · rw [if_neg v0, if_pos (show (60 : Int32) < w from Classical.byContradiction fun q => hw ((isR_iff2 (n := 61) (by omega) w).mpr ⟨v0, q⟩))]; rfl
      · have hM2 := hM.slot 11 0 (by omega)
        rw [o_X12_heard, t_X12_heard_0, m_isOne_y hA hM2.1 hv, Option.bind_some, if_neg (show ¬ (1 : Int32) = 0 by decide)]
        dsimp only
        rw [q_in, Option.bind_some, if_pos (by dsimp only; rw [pb2_0]; exact fun q => hw ((isR_iff2 (n := 61) (by omega) w).mpr q))]; rfl
  · refine p_no hA (-1) (fun hC => ?_) (fun τ hM => ?_)
    · rw [o_X11_heard, t_X11_heard_0, k_hasRinger_n hA hC.1 hv, Option.bind_some, if_pos (show (0 : Int32) = 0 from rfl)]; rfl
    · have hM2 := hM.slot 11 0 (by omega)
      rw [o_X12_heard, t_X12_heard_0, m_isOne_n hA hM2.1 hv, Option.bind_some, if_pos (show (0 : Int32) = 0 from rfl)]; rfl
