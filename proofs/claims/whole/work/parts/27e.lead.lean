/-! lead -/
/-- the first row like the one now, where the changes begin again -/
def ldN (W : Nat → Nat) (m : Nat) : Nat → Nat → Option Nat
  | 0, _ => none
  | k + 1, i => if W i = W 0 ∧ i % m = 0 then some i else ldN W m k (i + 1)
theorem ldN_skip (W : Nat → Nat) (m : Nat) : ∀ d i, (∀ e, i ≤ e → e < i + d → e % m ≠ 0) → ldN W m (201 - i) i = ldN W m (201 - (i + d)) (i + d)
  | 0, i, _ => rfl
  | d + 1, i, h => by
    have ih := ldN_skip W m d (i + 1) (fun e h1 h2 => h e (by omega) (by omega))
    by_cases c : i < 201
    · rw [show 201 - i = (201 - (i + 1)) + 1 by omega]
      conv => lhs; unfold ldN
      rw [if_neg (fun q => h i (Nat.le_refl _) (by omega) q.2), ih, show i + 1 + d = i + (d + 1) by omega]
    · rw [show 201 - i = 0 by omega, show 201 - (i + (d + 1)) = 0 by omega]; rfl
theorem ld_mod {N n m : Nat} (hm : 1 ≤ m) : (N % m = (N + n) % m) = (n % m = 0) := by
  apply propext
  rw [Nat.add_mod N n m]
  have h1 := Nat.mod_lt N (show m > 0 by omega)
  have h2 := Nat.mod_lt n (show m > 0 by omega)
  by_cases c : N % m + n % m < m
  · rw [Nat.mod_eq_of_lt c]; omega
  · rw [Nat.mod_eq_sub_mod (show N % m + n % m ≥ m by omega), Nat.mod_eq_of_lt (show N % m + n % m - m < m by omega)]; omega
theorem p_lead : en_st_lead pInv := by
  intro c hc
  refine p_two hc (fun A σ0 hA hB => ?_)
  obtain ⟨g, t, ro, x, us, kp⟩ := A
  have hgv : GV g := hA.1
  have hn : gN g ≤ 7 := hgv.1
  have hm1 : 1 ≤ gM g := hgv.2.1
  have hm2 : gM g ≤ 20 := hgv.2.2.1
  have hNB : sN x ≤ 2000 * c := hA.2.2.2.2.2.2.2.1.2.1
  by_cases hz : gN g = 0
  · refine p_no hA (-2) (fun hC => ?_) (fun τ hM => ?_)
    · rw [o_X11_lead, t_X11_lead_0, show σ0 5 3 = Int32.ofNat (gN g) from hC.1.1, hz, if_pos (by decide)]; rfl
    · rw [o_X12_lead, t_X12_lead_0, show τ 185 1 = Int32.ofNat (gN g) from hM.1.1, hz, if_pos (by decide)]; rfl
  have nz : ¬ Int32.ofNat (gN g) = 0 := by rw [pn_eq0 (by omega)]; exact hz
  have hpm : ∀ k, PMf (gN g) (odN g x k) := fun k => odN_PMf hgv hA.2.2.2.2.2.2.2.1.1 k
  have hW : ∀ k, pkN (odN g x k) < 2097152 := fun k => pkN_lt (hpm k).lt8
  have hW0 : pkN (sF x) = pkN (odN g x 0) := rfl
  generalize hWd : (fun k => pkN (odN g x k)) = W
  have hWe : ∀ k, pkN (odN g x k) = W k := fun k => by rw [← hWd]
  obtain ⟨v', f1, f2⟩ : ∃ v' : Int32, (ldN W (gM g) 200 1 = none → v' = -2) ∧ (∀ i, ldN W (gM g) 200 1 = some i → v' = Int32.ofNat i) := by
    rcases e : ldN W (gM g) 200 1 with _ | i
    · exact ⟨-2, fun _ => rfl, fun _ q => (by simp at q)⟩
    · exact ⟨Int32.ofNat i, fun q => (by simp at q), fun i' q => by rw [Option.some.inj q]⟩
  refine ⟨v', (g, t, ro, x, us, kp), fun hC => ?_, fun τ hM => ?_, hA.mono (by omega)⟩
  · obtain ⟨σ1, e1, e2, e3, e4⟩ := k_look hA (by omega) hC (m := 200) (by omega)
    have e1' : O_X11_lookAhead [.inr (0, 11, 0, 0), .inl (200 : Int32)] σ0 = some σ1 := e1
    have h154 : σ1 15 4 = Int32.ofNat (W 0) := by rw [← hWe]; exact e2.2.2.2.1.1
    have h155 : σ1 15 5 = Int32.ofNat (sN x) := e2.2.2.2.1.2.1
    have h72 : σ1 7 2 = Int32.ofNat (gM g) := e2.1.2.2.2.2.2.1
    rw [o_X11_lead, t_X11_lead_0, show σ0 5 3 = Int32.ofNat (gN g) from hC.1.1, if_neg nz, e1', Option.bind_some]
    refine pl_for1 (F := fun f i (_ : Unit) => T_X11_lead_22 f (Int32.ofNat (1 + i)) σ1) (P := fun i _ => ldN W (gM g) 200 1 = ldN W (gM g) (200 - i) (1 + i)) (Q := fun r => ∃ σ', en_oi r = some (v', σ') ∧ CI σ' (g, t, ro, x, us, kp) ∧ FrC σ0 σ') (N := 200) ?_ ?_ 200 0 en_FU () (by omega) (pl_FU (by omega)) rfl
    · intro f i u hi hP
      have hP : ldN W (gM g) 200 1 = ldN W (gM g) (200 - i) (1 + i) := hP
      rw [show 200 - i = (200 - (i + 1)) + 1 by omega] at hP
      have w1 := hW (1 + i)
      have w0 := hW 0
      rw [hWe] at w1 w0
      show (∃ u' : Unit, T_X11_lead_22 (f + 1) _ σ1 = _ ∧ _) ∨ ∃ σ', en_oi (T_X11_lead_22 (f + 1) _ σ1) = _ ∧ _
      rw [t_X11_lead_22, if_neg (show ¬ (200 : Int32) < Int32.ofNat (1 + i) from fun q => by have := (pn_lt (a := 200) (by omega) (by omega)).mp q; omega), pn_ix (by omega) (by omega), Option.bind_some, e3 (1 + i) (by omega), hWe, h154, h155, pi_if (pn_eq (by omega) (by omega)), pn_add (sN x), o_X0_sameChange, t_X0_sameChange_0, q_changeAt (by omega) hm1 hm2 h72, Option.bind_some]
      dsimp only
      rw [q_changeAt (by omega) hm1 hm2 h72, Option.bind_some]
      dsimp only
      have r1 := Nat.mod_lt (sN x) (show gM g > 0 by omega)
      have r2 := Nat.mod_lt (sN x + (1 + i)) (show gM g > 0 by omega)
      rw [pi_if ((pn_eq (show sN x % gM g < 2147483648 by omega) (show (sN x + (1 + i)) % gM g < 2147483648 by omega)).trans (ld_mod hm1)), pn_a1]
      conv at hP => rhs; unfold ldN
      by_cases c1 : W (1 + i) = W 0
      · rw [if_pos c1]
        by_cases c2 : (1 + i) % gM g = 0
        · rw [if_pos ⟨c1, c2⟩] at hP
          rw [if_pos c2, if_pos (Or.inr rfl)]
          rw [f2 _ hP]
          exact Or.inr ⟨σ1, rfl, e2, e4⟩
        · rw [if_neg (fun q => c2 q.2)] at hP
          rw [if_neg c2, if_pos (Or.inl rfl)]
          exact Or.inl ⟨(), rfl, hP⟩
      · rw [if_neg (fun q => c1 q.1)] at hP
        rw [if_neg c1]
        exact Or.inl ⟨(), rfl, hP⟩
    · intro f u hP
      have hP : ldN W (gM g) 200 1 = none := hP
      show ∃ σ', en_oi (T_X11_lead_22 (f + 1) _ σ1) = _ ∧ _
      rw [t_X11_lead_22, if_pos (show (200 : Int32) < Int32.ofNat (1 + 200) by decide), f1 hP]
      exact ⟨σ1, rfl, e2, e4⟩
  · have hM2 := hM.slot 11 0 (by omega)
    obtain ⟨τ1, e1, e2, e3, e4⟩ := m_lay hA (by omega) hM2 (m := 200) (by omega)
    have e1' : O_X12_layOrders [.inr (185, 12, 0, 0), .inl (200 : Int32)] (en_up τ 185 11 0) = some τ1 := e1
    have hfr : FrM τ τ1 := fun c hc => by rw [e4 c hc, pu_row (by omega)]
    have h1 : τ1 185 1 = Int32.ofNat (gN g) := e2.1.1
    have h4 : τ1 185 4 = Int32.ofNat (gM g) := e2.1.2.2.2.2.1
    rw [o_X12_lead, t_X12_lead_0, show τ 185 1 = Int32.ofNat (gN g) from hM.1.1, if_neg nz, e1', Option.bind_some, h4]
    have st : ldN W (gM g) 200 1 = ldN W (gM g) (201 - gM g) (gM g) := by
      have := ldN_skip W (gM g) (gM g - 1) 1 (fun e h1 h2 => by rw [Nat.mod_eq_of_lt (by omega)]; omega)
      rw [show 1 + (gM g - 1) = gM g by omega] at this
      exact this
    have m1 : gM g * (0 + 1) = gM g := Nat.mul_one _
    have go := pl_for1 (F := fun f j (_ : Unit) => T_X12_lead_27 f (Int32.ofNat (gM g * (j + 1))) τ1) (P := fun j _ => ldN W (gM g) 200 1 = ldN W (gM g) (201 - gM g * (j + 1)) (gM g * (j + 1))) (Q := fun r => ∃ τ', en_oi r = some (v', τ') ∧ MI τ' (g, t, ro, x, us, kp) ∧ FrM τ τ') (N := 200) (by
      intro f j u hj hP
      have hP : ldN W (gM g) 200 1 = ldN W (gM g) (201 - gM g * (j + 1)) (gM g * (j + 1)) := hP
      have hs : gM g * (j + 1) + gM g = gM g * (j + 1 + 1) := rfl
      have hmm : gM g * (j + 1) % gM g = 0 := Nat.mul_mod_right _ _
      have hle : gM g * (j + 1) ≤ 20 * 200 := Nat.mul_le_mul hm2 (by omega)
      show (∃ u' : Unit, T_X12_lead_27 (f + 1) (Int32.ofNat (gM g * (j + 1))) τ1 = T_X12_lead_27 f (Int32.ofNat (gM g * (j + 1 + 1))) τ1 ∧ ldN W (gM g) 200 1 = ldN W (gM g) (201 - gM g * (j + 1 + 1)) (gM g * (j + 1 + 1))) ∨ ∃ τ', en_oi (T_X12_lead_27 (f + 1) (Int32.ofNat (gM g * (j + 1))) τ1) = _ ∧ _
      rw [← hs]
      generalize gM g * (j + 1) = i at hP hmm hle ⊢
      rw [t_X12_lead_27]
      by_cases c0 : 200 < i
      · rw [if_pos (show (200 : Int32) < Int32.ofNat i from (pn_lt (a := 200) (by omega) (by omega)).mpr c0)]
        rw [show 201 - i = 0 by omega] at hP
        rw [f1 hP]
        exact Or.inr ⟨τ1, rfl, e2, hfr⟩
      · rw [if_neg (show ¬ (200 : Int32) < Int32.ofNat i from fun q => by have := (pn_lt (a := 200) (by omega) (by omega)).mp q; omega)]
        have ha : O_X12_areLike [.inr (185, 12, 0, 0), .inl (0 : Int32), .inl (Int32.ofNat i)] τ1 = some (pb2 (pkN (odN g x 0) = pkN (odN g x i)), τ1) := r_areLike (j := 0) (hpm 0) (hpm i) hn (by omega) (by omega) h1 (fun p hp => e3 0 p (by omega) hp) (fun p hp => e3 i p (by omega) hp)
        rw [ha, Option.bind_some]
        dsimp only
        rw [hWe, hWe, pi_if (pb2_0 (W 0 = W i)), h4, pn_add]
        rw [show 201 - i = (201 - (i + 1)) + 1 by omega] at hP
        conv at hP => rhs; unfold ldN
        by_cases c1 : W 0 = W i
        · rw [if_pos ⟨c1.symm, hmm⟩] at hP
          rw [if_neg (fun q => q c1), f2 _ hP]
          exact Or.inr ⟨τ1, rfl, e2, hfr⟩
        · rw [if_neg (fun q => c1 q.1.symm)] at hP
          rw [if_pos c1]
          refine Or.inl ⟨(), rfl, ?_⟩
          have sk := ldN_skip W (gM g) (gM g - 1) (i + 1) (fun e h1 h2 => by
            obtain ⟨d, rfl⟩ : ∃ d, e = i + d := ⟨e - i, by omega⟩
            rw [Nat.add_mod, hmm, Nat.zero_add, Nat.mod_mod, Nat.mod_eq_of_lt (by omega)]; omega)
          rw [show i + 1 + (gM g - 1) = i + gM g by omega] at sk
          rw [hP, sk]) (by
      intro f u hP
      have hP : ldN W (gM g) 200 1 = ldN W (gM g) (201 - gM g * (200 + 1)) (gM g * (200 + 1)) := hP
      have hge : 1 * 201 ≤ gM g * (200 + 1) := Nat.mul_le_mul hm1 (Nat.le_refl _)
      have hle : gM g * (200 + 1) ≤ 20 * 201 := Nat.mul_le_mul hm2 (Nat.le_refl _)
      show ∃ τ', en_oi (T_X12_lead_27 (f + 1) (Int32.ofNat (gM g * (200 + 1))) τ1) = _ ∧ _
      generalize gM g * (200 + 1) = i at hP hge hle ⊢
      rw [show 201 - i = 0 by omega] at hP
      rw [t_X12_lead_27, if_pos (show (200 : Int32) < Int32.ofNat i from (pn_lt (a := 200) (by omega) (by omega)).mpr (by omega)), f1 hP]
      exact ⟨τ1, rfl, e2, hfr⟩) 200 0 en_FU () (by omega) (pl_FU (by omega)) (by rw [m1]; exact st)
    rw [m1] at go
    exact go
