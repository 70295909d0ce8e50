theorem whN128 {g : pG} (hg : GV g) (x : pS) : ∀ m, whN g x m < 128
  | 0 => show (0 : Nat) < 128 by omega
  | m + 1 => Nat.or_lt_two_pow (n := 7) (whN128 hg x m) (drN128 hg (rdN g x m) 0)
theorem ftF_dr {g : pG} {x : pS} {m p r : Nat} (hr : r < gN g) (hp : p ≤ 10) (h : p ≤ ftF g x m r) : (whN g (dkA x p (gN g)) m).testBit r = decide (ftF g x m r ≠ p) := by
  rw [stout_own g x p m hr]
  obtain ⟨h1, h2⟩ := fwN_d (fun p => (whN g (dkN x r p) m).testBit r) 11 0 p (Nat.zero_le _) (by omega)
  by_cases e : ftF g x m r = p
  · rw [decide_eq_false (fun q => q e)]; exact h2 e.symm
  · rw [decide_eq_true e]; exact h1 (Nat.lt_of_le_of_ne h (fun q => e q.symm))
theorem k_stout {g t ro x us kp} {B m : Nat} {σ0 : en_M} (hA : AV B (g, t, ro, x, us, kp)) (hC : CI σ0 (g, t, ro, x, us, kp)) (hB : B + m < 1000000000) (hm : m ≤ 60) (hn0 : 0 < gN g) :
    ((∀ r, r < gN g → ftF g x m r ≤ 10) → ∃ σ', en_oi (T_X11_stout_40 en_FU (Int32.ofNat m) (Int32.ofNat (2 ^ gN g - 1)) 0 0 en_un en_un σ0) = some (Int32.ofNat (fsN (ftF g x m) 11 (gN g)), σ') ∧ CI σ' (g, t, rwL (fun r => Int32.ofNat (ftF g x m r)) (gN g), x, us, kp) ∧ FrC σ0 σ') ∧
    ((¬ ∀ r, r < gN g → ftF g x m r ≤ 10) → ∃ σ', en_oi (T_X11_stout_40 en_FU (Int32.ofNat m) (Int32.ofNat (2 ^ gN g - 1)) 0 0 en_un en_un σ0) = some (-2, σ') ∧ CI σ' (g, t, ro, x, us, kp) ∧ FrC σ0 σ') := by
  have hgv : GV g := hA.1
  have hn : gN g ≤ 7 := hgv.1
  have hVS : VS (gN g) B x := hA.2.2.2.2.2.2.2.1
  have hFU := en_FU_ge
  have h128 := p2lt hn
  have fin : ∀ (p f : Nat) (u5 u6 : en_V) (σ : en_M), p ≤ 11 → 10 < f → CI σ (g, t, ro, x, us, kp) → FrC σ0 σ → (∀ r, r < gN g → ftF g x m r < p → σ 184 r = Int32.ofNat (ftF g x m r)) → (p = 11 ∨ flN (ftF g x m) p (gN g) = 0) →
      ((∀ r, r < gN g → ftF g x m r ≤ 10) → ∃ σ', en_oi (if Int32.ofNat (flN (ftF g x m) p (gN g)) = 0 then ((O_X9_begin [.inr (3, 9, 0, 0)] σ).bind fun r1 => T_X11_stout_143 f (Int32.ofNat m) (Int32.ofNat (flN (ftF g x m) p (gN g))) (Int32.ofNat (fsN (ftF g x m) p (gN g))) (0 : Int32) u5 u6 r1) else (en_ri (-2 : Int32) σ)) = some (Int32.ofNat (fsN (ftF g x m) 11 (gN g)), σ') ∧ CI σ' (g, t, rwL (fun r => Int32.ofNat (ftF g x m r)) (gN g), x, us, kp) ∧ FrC σ0 σ') ∧
      ((¬ ∀ r, r < gN g → ftF g x m r ≤ 10) → ∃ σ', en_oi (if Int32.ofNat (flN (ftF g x m) p (gN g)) = 0 then ((O_X9_begin [.inr (3, 9, 0, 0)] σ).bind fun r1 => T_X11_stout_143 f (Int32.ofNat m) (Int32.ofNat (flN (ftF g x m) p (gN g))) (Int32.ofNat (fsN (ftF g x m) p (gN g))) (0 : Int32) u5 u6 r1) else (en_ri (-2 : Int32) σ)) = some (-2, σ') ∧ CI σ' (g, t, ro, x, us, kp) ∧ FrC σ0 σ') := by
    intro p f u5 u6 σ hp hf hCσ hfr htb hend
    have hfl := flN_lt (ftF g x m) p (gN g)
    rw [pi_if (pn_eq0 (show flN (ftF g x m) p (gN g) < 2147483648 by omega))]
    by_cases c : flN (ftF g x m) p (gN g) = 0
    · have hall : ∀ r, r < gN g → ftF g x m r < p := by have := c; rw [flN_0] at this; exact this
      refine ⟨fun _ => ?_, fun q => absurd (fun r hr => by have := hall r hr; omega) q⟩
      rw [if_pos c, q_tbegin, Option.bind_some, fs_all (ftF g x m) p 11 (gN g) hall (fun r hr => by have := hall r hr; omega)]
      refine pl_for1 (F := fun f i (q : en_M) => T_X11_stout_143 f (Int32.ofNat m) (Int32.ofNat (flN (ftF g x m) p (gN g))) (Int32.ofNat (fsN (ftF g x m) 11 (gN g))) (Int32.ofNat i) u5 u6 q) (P := fun i q => CI q (g, t, rwL (fun r => Int32.ofNat (ftF g x m r)) i, x, us, kp) ∧ ∀ c, c ≠ 3 → c ≠ 4 → q c = σ c) (Q := fun res => ∃ σ', en_oi res = some (Int32.ofNat (fsN (ftF g x m) 11 (gN g)), σ') ∧ CI σ' (g, t, rwL (fun r => Int32.ofNat (ftF g x m r)) (gN g), x, us, kp) ∧ FrC σ0 σ') (N := gN g) ?_ ?_ (gN g) 0 f (en_up σ 3 1 0) (by omega) (by omega) ⟨hCσ.begin, fun c h1 h2 => pu_row h1⟩
      · rintro f i υ hi ⟨o1, o2⟩
        obtain ⟨σ', s1, s2, s3⟩ := o1.add (by rw [rwL_len]; omega) (Int32.ofNat (ftF g x m i))
        refine Or.inl ⟨σ', ?_, s2, fun c h1 h2 => by rw [s3 c h1 h2, o2 c h1 h2]⟩
        show T_X11_stout_143 (f + 1) _ _ _ _ _ _ υ = _
        rw [t_X11_stout_143, show υ 5 3 = Int32.ofNat (gN g) from o1.1.1, if_pos ((pn_lt (by omega) (by omega)).mpr hi), pn_ix (by omega) (by omega), Option.bind_some, show υ 184 i = Int32.ofNat (ftF g x m i) by rw [o2 184 (by omega) (by omega)]; exact htb i hi (hall i hi), s1, Option.bind_some, pn_a1]
      · rintro f υ ⟨o1, o2⟩
        show ∃ σ', en_oi (T_X11_stout_143 (f + 1) _ _ _ _ _ _ υ) = _ ∧ _
        rw [t_X11_stout_143, show υ 5 3 = Int32.ofNat (gN g) from o1.1.1, if_neg (by rw [pn_lt (by omega) (by omega)]; omega)]
        exact ⟨υ, rfl, o1, fun c hc => by rw [o2 c (by omega) (by omega), hfr c hc]⟩
    · rw [if_neg c]
      have hp11 : p = 11 := hend.resolve_right c
      refine ⟨fun q => absurd (by rw [flN_0]; intro r hr; have := q r hr; omega) c, fun _ => ⟨σ, rfl, hCσ, hfr⟩⟩
  have go := pl_for (F := fun f p (q : en_V × en_V × en_M) => T_X11_stout_40 f (Int32.ofNat m) (Int32.ofNat (flN (ftF g x m) p (gN g))) (Int32.ofNat (fsN (ftF g x m) p (gN g))) (Int32.ofNat p) q.1 q.2.1 q.2.2) (P := fun p q => CI q.2.2 (g, t, ro, x, us, kp) ∧ FrC σ0 q.2.2 ∧ ∀ r, r < gN g → ftF g x m r < p → q.2.2 184 r = Int32.ofNat (ftF g x m r))
    (Q := fun res => ((∀ r, r < gN g → ftF g x m r ≤ 10) → ∃ σ', en_oi res = some (Int32.ofNat (fsN (ftF g x m) 11 (gN g)), σ') ∧ CI σ' (g, t, rwL (fun r => Int32.ofNat (ftF g x m r)) (gN g), x, us, kp) ∧ FrC σ0 σ') ∧ ((¬ ∀ r, r < gN g → ftF g x m r ≤ 10) → ∃ σ', en_oi res = some (-2, σ') ∧ CI σ' (g, t, ro, x, us, kp) ∧ FrC σ0 σ')) (N := 11) (C := 20) (C0 := 100) (by
      rintro f p ⟨u5, u6, σ⟩ hp hf ⟨p1, p2, p3⟩
      have p1 : CI σ (g, t, ro, x, us, kp) := p1
      have p2 : FrC σ0 σ := p2
      have p3 : ∀ r, r < gN g → ftF g x m r < p → σ 184 r = Int32.ofNat (ftF g x m r) := p3
      obtain ⟨f, rfl⟩ : ∃ j, f = j + 1 := ⟨f - 1, by omega⟩
      have hfl := flN_lt (ftF g x m) p (gN g)
      have h10 : ¬ (10 : Int32) < Int32.ofNat p := fun q => by have := (pn_lt (a := 10) (by omega) (by omega)).mp q; omega
      have hz : (Int32.ofNat (flN (ftF g x m) p (gN g)) = 0) = (flN (ftF g x m) p (gN g) = 0) := pn_eq0 (by omega)
      by_cases c : flN (ftF g x m) p (gN g) = 0
      · have cz : Int32.ofNat (flN (ftF g x m) p (gN g)) = 0 := by rw [hz]; exact c
        right
        show ((∀ r, r < gN g → ftF g x m r ≤ 10) → ∃ σ', en_oi (T_X11_stout_40 (f + 1) (Int32.ofNat m) (Int32.ofNat (flN (ftF g x m) p (gN g))) (Int32.ofNat (fsN (ftF g x m) p (gN g))) (Int32.ofNat p) u5 u6 σ) = _ ∧ _) ∧ (_ → ∃ σ', en_oi (T_X11_stout_40 (f + 1) (Int32.ofNat m) (Int32.ofNat (flN (ftF g x m) p (gN g))) (Int32.ofNat (fsN (ftF g x m) p (gN g))) (Int32.ofNat p) u5 u6 σ) = _ ∧ _)
        rw [t_X11_stout_40, if_neg h10, if_pos cz]
        exact fin p f u5 u6 σ (by omega) (by omega) p1 p2 p3 (Or.inr c)
      · have cz : ¬ Int32.ofNat (flN (ftF g x m) p (gN g)) = 0 := by rw [hz]; exact c
        obtain ⟨σ1, e1, e2, e3⟩ := q_driftAfter (A := (g, t, ro, x, us, kp)) (p := p) (m := m) hgv p1 hVS hB (by omega) hm hn0
        have hD128 : whN g (dkA x p (gN g)) m < 128 := whN128 hgv _ m
        obtain ⟨σ2, k1, k2, k3⟩ := k_stout1 (F := ftF g x m) (n := gN g) (p := p) (m := m) (σ := σ1) hn (by omega) e2.1.1 hD128 (fun r hr h => ftF_dr hr (by omega) h) (f := f) (by omega)
        have kC : CI σ2 (g, t, ro, x, us, kp) := e2.kept (fun c hc => k3 c (by omega)) (by rw [k3 10 (by omega)])
        refine Or.inl ⟨f - gN g - 1, (.inl (Int32.ofNat (whN g (dkA x p (gN g)) m)), .inl (Int32.ofNat (gN g)), σ2), ?_, by omega, kC, fun c hc => by show σ2 c = σ0 c; rw [k3 c (by omega), e3 c (by omega), p2 c hc], fun r hr h => ?_⟩
        · show T_X11_stout_40 (f + 1) (Int32.ofNat m) (Int32.ofNat (flN (ftF g x m) p (gN g))) (Int32.ofNat (fsN (ftF g x m) p (gN g))) (Int32.ofNat p) u5 u6 σ = _
          rw [t_X11_stout_40, if_neg h10, if_neg cz, e1, Option.bind_some]
          exact k1
        · show σ2 184 r = _
          rw [k2 r hr]
          by_cases e : ftF g x m r = p
          · rw [if_pos e, e]
          · rw [if_neg e, e3 184 (by omega)]; exact p3 r hr (by omega)) (by
      rintro f ⟨u5, u6, σ⟩ hf ⟨p1, p2, p3⟩
      obtain ⟨f, rfl⟩ : ∃ j, f = j + 1 := ⟨f - 1, by omega⟩
      show ((∀ r, r < gN g → ftF g x m r ≤ 10) → ∃ σ', en_oi (T_X11_stout_40 (f + 1) (Int32.ofNat m) (Int32.ofNat (flN (ftF g x m) 11 (gN g))) (Int32.ofNat (fsN (ftF g x m) 11 (gN g))) (Int32.ofNat 11) u5 u6 σ) = _ ∧ _) ∧ (_ → ∃ σ', en_oi (T_X11_stout_40 (f + 1) (Int32.ofNat m) (Int32.ofNat (flN (ftF g x m) 11 (gN g))) (Int32.ofNat (fsN (ftF g x m) 11 (gN g))) (Int32.ofNat 11) u5 u6 σ) = _ ∧ _)
      rw [t_X11_stout_40, if_pos (show (10 : Int32) < Int32.ofNat 11 by decide)]
      exact fin 11 f u5 u6 σ (by omega) (by omega) p1 p2 p3 (Or.inl rfl)) 11 0 en_FU (en_un, en_un, σ0) rfl (by omega) ⟨hC, FrC.refl _, fun r hr h => absurd h (by omega)⟩
  dsimp only at go
  rw [flN_first, fsN_0] at go
  exact go

theorem p_stout : en_st_stout pInv := by
  intro c v hc
  refine p_two hc (fun A σ0 hA hB => ?_)
  obtain ⟨g, t, ro, x, us, kp⟩ := A
  have hgv : GV g := hA.1
  have hn : gN g ≤ 7 := hgv.1
  by_cases hz : gN g ≠ 0 ∧ ¬ v < 1 ∧ ¬ (60 : Int32) < v
  · obtain ⟨hz0, v1, v60⟩ := hz
    have hn0 : 0 < gN g := by omega
    have nz : ¬ Int32.ofNat (gN g) = 0 := by rw [pn_eq0 (by omega)]; exact hz0
    obtain ⟨m, hm, rfl⟩ := isR_1 (n := 61) (by omega) (by omega) v1 v60
    have hcl : ∀ σ : en_M, CI σ (g, t, ro, x, us, kp) → O_X11_stout [.inr (0, 11, 0, 0), .inl (Int32.ofNat m)] σ = en_oi (T_X11_stout_40 en_FU (Int32.ofNat m) (Int32.ofNat (2 ^ gN g - 1)) 0 0 en_un en_un σ) := fun σ hC => by
      rw [o_X11_stout, t_X11_stout_0, show σ 5 3 = Int32.ofNat (gN g) from hC.1.1, if_neg nz, if_neg v1, if_neg v60, pb_1 (by omega), show (1 : Int32) = Int32.ofNat 1 from rfl, pn_sub (Nat.two_pow_pos _)]
    have hml : ∀ τ : en_M, MI τ (g, t, ro, x, us, kp) → O_X12_stout [.inr (185, 12, 0, 0), .inl (Int32.ofNat m)] τ = en_oi (T_X12_stout_28 en_FU (Int32.ofNat m) 0 0 en_un (en_up τ 185 11 0)) := fun τ hM => by
      have hM2 := hM.slot 11 0 (by omega)
      rw [o_X12_stout, t_X12_stout_0, q_in, Option.bind_some, if_neg (by dsimp only; rw [pb2_0]; exact fun q => q ⟨v1, v60⟩)]
      dsimp only
      rw [if_neg (show ¬ (en_up τ 185 11 0) 185 1 = 0 by rw [show (en_up τ 185 11 0) 185 1 = Int32.ofNat (gN g) from hM2.1.1]; exact nz)]
    have hfr : ∀ τ : en_M, FrM τ (en_up τ 185 11 0) := fun τ => FrM.up (by omega) (by omega)
    by_cases ha : ∀ r, r < gN g → ftF g x m r ≤ 10
    · refine ⟨Int32.ofNat (fsN (ftF g x m) 11 (gN g)), (g, t, rwL (fun r => Int32.ofNat (ftF g x m r)) (gN g), x, us, kp), fun hC => ?_, fun τ hM => ?_, (hA.row (by rw [rwL_len]; omega)).mono (by omega)⟩
      · rw [hcl σ0 hC]
        exact (k_stout hA hC (by omega) (by omega) hn0).1 ha
      · rw [hml τ hM]
        obtain ⟨τ', e1, e2, e3⟩ := (r_stout hA (hM.slot 11 0 (by omega)) (by omega) (show m ≤ 60 by omega)).1 ha
        exact ⟨τ', e1, e2, (hfr τ).trans e3⟩
    · refine ⟨-2, (g, t, ro, x, us, kp), fun hC => ?_, fun τ hM => ?_, hA.mono (by omega)⟩
      · rw [hcl σ0 hC]
        exact (k_stout hA hC (by omega) (by omega) hn0).2 ha
      · rw [hml τ hM]
        obtain ⟨τ', e1, e2, e3⟩ := (r_stout hA (hM.slot 11 0 (by omega)) (by omega) (show m ≤ 60 by omega)).2 ha
        exact ⟨τ', e1, e2, (hfr τ).trans e3⟩
  · refine p_no hA (-1) (fun hC => ?_) (fun τ hM => ?_)
    · rw [o_X11_stout, t_X11_stout_0, show σ0 5 3 = Int32.ofNat (gN g) from hC.1.1]
      by_cases c0 : gN g = 0
      · rw [c0, if_pos (by decide)]; rfl
      · rw [if_neg (by rw [pn_eq0 (by omega)]; exact c0)]
        by_cases c1 : v < 1
        · rw [if_pos c1]; rfl
        · rw [if_neg c1, if_pos (Classical.byContradiction fun q => hz ⟨c0, c1, q⟩)]; rfl
    · have hM2 := hM.slot 11 0 (by omega)
      rw [o_X12_stout, t_X12_stout_0, q_in, Option.bind_some]
      by_cases c1 : ¬ v < 1 ∧ ¬ (60 : Int32) < v
      · rw [if_neg (by dsimp only; rw [pb2_0]; exact fun q => q c1)]
        dsimp only
        rw [if_pos (show (en_up τ 185 11 0) 185 1 = 0 by rw [show (en_up τ 185 11 0) 185 1 = Int32.ofNat (gN g) from hM2.1.1, pn_eq0 (by omega)]; exact Classical.byContradiction fun q => hz ⟨q, c1⟩)]; rfl
      · rw [if_pos (by dsimp only; rw [pb2_0]; exact c1)]; rfl
