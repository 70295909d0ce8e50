/-! night: the reference reads, acts are done, the call -/
theorem actN_gt {L : Nat} {tx : Nat → Nat} {p : Nat} (h : (actN L tx p).1 = true) : p < (actN L tx p).2.1 := by
  have hl := ltN_le L tx 60 p 0
  revert h
  unfold actN
  split
  · intro _; show p < p + 1; omega
  · split
    · split
      · split
        · intro _; show p < p + 3; omega
        · intro _; show p < p + 2; omega
      · intro h; exact absurd (show false = true from h) (by decide)
    · split
      · split
        · intro _; show p < p + 2; omega
        · intro h; exact absurd (show false = true from h) (by decide)
      · intro h
        have h : ((ltN L tx 60 p 0).2.2 && decide ((ltN L tx 60 p 0).1 ≠ p)) = true := h
        have h2 := of_decide_eq_true (Bool.and_eq_true_iff.mp h).2
        show p < (ltN L tx 60 p 0).1
        omega
theorem actN_60 {L : Nat} {tx : Nat → Nat} : actN L tx 60 = (false, 60, 0, 0) := by
  have h1 : hr L 60 tx 60 = -1 := if_neg (fun q => absurd q.2 (by omega))
  have h2 : ltN L tx 60 60 0 = (60, 0, true) := if_neg (fun q => absurd q.2.1 (by omega))
  unfold actN
  rw [h1, h2, if_neg (by decide), if_neg (by decide), if_neg (by decide)]
  rfl
def FrN (τ τ' : en_M) : Prop := (∀ c, c ≠ 185 → c ≠ 196 → τ' c = τ c) ∧ ∀ j, j < 12 ∨ 16 < j → τ' 185 j = τ 185 j
theorem FrN.refl (τ : en_M) : FrN τ τ := ⟨fun _ _ _ => rfl, fun _ _ => rfl⟩
theorem FrN.up {τ τ' : en_M} (h : FrN τ τ') {j : Nat} (hj : 12 ≤ j ∧ j ≤ 16) (v : Int32) : FrN τ (en_up τ' 185 j v) := ⟨fun c h1 h2 => by rw [pu_row h1]; exact h.1 c h1 h2, fun i hi => by rw [pu_slot (by omega)]; exact h.2 i hi⟩
theorem FrN.a {k : Nat} {τ τ' τ'' : en_M} (h : FrN τ τ') (h2 : FrA k τ' τ'') : FrN τ τ'' := ⟨fun c c1 c2 => by rw [h2.1 c c1 c2]; exact h.1 c c1 c2, fun i hi => by rw [h2.2.1 i hi]; exact h.2 i hi⟩
theorem r_nread {L : Nat} {tx : Nat → Nat} {τ : en_M} (h : RD τ 189 L 60 tx 0 (-1)) (hL0 : 0 < L) :
    ((ntR L tx 30 0 0).1 = 0 → ∃ τ', en_oi (T_X12_night_39 en_FU 0 1 τ) = some (-1 - Int32.ofNat (ntR L tx 30 0 0).2, τ') ∧ FrN τ τ') ∧
    ((ntR L tx 30 0 0).1 ≠ 0 → ∃ f u τ', 900000 < f ∧ T_X12_night_39 en_FU 0 1 τ = ((O_X12_lay [.inr (186, 20, 53, 0), .inr (195, 20, 53, 0), .inl (0 : Int32)] τ').bind fun r6 => T_X12_night_122 f (Int32.ofNat (ntR L tx 30 0 0).1) u (0 : Int32) (en_up r6 185 27 (0 : Int32))) ∧ (∀ j, j < (ntR L tx 30 0 0).1 → τ' 196 (2 * j) = Int32.ofNat (ntK L tx j) ∧ τ' 196 (2 * j + 1) = Int32.ofNat (ntV L tx j)) ∧ FrN τ τ') := by
  have hFU := en_FU_ge
  have hb := h.2.2.2.2.2.2.1
  have hL : L ≤ 80 := h.2.2.2.2.2.2.2.2.2.2.1
  have stop : ∀ (f : Nat) (x1 : Int32) (υ : en_M) (p q : Nat), q < 1000 → RD υ 189 L 60 tx p (Int32.ofNat q) → T_X12_night_39 (f + 1) x1 0 υ = en_ri (-1 - Int32.ofNat q) υ := fun f x1 υ p q hq hR => by
    rw [t_X12_night_39, if_pos (show (0 : Int32) = 0 from rfl), m_fault_n hR hq, Option.bind_some, m_fine_n hR hq, Option.bind_some]
    dsimp only
    rw [if_pos (show (0 : Int32) = 0 from rfl), hR.2.2.2.2.1, ite_self]
  have main : ∀ K k f υ, k + K = 30 → 900030 + K < f → RD υ 189 L 60 tx (ntP L tx k) (-1) → ntP L tx k ≤ 60 → 2 * k ≤ ntP L tx k → ntR L tx 30 0 0 = ntR L tx K k (ntP L tx k) → (∀ j, j < k → υ 196 (2 * j) = Int32.ofNat (ntK L tx j) ∧ υ 196 (2 * j + 1) = Int32.ofNat (ntV L tx j)) → FrN τ υ →
      ((ntR L tx 30 0 0).1 = 0 → ∃ τ', en_oi (T_X12_night_39 f (Int32.ofNat k) 1 υ) = some (-1 - Int32.ofNat (ntR L tx 30 0 0).2, τ') ∧ FrN τ τ') ∧
      ((ntR L tx 30 0 0).1 ≠ 0 → ∃ f' u τ', 900000 < f' ∧ T_X12_night_39 f (Int32.ofNat k) 1 υ = ((O_X12_lay [.inr (186, 20, 53, 0), .inr (195, 20, 53, 0), .inl (0 : Int32)] τ').bind fun r6 => T_X12_night_122 f' (Int32.ofNat (ntR L tx 30 0 0).1) u (0 : Int32) (en_up r6 185 27 (0 : Int32))) ∧ (∀ j, j < (ntR L tx 30 0 0).1 → τ' 196 (2 * j) = Int32.ofNat (ntK L tx j) ∧ τ' 196 (2 * j + 1) = Int32.ofNat (ntV L tx j)) ∧ FrN τ τ') := by
    intro K
    induction K with
    | zero =>
      intro k f υ hk hf p1 p2 p2' p3 p4 p5
      obtain ⟨f, rfl⟩ : ∃ j, f = j + 1 + 1 := ⟨f - 2, by omega⟩
      have hk : k = 30 := hk
      subst hk
      have h60 : ntP L tx 30 = 60 := by omega
      have p3 : ntR L tx 30 0 0 = (0, ntP L tx 30) := p3
      obtain ⟨τ1, e1, e2, e', p', e3, e4⟩ := r_readAct (k := 30) p1 (by omega) p2
      rw [h60, actN_60] at e4
      rcases e4 with ⟨e4, -⟩ | ⟨-, e5⟩
      · exact absurd (show false = true from e4) (by decide)
      have e5 : e' = Int32.ofNat 60 := e5
      subst e5
      rw [p3, h60, t_X12_night_39, if_neg (show ¬ (1 : Int32) = 0 by decide), m_fine_y p1, Option.bind_some]
      dsimp only
      rw [if_neg (show ¬ (1 : Int32) = 0 by decide), e1, Option.bind_some, m_passes_n e3 (by omega), Option.bind_some]
      dsimp only
      rw [stop f _ _ _ 60 (by omega) e3]
      exact ⟨fun _ => ⟨_, rfl, p5.a e2⟩, fun q => absurd rfl q⟩
    | succ K ih =>
      intro k f υ hk hf p1 p2 p2' p3 p4 p5
      obtain ⟨f, rfl⟩ : ∃ j, f = j + 1 + 1 := ⟨f - 2, by omega⟩
      conv at p3 => rhs; unfold ntR
      obtain ⟨hle1, hle2, -, -⟩ := actN_le L tx (ntP L tx k) p2
      obtain ⟨τ1, e1, e2, e', p', e3, e4⟩ := r_readAct (k := k) p1 (by omega) p2
      have hF2 : FrN τ τ1 := p5.a e2
      have hstep : T_X12_night_39 (f + 1 + 1) (Int32.ofNat k) 1 υ = (O_X12_passes [.inr (185, 12, 0, 0), .inl (59 : Int32)] τ1).bind fun r11 => T_X12_night_39 (f + 1) (Int32.ofNat (k + 1)) r11.1 r11.2 := by
        rw [t_X12_night_39, if_neg (show ¬ (1 : Int32) = 0 by decide), m_fine_y p1, Option.bind_some]
        dsimp only
        rw [if_neg (show ¬ (1 : Int32) = 0 by decide), e1, Option.bind_some, pn_a1]
      rw [hstep]
      rcases e4 with ⟨ok, rfl, rfl, t0, t1⟩ | ⟨bad, rfl⟩
      · have hgt := actN_gt ok
        have tb : ∀ j, j < k + 1 → τ1 196 (2 * j) = Int32.ofNat (ntK L tx j) ∧ τ1 196 (2 * j + 1) = Int32.ofNat (ntV L tx j) := fun j hj => by
          by_cases e : j = k
          · rw [e]; exact ⟨t0, t1⟩
          · rw [e2.2.2 _ (by omega) (by omega), e2.2.2 _ (by omega) (by omega)]; exact p4 j (by omega)
        rw [if_neg (by rw [ok]; decide)] at p3
        rw [m_passes e3 (by omega), Option.bind_some]
        by_cases c2 : hr L 60 tx (actN L tx (ntP L tx k)).2.1 = 59
        · have c2L := hr_lt (u := 59) (by omega) c2
          rw [if_neg (by omega), if_pos c2] at p3
          rw [if_pos c2]
          exact ih (k + 1) (f + 1) _ (by omega) (by omega) (e3.at _) (by show (actN L tx (ntP L tx k)).2.1 + 1 ≤ 60; omega) (by show 2 * (k + 1) ≤ (actN L tx (ntP L tx k)).2.1 + 1; omega) p3 (fun j hj => by dsimp only; rw [pu_cell (by omega), pu_cell (by omega)]; exact tb j hj) (hF2.up (by omega) _)
        · rw [if_neg c2]
          dsimp only
          rw [t_X12_night_39, if_pos (show (0 : Int32) = 0 from rfl), e3.2.2.2.1, e3.2.1, pi_if (pn_lt (show (actN L tx (ntP L tx k)).2.1 < 2147483648 by omega) (show L < 2147483648 by omega))]
          by_cases c3 : L ≤ (actN L tx (ntP L tx k)).2.1
          · rw [if_pos c3] at p3
            rw [if_neg (by omega), m_fine_y e3, Option.bind_some]
            dsimp only
            rw [if_neg (show ¬ (1 : Int32) = 0 by decide), p3]
            exact ⟨fun q => absurd q (by show k + 1 ≠ 0; omega), fun _ => ⟨f, 0, _, by omega, rfl, tb, hF2⟩⟩
          · rw [if_neg c3, if_neg c2] at p3
            have hR3 := e3.flt (Int32.ofNat (actN L tx (ntP L tx k)).2.1)
            rw [if_pos (by omega), m_fault e3, Option.bind_some, m_fine_n hR3 (by omega), Option.bind_some]
            dsimp only
            rw [if_pos (show (0 : Int32) = 0 from rfl), hR3.2.2.2.2.1, p3]
            exact ⟨fun _ => ⟨_, rfl, hF2.up (by omega) _⟩, fun q => absurd rfl q⟩
      · rw [if_pos bad] at p3
        rw [m_passes_n e3 (by omega), Option.bind_some]
        dsimp only
        rw [stop f _ _ _ _ (by omega) e3, p3]
        exact ⟨fun _ => ⟨_, rfl, hF2⟩, fun q => absurd rfl q⟩
  exact main 30 0 en_FU τ rfl (by omega) h (Nat.zero_le _) (Nat.zero_le _) rfl (fun j hj => absurd hj (by omega)) (FrN.refl τ)
def canB (g : pG) (kd v : Nat) : Bool := decide (gN g ≠ 0 ∧ (if kd = 1 then v ≤ 60 else if kd = 2 then v < gN g else v < 2 ^ gN g))
def doA (g : pG) (x : pS) (kd v : Nat) : pS := if kd = 1 then rdN g x v else if kd = 2 then sDk x v else nx g x v
def yA (g : pG) (x : pS) (K V : Nat → Nat) : Nat → pS
  | 0 => x
  | j + 1 => doA g (yA g x K V j) (K j) (V j)
def dnN (g : pG) (K V : Nat → Nat) : Nat → Nat → Nat
  | 0, j => j
  | d + 1, j => if canB g (K j) (V j) = true then dnN g K V d (j + 1) else j
theorem dnN_le (g : pG) (K V : Nat → Nat) : ∀ d j, j ≤ dnN g K V d j ∧ dnN g K V d j ≤ j + d
  | 0, j => ⟨Nat.le_refl _, Nat.le_refl _⟩
  | d + 1, j => by
    have := dnN_le g K V d (j + 1)
    unfold dnN
    split <;> omega
theorem canB_iff {g : pG} {kd v : Nat} : canB g kd v = true ↔ gN g ≠ 0 ∧ (if kd = 1 then v ≤ 60 else if kd = 2 then v < gN g else v < 2 ^ gN g) := by
  unfold canB
  rw [decide_eq_true_iff]
theorem doA_VS {g : pG} {x : pS} {kd v B : Nat} (hg : GV g) (h : VS (gN g) B x) (hc : canB g kd v = true) : VS (gN g) (B + 60) (doA g x kd v) := by
  have hc := (canB_iff.mp hc).2
  unfold doA
  by_cases c1 : kd = 1
  · rw [if_pos c1] at hc ⊢
    exact (rdN_VS hg h v).mono (by omega)
  · rw [if_neg c1] at hc ⊢
    by_cases c2 : kd = 2
    · rw [if_pos c2] at hc ⊢
      exact (sDk_VS h hc).mono (by omega)
    · rw [if_neg c2] at hc ⊢
      exact (nx_VS hg h hc).mono (by omega)
theorem q_canBe {g t ro x us kp} {B m j kd v : Nat} {σ : en_M} (hA : AV B (g, t, ro, x, us, kp)) (hC : CI σ (g, t, ro, x, us, kp)) (hm : σ 100 2 = Int32.ofNat m) (hj : j < m) (hm2 : m ≤ 30) (h1 : σ 101 j = Int32.ofNat kd) (h2 : σ 102 j = Int32.ofNat v) (hk : kd ≤ 2) (hv : v < 128) :
    O_X11_canBeDone [.inr (0, 11, 0, 0), .inl (Int32.ofNat j)] σ = some (if canB g kd v = true then 1 else 0, σ) := by
  have hn : gN g ≤ 7 := hA.1.1
  have h128 := p2lt hn
  have k1 : (Int32.ofNat kd = 1) = (kd = 1) := pn_eq1 (by omega)
  have k2 : (Int32.ofNat kd = 2) = (kd = 2) := pn_eq (b := 2) (by omega) (by omega)
  rw [o_X11_canBeDone, t_X11_canBeDone_0, if_pos (show (1 : Int32) = 0 ∨ (1 : Int32) = 1 from Or.inr rfl), if_pos (show (0 : Int32) = 0 ∨ (0 : Int32) = 1 from Or.inl rfl), pi_if (show (σ 5 3 = 0) = (gN g = 0) by rw [show σ 5 3 = Int32.ofNat (gN g) from hC.1.1]; exact pn_eq0 (by omega)), pi_if (show (Int32.ofNat j < σ 100 2) = (j < m) by rw [hm]; exact pn_lt (by omega) (by omega))]
  by_cases c0 : gN g = 0
  · rw [if_pos c0, if_neg (fun q => (canB_iff.mp q).1 c0)]; rfl
  rw [if_neg c0, if_pos hj, pn_ix (show j < 30 by omega) (by omega), Option.bind_some, Option.bind_some, pi_if (show (σ 101 j = 1) = (kd = 1) by rw [h1]; exact k1), h2, Option.bind_some, pi_if (show (σ 101 j = 2) = (kd = 2) by rw [h1]; exact k2)]
  have hcb := canB_iff (g := g) (kd := kd) (v := v)
  by_cases c1 : kd = 1
  · rw [if_pos c1] at hcb
    rw [if_pos c1, pi_if (show ((60 : Int32) < Int32.ofNat v) = (60 < v) from pn_lt (a := 60) (by omega) (by omega))]
    by_cases c2 : 60 < v
    · rw [if_pos c2, if_neg (fun q => by have := (hcb.mp q).2; omega)]; rfl
    · rw [if_neg c2, if_pos (hcb.mpr ⟨c0, by omega⟩)]; rfl
  rw [if_neg c1] at hcb
  rw [if_neg c1]
  by_cases c2 : kd = 2
  · rw [if_pos c2] at hcb
    rw [if_pos c2]
    by_cases c3 : v < gN g
    · rw [k_hasRinger_y hA hC.1 ⟨v, c3, rfl⟩, Option.bind_some, if_pos (hcb.mpr ⟨c0, c3⟩), if_pos (show (1 : Int32) = 0 ∨ (1 : Int32) = 1 from Or.inr rfl)]; rfl
    · rw [k_hasRinger_n hA hC.1 (fun ⟨w, hw, e⟩ => by have hw : w < gN g := hw; rw [pn_eq (by omega) (by omega)] at e; omega), Option.bind_some, if_neg (fun q => c3 (hcb.mp q).2), if_pos (show (0 : Int32) = 0 ∨ (0 : Int32) = 1 from Or.inl rfl)]; rfl
  · rw [if_neg c2] at hcb
    rw [if_neg c2]
    by_cases c3 : v < 2 ^ gN g
    · rw [k_hasAll_y hA hC ⟨v, c3, rfl⟩, Option.bind_some, if_pos (hcb.mpr ⟨c0, c3⟩), if_pos (show (1 : Int32) = 0 ∨ (1 : Int32) = 1 from Or.inr rfl)]; rfl
    · rw [k_hasAll_n hA hC (fun ⟨w, hw, e⟩ => by have hw : w < 2 ^ gN g := hw; rw [pn_eq (by omega) (by omega)] at e; omega), Option.bind_some, if_neg (fun q => c3 (hcb.mp q).2), if_pos (show (0 : Int32) = 0 ∨ (0 : Int32) = 1 from Or.inl rfl)]; rfl
theorem q_doAct {g t ro x us kp} {B j kd v : Nat} {σ : en_M} (hg : GV g) (hv : VS (gN g) B x) (hB : B + 60 < 1000000000) (hC : CI σ (g, t, ro, x, us, kp)) (hj : j < 30) (h1 : σ 101 j = Int32.ofNat kd) (h2 : σ 102 j = Int32.ofNat v) (hk : kd ≤ 2) (hc : canB g kd v = true) :
    ∃ σ', O_X11_doAct [.inr (0, 11, 0, 0), .inl (Int32.ofNat j)] σ = some σ' ∧ CI σ' (g, t, ro, doA g x kd v, us, kp) ∧ (∀ c, 100 ≤ c → c ≤ 102 → σ' c = σ c) ∧ FrC σ σ' := by
  obtain ⟨c0, hc⟩ := canB_iff.mp hc
  have hn0 : 0 < gN g := by omega
  have k1 : (Int32.ofNat kd = 1) = (kd = 1) := pn_eq1 (by omega)
  have k2 : (Int32.ofNat kd = 2) = (kd = 2) := pn_eq (b := 2) (by omega) (by omega)
  rw [o_X11_doAct, t_X11_doAct_0, pn_ix hj (by omega), Option.bind_some, Option.bind_some, pi_if (show (σ 101 j = 1) = (kd = 1) by rw [h1]; exact k1), h2, Option.bind_some, pi_if (show (σ 101 j = 2) = (kd = 2) by rw [h1]; exact k2)]
  unfold doA
  by_cases c1 : kd = 1
  · rw [if_pos c1] at hc
    rw [if_pos c1, if_pos c1]
    obtain ⟨σ2, f1, f2, f3, f4⟩ := q_ringAll (g := g) (x := x) (k := 15) (m := v) hg hC.1 hC.2.2.2.1 hv (by omega) (by omega) hn0 (by omega) (by omega)
    have hC2 : CI σ2 (g, t, ro, rdN g x v, us, kp) := hC.set f2 (hC.2.2.2.2.1.fr (fun c a b => f4 c (by omega) (by omega) (by omega))) (hC.2.2.2.2.2.fr (fun c a b => f4 c (by omega) (by omega) (by omega))) (fun c hc => f4 c (by omega) (by omega) (by omega))
    rw [f1, Option.bind_some]
    exact ⟨σ2, rfl, hC2, fun c a b => f4 c (by omega) (by omega) (by omega), fun c hc => f4 c (by omega) (by omega) (by omega)⟩
  rw [if_neg c1] at hc
  rw [if_neg c1, if_neg c1]
  by_cases c2 : kd = 2
  · rw [if_pos c2] at hc
    rw [if_pos c2, if_pos c2]
    obtain ⟨d1, d2⟩ := q_drink (k := 15) hC.2.2.2.1 (show v < 7 by have := hg.1; omega)
    rw [d1, Option.bind_some]
    exact ⟨_, rfl, hC.set d2 (hC.2.2.2.2.1.fr (fun c a b => pu_row (by omega))) (hC.2.2.2.2.2.fr (fun c a b => pu_row (by omega))) (fun c hc => pu_row (by omega)), fun c a b => pu_row (by omega), fun c hc => pu_row (by omega)⟩
  · rw [if_neg c2] at hc
    rw [if_neg c2, if_neg c2]
    obtain ⟨σ2, f1, f2, f3, f4⟩ := q_ring (k := 15) hg hC.1 hC.2.2.2.1 hv (by omega) hn0 hc (by omega) (by omega)
    have hC2 : CI σ2 (g, t, ro, nx g x v, us, kp) := hC.set f2 (hC.2.2.2.2.1.fr (fun c h1 h2 => f4 c (by omega) (by omega) (by omega) (by omega) (by omega) (by omega) (by omega))) (hC.2.2.2.2.2.fr (fun c h1 h2 => f4 c (by omega) (by omega) (by omega) (by omega) (by omega) (by omega) (by omega))) (fun c hc => f4 c (by omega) (by omega) (by omega) (by omega) (by omega) (by omega) (by omega))
    rw [f1, Option.bind_some]
    exact ⟨σ2, rfl, hC2, fun c a b => f4 c (by omega) (by omega) (by omega) (by omega) (by omega) (by omega) (by omega), fun c hc => f4 c (by omega) (by omega) (by omega) (by omega) (by omega) (by omega) (by omega)⟩
theorem r_act {g t ro x us kp} {B kd v : Nat} {τ : en_M} (hA : AV B (g, t, ro, x, us, kp)) (hB : B + 60 < 1000000000) (hM : MI τ (g, t, ro, x, us, kp)) (hk : kd ≤ 2) (hv7 : v < 128) :
    (canB g kd v = true → ∃ τ', O_X12_act [.inr (185, 12, 0, 0), .inl (Int32.ofNat kd), .inl (Int32.ofNat v)] τ = some (1, τ') ∧ MI τ' (g, t, ro, doA g x kd v, us, kp) ∧ τ' 195 = τ 195 ∧ τ' 196 = τ 196 ∧ (∃ d, τ' 185 27 = τ 185 27 + d ∧ smN (sR (doA g x kd v)) (gN g) = smN (sR x) (gN g) + d) ∧ FrM τ τ') ∧
    (¬ canB g kd v = true → O_X12_act [.inr (185, 12, 0, 0), .inl (Int32.ofNat kd), .inl (Int32.ofNat v)] τ = some (0, τ)) := by
  have hg : GV g := hA.1
  have hn : gN g ≤ 7 := hg.1
  have h128 := p2lt hn
  have hv : VS (gN g) B x := hA.2.2.2.2.2.2.2.1
  have hcb := canB_iff (g := g) (kd := kd) (v := v)
  rw [o_X12_act, t_X12_act_0, pi_if (show (τ 185 1 = 0) = (gN g = 0) by rw [show τ 185 1 = Int32.ofNat (gN g) from hM.1.1]; exact pn_eq0 (by omega)), pi_if (pn_eq0 (show kd < 2147483648 by omega)), pi_if (pn_eq1 (show kd < 2147483648 by omega)), pi_if (show ((60 : Int32) < Int32.ofNat v) = (60 < v) from pn_lt (a := 60) (by omega) (by omega))]
  simp only [if_pos (show (1 : Int32) = 0 ∨ (1 : Int32) = 1 from Or.inr rfl), if_pos (show (0 : Int32) = 0 ∨ (0 : Int32) = 1 from Or.inl rfl)]
  by_cases c0 : gN g = 0
  · rw [if_pos c0]
    exact ⟨fun q => absurd c0 (hcb.mp q).1, fun _ => rfl⟩
  have hn0 : 0 < gN g := by omega
  rw [if_neg c0]
  unfold doA
  by_cases c1 : kd = 0
  · rw [if_neg (show ¬ kd = 1 by omega), if_neg (show ¬ kd = 2 by omega)] at hcb
    rw [if_pos c1, if_neg (show ¬ kd = 1 by omega), if_neg (show ¬ kd = 2 by omega)]
    by_cases c3 : v < 2 ^ gN g
    · obtain ⟨τ2, f1, f2, f3, f4, f5⟩ := r_goRound (k := 186) hg hM.1 hM.2.2.2.1 hv (by omega) hn0 c3 (Or.inl rfl)
      have f4 : τ2 185 26 = Int32.ofNat (drN g x v (gN g)) := f4
      have hM4 : MI τ2 (g, t, ro, nx g x v, us, kp) := hM.set f2 (hM.2.2.2.2.1.fr (f5.2 23 (by omega) (by omega) (by omega) (by omega)) (f5.1 194 (by omega) (by omega) (by omega))) (hM.2.2.2.2.2.fr (f5.1 208 (by omega) (by omega) (by omega)) (f5.1 207 (by omega) (by omega) (by omega))) (fun j hj => f5.2 j (by omega) (by omega) (by omega) (by omega)) (fun c hc => f5.1 c (by omega) (by omega) (by omega))
      refine ⟨fun _ => ⟨en_up τ2 185 27 (τ 185 27 + Int32.ofNat (pcn (drN g x v (gN g)))), ?_, hM4.slot 27 _ (by omega), ?_, ?_, ⟨_, pu_same _ _ _ _, sum_nx hg⟩, fun c hc => ?_⟩, fun q => absurd (hcb.mpr ⟨c0, c3⟩) q⟩
      · rw [m_areThose_y hA hM.1 ⟨v, c3, rfl⟩, Option.bind_some]
        dsimp only
        rw [if_neg (show ¬ (1 : Int32) = 0 by decide), f1, Option.bind_some, f4, q_bitCount, Option.bind_some]
        dsimp only
        rw [f5.2 27 (by omega) (by omega) (by omega) (by omega), pcn128 (drN128 hg x v)]; rfl
      · rw [pu_row (by omega), f5.1 195 (by omega) (by omega) (by omega)]
      · rw [pu_row (by omega), f5.1 196 (by omega) (by omega) (by omega)]
      · rw [pu_row (by omega), f5.1 c (by omega) (by omega) (by omega)]
    · refine ⟨fun q => absurd (hcb.mp q).2 c3, fun _ => ?_⟩
      rw [m_areThose_n hA hM.1 (fun ⟨w, hw, e⟩ => by have hw : w < 2 ^ gN g := hw; rw [pn_eq (by omega) (by omega)] at e; omega), Option.bind_some]
      dsimp only
      rw [if_pos (show (0 : Int32) = 0 from rfl)]; rfl
  rw [if_neg c1]
  by_cases c2 : kd = 1
  · rw [if_pos c2] at hcb
    rw [if_pos c2, if_pos c2]
    by_cases c3 : 60 < v
    · rw [if_pos c3]
      exact ⟨fun q => absurd (hcb.mp q).2 (by omega), fun _ => rfl⟩
    · obtain ⟨τ2, f1, f2, f3, f4, f5, f6⟩ := r_goRounds (g := g) (x := x) (k := 186) (m := v) hg hM.1 hM.2.2.2.1 hv (by omega) (by omega) hn0 (Or.inl rfl)
      have hM4 : MI τ2 (g, t, ro, rdN g x v, us, kp) := hM.set f2 (hM.2.2.2.2.1.fr (f6.2 23 (by omega) (by omega) (by omega) (by omega) (by omega) (by omega)) (f6.1 194 (by omega) (by omega) (by omega))) (hM.2.2.2.2.2.fr (f6.1 208 (by omega) (by omega) (by omega)) (f6.1 207 (by omega) (by omega) (by omega))) (fun j hj => f6.2 j (by omega) (by omega) (by omega) (by omega) (by omega) (by omega)) (fun c hc => f6.1 c (by omega) (by omega) (by omega))
      rw [if_neg c3, f1, Option.bind_some]
      exact ⟨fun _ => ⟨τ2, rfl, hM4, f6.1 195 (by omega) (by omega) (by omega), f6.1 196 (by omega) (by omega) (by omega), ⟨_, f4, sum_rdN hg v⟩, fun c hc => f6.1 c (by omega) (by omega) (by omega)⟩, fun q => absurd (hcb.mpr ⟨c0, by omega⟩) q⟩
  · have hk2 : kd = 2 := by omega
    rw [if_neg c2, if_pos hk2] at hcb
    rw [if_neg c2, if_neg c2, if_pos hk2]
    by_cases c3 : v < gN g
    · obtain ⟨d1, d2⟩ := r_drink (k := 186) hM.2.2.2.1 hn (show v < 7 by omega)
      have d1 : O_X12_drink [.inr (186, 20, 53, 0), .inl (Int32.ofNat v)] τ = some (dk (sT x v), en_up τ 186 (7 + v) (dk (sT x v))) := d1
      have d2 : MSr (gN g) ((en_up τ 186 (7 + v) (dk (sT x v))) 186) (sDk x v) := d2
      have dr : ∀ c, c ≠ 186 → (en_up τ 186 (7 + v) (dk (sT x v))) c = τ c := fun c hc => pu_row hc
      rw [m_isOne_y hA hM.1 ⟨v, c3, rfl⟩, Option.bind_some]
      dsimp only
      rw [if_neg (show ¬ (1 : Int32) = 0 by decide), d1, Option.bind_some]
      generalize en_up τ 186 (7 + v) (dk (sT x v)) = τ2 at d2 dr ⊢
      exact ⟨fun _ => ⟨τ2, rfl, hM.set d2 (hM.2.2.2.2.1.fr (by rw [dr 185 (by omega)]) (dr 194 (by omega))) (hM.2.2.2.2.2.fr (dr 208 (by omega)) (dr 207 (by omega))) (fun j hj => by rw [dr 185 (by omega)]) (fun c hc => dr c (by omega)), dr 195 (by omega), dr 196 (by omega), ⟨0, by rw [dr 185 (by omega), Int32.add_zero], (Int32.add_zero _).symm⟩, fun c hc => dr c (by omega)⟩, fun q => absurd (hcb.mpr ⟨c0, c3⟩) q⟩
    · refine ⟨fun q => absurd (hcb.mp q).2 c3, fun _ => ?_⟩
      rw [m_isOne_n hA hM.1 (fun ⟨w, hw, e⟩ => by have hw : w < gN g := hw; rw [pn_eq (by omega) (by omega)] at e; omega), Option.bind_some]
      dsimp only
      rw [if_pos (show (0 : Int32) = 0 from rfl)]; rfl
