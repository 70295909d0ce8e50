/-! method: the reference, the call -/
def FrU (τ τ' : en_M) : Prop := (∀ c, c ≠ 185 → τ' c = τ c) ∧ ∀ j, j < 12 ∨ 16 < j → τ' 185 j = τ 185 j
theorem FrU.refl (τ : en_M) : FrU τ τ := ⟨fun _ _ => rfl, fun _ _ => rfl⟩
theorem FrU.up {τ τ' : en_M} (h : FrU τ τ') {j : Nat} (hj : 12 ≤ j ∧ j ≤ 16) (v : Int32) : FrU τ (en_up τ' 185 j v) := ⟨fun c h1 => by rw [pu_row h1]; exact h.1 c h1, fun i hi => by rw [pu_slot (by omega)]; exact h.2 i hi⟩
theorem FrU.trans {a b c : en_M} (h : FrU a b) (h2 : FrU b c) : FrU a c := ⟨fun q hq => (h2.1 q hq).trans (h.1 q hq), fun j hj => (h2.2 j hj).trans (h.2 j hj)⟩
def FrR (τ τ' : en_M) : Prop := (∀ c, c ≠ 185 → c ≠ 191 → τ' c = τ c) ∧ ∀ j, j < 12 ∨ 16 < j → τ' 185 j = τ 185 j
theorem FrR.refl (τ : en_M) : FrR τ τ := ⟨fun _ _ _ => rfl, fun _ _ => rfl⟩
theorem FrR.up {τ τ' : en_M} (h : FrR τ τ') {j : Nat} (hj : 12 ≤ j ∧ j ≤ 16) (v : Int32) : FrR τ (en_up τ' 185 j v) := ⟨fun c h1 h2 => by rw [pu_row h1]; exact h.1 c h1 h2, fun i hi => by rw [pu_slot (by omega)]; exact h.2 i hi⟩
theorem FrR.up2 {τ τ' : en_M} (h : FrR τ τ') (j : Nat) (v : Int32) : FrR τ (en_up τ' 191 j v) := ⟨fun c h1 h2 => by rw [pu_row h2]; exact h.1 c h1 h2, fun i hi => by rw [pu_cell (by omega)]; exact h.2 i hi⟩
theorem cg_rise {d l q : Nat} (h1 : 2 ^ l ≤ d) (h2 : d < 2 ^ (l + 1)) : d / 2 ^ q = 0 ↔ l < q := by
  rw [Nat.div_eq_zero_iff]
  have hq := Nat.two_pow_pos q
  constructor
  · rintro (h | h)
    · omega
    · exact Nat.lt_of_not_le fun hc => by
        have := Nat.pow_le_pow_right (n := 2) (by decide) hc
        omega
  · intro h
    have := Nat.pow_le_pow_right (n := 2) (by decide) (show l + 1 ≤ q from h)
    exact Or.inr (by omega)
theorem or_pow_le {d l q : Nat} (h1 : d < 2 ^ (l + 1)) (h : l < q) : 2 ^ q ≤ d ||| 2 ^ q ∧ d ||| 2 ^ q < 2 ^ (q + 1) := by
  have h2 := Nat.pow_le_pow_right (n := 2) (by decide) (show l + 1 ≤ q from h)
  refine ⟨Nat.right_le_or, Nat.or_lt_two_pow ?_ (Nat.pow_lt_pow_right (by decide) (by omega))⟩
  rw [Nat.pow_succ]; omega
theorem hr_sub {L mx : Nat} {tx : Nat → Nat} {p n : Nat} (h : inS L mx tx p 49 n) : hr L mx tx p - 49 = Int32.ofNat (tx p - 49) := by
  unfold hr
  rw [if_pos ⟨h.1, h.2.1⟩]
  exact pn_sub (b := 49) h.2.2.1
theorem r_readChange {n L p : Nat} {tx : Nat → Nat} {τ : en_M} (hn : n ≤ 7) (h : RD τ 189 L 60 tx p (-1)) (h1 : τ 185 1 = Int32.ofNat n) (hp : p ≤ 60) :
    ∃ v τ' e', O_X12_readChange [.inr (185, 12, 0, 0)] τ = some (v, τ') ∧ RD τ' 189 L 60 tx (cgN n L tx p).1 e' ∧ FrU τ τ' ∧ (e' = -1 ∧ (cgN n L tx p).1 ≠ p ∧ v = Int32.ofNat (cgN n L tx p).2 ∨ e' = Int32.ofNat (cgN n L tx p).1 ∧ ((cgN n L tx p).1 = p ∨ inS L 60 tx (cgN n L tx p).1 49 n)) := by
  have hFU := en_FU_ge
  have hb := h.2.2.2.2.2.2.1
  rw [o_X12_readChange, t_X12_readChange_0, m_passes h (by omega), Option.bind_some]
  by_cases c1 : hr L 60 tx p = 120
  · have ec : cgN n L tx p = (p + 1, 0) := if_pos c1
    rw [if_pos c1, ec]
    dsimp only
    rw [if_neg (show ¬ (1 : Int32) = 0 by decide)]
    exact ⟨0, _, -1, rfl, h.at (p + 1), (FrU.refl τ).up (by omega) _, Or.inl ⟨rfl, by omega, rfl⟩⟩
  have ec : cgN n L tx p = cgL n L tx 7 p 0 := if_neg c1
  rw [if_neg c1, ec]
  dsimp only
  rw [if_pos (show (0 : Int32) = 0 from rfl)]
  have stop : ∀ (f : Nat) (x1 x2 : Int32) (υ : en_M) (p' q : Nat), q < 1000 → RD υ 189 L 60 tx p' (Int32.ofNat q) → T_X12_readChange_15 (f + 1) x1 x2 υ = en_ri x1 υ := fun f x1 x2 υ p' q hq hR => by
    rw [t_X12_readChange_15, m_fine_n hR hq, Option.bind_some]
    dsimp only
    rw [if_pos (show (0 : Int32) = 0 from rfl)]
  have main : ∀ K p' d x2 f υ, K ≤ 7 → p' = p + (7 - K) → K + 5 < f → RD υ 189 L 60 tx p' (-1) → FrU τ υ → p' ≤ 60 → (K = 7 ∧ d = 0 ∧ x2 = -1 ∨ ∃ l, x2 = Int32.ofNat l ∧ 2 ^ l ≤ d ∧ d < 2 ^ (l + 1) ∧ 7 - K ≤ l + 1 ∧ l < n ∧ K ≠ 7) → cgL n L tx 7 p 0 = cgL n L tx K p' d →
      ∃ v τ' e', en_oi (T_X12_readChange_15 f (Int32.ofNat d) x2 υ) = some (v, τ') ∧ RD τ' 189 L 60 tx (cgL n L tx 7 p 0).1 e' ∧ FrU τ τ' ∧ (e' = -1 ∧ (cgL n L tx 7 p 0).1 ≠ p ∧ v = Int32.ofNat (cgL n L tx 7 p 0).2 ∨ e' = Int32.ofNat (cgL n L tx 7 p 0).1 ∧ ((cgL n L tx 7 p 0).1 = p ∨ inS L 60 tx (cgL n L tx 7 p 0).1 49 n)) := by
    intro K
    induction K with
    | zero =>
      rintro p' d x2 f υ - hp' hf hR hF h60 hl hc
      obtain ⟨f, rfl⟩ : ∃ j, f = j + 1 + 1 := ⟨f - 2, by omega⟩
      obtain ⟨h7, -⟩ | ⟨l, rfl, l1, l2, l3, l4, -⟩ := hl
      · omega
      have hc : cgL n L tx 7 p 0 = (p', d) := hc
      have hd0 : ¬ Int32.ofNat d = 0 := by
        have : d < 128 := Nat.lt_of_lt_of_le l2 (Nat.pow_le_pow_right (n := 2) (by decide) (show l + 1 ≤ 7 by omega))
        have := Nat.two_pow_pos l
        rw [pn_eq0 (by omega)]; omega
      have hu1 : υ 185 1 = Int32.ofNat n := by rw [hF.2 1 (by omega)]; exact h1
      rw [hc, t_X12_readChange_15, m_fine_y hR, Option.bind_some]
      dsimp only
      rw [if_neg (show ¬ (1 : Int32) = 0 by decide), if_neg hd0, m_here hR (by omega), Option.bind_some]
      dsimp only
      have hin : O_X12_in [.inl (hr L 60 tx p'), .inl (49 : Int32), .inl ((48 : Int32) + (υ 185 1))] υ = some (pb2 (inS L 60 tx p' 49 n), υ) := m_in (a := 49) (m := n) hb (by omega) (by omega) (by rw [hu1, show (48 : Int32) = Int32.ofNat 48 from rfl, pn_add, show 48 + n = 49 + n - 1 by omega])
      rw [hin, Option.bind_some]
      dsimp only
      rw [pi_if (pb2_0 (inS L 60 tx p' 49 n))]
      by_cases c2 : inS L 60 tx p' 49 n
      · have hq := c2.2.2
        rw [if_neg (fun q => q c2), m_here hR (by omega), Option.bind_some]
        dsimp only
        rw [hin, Option.bind_some]
        dsimp only
        rw [pi_if (pb2_0 (inS L 60 tx p' 49 n)), if_neg (fun q => q c2), m_here hR (by omega), Option.bind_some]
        dsimp only
        rw [hr_sub c2, if_neg (by rw [pn_lt (by omega) (by omega)]; omega), hR.2.2.2.1, m_fault hR, Option.bind_some, stop f _ _ _ p' p' (by omega) (hR.flt _)]
        exact ⟨_, _, Int32.ofNat p', rfl, hR.flt _, hF.up (by omega) _, Or.inr ⟨rfl, Or.inr c2⟩⟩
      · rw [if_pos c2]
        exact ⟨_, _, -1, rfl, hR, hF, Or.inl ⟨rfl, by show p' ≠ p; omega, rfl⟩⟩
    | succ K ih =>
      rintro p' d x2 f υ hK hp' hf hR hF h60 hl hc
      obtain ⟨f, rfl⟩ : ∃ j, f = j + 1 + 1 := ⟨f - 2, by omega⟩
      have hu1 : υ 185 1 = Int32.ofNat n := by rw [hF.2 1 (by omega)]; exact h1
      have hin : O_X12_in [.inl (hr L 60 tx p'), .inl (49 : Int32), .inl ((48 : Int32) + (υ 185 1))] υ = some (pb2 (inS L 60 tx p' 49 n), υ) := m_in (a := 49) (m := n) hb (by omega) (by omega) (by rw [hu1, show (48 : Int32) = Int32.ofNat 48 from rfl, pn_add, show 48 + n = 49 + n - 1 by omega])
      have hone : O_X12_oneOf [.inr (185, 12, 0, 0), .inl (49 : Int32), .inl (υ 185 1)] υ = some (if inS L 60 tx p' 49 n then (Int32.ofNat (tx p' - 49), en_up υ 185 15 (Int32.ofNat (p' + 1))) else (0, en_up υ 185 16 (Int32.ofNat p'))) := by rw [hu1]; exact m_oneOf (a := 49) (m := n) hR (by omega) (by omega) (by omega)
      conv at hc => rhs; unfold cgL
      have hd128 : d < 128 := by
        obtain ⟨-, rfl, -⟩ | ⟨l, -, -, l2, -, l4, -⟩ := hl
        · omega
        · exact Nat.lt_of_lt_of_le l2 (Nat.pow_le_pow_right (n := 2) (by decide) (show l + 1 ≤ 7 by omega))
      -- the sign is one of a place
      have yes : inS L 60 tx p' 49 n → ∀ r : en_R, r = (if x2 < hr L 60 tx p' - 49 then ((O_X12_oneOf [.inr (185, 12, 0, 0), .inl (49 : Int32), .inl (υ 185 1)] υ).bind fun r7 => T_X12_readChange_15 (f + 1) (Int32.ofNat d ||| (en_shl (1 : Int32) r7.1)) r7.1 r7.2) else ((O_X12_fault [.inr (185, 12, 0, 0), .inl (υ 185 15)] υ).bind fun r8 => T_X12_readChange_15 (f + 1) (Int32.ofNat d) x2 r8)) →
          ∃ v τ' e', en_oi r = some (v, τ') ∧ RD τ' 189 L 60 tx (cgL n L tx 7 p 0).1 e' ∧ FrU τ τ' ∧ (e' = -1 ∧ (cgL n L tx 7 p 0).1 ≠ p ∧ v = Int32.ofNat (cgL n L tx 7 p 0).2 ∨ e' = Int32.ofNat (cgL n L tx 7 p 0).1 ∧ ((cgL n L tx 7 p 0).1 = p ∨ inS L 60 tx (cgL n L tx 7 p 0).1 49 n)) := by
        rintro c2 r rfl
        have hq := c2.2.2
        have h60' := c2.2.1
        have hrise : (x2 < hr L 60 tx p' - 49) = (d / 2 ^ (tx p' - 49) = 0) := by
          rw [hr_sub c2]
          obtain ⟨-, rfl, rfl⟩ | ⟨l, rfl, l1, l2, l3, l4, -⟩ := hl
          · rw [Nat.zero_div]
            exact propext ⟨fun _ => rfl, fun _ => Int32.lt_of_lt_of_le (by decide) (pn_0le (by omega))⟩
          · rw [pn_lt (by omega) (by omega)]; exact propext (cg_rise l1 l2).symm
        rw [pi_if hrise]
        by_cases c3 : d / 2 ^ (tx p' - 49) = 0
        · rw [if_pos ⟨c2, c3⟩] at hc
          rw [if_pos c3, hone, if_pos c2, Option.bind_some]
          dsimp only
          rw [pb_1 (by omega), pn_or]
          refine ih (p' + 1) (d ||| 2 ^ (tx p' - 49)) (Int32.ofNat (tx p' - 49)) (f + 1) _ (by omega) (by clear hl; omega) (by omega) (hR.at (p' + 1)) (hF.up (by omega) _) (by omega) (Or.inr ⟨tx p' - 49, rfl, ?_⟩) hc
          obtain ⟨h7, rfl, rfl⟩ | ⟨l, rfl, l1, l2, l3, l4, -⟩ := hl
          · rw [Nat.zero_or]
            exact ⟨Nat.le_refl _, Nat.pow_lt_pow_right (by decide) (by omega), by omega, by omega, by omega⟩
          · have hlq := (cg_rise l1 l2).mp c3
            have := or_pow_le l2 hlq
            exact ⟨this.1, this.2, by omega, by omega, by omega⟩
        · rw [if_neg (fun q => c3 q.2)] at hc
          rw [if_neg c3, hR.2.2.2.1, m_fault hR, Option.bind_some, stop f _ _ _ p' p' (by omega) (hR.flt _), hc]
          exact ⟨_, _, Int32.ofNat p', rfl, hR.flt _, hF.up (by omega) _, Or.inr ⟨rfl, Or.inr c2⟩⟩
      rw [t_X12_readChange_15, m_fine_y hR, Option.bind_some]
      dsimp only
      rw [if_neg (show ¬ (1 : Int32) = 0 by decide), m_here hR (by omega), Option.bind_some, Option.bind_some]
      dsimp only
      rw [hin, Option.bind_some, Option.bind_some]
      dsimp only
      rw [m_here hR (by omega), Option.bind_some, Option.bind_some]
      dsimp only
      rw [hin, Option.bind_some]
      dsimp only
      rw [m_here hR (by omega), Option.bind_some]
      dsimp only
      simp only [pb2_0]
      by_cases c2 : inS L 60 tx p' 49 n
      · have nn : ¬ ¬ inS L 60 tx p' 49 n := fun q => q c2
        by_cases cd : Int32.ofNat d = 0
        · rw [if_pos cd, if_neg nn]
          exact yes c2 _ rfl
        · rw [if_neg cd, if_neg nn, if_neg nn]
          exact yes c2 _ rfl
      · rw [if_neg (fun q => c2 q.1)] at hc
        obtain ⟨h7, rfl, rfl⟩ | ⟨l, rfl, l1, l2, l3, l4, h7⟩ := hl
        · rw [if_pos (show Int32.ofNat 0 = 0 from rfl), if_pos c2, hone, if_neg c2, Option.bind_some]
          dsimp only
          rw [stop f _ _ _ p' p' (by omega) (hR.flt _), hc]
          exact ⟨_, _, Int32.ofNat p', rfl, hR.flt _, hF.up (by omega) _, Or.inr ⟨rfl, Or.inl (by show p' = p; omega)⟩⟩
        · have := Nat.two_pow_pos l
          rw [if_neg (by rw [pn_eq0 (by omega)]; omega), if_pos c2, hc]
          exact ⟨_, _, -1, rfl, hR, hF, Or.inl ⟨rfl, by show p' ≠ p; omega, rfl⟩⟩
  exact main 7 p 0 (-1) en_FU τ (Nat.le_refl _) (by omega) (by omega) h (FrU.refl τ) hp (Or.inl ⟨rfl, rfl, rfl⟩) rfl
theorem r_mread {n L : Nat} {tx : Nat → Nat} {τ : en_M} (hn : n ≤ 7) (h : RD τ 189 L 60 tx 0 (-1)) (h1 : τ 185 1 = Int32.ofNat n) (hL0 : 0 < L) :
    ((mdR n L tx 20 0 0).1 = 0 → ∃ τ', en_oi (T_X12_method_39 en_FU 0 1 τ) = some (-1 - Int32.ofNat (mdR n L tx 20 0 0).2, τ') ∧ FrR τ τ') ∧
    ((mdR n L tx 20 0 0).1 ≠ 0 → ∃ f u τ', 900000 < f ∧ T_X12_method_39 en_FU 0 1 τ = T_X12_method_125 f (Int32.ofNat (mdR n L tx 20 0 0).1) u 0 τ' ∧ (∀ j, j < (mdR n L tx 20 0 0).1 → τ' 191 j = Int32.ofNat (mdC n L tx j)) ∧ FrR τ τ') := by
  have hFU := en_FU_ge
  have hb := h.2.2.2.2.2.2.1
  have hL : L ≤ 80 := h.2.2.2.2.2.2.2.2.2.2.1
  -- a fault ends it
  have stop : ∀ (f : Nat) (x1 : Int32) (υ : en_M) (p q : Nat), q < 1000 → RD υ 189 L 60 tx p (Int32.ofNat q) → T_X12_method_39 (f + 1) x1 0 υ = en_ri (-1 - Int32.ofNat q) υ := fun f x1 υ p q hq hR => by
    rw [t_X12_method_39, if_pos (show (0 : Int32) = 0 from rfl), m_fault_n hR hq, Option.bind_some, m_fine_n hR hq, Option.bind_some]
    dsimp only
    rw [if_pos (show (0 : Int32) = 0 from rfl), hR.2.2.2.2.1, ite_self]
  have main : ∀ K k f υ, k + K = 20 → 900030 + K < f → RD υ 189 L 60 tx (mdP n L tx k) (-1) → mdP n L tx k ≤ 60 → mdR n L tx 20 0 0 = mdR n L tx K k (mdP n L tx k) → (∀ j, j < k → υ 191 j = Int32.ofNat (mdC n L tx j)) → FrR τ υ →
      ((mdR n L tx 20 0 0).1 = 0 → ∃ τ', en_oi (T_X12_method_39 f (Int32.ofNat k) 1 υ) = some (-1 - Int32.ofNat (mdR n L tx 20 0 0).2, τ') ∧ FrR τ τ') ∧
      ((mdR n L tx 20 0 0).1 ≠ 0 → ∃ f' u τ', 900000 < f' ∧ T_X12_method_39 f (Int32.ofNat k) 1 υ = T_X12_method_125 f' (Int32.ofNat (mdR n L tx 20 0 0).1) u 0 τ' ∧ (∀ j, j < (mdR n L tx 20 0 0).1 → τ' 191 j = Int32.ofNat (mdC n L tx j)) ∧ FrR τ τ') := by
    intro K
    induction K with
    | zero =>
      intro k f υ hk hf p1 p2 p3 p4 p5
      obtain ⟨f, rfl⟩ : ∃ j, f = j + 1 + 1 := ⟨f - 2, by omega⟩
      have hk : k = 20 := hk
      subst hk
      have p3 : mdR n L tx 20 0 0 = (0, mdP n L tx 20) := p3
      rw [p3, t_X12_method_39, if_neg (show ¬ (1 : Int32) = 0 by decide), m_fine_y p1, Option.bind_some]
      dsimp only
      rw [if_neg (show ¬ (1 : Int32) = 0 by decide), if_pos (show Int32.ofNat 20 = (20 : Int32) from rfl), p1.2.2.2.1, m_fault p1, Option.bind_some, m_passes_n (p1.flt _) (by omega), Option.bind_some]
      dsimp only
      rw [stop f _ _ _ _ (by omega) (p1.flt _)]
      exact ⟨fun _ => ⟨_, rfl, p5.up (by omega) _⟩, fun q => absurd rfl q⟩
    | succ K ih =>
      intro k f υ hk hf p1 p2 p3 p4 p5
      obtain ⟨f, rfl⟩ : ∃ j, f = j + 1 + 1 := ⟨f - 2, by omega⟩
      conv at p3 => rhs; unfold mdR
      obtain ⟨hle1, hle2⟩ := cgN_le n L tx (mdP n L tx k)
      have hle2 := hle2 p2
      obtain ⟨v, τ1, e', e1, e2, e3, e4⟩ := r_readChange hn p1 (by rw [p5.2 1 (by omega)]; exact h1) p2
      have hR2 : RD (en_up τ1 191 k v) 189 L 60 tx (cgN n L tx (mdP n L tx k)).1 e' := e2.fr (fun j _ _ => pu_cell (by omega)) (pu_row (by omega))
      have hF2 : FrR τ (en_up τ1 191 k v) := by
        refine FrR.up2 ⟨fun c h1 h2 => ?_, fun j hj => ?_⟩ k v
        · rw [e3.1 c h1]; exact p5.1 c h1 h2
        · rw [e3.2 j hj]; exact p5.2 j hj
      have hstep : T_X12_method_39 (f + 1 + 1) (Int32.ofNat k) 1 υ = (O_X12_passes [.inr (185, 12, 0, 0), .inl (46 : Int32)] (en_up τ1 191 k v)).bind fun r11 => T_X12_method_39 (f + 1) (Int32.ofNat (k + 1)) r11.1 r11.2 := by
        rw [t_X12_method_39, if_neg (show ¬ (1 : Int32) = 0 by decide), m_fine_y p1, Option.bind_some]
        dsimp only
        rw [if_neg (show ¬ (1 : Int32) = 0 by decide), if_neg (show ¬ Int32.ofNat k = (20 : Int32) from fun q => by have := (pn_eq (b := 20) (by omega) (by omega)).mp q; omega), e1, Option.bind_some, pn_ix (show k < 20 by omega) (by omega), Option.bind_some, pn_a1]
      have h191 : ∀ j, j < k + 1 → e' = -1 → v = Int32.ofNat (cgN n L tx (mdP n L tx k)).2 → en_up τ1 191 k v 191 j = Int32.ofNat (mdC n L tx j) := fun j hj _ hv => by
        by_cases e : j = k
        · rw [e, pu_same, hv]; rfl
        · rw [pu_slot e, e3.1 191 (by omega)]; exact p4 j (by omega)
      rw [hstep]
      obtain ⟨rfl, hne, hv⟩ | ⟨rfl, hq⟩ := e4
      · rw [if_neg hne] at p3
        rw [m_passes hR2 (by omega), Option.bind_some]
        by_cases c2 : hr L 60 tx (cgN n L tx (mdP n L tx k)).1 = 46
        · have c2L := hr_lt (u := 46) (by omega) c2
          rw [if_neg (by omega), if_pos c2] at p3
          rw [if_pos c2]
          exact ih (k + 1) (f + 1) _ (by omega) (by omega) (hR2.at _) (by show (cgN n L tx (mdP n L tx k)).1 + 1 ≤ 60; omega) p3 (fun j hj => by dsimp only; rw [pu_cell (by omega)]; exact h191 j hj rfl hv) (hF2.up (by omega) _)
        · rw [if_neg c2]
          dsimp only
          rw [t_X12_method_39, if_pos (show (0 : Int32) = 0 from rfl), hR2.2.2.2.1, hR2.2.1, pi_if (pn_lt (show (cgN n L tx (mdP n L tx k)).1 < 2147483648 by omega) (show L < 2147483648 by omega))]
          by_cases c3 : L ≤ (cgN n L tx (mdP n L tx k)).1
          · rw [if_pos c3] at p3
            rw [if_neg (by omega), m_fine_y hR2, Option.bind_some]
            dsimp only
            rw [if_neg (show ¬ (1 : Int32) = 0 by decide), p3]
            exact ⟨fun q => absurd q (by show k + 1 ≠ 0; omega), fun _ => ⟨f, 0, _, by omega, rfl, fun j hj => h191 j hj rfl hv, hF2⟩⟩
          · rw [if_neg c3, if_neg c2] at p3
            have hR3 := hR2.flt (Int32.ofNat (cgN n L tx (mdP n L tx k)).1)
            rw [if_pos (by omega), m_fault hR2, Option.bind_some, m_fine_n hR3 (by omega), Option.bind_some]
            dsimp only
            rw [if_pos (show (0 : Int32) = 0 from rfl), hR3.2.2.2.2.1, p3]
            exact ⟨fun _ => ⟨_, rfl, hF2.up (by omega) _⟩, fun q => absurd rfl q⟩
      · rw [m_passes_n hR2 (by omega), Option.bind_some]
        dsimp only
        rw [stop f _ _ _ _ (by omega) hR2]
        have p3' : mdR n L tx 20 0 0 = (0, (cgN n L tx (mdP n L tx k)).1) := by
          rw [p3]
          by_cases c1 : (cgN n L tx (mdP n L tx k)).1 = mdP n L tx k
          · rw [if_pos c1, c1]
          · have hq := hq.resolve_left c1
            have h46 : ¬ hr L 60 tx (cgN n L tx (mdP n L tx k)).1 = 46 := by
              have := hb (cgN n L tx (mdP n L tx k)).1
              have hge := hq.2.2.1
              unfold hr
              rw [if_pos ⟨hq.1, hq.2.1⟩]
              exact fun z => by have := (pn_eq (b := 46) (by omega) (by omega)).mp z; omega
            rw [if_neg c1, if_neg (by have := hq.1; omega), if_neg h46]
        rw [p3']
        exact ⟨fun _ => ⟨_, rfl, hF2⟩, fun q => absurd rfl q⟩
  exact main 20 0 en_FU τ rfl (by omega) h (Nat.zero_le _) rfl (fun j hj => absurd hj (by omega)) (FrR.refl τ)
theorem r_mtake {n m : Nat} {C : Nat → Nat} {u : Int32} {τ : en_M} {f : Nat} (hm : m ≤ 20) (hC : ∀ j, j < m → τ 191 j = Int32.ofNat (C j)) (hf : 900000 < f) :
    ∃ τ', en_oi (T_X12_method_125 f (Int32.ofNat m) u 0 τ) = some (Int32.ofNat (max 1 m), τ') ∧ (∀ j, j < m → τ' 188 j = Int32.ofNat (C j)) ∧ (m = 0 → τ' 188 0 = 0) ∧ τ' 185 4 = Int32.ofNat (max 1 m) ∧ τ' 185 23 = 0 ∧ (∀ i, i < 2 → τ' 208 i = 0) ∧ (∀ j, j ≠ 4 → j ≠ 23 → τ' 185 j = τ 185 j) ∧ ∀ c, c ≠ 185 → c ≠ 188 → c ≠ 208 → τ' c = τ c := by
  obtain ⟨q', e1, e2, e3⟩ := pl_to (F := fun f i (q : en_M) => T_X12_method_125 f (Int32.ofNat m) u (Int32.ofNat i) q) (P := fun i q => (∀ j, j < i → q 188 j = Int32.ofNat (C j)) ∧ ∀ c, c ≠ 188 → q c = τ c) (N := m) (by
    rintro f i q hi ⟨o1, o2⟩
    refine ⟨en_up q 188 i (Int32.ofNat (C i)), ?_, fun j hj => ?_, fun c hc => by rw [pu_row hc]; exact o2 c hc⟩
    · show T_X12_method_125 (f + 1) _ _ _ q = _
      rw [t_X12_method_125, if_pos ((pn_lt (by omega) (by omega)).mpr hi), pn_ix (show i < 20 by omega) (by omega), Option.bind_some, Option.bind_some, o2 191 (by omega), hC i hi, pn_a1]
    · by_cases e : j = i
      · rw [e, pu_same]
      · rw [pu_slot e]; exact o1 j (by omega)) m 0 f τ (by omega) (by omega) ⟨fun j hj => absurd hj (by omega), fun _ _ => rfl⟩
  have e1 : T_X12_method_125 f (Int32.ofNat m) u 0 τ = T_X12_method_125 (f - m) (Int32.ofNat m) u (Int32.ofNat m) q' := e1
  obtain ⟨f2, hf2⟩ : ∃ j, f - m = j + 1 := ⟨f - m - 1, by omega⟩
  have fin : ∀ υ : en_M, (∀ j, j < m → υ 188 j = Int32.ofNat (C j)) → (m = 0 → υ 188 0 = 0) → (∀ c, c ≠ 188 → υ c = τ c) → ∃ τ', en_oi (T_X12_method_175 f2 (Int32.ofNat m) u 0 (en_up (en_up υ 185 4 (Int32.ofNat (max 1 m))) 185 23 0)) = some (Int32.ofNat (max 1 m), τ') ∧ (∀ j, j < m → τ' 188 j = Int32.ofNat (C j)) ∧ (m = 0 → τ' 188 0 = 0) ∧ τ' 185 4 = Int32.ofNat (max 1 m) ∧ τ' 185 23 = 0 ∧ (∀ i, i < 2 → τ' 208 i = 0) ∧ (∀ j, j ≠ 4 → j ≠ 23 → τ' 185 j = τ 185 j) ∧ ∀ c, c ≠ 185 → c ≠ 188 → c ≠ 208 → τ' c = τ c := by
    intro υ h1 h2 h3
    obtain ⟨f3, rfl⟩ : ∃ j, f2 = j + 1 + 1 + 1 := ⟨f2 - 3, by omega⟩
    rw [t_X12_method_175, if_pos (show (0 : Int32) < 2 by decide), show en_ix (0 : Int32) 2 = some 0 from pn_ix (k := 0) (by omega) (by omega), Option.bind_some, show (0 : Int32) + 1 = 1 from rfl, t_X12_method_175, if_pos (show (1 : Int32) < 2 by decide), show en_ix (1 : Int32) 2 = some 1 from pn_ix (k := 1) (by omega) (by omega), Option.bind_some, show (1 : Int32) + 1 = 2 from rfl, t_X12_method_175, if_neg (show ¬ (2 : Int32) < 2 by decide), show vp_nar .boolean (0 : Int32) = 0 from rfl]
    refine ⟨en_up (en_up (en_up (en_up υ 185 4 (Int32.ofNat (max 1 m))) 185 23 0) 208 0 0) 208 1 0, ?_, fun j hj => ?_, fun h => ?_, ?_, ?_, fun i hi => ?_, fun j h4 h23 => ?_, fun c hc1 hc2 hc3 => ?_⟩
    · rw [pu_cell (by omega), pu_cell (by omega), pu_slot (by omega), pu_same]; rfl
    · rw [pu_cell (by omega), pu_cell (by omega), pu_cell (by omega), pu_cell (by omega)]; exact h1 j hj
    · rw [pu_cell (by omega), pu_cell (by omega), pu_cell (by omega), pu_cell (by omega)]; exact h2 h
    · rw [pu_cell (by omega), pu_cell (by omega), pu_slot (by omega), pu_same]
    · rw [pu_cell (by omega), pu_cell (by omega), pu_same]
    · have hi2 : i = 0 ∨ i = 1 := by omega
      rcases hi2 with rfl | rfl
      · rw [pu_slot (by omega), pu_same]
      · rw [pu_same]
    · rw [pu_cell (by omega), pu_cell (by omega), pu_slot h23, pu_slot h4, h3 185 (by omega)]
    · rw [pu_row hc3, pu_row hc3, pu_row hc1, pu_row hc1, h3 c hc2]
  have hmax : ∀ υ : en_M, O_J9_max_7cf53 [.inl (1 : Int32), .inl (Int32.ofNat m)] υ = some (Int32.ofNat (max 1 m), υ) := fun υ => by
    rw [q_max, pi_if (show ((1 : Int32) < Int32.ofNat m) = (1 < m) from pn_lt (a := 1) (by omega) (by omega))]
    by_cases c : 1 < m
    · rw [if_pos c, show max 1 m = m by omega]
    · rw [if_neg c, show max 1 m = 1 by omega]; rfl
  rw [e1, hf2, t_X12_method_125, if_neg (by rw [pn_lt (by omega) (by omega)]; omega), pi_if (pn_eq0 (show m < 2147483648 by omega)), show en_ix (0 : Int32) 20 = some 0 from pn_ix (k := 0) (by omega) (by omega), Option.bind_some, hmax, Option.bind_some, hmax, Option.bind_some]
  dsimp only
  by_cases c : m = 0
  · rw [if_pos c]
    exact fin _ (fun j hj => absurd hj (by omega)) (fun _ => pu_same _ _ _ _) (fun c hc => by rw [pu_row hc]; exact e3 c hc)
  · rw [if_neg c]
    exact fin _ e2 (fun h => absurd h c) e3
theorem p_method : en_st_method pInv := by
  intro c hc
  refine p_two hc (fun A σ0 hA hB => ?_)
  obtain ⟨g, ⟨L, tx⟩, ro, x, us, kp⟩ := A
  have hgv : GV g := hA.1
  have hn : gN g ≤ 7 := hgv.1
  have hL : L ≤ 80 := hA.2.2.2.2.1
  have hb : ∀ j, tx j < 256 := hA.2.2.2.2.2.1
  -- a new method
  have good : ∀ (m : Nat) (C : Nat → Nat) (M : Nat), 1 ≤ M → M ≤ 20 → (∀ j, j < M → C j < 128) → M = max 1 m → (m = 0 → C 0 = 0) →
      (CI σ0 (g, (L, tx), ro, x, us, kp) → ∃ σ', O_X0_read [.inr (7, 0, 0, 0), .inr (1, 8, 0, 0), .inl (Int32.ofNat (gN g))] σ0 = some (Int32.ofNat M, σ') ∧ σ' 7 2 = Int32.ofNat M ∧ (∀ j, j < M → σ' 8 j = Int32.ofNat (C j)) ∧ (∀ j, j ≠ 2 → σ' 7 j = σ0 7 j) ∧ ∀ c, c ≠ 7 → c ≠ 8 → c ≠ 9 → σ' c = σ0 c) →
      (∀ τ, MI τ (g, (L, tx), ro, x, us, kp) → ∃ f u τ', 900000 < f ∧ O_X12_method [.inr (185, 12, 0, 0)] τ = en_oi (T_X12_method_125 f (Int32.ofNat m) u 0 τ') ∧ (∀ j, j < m → τ' 191 j = Int32.ofNat (C j)) ∧ MI τ' (g, tx0, ro, x, us, kp) ∧ FrM τ τ') →
      ∃ v' A', (CI σ0 (g, (L, tx), ro, x, us, kp) → ∃ σ', O_X11_method [.inr (0, 11, 0, 0)] σ0 = some (v', σ') ∧ CI σ' A' ∧ FrC σ0 σ') ∧ (∀ τ, MI τ (g, (L, tx), ro, x, us, kp) → ∃ τ', O_X12_method [.inr (185, 12, 0, 0)] τ = some (v', τ') ∧ MI τ' A' ∧ FrM τ τ') ∧ AV (2000 * (c + 1)) A' := by
    intro m C M hM1 hM2 hC128 hMm hm0 hcl hml
    refine ⟨Int32.ofNat M, ((gN g, gW g, C, M, gT g, gR g, gV g), tx0, ro, x, [], fun _ => (false, x0)), fun hC => ?_, fun τ hM => ?_, ?_⟩
    · obtain ⟨σ1, e1, e2, e3, e4, e5⟩ := hcl hC
      obtain ⟨hG, hT, hRo, hX, ⟨u1, fs, u2, u3, u4⟩, hK⟩ := hC
      have hfin : ∀ c, c ≠ 1 → c ≠ 7 → c ≠ 8 → c ≠ 9 → c ≠ 25 → c ≠ 89 → (en_up (en_up (en_up (en_up σ1 1 1 0) 25 2 0) 89 0 0) 89 1 0) c = σ0 c := fun c c1 c7 c8 c9 c25 c89 => by rw [pu_row c89, pu_row c89, pu_row c25, pu_row c1, e5 c c7 c8 c9]
      have hlow : ∀ c, c < 15 → c ≠ 1 → (en_up (en_up (en_up (en_up σ1 1 1 0) 25 2 0) 89 0 0) 89 1 0) c = σ1 c := fun c c15 c1 => by rw [pu_row (by omega), pu_row (by omega), pu_row (by omega), pu_row c1]
      refine ⟨en_up (en_up (en_up (en_up σ1 1 1 0) 25 2 0) 89 0 0) 89 1 0, ?_, ⟨⟨?_, fun r hr => ?_, ?_, ?_, ?_, ?_, fun j hj => ?_, ?_⟩, CT.nil ?_, hRo.fr (hfin 3 (by omega) (by omega) (by omega) (by omega) (by omega) (by omega)) (hfin 4 (by omega) (by omega) (by omega) (by omega) (by omega) (by omega)), hX.all (fun j hj => hfin _ (by omega) (by omega) (by omega) (by omega) (by omega) (by omega)), ⟨by rw [pu_cell (by omega), pu_cell (by omega), pu_same]; rfl, fs, u2, ?_, fun i hi => absurd hi (Nat.not_lt_zero i)⟩, fun i hi => ⟨?_, fun q => absurd (show false = true from q) (by decide)⟩⟩, fun c hc => hfin c (by omega) (by omega) (by omega) (by omega) (by omega) (by omega)⟩
      · rw [o_X11_method, t_X11_method_0, show σ0 5 3 = Int32.ofNat (gN g) from hG.1, e1, Option.bind_some, q_clear, Option.bind_some]
        dsimp only
        rw [if_pos (show (0 : Int32) < Int32.ofNat M from (pn_lt (a := 0) (by omega) (by omega)).mpr (by omega)), q_forget, Option.bind_some, q_kforget, Option.bind_some]; rfl
      · rw [hfin 5 (by omega) (by omega) (by omega) (by omega) (by omega) (by omega)]; exact hG.1
      · rw [hfin 6 (by omega) (by omega) (by omega) (by omega) (by omega) (by omega)]; exact hG.2.1 r hr
      · rw [hfin 5 (by omega) (by omega) (by omega) (by omega) (by omega) (by omega)]; exact hG.2.2.1
      · rw [hfin 5 (by omega) (by omega) (by omega) (by omega) (by omega) (by omega)]; exact hG.2.2.2.1
      · rw [hfin 5 (by omega) (by omega) (by omega) (by omega) (by omega) (by omega)]; exact hG.2.2.2.2.1
      · rw [hlow 7 (by omega) (by omega)]; exact e2
      · rw [hlow 8 (by omega) (by omega)]; exact e3 j hj
      · exact hG.2.2.2.2.2.2.2.fr (by rw [hfin 10 (by omega) (by omega) (by omega) (by omega) (by omega) (by omega)]) (hfin 11 (by omega) (by omega) (by omega) (by omega) (by omega) (by omega))
      · rw [pu_cell (by omega), pu_cell (by omega), pu_cell (by omega), pu_same]
      · rw [pu_cell (by omega), pu_cell (by omega), pu_slot (by omega), pu_cell (by omega), e5 25 (by omega) (by omega) (by omega)]; exact u3
      · have hi2 : i = 0 ∨ i = 1 := by omega
        rcases hi2 with rfl | rfl
        · rw [pu_slot (by omega), pu_same]; rfl
        · rw [pu_same]; rfl
    · obtain ⟨f, u, τ1, hf, e1, e2, e3, e4⟩ := hml τ hM
      obtain ⟨τ', r1, r2, r3, r4, r5, r6, r7, r8⟩ := r_mtake (m := m) (C := C) (u := u) (τ := τ1) (n := 0) (by omega) e2 hf
      obtain ⟨hG, hT2, hRo, hX, hU, hK⟩ := e3
      rw [← hMm] at r1 r4
      rw [e1]
      refine ⟨τ', r1, ⟨⟨?_, fun r hr => ?_, ?_, ?_, r4, fun j hj => ?_, ?_⟩, ?_, ?_, ?_, ⟨r5, fun i hi => absurd hi (Nat.not_lt_zero i)⟩, fun i hi => ⟨r6 i hi, fun q => absurd (show false = true from q) (by decide)⟩⟩, fun c hc => ?_⟩
      · rw [r7 1 (by omega) (by omega)]; exact hG.1
      · rw [r8 187 (by omega) (by omega) (by omega)]; exact hG.2.1 r hr
      · rw [r7 5 (by omega) (by omega)]; exact hG.2.2.1
      · rw [r7 6 (by omega) (by omega)]; exact hG.2.2.2.1
      · have hj : j < M := hj
        by_cases c : m = 0
        · have : j = 0 := by omega
          rw [this, r3 c]
          show 0 = Int32.ofNat (C 0)
          rw [hm0 c]; rfl
        · exact r2 j (by omega)
      · exact hG.2.2.2.2.2.2.fr (r7 19 (by omega) (by omega)) (r8 192 (by omega) (by omega) (by omega))
      · exact hT2.fr (r7 8 (by omega) (by omega)) (r8 189 (by omega) (by omega) (by omega))
      · exact hRo.fr (r7 10 (by omega) (by omega)) (r8 190 (by omega) (by omega) (by omega))
      · rw [r8 186 (by omega) (by omega) (by omega)]; exact hX
      · rw [r8 c (by omega) (by omega) (by omega), e4 c hc]
    · obtain ⟨a1, a2, a3, a4, a5, a6, a7, a8, a9, a10, a11⟩ := hA
      exact ⟨⟨hn, hM1, hM2, hC128, a1.2.2.2.2⟩, a2, a3, a4, Nat.zero_le 80, fun _ => by show 0 < 256; omega, a7, a8.mono (by omega), Nat.zero_le 12, fun i hi => absurd hi (Nat.not_lt_zero i), fun i hi q => absurd (show false = true from q) (by decide)⟩
  -- the reference's beginning
  have hbeg : ∀ τ : en_M, MI τ (g, (L, tx), ro, x, us, kp) → ∃ τ0, O_X12_method [.inr (185, 12, 0, 0)] τ = en_oi (T_X12_method_39 en_FU 0 (if 0 < L then 1 else 0) τ0) ∧ RD τ0 189 L 60 tx 0 (-1) ∧ MI τ0 (g, tx0, ro, x, us, kp) ∧ FrM τ τ0 := fun τ hM => by
    have h8 : τ 185 8 = Int32.ofNat L := hM.2.1.1
    have hM2 := hM.slot 11 0 (by omega)
    have hRD := RD.new (mx := 60) (τ := en_up τ 185 11 0) (show ∀ j, j < L → (en_up τ 185 11 0) 189 j = byt (tx j) from hM2.2.1.2) hb hL (by omega)
    have hbg : O_X12_begin [.inr (185, 12, 0, 0), .inr (189, 21, 80, 0), .inl (Int32.ofNat L), .inl (60 : Int32)] (en_up τ 185 11 0) = some _ := m_rbegin (b := 189) (n1 := 80) (L := L) (mx := 60) (en_up τ 185 11 0)
    refine ⟨_, ?_, hRD.fr (τ' := en_up (en_up (en_up (en_up (en_up (en_up (en_up τ 185 11 0) 185 12 (Int32.ofNat (189 + 1))) 185 13 (Int32.ofNat L)) 185 14 (Int32.ofNat 60)) 185 15 0) 185 16 (-1)) 185 8 0) (fun j _ _ => pu_slot (by omega)) (pu_row (by omega)), (((((hM2.slot 12 _ (by omega)).slot 13 _ (by omega)).slot 14 _ (by omega)).slot 15 _ (by omega)).slot 16 _ (by omega)).clear, fun c hc => by rw [pu_row (by omega), pu_row (by omega), pu_row (by omega), pu_row (by omega), pu_row (by omega), pu_row (by omega), pu_row (by omega)]⟩
    rw [o_X12_method, t_X12_method_0, h8, hbg, Option.bind_some, hRD.2.1, pi_if (pn_0lt (b := L) (by omega))]
    by_cases c : 0 < L
    · rw [if_pos c, if_pos c]
    · rw [if_neg c, if_neg c]
  by_cases hL0 : L = 0
  · refine good 0 (fun _ => 0) 1 (by omega) (by omega) (fun _ _ => by omega) rfl (fun _ => rfl) (fun hC => ⟨en_up (en_up σ0 8 0 0) 7 2 1, ?_, pu_same _ _ _ _, fun j hj => ?_, fun j hj => ?_, fun c h7 h8 h9 => by rw [pu_row h7, pu_row h8]⟩) (fun τ hM => ?_)
    · rw [o_X0_read, t_X0_read_0, show σ0 1 1 = Int32.ofNat L from hC.2.1.1, hL0, if_pos (show Int32.ofNat 0 = 0 from rfl), q_useX, Option.bind_some, pu_same]; rfl
    · rw [pu_cell (by omega), show j = 0 by omega, pu_same]; rfl
    · rw [pu_slot hj, pu_cell (by omega)]
    · obtain ⟨τ0, e1, e2, e3, e4⟩ := hbeg τ hM
      obtain ⟨f, hf⟩ : ∃ j, en_FU = j + 1 := ⟨en_FU - 1, by have := en_FU_ge; omega⟩
      have hFU := en_FU_ge
      rw [if_neg (by omega), hf, t_X12_method_39, if_pos (show (0 : Int32) = 0 from rfl), e2.2.2.2.1, e2.2.1, if_neg (by rw [pn_lt (by omega) (by omega)]; omega), m_fine_y e2, Option.bind_some] at e1
      dsimp only at e1
      rw [if_neg (show ¬ (1 : Int32) = 0 by decide)] at e1
      exact ⟨f, 0, τ0, by omega, e1, fun j hj => absurd hj (by omega), e3, e4⟩
  have hfR : ∀ τ τ' : en_M, MI τ (g, tx0, ro, x, us, kp) → FrR τ τ' → MI τ' (g, tx0, ro, x, us, kp) ∧ FrM τ τ' := fun τ τ' h hF => ⟨h.kept (fun j hj => hF.2 j (by omega)) (fun c hc => hF.1 c (by omega) (by omega)), fun c hc => hF.1 c (by omega) (by omega)⟩
  have hmd := mdR_le (gN g) L tx 20 0 0 (by omega)
  by_cases ok : (mdR (gN g) L tx 20 0 0).1 = 0
  · refine ⟨-1 - Int32.ofNat (mdR (gN g) L tx 20 0 0).2, (g, tx0, ro, x, us, kp), fun hC => ?_, fun τ hM => ?_, hA.clear.mono (by omega)⟩
    · obtain ⟨σ1, e1, e2⟩ := (q_mread hn (show CT σ0 L tx from hC.2.1) hL (by omega) hb).1 ok
      have hC1 : CI σ1 (g, (L, tx), ro, x, us, kp) := hC.kept (fun c hc => e2 c (by omega)) (by rw [e2 10 (by omega)])
      refine ⟨en_up σ1 1 1 0, ?_, hC1.clear, fun c hc => by rw [pu_row (by omega), e2 c (by omega)]⟩
      rw [o_X11_method, t_X11_method_0, show σ0 5 3 = Int32.ofNat (gN g) from hC.1.1, e1, Option.bind_some, q_clear, Option.bind_some]
      dsimp only
      rw [if_neg (show ¬ (0 : Int32) < -1 - Int32.ofNat (mdR (gN g) L tx 20 0 0).2 from (by decide : ∀ s < 61, ¬ (0 : Int32) < -1 - Int32.ofNat s) _ (by omega))]; rfl
    · obtain ⟨τ0, e1, e2, e3, e4⟩ := hbeg τ hM
      rw [if_pos (by omega)] at e1
      obtain ⟨τ', r1, r2⟩ := (r_mread hn e2 e3.1.1 (by omega)).1 ok
      have := hfR τ0 τ' e3 r2
      exact ⟨τ', e1.trans r1, this.1, e4.trans this.2⟩
  · refine good (mdR (gN g) L tx 20 0 0).1 (mdC (gN g) L tx) (mdR (gN g) L tx 20 0 0).1 (by omega) (by omega) (fun j _ => cgN_lt _ _ _ hn _) (by omega) (fun h => absurd h ok) (fun hC => (q_mread hn (show CT σ0 L tx from hC.2.1) hL (by omega) hb).2 ok) (fun τ hM => ?_)
    obtain ⟨τ0, e1, e2, e3, e4⟩ := hbeg τ hM
    rw [if_pos (by omega)] at e1
    obtain ⟨f, u, τ', hf, r1, r2, r3⟩ := (r_mread hn e2 e3.1.1 (by omega)).2 ok
    have := hfR τ0 τ' e3 r3
    exact ⟨f, u, τ', hf, e1.trans (congrArg en_oi r1), r2, this.1, e4.trans this.2⟩
