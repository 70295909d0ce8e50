/-! rule: the reference reads and works it -/
noncomputable def thM (τ : en_M) : Nat → Int32 := fun i => if τ 185 20 = 0 then 0 else τ 193 i
theorem FrU.tth {τ τ' : en_M} (h : FrU τ τ') : thM τ' = thM τ := by
  unfold thM
  rw [h.2 20 (by omega), h.1 193 (by omega)]
def HRs (L : Nat) (tx : Nat → Nat) (b : Nat) (τ : en_M) (r : PRs) (o : Option (Int32 × en_M)) : Prop := ∃ v τ', o = some (v, τ') ∧ FrU τ τ' ∧ (r.1 = true → RD τ' b L 40 tx r.2.1 (-1) ∧ v = r.2.2.2 (thM τ)) ∧ (r.1 = false → ∃ p'', RD τ' b L 40 tx p'' (Int32.ofNat r.2.1))
theorem HRs.ok {L : Nat} {tx : Nat → Nat} {b : Nat} {τ τ' : en_M} {v : Int32} {r : PRs} {o : Option (Int32 × en_M)} (h1 : r.1 = true) (ho : o = some (v, τ')) (hF : FrU τ τ') (hR : RD τ' b L 40 tx r.2.1 (-1)) (hv : v = r.2.2.2 (thM τ)) : HRs L tx b τ r o :=
  ⟨v, τ', ho, hF, fun _ => ⟨hR, hv⟩, fun z => absurd (h1.symm.trans z) (by decide)⟩
theorem HRs.no {L : Nat} {tx : Nat → Nat} {b : Nat} {τ τ' : en_M} {v : Int32} {r : PRs} {o : Option (Int32 × en_M)} {p'' : Nat} (h1 : r.1 = false) (ho : o = some (v, τ')) (hF : FrU τ τ') (hR : RD τ' b L 40 tx p'' (Int32.ofNat r.2.1)) : HRs L tx b τ r o :=
  ⟨v, τ', ho, hF, fun z => absurd (h1.symm.trans z) (by decide), fun _ => ⟨p'', hR⟩⟩
theorem HRs.to {L : Nat} {tx : Nat → Nat} {b : Nat} {τ : en_M} {r r' : PRs} {o : Option (Int32 × en_M)} (h : HRs L tx b τ r o) (h1 : r'.1 = r.1) (h2 : r'.2.1 = r.2.1) (h3 : r.1 = true → ∀ a, r'.2.2.2 a = r.2.2.2 a) : HRs L tx b τ r' o := by
  obtain ⟨v, τ', e1, e2, e3, e4⟩ := h
  refine ⟨v, τ', e1, e2, fun z => ?_, fun z => ?_⟩
  · rw [h1] at z
    rw [h2, h3 z]
    exact e3 z
  · rw [h1] at z
    rw [h2]
    exact e4 z
def MCp (L : Nat) (tx : Nat → Nat) (f : en_M → Option (Int32 × en_M)) (q : Nat → PRs) (p : Nat) : Prop := ∀ τ b, RD τ b L 40 tx p (-1) → HRs L tx b τ (q p) (f τ)
noncomputable def hX (D i d : Nat) : en_M → Option (Int32 × en_M) := RG_X12_held D i [.inr (185, 12, 0, 0), .inl (Int32.ofNat d)]
theorem miN_eq (L : Nat) (tx : Nat → Nat) (K p : Nat) : miN L tx (K + 1) p = if sgN L tx p = 45 then miN L tx K (p + 1) + 1 else 0 := rfl
theorem miN_more (L : Nat) (tx : Nat → Nat) : ∀ K p, 40 ≤ p + K → p ≤ 40 → miN L tx (K + 1) p = miN L tx K p
  | 0, p, h, h2 => by
    rw [miN_eq, if_neg (fun z => by have := sgN_in (by omega) z; omega)]; rfl
  | K + 1, p, h, h2 => by
    rw [miN_eq, miN_eq L tx K p]
    by_cases c : sgN L tx p = 45
    · have := sgN_in (by omega) c
      rw [if_pos c, if_pos c, miN_more L tx K (p + 1) (by omega) (by omega)]
    · rw [if_neg c, if_neg c]
theorem fa_0 {L : Nat} {tx : Nat → Nat} {th : Nat → PRs} {p : Nat} (h : sgN L tx p ≠ 45) : (faP L tx th p).1 = (th p).1 ∧ (faP L tx th p).2.1 = (th p).2.1 ∧ ((th p).1 = true → ∀ a, (faP L tx th p).2.2.2 a = (th p).2.2.2 a) := by
  have hm : miN L tx 40 p = 0 := (miN_eq L tx 39 p).trans (if_neg h)
  unfold faP
  rw [hm, Nat.add_zero]
  by_cases c : (th p).1 = false
  · rw [if_pos c]
    exact ⟨c.symm, rfl, fun z => absurd (c.symm.trans z) (by decide)⟩
  · rw [if_neg c]
    exact ⟨(bool_t c).symm, rfl, fun _ _ => rfl⟩
theorem fa_1 {L : Nat} {tx : Nat → Nat} {th : Nat → PRs} {p : Nat} (h : sgN L tx p = 45) : (faP L tx th p).1 = (faP L tx th (p + 1)).1 ∧ (faP L tx th p).2.1 = (faP L tx th (p + 1)).2.1 ∧ ((faP L tx th (p + 1)).1 = true → ∀ a, (faP L tx th p).2.2.2 a = -(faP L tx th (p + 1)).2.2.2 a) := by
  have hi := sgN_in (by omega) h
  have hm : miN L tx 40 p = miN L tx 40 (p + 1) + 1 := ((miN_eq L tx 39 p).trans (if_pos h)).trans (by rw [← miN_more L tx 39 (p + 1) (by omega) (by omega)])
  unfold faP
  rw [hm, show p + (miN L tx 40 (p + 1) + 1) = p + 1 + miN L tx 40 (p + 1) by omega]
  generalize miN L tx 40 (p + 1) = m
  by_cases c : (th (p + 1 + m)).1 = false
  · rw [if_pos c, if_pos c]
    exact ⟨rfl, rfl, fun z => absurd (show false = true from z) (by decide)⟩
  · rw [if_neg c, if_neg c]
    refine ⟨rfl, rfl, fun _ a => ?_⟩
    show (if (m + 1) % 2 = 1 then -(th (p + 1 + m)).2.2.2 a else (th (p + 1 + m)).2.2.2 a) = -(if m % 2 = 1 then -(th (p + 1 + m)).2.2.2 a else (th (p + 1 + m)).2.2.2 a)
    by_cases cm : m % 2 = 1
    · rw [if_neg (by omega), if_pos cm, Int32.neg_neg]
    · rw [if_pos (by omega), if_neg cm]
theorem m_letter {L : Nat} {tx : Nat → Nat} {p : Nat} (hb : ∀ j, tx j < 256) (τ : en_M) : O_X12_letterOf [.inl (hr L 40 tx p)] τ = some (if lxN (sgN L tx p) < 7 then Int32.ofNat (lxN (sgN L tx p)) else -1, τ) := by
  rw [o_X12_letterOf, t_X12_letterOf_0, pi_if (show (hr L 40 tx p = (119 : Int32)) = (sgN L tx p = 119) from sgN_hr (c := 119) hb (by omega)), pi_if (show (hr L 40 tx p = (116 : Int32)) = (sgN L tx p = 116) from sgN_hr (c := 116) hb (by omega)), pi_if (show (hr L 40 tx p = (112 : Int32)) = (sgN L tx p = 112) from sgN_hr (c := 112) hb (by omega)), pi_if (show (hr L 40 tx p = (114 : Int32)) = (sgN L tx p = 114) from sgN_hr (c := 114) hb (by omega)), pi_if (show (hr L 40 tx p = (105 : Int32)) = (sgN L tx p = 105) from sgN_hr (c := 105) hb (by omega)), pi_if (show (hr L 40 tx p = (115 : Int32)) = (sgN L tx p = 115) from sgN_hr (c := 115) hb (by omega)), pi_if (show (hr L 40 tx p = (109 : Int32)) = (sgN L tx p = 109) from sgN_hr (c := 109) hb (by omega))]
  generalize sgN L tx p = u
  by_cases c1 : u = 119
  · subst c1; rfl
  by_cases c2 : u = 116
  · subst c2; rfl
  by_cases c3 : u = 112
  · subst c3; rfl
  by_cases c4 : u = 114
  · subst c4; rfl
  by_cases c5 : u = 105
  · subst c5; rfl
  by_cases c6 : u = 115
  · subst c6; rfl
  by_cases c7 : u = 109
  · subst c7; rfl
  have hl : lxN u = 7 := by
    unfold lxN
    rw [if_neg c1, if_neg c2, if_neg c3, if_neg c4, if_neg c5, if_neg c6, if_neg c7]
  rw [hl, if_neg c1, if_neg c2, if_neg c3, if_neg c4, if_neg c5, if_neg c6, if_neg c7, if_neg (by omega)]; rfl
theorem m_thing {L : Nat} {tx : Nat → Nat} (hb : ∀ j, tx j < 256) {D d : Nat} {ex : Nat → PRs} {deep : Bool} (hd : d ≤ 4) (hdp : deep = decide (d < 4)) (hG : GPr ex) (hex : d < 4 → ∀ k p, p ≤ 40 → MCp L tx (hX (D + k) 0 (d + 1)) ex p) : ∀ k p, p ≤ 40 → 40 ≤ p + k → MCp L tx (hX (D + k + 1) 3 d) (faP L tx (thP L tx ex deep)) p := by
  have base : ∀ k p, p ≤ 40 → sgN L tx p ≠ 45 → ∀ τ b, RD τ b L 40 tx p (-1) → HRs L tx b τ (thP L tx ex deep p) (hX (D + k + 1) 3 d τ) := by
    intro k p hp hn τ b hR
    have rest : ¬ (sgN L tx p = 40 ∧ deep = true) → HRs L tx b τ (thP L tx ex deep p) (en_oi ((O_X12_in [.inl (hr L 40 tx p), .inl (48 : Int32), .inl (57 : Int32)] τ).bind fun r10 => if r10.1 = 0 then ((O_X12_letterOf [.inl (hr L 40 tx p)] r10.2).bind fun r11 => if r11.1 = (-1 : Int32) then ((O_X12_fault [.inr (185, 12, 0, 0), .inl (r11.2 185 15)] r11.2).bind fun r14 => en_ri (0 : Int32) r14) else (if (r11.2 185 20) = 0 then (en_ri (0 : Int32) (en_up r11.2 185 15 ((r11.2 185 15) + (1 : Int32)))) else ((O_X12_letterOf [.inl (hr L 40 tx p)] (en_up r11.2 185 15 ((r11.2 185 15) + (1 : Int32)))).bind fun r12 => (en_ix r12.1 7).bind fun j13 => en_ri (r12.2 193 j13) r12.2))) else ((O_X12_number [.inr (185, 12, 0, 0), .inl (3 : Int32)] r10.2).bind fun r15 => en_ri r15.1 r15.2))) := by
      intro hc
      have hin : O_X12_in [.inl (hr L 40 tx p), .inl (48 : Int32), .inl (57 : Int32)] τ = some (pb2 (inS L 40 tx p 48 10), τ) := m_in (a := 48) (m := 10) hb (by omega) (by omega) rfl
      have hins : inS L 40 tx p 48 10 ↔ 48 ≤ sgN L tx p ∧ sgN L tx p < 58 := by
        constructor
        · rintro ⟨z1, z2, z3, z4⟩
          unfold sgN
          rw [if_pos ⟨z1, z2⟩]; exact ⟨z3, by omega⟩
        · rintro ⟨z1, z2⟩
          have hz := sgN_in (L := L) (tx := tx) (p := p) (by omega) rfl
          exact ⟨hz.1, hz.2.1, by omega, by omega⟩
      rw [hin, Option.bind_some]
      dsimp only
      rw [pi_if (pb2_0 (inS L 40 tx p 48 10))]
      unfold thP
      rw [if_neg hc]
      by_cases cn : inS L 40 tx p 48 10
      · obtain ⟨τ', e1, e2, e3⟩ := (m_number (m := 2) hR (by omega) (by omega)).1 cn
        have e1' : O_X12_number [.inr (185, 12, 0, 0), .inl (3 : Int32)] τ = _ := e1
        rw [if_neg (fun z : ¬ inS L 40 tx p 48 10 => z cn), if_pos (hins.mp cn), e1', Option.bind_some]
        exact HRs.ok rfl rfl e3 e2 rfl
      · rw [if_pos cn, if_neg (fun z => cn (hins.mpr z)), m_letter hb, Option.bind_some]
        dsimp only
        have h15 := hR.2.2.2.1
        by_cases cl : lxN (sgN L tx p) < 7
        · rw [if_pos cl, if_pos cl, if_neg (pn_nm1 (by omega)), h15, pn_a1]
          by_cases c20 : τ 185 20 = 0
          · rw [if_pos c20]
            refine HRs.ok rfl rfl ((FrU.refl τ).up (by omega) _) (hR.at (p + 1)) ?_
            show 0 = thM τ (lxN (sgN L tx p))
            unfold thM
            rw [if_pos c20]
          · rw [if_neg c20, m_letter hb, Option.bind_some]
            dsimp only
            rw [if_pos cl, pn_ix cl (by omega), Option.bind_some]
            refine HRs.ok rfl rfl ((FrU.refl τ).up (by omega) _) (hR.at (p + 1)) ?_
            show (en_up τ 185 15 (Int32.ofNat (p + 1))) 193 (lxN (sgN L tx p)) = thM τ (lxN (sgN L tx p))
            unfold thM
            rw [if_neg c20, pu_cell (by omega)]
        · rw [if_neg cl, if_neg cl, if_pos (show (-1 : Int32) = -1 from rfl), h15, m_fault hR, Option.bind_some]
          exact HRs.no rfl rfl ((FrU.refl τ).up (by omega) _) (hR.flt _)
    rw [show hX (D + k + 1) 3 d τ = en_oi (T_X12_thing_0 (RG_X12_held (D + k)) (Int32.ofNat d) τ) from rfl, t_X12_thing_0, m_passes hR (by omega), if_neg (show ¬ hr L 40 tx p = 45 from fun z => hn ((iff_of_eq (sgN_hr (c := 45) hb (by omega))).mp z)), Option.bind_some]
    dsimp only
    rw [if_pos (show (0 : Int32) = 0 from rfl), m_fine_y hR, Option.bind_some]
    dsimp only
    rw [if_neg (show ¬ (1 : Int32) = 0 by decide), m_here hR (by omega), Option.bind_some]
    dsimp only
    rw [pi_if (show (hr L 40 tx p = (40 : Int32)) = (sgN L tx p = 40) from sgN_hr (c := 40) hb (by omega)), pi_if (show (Int32.ofNat d < (4 : Int32)) = (d < 4) from pn_lt (b := 4) (by omega) (by omega))]
    by_cases c1 : sgN L tx p = 40
    · rw [if_pos c1]
      by_cases cd : d < 4
      · have hdeep : deep = true := by rw [hdp]; exact decide_eq_true cd
        have hi := sgN_in (by omega) c1
        obtain ⟨g1, g2, g3⟩ := hG (p + 1) (by omega)
        obtain ⟨v, τ1, e1, e2, e3, e4⟩ := hex cd k (p + 1) (by omega) (en_up τ 185 15 (Int32.ofNat (p + 1))) b (hR.at (p + 1))
        have e1' : RG_X12_held (D + k) 0 [.inr (185, 12, 0, 0), .inl (Int32.ofNat (d + 1))] (en_up τ 185 15 (Int32.ofNat (p + 1))) = some (v, τ1) := e1
        have hF0 : FrU τ (en_up τ 185 15 (Int32.ofNat (p + 1))) := (FrU.refl τ).up (by omega) _
        have hF := hF0.trans e2
        have hth : thP L tx ex deep p = (if (ex (p + 1)).1 = false then flP (ex (p + 1)).2.1 else if sgN L tx (ex (p + 1)).2.1 = 41 then (true, (ex (p + 1)).2.1 + 1, (ex (p + 1)).2.2.1, (ex (p + 1)).2.2.2) else flP (ex (p + 1)).2.1) := if_pos ⟨c1, hdeep⟩
        rw [if_pos cd, hR.2.2.2.1, pn_a1, pn_a1, e1', Option.bind_some]
        dsimp only
        by_cases cx : (ex (p + 1)).1 = true
        · obtain ⟨k1, k2⟩ := e3 cx
          rw [if_neg (by rw [cx]; decide)] at hth
          rw [m_passes k1 (by omega), pi_if (show (hr L 40 tx (ex (p + 1)).2.1 = (41 : Int32)) = (sgN L tx (ex (p + 1)).2.1 = 41) from sgN_hr (c := 41) hb (by omega))]
          by_cases c41 : sgN L tx (ex (p + 1)).2.1 = 41
          · rw [if_pos c41] at hth
            rw [if_pos c41, Option.bind_some, hth]
            dsimp only
            rw [if_neg (show ¬ (1 : Int32) = 0 by decide)]
            refine HRs.ok rfl rfl (hF.up (by omega) _) (k1.at _) ?_
            rw [k2, hF0.tth]
          · rw [if_neg c41] at hth
            rw [if_neg c41, Option.bind_some, hth]
            dsimp only
            rw [if_pos (show (0 : Int32) = 0 from rfl), k1.2.2.2.1, m_fault k1, Option.bind_some]
            exact HRs.no rfl rfl (hF.up (by omega) _) (k1.flt _)
        · have cx' : (ex (p + 1)).1 = false := Bool.eq_false_iff.mpr cx
          obtain ⟨p'', k1⟩ := e4 cx'
          rw [if_pos cx'] at hth
          rw [m_passes_n k1 (by omega), Option.bind_some, hth]
          dsimp only
          rw [if_pos (show (0 : Int32) = 0 from rfl), m_fault_n k1 (by omega), Option.bind_some]
          exact HRs.no rfl rfl hF k1
      · rw [if_neg cd]
        exact rest (fun z => cd (of_decide_eq_true (hdp.symm.trans z.2)))
    · rw [if_neg c1]
      exact rest (fun z => c1 z.1)
  intro k
  induction k with
  | zero =>
    intro p hp h40 τ b hR
    have hn : sgN L tx p ≠ 45 := fun z => by have := sgN_in (by omega) z; omega
    obtain ⟨f1, f2, f3⟩ := fa_0 (th := thP L tx ex deep) hn
    exact (base 0 p hp hn τ b hR).to f1 f2 f3
  | succ k ih =>
    intro p hp h40 τ b hR
    by_cases hn : sgN L tx p = 45
    · have hi := sgN_in (by omega) hn
      obtain ⟨f1, f2, f3⟩ := fa_1 (th := thP L tx ex deep) hn
      have hF0 : FrU τ (en_up τ 185 15 (Int32.ofNat (p + 1))) := (FrU.refl τ).up (by omega) _
      obtain ⟨v, τ1, e1, e2, e3, e4⟩ := ih (p + 1) (by omega) (by omega) (en_up τ 185 15 (Int32.ofNat (p + 1))) b (hR.at (p + 1))
      have e1' : RG_X12_held (D + k + 1) 3 [.inr (185, 12, 0, 0), .inl (Int32.ofNat d)] (en_up τ 185 15 (Int32.ofNat (p + 1))) = some (v, τ1) := e1
      rw [show hX (D + (k + 1) + 1) 3 d τ = en_oi (T_X12_thing_0 (RG_X12_held (D + k + 1)) (Int32.ofNat d) τ) from rfl, t_X12_thing_0, m_passes hR (by omega), if_pos (show hr L 40 tx p = 45 from (iff_of_eq (sgN_hr (c := 45) hb (by omega))).mpr hn), Option.bind_some]
      dsimp only
      rw [if_neg (show ¬ (1 : Int32) = 0 by decide), e1', Option.bind_some]
      refine ⟨-v, τ1, rfl, hF0.trans e2, fun z => ?_, fun z => ?_⟩
      · rw [f1] at z
        obtain ⟨k1, k2⟩ := e3 z
        rw [f2, f3 z]
        exact ⟨k1, by rw [k2, hF0.tth]⟩
      · rw [f1] at z
        rw [f2]
        exact e4 z
    · obtain ⟨f1, f2, f3⟩ := fa_0 (th := thP L tx ex deep) hn
      exact (base (k + 1) p hp hn τ b hR).to f1 f2 f3
