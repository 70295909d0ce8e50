/-! matches: two in turn, both sides -/
def FrV (τ τ' : en_M) : Prop := (∀ c, c ≠ 185 → c ≠ 193 → c ≠ 198 → τ' c = τ c) ∧ ∀ j, j < 12 ∨ 16 < j → j ≠ 20 → j ≠ 25 → j ≠ 26 → j ≠ 33 → τ' 185 j = τ 185 j
theorem FrV.trans {a b c : en_M} (h : FrV a b) (h2 : FrV b c) : FrV a c := ⟨fun q x y z => (h2.1 q x y z).trans (h.1 q x y z), fun j x y z w v => (h2.2 j x y z w v).trans (h.2 j x y z w v)⟩
theorem FrV.up33 {a b : en_M} (h : FrV a b) (v : Int32) : FrV a (en_up b 185 33 v) := ⟨fun q x y z => by rw [pu_row x]; exact h.1 q x y z, fun j x y z w u => by rw [pu_slot u]; exact h.2 j x y z w u⟩
theorem FrV.go {a b : en_M} (h : MFr 198 a b) : FrV a b := ⟨fun q x y z => h.1 q x y z, fun j x y z w _ => h.2 j x y z w⟩
theorem m_rivals {g t ro x us kp} {B m a b : Nat} {τ0 : en_M} (hgv : GV g) (hVS : VS (gN g) B x) (hB : B + m < 1000000000) (hm : m ≤ 60) (hM : MI τ0 (g, t, ro, x, us, kp)) (ha : a < gN g) (hb : b < gN g) :
    ∃ τ2, O_X12_rivalsOf [.inr (185, 12, 0, 0), .inl (Int32.ofNat a), .inl (Int32.ofNat b), .inl (Int32.ofNat m)] τ0 = some (Int32.ofNat (brN g x (rvW a b) m 0).1, τ2) ∧ τ2 185 33 = Int32.ofNat (brN g x (rvW a b) m 0).2 ∧ MI τ2 (g, t, ro, x, us, kp) ∧ FrV τ0 τ2 := by
  have hn : gN g ≤ 7 := hgv.1
  have hn0 : 0 < gN g := by omega
  have hw : ∀ k, rvW a b k < 2 ^ gN g := fun k => by
    unfold rvW
    split
    · exact Nat.pow_lt_pow_right (by decide) ha
    · exact Nat.pow_lt_pow_right (by decide) hb
  obtain ⟨τ1, e1, e2, e3, e4⟩ := m_trial (A := (g, t, ro, x, us, kp)) hn hM
  have f1 : FrV τ0 τ1 := ⟨fun c _ _ h => e4 c h, fun j _ _ _ _ _ => by rw [e4 185 (by omega)]⟩
  rw [o_X12_rivalsOf, t_X12_rivalsOf_0, e1, Option.bind_some]
  refine pl_for1 (F := fun f i (q : en_M) => T_X12_rivalsOf_20 f (Int32.ofNat a) (Int32.ofNat b) (Int32.ofNat m) (Int32.ofNat i) q) (P := fun i q => MI q (g, t, ro, x, us, kp) ∧ MSr (gN g) (q 198) (rsN g x (rvW a b) i) ∧ q 185 33 = 0 ∧ brN g x (rvW a b) m 0 = brN g x (rvW a b) (m - i) i ∧ FrV τ0 q) (Q := fun r => ∃ τ2, en_oi r = some (Int32.ofNat (brN g x (rvW a b) m 0).1, τ2) ∧ τ2 185 33 = Int32.ofNat (brN g x (rvW a b) m 0).2 ∧ MI τ2 (g, t, ro, x, us, kp) ∧ FrV τ0 τ2) (N := m) ?_ ?_ m 0 en_FU (en_up τ1 185 33 0) (by omega) (pl_FU (by omega)) ⟨e2.slot 33 0 (by omega), by rw [pu_row (by omega)]; exact e3, pu_same τ1 185 33 0, rfl, f1.up33 0⟩
  · rintro f i υ hi ⟨p1, p2, p3, p4, p5⟩
    rw [show m - i = (m - (i + 1)) + 1 by omega] at p4
    conv at p4 => rhs; unfold brN
    have hvi : VS (gN g) (B + i) (rsN g x (rvW a b) i) := rsN_VS hgv hVS i (fun j _ => hw j)
    obtain ⟨υ', r1, r2, r3, r4, r5, r6⟩ := m_go (A := (g, t, ro, x, us, kp)) hgv p1 p2 hvi (by omega) hn0 (hw i)
    have r4 : υ' 185 25 = Int32.ofNat (lawS g (rsN g x (rvW a b) i) (rvW a b i)) := r4
    have r33 : υ' 185 33 = 0 := by rw [r6.2 33 (by omega) (by omega) (by omega) (by omega)]; exact p3
    have hl6 : lawS g (rsN g x (rvW a b) i) (rvW a b i) < 6 := lawN_lt _ _ _ _ _ _ _
    have fin : (∃ υ'', ((O_X12_goRound [.inr (185, 12, 0, 0), .inr (198, 20, 53, 0), .inl (Int32.ofNat (rvW a b i))] υ).bind fun r3 => if (r3 185 25) = 0 then (T_X12_rivalsOf_20 f (Int32.ofNat a) (Int32.ofNat b) (Int32.ofNat m) (Int32.ofNat (i + 1)) r3) else (en_ri (Int32.ofNat i) (en_up r3 185 33 (r3 185 25)))) = T_X12_rivalsOf_20 f (Int32.ofNat a) (Int32.ofNat b) (Int32.ofNat m) (Int32.ofNat (i + 1)) υ'' ∧ MI υ'' (g, t, ro, x, us, kp) ∧ MSr (gN g) (υ'' 198) (rsN g x (rvW a b) (i + 1)) ∧ υ'' 185 33 = 0 ∧ brN g x (rvW a b) m 0 = brN g x (rvW a b) (m - (i + 1)) (i + 1) ∧ FrV τ0 υ'') ∨ ∃ τ2, en_oi ((O_X12_goRound [.inr (185, 12, 0, 0), .inr (198, 20, 53, 0), .inl (Int32.ofNat (rvW a b i))] υ).bind fun r3 => if (r3 185 25) = 0 then (T_X12_rivalsOf_20 f (Int32.ofNat a) (Int32.ofNat b) (Int32.ofNat m) (Int32.ofNat (i + 1)) r3) else (en_ri (Int32.ofNat i) (en_up r3 185 33 (r3 185 25)))) = some (Int32.ofNat (brN g x (rvW a b) m 0).1, τ2) ∧ τ2 185 33 = Int32.ofNat (brN g x (rvW a b) m 0).2 ∧ MI τ2 (g, t, ro, x, us, kp) ∧ FrV τ0 τ2 := by
      rw [r1, Option.bind_some, r4, pi_if (pn_eq0 (show lawS g (rsN g x (rvW a b) i) (rvW a b i) < 2147483648 by omega))]
      by_cases c1 : lawS g (rsN g x (rvW a b) i) (rvW a b i) = 0
      · rw [if_pos c1] at p4
        rw [if_pos c1]
        exact Or.inl ⟨υ', rfl, r2, r3, r33, p4, p5.trans (FrV.go r6)⟩
      · rw [if_neg c1] at p4
        rw [if_neg c1, p4]
        exact Or.inr ⟨_, rfl, pu_same _ _ _ _, r2.slot 33 _ (by omega), (p5.trans (FrV.go r6)).up33 _⟩
    show (∃ υ'', T_X12_rivalsOf_20 (f + 1) _ _ _ _ υ = _ ∧ _) ∨ ∃ τ2, en_oi (T_X12_rivalsOf_20 (f + 1) _ _ _ _ υ) = _ ∧ _
    rw [t_X12_rivalsOf_20, if_pos ((pn_lt (by omega) (by omega)).mpr hi), if_neg (show ¬ (2 : Int32) = 0 by decide), pi_if (rv_mod2 (show i < 2147483648 by omega)), pb_1 (show a < 31 by omega), pb_1 (show b < 31 by omega), pn_a1]
    by_cases c2 : i % 2 = 0
    · rw [show rvW a b i = 2 ^ a from if_pos c2] at fin
      rw [if_pos c2]; exact fin
    · rw [show rvW a b i = 2 ^ b from if_neg c2] at fin
      rw [if_neg c2]; exact fin
  · rintro f υ ⟨p1, p2, p3, p4, p5⟩
    rw [Nat.sub_self] at p4
    have p4 : brN g x (rvW a b) m 0 = (m, 0) := p4
    show ∃ τ2, en_oi (T_X12_rivalsOf_20 (f + 1) _ _ _ _ υ) = _ ∧ _
    rw [t_X12_rivalsOf_20, if_neg (by rw [pn_lt (by omega) (by omega)]; omega), p4]
    exact ⟨υ, rfl, p3, p1, p5⟩
theorem k_inTurn {g t ro x us kp} {B m a b : Nat} {σ1 : en_M} (hA : AV B (g, t, ro, x, us, kp)) (hB : B < 1000000000) (hm : m ≤ 60) (hC : CI σ1 (g, t, ro, x, us, kp)) (h182 : ∀ k, k ≤ m → σ1 182 k = Int32.ofNat (pkN (odN g x k))) (ha : a < gN g) (hb : b < gN g) :
    ∃ σ2, O_X11_roundsInTurn [.inr (0, 11, 0, 0), .inl (Int32.ofNat a), .inl (Int32.ofNat b), .inl (Int32.ofNat m)] σ1 = some (Int32.ofNat (brN g x (rvW a b) m 0).1, σ2) ∧ σ2 0 13 = Int32.ofNat (brN g x (rvW a b) m 0).2 ∧ CI σ2 (g, t, ro, x, us, kp) ∧ ∀ c, c ≠ 0 → c ≠ 183 → σ2 c = σ1 c := by
  have hn : gN g ≤ 7 := hA.1.1
  have hn0 : 0 < gN g := by omega
  have hw : ∀ k, rvW a b k < 2 ^ gN g := fun k => by
    unfold rvW
    split
    · exact Nat.pow_lt_pow_right (by decide) ha
    · exact Nat.pow_lt_pow_right (by decide) hb
  rw [o_X11_roundsInTurn, t_X11_roundsInTurn_0]
  refine pl_for1 (F := fun f i (q : en_M) => T_X11_roundsInTurn_3 f (Int32.ofNat a) (Int32.ofNat b) (Int32.ofNat m) (Int32.ofNat i) q) (P := fun i q => (∀ k, k < i → q 183 k = Int32.ofNat (rvW a b k)) ∧ ∀ c, c ≠ 183 → q c = σ1 c) (Q := fun r => ∃ σ2, en_oi r = some (Int32.ofNat (brN g x (rvW a b) m 0).1, σ2) ∧ σ2 0 13 = Int32.ofNat (brN g x (rvW a b) m 0).2 ∧ CI σ2 (g, t, ro, x, us, kp) ∧ ∀ c, c ≠ 0 → c ≠ 183 → σ2 c = σ1 c) (N := m) ?_ ?_ m 0 en_FU σ1 (by omega) (pl_FU (by omega)) ⟨fun k hk => absurd hk (by omega), fun _ _ => rfl⟩
  · rintro f i τ hi ⟨p1, p2⟩
    refine Or.inl ⟨en_up τ 183 i (Int32.ofNat (rvW a b i)), ?_, fun k hk => ?_, fun c hc => by rw [pu_row hc, p2 c hc]⟩
    · show T_X11_roundsInTurn_3 (f + 1) _ _ _ _ τ = _
      rw [t_X11_roundsInTurn_3, if_pos ((pn_lt (by omega) (by omega)).mpr hi), if_pos (show Int32.ofNat i < (60 : Int32) from (pn_lt (b := 60) (by omega) (by omega)).mpr (by omega)), if_neg (show ¬ (2 : Int32) = 0 by decide), pi_if (rv_mod2 (by omega)), pn_ix (by omega) (by omega), Option.bind_some, Option.bind_some, pb_1 (show a < 31 by omega), pb_1 (show b < 31 by omega), pn_a1]
      unfold rvW
      by_cases c1 : i % 2 = 0
      · rw [if_pos c1, if_pos c1]
      · rw [if_neg c1, if_neg c1]
    · rw [pu_at]
      by_cases e : k = i
      · rw [if_pos e, e]
      · rw [if_neg e]; exact p1 k (by omega)
  · rintro f τ ⟨p1, p2⟩
    have hCτ : CI τ (g, t, ro, x, us, kp) := hC.kept (fun c hc => p2 c (by omega)) (by rw [p2 10 (by omega)])
    obtain ⟨σ2, k1, k2, k3, k4⟩ := q_lawfulRounds (w := rvW a b) hA (by omega) hCτ hn0 (show m ≤ 60 by omega) (fun k hk => by rw [p2 182 (by omega)]; exact h182 k hk) (fun k hk => ⟨hw k, p1 k hk⟩)
    show ∃ σ2, en_oi (T_X11_roundsInTurn_3 (f + 1) _ _ _ _ τ) = _ ∧ _
    rw [t_X11_roundsInTurn_3, if_neg (by rw [pn_lt (by omega) (by omega)]; omega), k1, Option.bind_some]
    exact ⟨σ2, rfl, k2, k3, fun c h1 h2 => by rw [k4 c h1, p2 c h2]⟩
