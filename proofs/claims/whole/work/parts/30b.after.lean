/-! all drink, then rounds: the class's side; one drinks: the reference's -/
theorem dkN_VS {n B r : Nat} {x : pS} (h : VS n B x) (hr : r < n) : ∀ p, VS n B (dkN x r p)
  | 0 => h
  | p + 1 => sDk_VS (dkN_VS h hr p) hr
theorem dkA_VS {n B p : Nat} {x : pS} (h : VS n B x) : ∀ i, i ≤ n → VS n B (dkA x p i)
  | 0, _ => h
  | i + 1, hi => dkN_VS (dkA_VS h i (by omega)) (by omega) p
theorem q_driftAfter {A : pI} {B p m : Nat} {σ : en_M} (hg : GV (iG A)) (hC : CI σ A) (hv : VS (gN (iG A)) B (iS A)) (hB : B + m < 1000000000) (hp : p ≤ 10) (hm : m ≤ 60) (hn0 : 0 < gN (iG A)) : ∃ σ', O_X11_driftingAfter [.inr (0, 11, 0, 0), .inl (Int32.ofNat p), .inl (Int32.ofNat m)] σ = some (Int32.ofNat (whN (iG A) (dkA (iS A) p (gN (iG A))) m), σ') ∧ CI σ' A ∧ ∀ c, 25 ≤ c → σ' c = σ c := by
  have hn : gN (iG A) ≤ 7 := hg.1
  obtain ⟨σ1, e1, e2, e3⟩ := q_copy (k0 := 20) hC.2.2.2.1 (by omega)
  have hC1 : ∀ q : en_M, (∀ c, c < 20 ∨ 25 ≤ c → q c = σ1 c) → CI q A := fun q hq => hC.kept (fun c hc => by rw [hq c (by omega), e3 c (by omega)]) (by rw [hq 10 (by omega), e3 10 (by omega)])
  rw [o_X11_driftingAfter, t_X11_driftingAfter_0, e1, Option.bind_some]
  refine pl_for (F := fun f i (q : en_V × en_M) => T_X11_driftingAfter_13 f (Int32.ofNat p) (Int32.ofNat m) (Int32.ofNat i) q.1 q.2) (P := fun i q => CS q.2 20 (dkA (iS A) p i) ∧ ∀ c, c < 20 ∨ 25 ≤ c → q.2 c = σ1 c) (Q := fun r => ∃ σ', en_oi r = some (Int32.ofNat (whN (iG A) (dkA (iS A) p (gN (iG A))) m), σ') ∧ CI σ' A ∧ ∀ c, 25 ≤ c → σ' c = σ c) (N := gN (iG A)) (C := 20) (C0 := 1) ?_ ?_ (gN (iG A)) 0 en_FU (en_un, σ1) (by omega) (by have := en_FU_ge; omega) ⟨e2, fun _ _ => rfl⟩
  · rintro f i ⟨u, τ⟩ hi hf ⟨p1, p2⟩
    have p2 : ∀ c, c < 20 ∨ 25 ≤ c → τ c = σ1 c := p2
    obtain ⟨f, rfl⟩ : ∃ j, f = j + 1 := ⟨f - 1, by omega⟩
    left
    show ∃ n', ∃ q' : en_V × en_M, T_X11_driftingAfter_13 (f + 1) _ _ _ u τ = _ ∧ _
    rw [t_X11_driftingAfter_13, (hC1 τ p2).1.1, if_pos ((pn_lt (by omega) (by omega)).mpr hi)]
    obtain ⟨τ1, b1, b2, b3⟩ := pl_to (F := fun f j (q : en_M) => T_X11_driftingAfter_27 f (Int32.ofNat p) (Int32.ofNat m) (Int32.ofNat i) (Int32.ofNat j) q) (P := fun j q => CS q 20 (dkN (dkA (iS A) p i) i j) ∧ ∀ c, c < 20 ∨ 25 ≤ c → q c = σ1 c) (N := p) (by
      rintro f j q hj ⟨y1, y2⟩
      obtain ⟨d1, d2⟩ := q_drink y1 (show i < 7 by omega)
      refine ⟨_, ?_, d2, fun c hc => by rw [pu_row (by omega)]; exact y2 c hc⟩
      show T_X11_driftingAfter_27 (f + 1) _ _ _ _ q = _
      rw [t_X11_driftingAfter_27, if_pos ((pn_lt (by omega) (by omega)).mpr hj), d1, Option.bind_some, pn_a1]) p 0 f τ (by omega) (by omega) ⟨p1, p2⟩
    have b1 : T_X11_driftingAfter_27 f (Int32.ofNat p) (Int32.ofNat m) (Int32.ofNat i) 0 τ = T_X11_driftingAfter_27 (f - p) (Int32.ofNat p) (Int32.ofNat m) (Int32.ofNat i) (Int32.ofNat p) τ1 := b1
    obtain ⟨d, hd⟩ : ∃ d, f - p = d + 1 := ⟨f - p - 1, by omega⟩
    rw [b1, hd, t_X11_driftingAfter_27, if_neg (by rw [pn_lt (by omega) (by omega)]; omega), pn_a1]
    exact ⟨d, (_, τ1), rfl, by omega, b2, b3⟩
  · rintro f ⟨u, τ⟩ hf ⟨p1, p2⟩
    have p2 : ∀ c, c < 20 ∨ 25 ≤ c → τ c = σ1 c := p2
    obtain ⟨f, rfl⟩ : ∃ j, f = j + 1 := ⟨f - 1, by omega⟩
    have hCτ := hC1 τ p2
    obtain ⟨σ2, f1, f2, f3, f4⟩ := q_ringAll (k := 20) (m := m) hg hCτ.1 p1 (dkA_VS hv (gN (iG A)) (Nat.le_refl _)) hB (by omega) hn0 (by omega) (by omega)
    show ∃ σ', en_oi (T_X11_driftingAfter_13 (f + 1) _ _ _ u τ) = _ ∧ _
    rw [t_X11_driftingAfter_13, hCτ.1.1, if_neg (by rw [pn_lt (by omega) (by omega)]; omega), f1, Option.bind_some]
    exact ⟨σ2, rfl, hCτ.kept (fun c hc => f4 c (by omega) (by omega) (by omega)) (by rw [f4 10 (by omega) (by omega) (by omega)]), fun c hc => by rw [f4 c (by omega) (by omega) (by omega), p2 c (by omega), e3 c (by omega)]⟩
theorem r_serves {A : pI} {B p m r : Nat} {τ : en_M} (hg : GV (iG A)) (hM : MI τ A) (hv : VS (gN (iG A)) B (iS A)) (hB : B + m < 1000000000) (hp : p ≤ 10) (hm : m ≤ 60) (hr : r < gN (iG A)) : ∃ τ', O_X12_serves [.inr (185, 12, 0, 0), .inl (Int32.ofNat r), .inl (Int32.ofNat m), .inl (Int32.ofNat p)] τ = some (if (whN (iG A) (dkN (iS A) r p) m).testBit r = true then 0 else 1, τ') ∧ MI τ' A ∧ FrM τ τ' ∧ τ' 206 = τ 206 := by
  have hn : gN (iG A) ≤ 7 := hg.1
  have hFU := en_FU_ge
  obtain ⟨τ1, e1, e2, e3, e4⟩ := m_trial hn hM
  rw [o_X12_serves, t_X12_serves_0, e1, Option.bind_some]
  obtain ⟨τ2, b1, b2, b3, b4⟩ := pl_to (F := fun f j (q : en_M) => T_X12_serves_15 f (Int32.ofNat r) (Int32.ofNat m) (Int32.ofNat p) (Int32.ofNat j) q) (P := fun j q => MI q A ∧ MSr (gN (iG A)) (q 198) (dkN (iS A) r j) ∧ ∀ c, c ≠ 198 → q c = τ c) (N := p) (by
    rintro f j q hj ⟨y1, y2, y3⟩
    obtain ⟨d1, d2⟩ := r_drink (k := 198) y2 hn (show r < 7 by omega)
    refine ⟨_, ?_, y1.kept (fun j _ => by rw [pu_row (by omega)]) (fun c hc => pu_row (by omega)), d2, fun c hc => by rw [pu_row hc]; exact y3 c hc⟩
    show T_X12_serves_15 (f + 1) _ _ _ _ q = _
    rw [t_X12_serves_15, if_pos ((pn_lt (by omega) (by omega)).mpr hj), d1, Option.bind_some, pn_a1]) p 0 en_FU τ1 (by omega) (by omega) ⟨e2, e3, fun c hc => e4 c hc⟩
  have b1 : T_X12_serves_15 en_FU (Int32.ofNat r) (Int32.ofNat m) (Int32.ofNat p) 0 τ1 = T_X12_serves_15 (en_FU - p) (Int32.ofNat r) (Int32.ofNat m) (Int32.ofNat p) (Int32.ofNat p) τ2 := b1
  obtain ⟨d, hd⟩ : ∃ d, en_FU - p = d + 1 := ⟨en_FU - p - 1, by omega⟩
  have hvd : VS (gN (iG A)) B (dkN (iS A) r p) := dkN_VS hv hr p
  have hmono : ∀ i k, i ≤ k → (whN (iG A) (dkN (iS A) r p) i).testBit r = true → (whN (iG A) (dkN (iS A) r p) k).testBit r = true := by
    intro i k hik h
    induction k with
    | zero => rw [show i = 0 by omega] at h; exact h
    | succ k ih =>
      by_cases e : i = k + 1
      · rw [← e]; exact h
      · show (whN (iG A) (dkN (iS A) r p) k ||| drN (iG A) (rdN (iG A) (dkN (iS A) r p) k) 0 (gN (iG A))).testBit r = true
        rw [Nat.testBit_or, ih (by omega)]; rfl
  rw [b1, hd, t_X12_serves_15, if_neg (by rw [pn_lt (by omega) (by omega)]; omega)]
  refine pl_for1 (F := fun f i (q : en_M) => T_X12_serves_39 f (Int32.ofNat r) (Int32.ofNat m) (Int32.ofNat p) (Int32.ofNat i) q) (P := fun i q => MI q A ∧ MSr (gN (iG A)) (q 198) (rdN (iG A) (dkN (iS A) r p) i) ∧ ¬ (whN (iG A) (dkN (iS A) r p) i).testBit r = true ∧ FrM τ q ∧ q 206 = τ 206) (Q := fun res => ∃ τ', en_oi res = some (if (whN (iG A) (dkN (iS A) r p) m).testBit r = true then 0 else 1, τ') ∧ MI τ' A ∧ FrM τ τ' ∧ τ' 206 = τ 206) (N := m) ?_ ?_ m 0 d τ2 (by omega) (by omega) ⟨b2, b3, (by show ¬ (0 : Nat).testBit r = true; rw [Nat.zero_testBit]; decide), fun c hc => b4 c (by omega), b4 206 (by omega)⟩
  · rintro f i υ hi ⟨p1, p2, p3, p4, p5⟩
    obtain ⟨υ', r1, r2, r3, r4, r5, r6⟩ := m_go hg p1 p2 (rdN_VS hg hvd i) (by omega) (by omega) (Nat.two_pow_pos _)
    have r1 : O_X12_goRound [.inr (185, 12, 0, 0), .inr (198, 20, 53, 0), .inl (0 : Int32)] υ = some υ' := r1
    have hd128 := drN128 hg (rdN (iG A) (dkN (iS A) r p) i) 0
    have hw1 : (whN (iG A) (dkN (iS A) r p) (i + 1)).testBit r = (drN (iG A) (rdN (iG A) (dkN (iS A) r p) i) 0 (gN (iG A))).testBit r := by
      show (whN (iG A) (dkN (iS A) r p) i ||| drN (iG A) (rdN (iG A) (dkN (iS A) r p) i) 0 (gN (iG A))).testBit r = _
      rw [Nat.testBit_or, Bool.eq_false_iff.mpr p3, Bool.false_or]
    show (∃ υ'', T_X12_serves_39 (f + 1) _ _ _ _ υ = _ ∧ _) ∨ ∃ τ', en_oi (T_X12_serves_39 (f + 1) _ _ _ _ υ) = _ ∧ _
    rw [t_X12_serves_39, if_pos ((pn_lt (by omega) (by omega)).mpr hi), r1, Option.bind_some, r5, q_has, Option.bind_some]
    dsimp only
    rw [pi_if ((pb2_0 _).trans (congrArg Not (pb_bit1 (show drN (iG A) (rdN (iG A) (dkN (iS A) r p) i) 0 (gN (iG A)) < 2147483648 by omega) (show r < 32 by omega)))), pn_a1]
    by_cases c1 : (drN (iG A) (rdN (iG A) (dkN (iS A) r p) i) 0 (gN (iG A))).testBit r = true
    · rw [if_neg (fun q => q c1), if_pos (Or.inl rfl), if_pos (hmono (i + 1) m (by omega) (by rw [hw1]; exact c1))]
      exact Or.inr ⟨υ', rfl, r2, p4.trans r6.frm, by rw [r6.1 206 (by omega) (by omega) (by omega)]; exact p5⟩
    · rw [if_pos c1]
      exact Or.inl ⟨υ', rfl, r2, r3, by rw [hw1]; exact c1, p4.trans r6.frm, by rw [r6.1 206 (by omega) (by omega) (by omega)]; exact p5⟩
  · rintro f υ ⟨p1, p2, p3, p4, p5⟩
    show ∃ τ', en_oi (T_X12_serves_39 (f + 1) _ _ _ _ υ) = _ ∧ _
    rw [t_X12_serves_39, if_neg (by rw [pn_lt (by omega) (by omega)]; omega), if_pos (Or.inr rfl), if_neg p3]
    exact ⟨υ, rfl, p1, p4, p5⟩
