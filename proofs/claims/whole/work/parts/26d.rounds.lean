/-! rounds in which nobody misses; rounds, said, sheet -/
def rdN (g : pG) (x : pS) : Nat → pS
  | 0 => x
  | k + 1 => nx g (rdN g x k) 0
def whN (g : pG) (x : pS) : Nat → Nat
  | 0 => 0
  | k + 1 => whN g x k ||| drN g (rdN g x k) 0 (gN g)
def cnN (g : pG) (x : pS) : Nat → Nat
  | 0 => 0
  | k + 1 => cnN g x k + pcn (drN g (rdN g x k) 0 (gN g))
theorem rdN_VS {g : pG} {x : pS} {B : Nat} (hg : GV g) (h : VS (gN g) B x) : ∀ k, VS (gN g) (B + k) (rdN g x k)
  | 0 => h
  | k + 1 => nx_VS hg (rdN_VS hg h k) (Nat.two_pow_pos _)
theorem q_ringAll {g : pG} {x : pS} {k m B : Nat} {σ : en_M} (hg : GV g) (hc : CG σ g) (hx : CS σ k x) (hv : VS (gN g) B x) (hB : B + m < 1000000000) (hm : m < 1000) (hn0 : 0 < gN g) (hk : 14 < k) (hk2 : k + 4 < 25) :
    ∃ σ', O_X11_ringAll [.inr (0, 11, 0, 0), .inr (k, 7, 0, 0), .inl (Int32.ofNat m)] σ = some (Int32.ofNat (whN g x m), σ') ∧ CS σ' k (rdN g x m) ∧ CG σ' g ∧ ∀ c, c < k ∨ k + 5 ≤ c → c ≠ 13 → c ≠ 14 → σ' c = σ c := by
  rw [o_X11_ringAll, t_X11_ringAll_0]
  refine pl_for1 (F := fun f i (q : Int32 × en_M) => T_X11_ringAll_5 f k (Int32.ofNat m) q.1 (Int32.ofNat i) q.2) (P := fun i q => i ≤ m ∧ q.1 = Int32.ofNat (whN g x i) ∧ CS q.2 k (rdN g x i) ∧ CG q.2 g ∧ ∀ c, c < k ∨ k + 5 ≤ c → c ≠ 13 → c ≠ 14 → q.2 c = σ c)
    (Q := fun r => ∃ σ', en_oi r = some (Int32.ofNat (whN g x m), σ') ∧ CS σ' k (rdN g x m) ∧ CG σ' g ∧ ∀ c, c < k ∨ k + 5 ≤ c → c ≠ 13 → c ≠ 14 → σ' c = σ c) (N := m) ?_ ?_ m 0 en_FU (0, σ) (by omega) (pl_FU (by omega)) ⟨Nat.zero_le _, rfl, hx, hc, fun _ _ _ _ => rfl⟩
  · rintro f i ⟨a, τ⟩ hi ⟨_, p1, p2, p3, p4⟩
    dsimp only at p1 p2 p3 p4
    subst p1
    have hV := rdN_VS hg hv i
    obtain ⟨τ', e1, e2, e3, e4⟩ := q_ring hg p3 p2 hV (by omega) hn0 (Nat.two_pow_pos (gN g)) hk hk2
    refine Or.inl ⟨(Int32.ofNat (whN g x (i + 1)), τ'), ?_, by omega, rfl, e2, p3.kept (e4 5 (by omega) (by omega) (by omega) (by omega) (by omega) (by omega) (by omega)) (e4 6 (by omega) (by omega) (by omega) (by omega) (by omega) (by omega) (by omega)) (e4 7 (by omega) (by omega) (by omega) (by omega) (by omega) (by omega) (by omega)) (e4 8 (by omega) (by omega) (by omega) (by omega) (by omega) (by omega) (by omega)) (by show τ' 10 4 = τ 10 4; rw [e4 10 (by omega) (by omega) (by omega) (by omega) (by omega) (by omega) (by omega)]) (e4 11 (by omega) (by omega) (by omega) (by omega) (by omega) (by omega) (by omega)), fun c h1 h2 h3 => ?_⟩
    · show T_X11_ringAll_5 (f + 1) _ _ _ _ τ = _
      have e1' : O_X10_ring [.inr (5, 10, 0, 0), .inr (k, 7, 0, 0), .inl (0 : Int32)] τ = _ := e1
      rw [t_X11_ringAll_5, if_pos ((pn_lt (by omega) (by omega)).mpr hi), e1', Option.bind_some]
      dsimp only
      rw [e3, pn_or, pn_a1]; rfl
    · show τ' c = σ c
      rw [e4 c (by omega) (by omega) (by omega) (by omega) (by omega) h2 h3]; exact p4 c h1 h2 h3
  · rintro f ⟨a, τ⟩ ⟨_, p1, p2, p3, p4⟩
    dsimp only at p1 p2 p3 p4
    subst p1
    show ∃ σ', en_oi (T_X11_ringAll_5 (f + 1) _ _ _ _ τ) = _ ∧ _
    rw [t_X11_ringAll_5, if_neg (by rw [pn_lt (by omega) (by omega)]; omega)]
    exact ⟨τ, rfl, p2, p3, p4⟩
/-- what rounds leave of the reference's memory -/
def MFs (k : Nat) (σ σ' : en_M) : Prop := (∀ c, c ≠ 185 → c ≠ 193 → c ≠ k → σ' c = σ c) ∧ ∀ j, j < 12 ∨ 16 < j → j ≠ 20 → j ≠ 25 → j ≠ 26 → j ≠ 27 → j ≠ 28 → σ' 185 j = σ 185 j
theorem MG.frs {k : Nat} {σ σ' : en_M} {g : pG} (h : MG σ g) (hf : MFs k σ σ') (hk : k = 186 ∨ k = 198) : MG σ' g :=
  h.keep (fun j hj => hf.2 j (by omega) (by omega) (by omega) (by omega) (by omega) (by omega)) (hf.1 187 (by omega) (by omega) (by omega)) (hf.1 188 (by omega) (by omega) (by omega)) (hf.1 192 (by omega) (by omega) (by omega))
theorem pcn128 {a : Nat} (ha : a < 128) : pbc (Int32.ofNat a) = Int32.ofNat (pcn a) := pbc_n ha
theorem drN128 {g : pG} (hg : GV g) (x : pS) (s : Nat) : drN g x s (gN g) < 128 := Nat.lt_of_lt_of_le (drN_lt g x s (gN g)) (p2lt hg.1)
theorem r_goRounds {g : pG} {x : pS} {k m B : Nat} {σ : en_M} (hg : GV g) (hc : MG σ g) (hM : MSr (gN g) (σ k) x) (hv : VS (gN g) B x) (hB : B + m < 1000000000) (hm : m < 1000) (hn0 : 0 < gN g) (hk : k = 186 ∨ k = 198) :
    ∃ σ', O_X12_goRounds [.inr (185, 12, 0, 0), .inr (k, 20, 53, 0), .inl (Int32.ofNat m)] σ = some σ' ∧ MSr (gN g) (σ' k) (rdN g x m) ∧ MG σ' g ∧ σ' 185 27 = σ 185 27 + Int32.ofNat (cnN g x m) ∧ σ' 185 28 = σ 185 28 ||| Int32.ofNat (whN g x m) ∧ MFs k σ σ' := by
  rw [o_X12_goRounds, t_X12_goRounds_0]
  refine pl_for1 (F := fun f i (q : en_M) => T_X12_goRounds_2 f k (Int32.ofNat m) (Int32.ofNat i) q) (P := fun i q => MSr (gN g) (q k) (rdN g x i) ∧ MG q g ∧ q 185 27 = σ 185 27 + Int32.ofNat (cnN g x i) ∧ q 185 28 = σ 185 28 ||| Int32.ofNat (whN g x i) ∧ MFs k σ q)
    (Q := fun r => ∃ σ', en_ov r = some σ' ∧ MSr (gN g) (σ' k) (rdN g x m) ∧ MG σ' g ∧ σ' 185 27 = σ 185 27 + Int32.ofNat (cnN g x m) ∧ σ' 185 28 = σ 185 28 ||| Int32.ofNat (whN g x m) ∧ MFs k σ σ') (N := m) ?_ ?_ m 0 en_FU σ (by omega) (pl_FU (by omega)) ⟨hM, hc, (Int32.add_zero _).symm, (Int32.or_zero).symm, fun _ _ _ _ => rfl, fun _ _ _ _ _ _ _ => rfl⟩
  · rintro f i τ hi ⟨p1, p2, p3, p4, p5⟩
    have hV := rdN_VS hg hv i
    obtain ⟨τ1, e1, e2, e3, e4, e5⟩ := r_goRound hg p2 p1 hV (by omega) hn0 (Nat.two_pow_pos (gN g)) hk
    have hd := drN128 hg (rdN g x i) 0
    refine Or.inl ⟨en_up (en_up τ1 185 27 (σ 185 27 + Int32.ofNat (cnN g x (i + 1)))) 185 28 (σ 185 28 ||| Int32.ofNat (whN g x (i + 1))), ?_, ?_, ?_, ?_, pu_same _ _ _ _, fun c h1 h2 h3 => ?_, fun j h1 h2 h3 h4 h5 h6 => ?_⟩
    · show T_X12_goRounds_2 (f + 1) _ _ _ τ = _
      have e1' : O_X12_goRound [.inr (185, 12, 0, 0), .inr (k, 20, 53, 0), .inl (0 : Int32)] τ = _ := e1
      rw [t_X12_goRounds_2, if_pos ((pn_lt (by omega) (by omega)).mpr hi), e1', Option.bind_some, e4, q_bitCount, Option.bind_some]
      dsimp only
      rw [e4, e5.2 27 (by omega) (by omega) (by omega) (by omega), e5.2 28 (by omega) (by omega) (by omega) (by omega), p3, p4, pcn128 hd, Int32.add_assoc, pn_add, Int32.or_assoc, pn_or, pn_a1]; rfl
    · rw [pu_row (by omega), pu_row (by omega)]; exact e2
    · exact (p2.fr e5 hk).keep (fun j hj => by rw [pu_slot (by omega), pu_slot (by omega)]) (by rw [pu_row (by omega), pu_row (by omega)]) (by rw [pu_row (by omega), pu_row (by omega)]) (by rw [pu_row (by omega), pu_row (by omega)])
    · rw [pu_slot (by omega), pu_same]
    · rw [pu_row h1, pu_row h1, e5.1 c h1 h2 h3]; exact p5.1 c h1 h2 h3
    · rw [pu_slot h6, pu_slot h5, e5.2 j h1 h2 h3 h4]; exact p5.2 j h1 h2 h3 h4 h5 h6
  · rintro f τ ⟨p1, p2, p3, p4, p5⟩
    show ∃ σ', en_ov (T_X12_goRounds_2 (f + 1) _ _ _ τ) = some σ' ∧ _
    rw [t_X12_goRounds_2, if_neg (by rw [pn_lt (by omega) (by omega)]; omega)]
    exact ⟨τ, rfl, p1, p2, p3, p4, p5⟩
theorem pcn_or {i a : Nat} (hi : i < 7) (ha : a < 2 ^ i) : pcn (a ||| 2 ^ i) = pcn a + 1 := (by decide +kernel : ∀ i < 7, ∀ a < 2 ^ i, pcn (a ||| 2 ^ i) = pcn a + 1) i hi a ha
/-- drifts in all grow by how many drifted -/
theorem sum_nxR {g : pG} (x : pS) (s : Nat) : ∀ i, i ≤ 7 → smN (nxR g x s) i = smN (sR x) i + Int32.ofNat (pcn (drN g x s i))
  | 0, _ => by show (0 : Int32) = 0 + Int32.ofNat (pcn 0); decide
  | i + 1, h => by
    have ih := sum_nxR x s (g := g) i (by omega)
    have hl := drN_lt g x s i
    show smN (nxR g x s) i + nxR g x s i = smN (sR x) i + sR x i + _
    rw [ih, drN_s]
    unfold nxR
    by_cases c : ¬ s.testBit i = true ∧ 99 < tiv g x s i
    · rw [if_pos c, if_pos c, pcn_or (by omega) hl, ← pn_add]
      rw [Int32.add_assoc, Int32.add_assoc]
      show _ = smN (sR x) i + (sR x i + (Int32.ofNat (pcn (drN g x s i)) + 1))
      rw [← Int32.add_assoc (Int32.ofNat (pcn (drN g x s i))) (sR x i) 1, Int32.add_comm (Int32.ofNat (pcn (drN g x s i))) (sR x i), Int32.add_assoc]
    · rw [if_neg c, if_neg c, Nat.or_zero, Int32.add_assoc, Int32.add_assoc, Int32.add_comm (sR x i)]
theorem sum_nx {g : pG} {x : pS} {s : Nat} (hg : GV g) : smN (sR (nx g x s)) (gN g) = smN (sR x) (gN g) + Int32.ofNat (pcn (drN g x s (gN g))) := by
  rw [← sum_nxR x s (gN g) hg.1]
  exact smN_congr _ (fun r hr => if_pos hr)
theorem sum_rdN {g : pG} {x : pS} (hg : GV g) : ∀ m, smN (sR (rdN g x m)) (gN g) = smN (sR x) (gN g) + Int32.ofNat (cnN g x m)
  | 0 => (Int32.add_zero _).symm
  | m + 1 => by
    show smN (sR (nx g (rdN g x m) 0)) (gN g) = _
    rw [sum_nx hg, sum_rdN hg m, Int32.add_assoc, pn_add]; rfl
theorem VS.sum {n B : Nat} {x : pS} (h : VS n B x) (hn : n ≤ 7) : smN (sR x) 7 = smN (sR x) n := smN_ge (fun r a b => (h.2.2.2.2.2 r a b).2.2) 7 hn (by omega)
theorem q_sumR {σ : en_M} {k : Nat} {x : pS} (h : CS σ k x) : O_X11_sum [.inr (k + 3, 20, 7, 0)] σ = some (smN (sR x) 7, σ) := by
  rw [q_sum, smN_congr 7 (fun r hr => (h.2.2.2.2.2.1 r hr).2.2)]
theorem p_rounds : en_st_rounds pInv := by
  intro c v hc
  refine p_two hc (fun A σ0 hA hB => ?_)
  obtain ⟨g, t, ro, x, us, kp⟩ := A
  have hl : us.length ≤ 12 := hA.2.2.2.2.2.2.2.2.1
  have hn : gN g ≤ 7 := hA.1.1
  have same : ∀ w : Int32, (CI σ0 (g, t, ro, x, us, kp) → O_X11_rounds [.inr (0, 11, 0, 0), .inl v] σ0 = some (w, σ0)) → (∀ τ, MI τ (g, t, ro, x, us, kp) → O_X12_rounds [.inr (185, 12, 0, 0), .inl v] τ = some (w, en_up τ 185 11 0)) → ∃ v' A', (CI σ0 (g, t, ro, x, us, kp) → ∃ σ', O_X11_rounds [.inr (0, 11, 0, 0), .inl v] σ0 = some (v', σ') ∧ CI σ' A' ∧ FrC σ0 σ') ∧ (∀ τ, MI τ (g, t, ro, x, us, kp) → ∃ τ', O_X12_rounds [.inr (185, 12, 0, 0), .inl v] τ = some (v', τ') ∧ MI τ' A' ∧ FrM τ τ') ∧ AV (2000 * (c + 1)) A' :=
    fun w h1 h2 => ⟨w, _, fun hC => ⟨σ0, h1 hC, hC, FrC.refl _⟩, fun τ hM => ⟨_, h2 τ hM, hM.slot 11 0 (by omega), FrM.up (by omega) (by omega)⟩, hA.mono (by omega)⟩
  by_cases hz : gN g = 0
  · refine same (-2) (fun hC => ?_) (fun τ hM => ?_)
    · rw [o_X11_rounds, t_X11_rounds_0, show σ0 5 3 = Int32.ofNat (gN g) from hC.1.1, hz, if_pos (by decide)]; rfl
    · rw [o_X12_rounds, t_X12_rounds_0, show τ 185 1 = Int32.ofNat (gN g) from hM.1.1, hz, if_pos (by decide)]; rfl
  have nz : ¬ Int32.ofNat (gN g) = 0 := by rw [pn_eq0 (by omega)]; exact hz
  by_cases hv : isR 61 v
  · obtain ⟨m, hm, rfl⟩ := hv
    have hVS : VS (gN g) (2000 * c) x := hA.2.2.2.2.2.2.2.1
    have hgv : GV g := hA.1
    have hVm : VS (gN g) (2000 * c + m) (rdN g x m) := rdN_VS hgv hVS m
    -- what can be undone, then
    have hu : ∃ us', us'.length ≤ 12 ∧ (∀ i, i < us'.length → VS (gN g) (2000 * c) (us'.getD i x0)) ∧ us' = (if m = 0 then us else pushU us x) := by
      by_cases h0 : m = 0
      · exact ⟨us, hl, fun i hi => hA.2.2.2.2.2.2.2.2.2.1 i hi, by rw [if_pos h0]⟩
      · exact ⟨pushU us x, (pushU_len hl x).1, push_VS hl (fun i hi => hA.2.2.2.2.2.2.2.2.2.1 i hi) hVS, by rw [if_neg h0]⟩
    obtain ⟨us', ul, uv, ue⟩ := hu
    refine ⟨Int32.ofNat (cnN g x m), (g, t, [Int32.ofNat (whN g x m), Int32.ofNat (sN (rdN g x m))], rdN g x m, us', kp), fun hC => ?_, fun τ hM => ?_, (hA.row (ro' := [Int32.ofNat (whN g x m), Int32.ofNat (sN (rdN g x m))]) (by simp)).live (by omega) (hVm.mono (by omega)) ul (fun i hi => (uv i hi).mono (by omega)) (fun i hi hk => (hA.2.2.2.2.2.2.2.2.2.2 i hi hk).mono (by omega))⟩
    · have key : ∀ σ1, CI σ1 (g, t, ro, x, us', kp) → ∃ σ', ((O_X11_sum [.inr (18, 20, 7, 0)] σ1).bind fun r1 => (O_X11_ringAll [.inr (0, 11, 0, 0), .inr (15, 7, 0, 0), .inl (Int32.ofNat m)] r1.2).bind fun r2 => (O_X9_begin [.inr (3, 9, 0, 0)] r2.2).bind fun r3 => (O_X9_add [.inr (3, 9, 0, 0), .inl r2.1] r3).bind fun r4 => (O_X9_add [.inr (3, 9, 0, 0), .inl (r4 15 5)] r4).bind fun r5 => (O_X11_sum [.inr (18, 20, 7, 0)] r5).bind fun r6 => en_ri (r6.1 - r1.1) r6.2) = en_ri (Int32.ofNat (cnN g x m)) σ' ∧ CI σ' (g, t, [Int32.ofNat (whN g x m), Int32.ofNat (sN (rdN g x m))], rdN g x m, us', kp) ∧ FrC σ1 σ' := by
        intro σ1 h1
        obtain ⟨σ2, f1, f2, f3, f4⟩ := q_ringAll (g := g) (x := x) (k := 15) (m := m) hA.1 h1.1 h1.2.2.2.1 hVS (by omega) (by omega) (Nat.pos_of_ne_zero hz) (by omega) (by omega)
        have h2 : CI σ2 (g, t, ro, rdN g x m, us', kp) := h1.set f2 (h1.2.2.2.2.1.fr (fun c a b => f4 c (by omega) (by omega) (by omega))) (h1.2.2.2.2.2.fr (fun c a b => f4 c (by omega) (by omega) (by omega))) (fun c hc => f4 c (by omega) (by omega) (by omega))
        obtain ⟨σ3, g1, g2, g3⟩ := h2.begin.add (by simp) (Int32.ofNat (whN g x m))
        obtain ⟨σ4, k1, k2, k3⟩ := g2.add (by simp) (Int32.ofNat (sN (rdN g x m)))
        have s1 : O_X11_sum [.inr (18, 20, 7, 0)] σ1 = some (smN (sR x) 7, σ1) := q_sumR (k := 15) h1.2.2.2.1
        have s4 : O_X11_sum [.inr (18, 20, 7, 0)] σ4 = some (smN (sR (rdN g x m)) 7, σ4) := q_sumR (k := 15) k2.2.2.2.1
        refine ⟨σ4, ?_, k2, fun c hc => by rw [k3 c (by omega) (by omega), g3 c (by omega) (by omega), pu_row (by omega), f4 c (by omega) (by omega) (by omega)]⟩
        rw [s1, Option.bind_some, f1, Option.bind_some]
        dsimp only
        rw [q_tbegin, Option.bind_some, g1, Option.bind_some, show σ3 15 5 = Int32.ofNat (sN (rdN g x m)) from g2.2.2.2.1.2.1, k1, Option.bind_some, s4, Option.bind_some]
        dsimp only
        rw [hVS.sum hn, hVm.sum hn, sum_rdN hgv m, Int32.add_comm, Int32.add_sub_cancel]
      have v60 : ¬ (60 : Int32) < Int32.ofNat m := fun q => by have := (pn_lt (a := 60) (by omega) (by omega)).mp q; omega
      by_cases h0 : m = 0
      · obtain ⟨σ', e1, e2, e3⟩ := key σ0 (by rw [ue, if_pos h0]; exact hC)
        refine ⟨σ', ?_, e2, e3⟩
        rw [o_X11_rounds, t_X11_rounds_0, show σ0 5 3 = Int32.ofNat (gN g) from hC.1.1, if_neg nz, if_neg (pn_nlt0 (by omega)), if_neg v60, if_neg (show ¬ (0 : Int32) < Int32.ofNat m by rw [h0]; decide), e1]; rfl
      · obtain ⟨σ1, p1, p2, p3⟩ := q_push hC.2.2.2.2.1 hC.2.2.2.1 hl
        have hC1 : CI σ1 (g, t, ro, x, pushU us x, kp) := hC.set (CS.all hC.2.2.2.1 (fun j hj => p3 _ (by omega) (by omega))) p2 (hC.2.2.2.2.2.fr (fun c h1 h2 => p3 c (by omega) (by omega))) (fun c hc => p3 c (by omega) (by omega))
        obtain ⟨σ', e1, e2, e3⟩ := key σ1 (by rw [ue, if_neg h0]; exact hC1)
        refine ⟨σ', ?_, e2, fun c hc => by rw [e3 c hc, p3 c (by omega) (by omega)]⟩
        rw [o_X11_rounds, t_X11_rounds_0, show σ0 5 3 = Int32.ofNat (gN g) from hC.1.1, if_neg nz, if_neg (pn_nlt0 (by omega)), if_neg v60, if_pos (show (0 : Int32) < Int32.ofNat m from (pn_lt (a := 0) (by omega) (by omega)).mpr (by omega)), p1, Option.bind_some, e1]; rfl
    · have hM2 := hM.slot 11 0 (by omega)
      have key : ∀ τ1, MI τ1 (g, t, ro, x, us', kp) → ∃ τ', ((O_X12_goRounds [.inr (185, 12, 0, 0), .inr (186, 20, 53, 0), .inl (Int32.ofNat m)] (en_up (en_up τ1 185 27 0) 185 28 0)).bind fun r2 => (O_X12_tell [.inr (185, 12, 0, 0), .inl (r2 185 28)] (en_up r2 185 10 0)).bind fun r3 => (en_ix 28 53).bind fun j4 => (O_X12_tell [.inr (185, 12, 0, 0), .inl (r3 186 j4)] r3).bind fun r5 => en_ri (r5 185 27) r5) = en_ri (Int32.ofNat (cnN g x m)) τ' ∧ MI τ' (g, t, [Int32.ofNat (whN g x m), Int32.ofNat (sN (rdN g x m))], rdN g x m, us', kp) ∧ FrM τ1 τ' := by
        intro τ1 h1
        have h1' : MI (en_up (en_up τ1 185 27 0) 185 28 0) (g, t, ro, x, us', kp) := (h1.slot 27 0 (by omega)).slot 28 0 (by omega)
        obtain ⟨τ2, f1, f2, f3, f4, f5, f6⟩ := r_goRounds (g := g) (x := x) (k := 186) (m := m) hA.1 h1'.1 h1'.2.2.2.1 hVS (by omega) (by omega) (Nat.pos_of_ne_zero hz) (Or.inl rfl)
        have h2 : MI τ2 (g, t, ro, rdN g x m, us', kp) := h1'.set f2 (h1'.2.2.2.2.1.fr (f6.2 23 (by omega) (by omega) (by omega) (by omega) (by omega) (by omega)) (f6.1 194 (by omega) (by omega) (by omega))) (h1'.2.2.2.2.2.fr (f6.1 208 (by omega) (by omega) (by omega)) (f6.1 207 (by omega) (by omega) (by omega))) (fun j hj => f6.2 j (by omega) (by omega) (by omega) (by omega) (by omega) (by omega)) (fun c hc => f6.1 c (by omega) (by omega) (by omega))
        have w27 : τ2 185 27 = Int32.ofNat (cnN g x m) := by rw [f4, pu_slot (by omega), pu_same, Int32.zero_add]
        have w28 : τ2 185 28 = Int32.ofNat (whN g x m) := by rw [f5, pu_same, Int32.zero_or]
        obtain ⟨τ3, g1, g2, g3, g4⟩ := h2.begin.add (by simp) (Int32.ofNat (whN g x m))
        obtain ⟨τ4, k1, k2, k3, k4⟩ := g2.add (by simp) (Int32.ofNat (sN (rdN g x m)))
        refine ⟨τ4, ?_, k2, fun c hc => by rw [k3 c (by omega) (by omega), g3 c (by omega) (by omega), pu_row (by omega), f6.1 c (by omega) (by omega) (by omega), pu_row (by omega), pu_row (by omega)]⟩
        rw [f1, Option.bind_some, w28, g1, Option.bind_some, show en_ix 28 53 = some 28 from pn_ix (k := 28) (by omega) (by omega), Option.bind_some, show τ3 186 28 = Int32.ofNat (sN (rdN g x m)) from g2.2.2.2.1.2.2.1, k1, Option.bind_some, k4 27 (by omega), g4 27 (by omega), pu_slot (by omega), w27]
      have hin : ¬ (pb2 (¬ Int32.ofNat m < 0 ∧ ¬ (60 : Int32) < Int32.ofNat m), en_up τ 185 11 0).1 = 0 := by
        dsimp only
        rw [pb2_0]
        exact fun q => q ⟨pn_nlt0 (by omega), fun q => by have := (pn_lt (a := 60) (by omega) (by omega)).mp q; omega⟩
      by_cases h0 : m = 0
      · obtain ⟨τ', e1, e2, e3⟩ := key (en_up τ 185 11 0) (by rw [ue, if_pos h0]; exact hM2)
        refine ⟨τ', ?_, e2, fun c hc => by rw [e3 c hc, pu_row (by omega)]⟩
        rw [o_X12_rounds, t_X12_rounds_0, show τ 185 1 = Int32.ofNat (gN g) from hM.1.1, if_neg nz, q_in, Option.bind_some, if_neg hin, if_neg (show ¬ (0 : Int32) < Int32.ofNat m by rw [h0]; decide), e1]; rfl
      · obtain ⟨τ1, p1, p2, p3, p4⟩ := r_remember (k := 186) hn (Or.inl rfl) hM2.2.2.2.2.1 hM2.2.2.2.1 hl
        have hM3 : MI τ1 (g, t, ro, x, pushU us x, kp) := hM2.set (by rw [p3 186 (by omega) (by omega)]; exact hM2.2.2.2.1) p2 (hM2.2.2.2.2.2.fr (p3 208 (by omega) (by omega)) (p3 207 (by omega) (by omega))) (fun j hj => p4 j (by omega)) (fun c hc => p3 c (by omega) (by omega))
        obtain ⟨τ', e1, e2, e3⟩ := key τ1 (by rw [ue, if_neg h0]; exact hM3)
        refine ⟨τ', ?_, e2, fun c hc => by rw [e3 c hc, p3 c (by omega) (by omega), pu_row (by omega)]⟩
        rw [o_X12_rounds, t_X12_rounds_0, show τ 185 1 = Int32.ofNat (gN g) from hM.1.1, if_neg nz, q_in, Option.bind_some, if_neg hin, if_pos (show (0 : Int32) < Int32.ofNat m from (pn_lt (a := 0) (by omega) (by omega)).mpr (by omega)), p1, Option.bind_some, e1]; rfl
  · refine same (-1) (fun hC => ?_) (fun τ hM => ?_)
    · rw [o_X11_rounds, t_X11_rounds_0, show σ0 5 3 = Int32.ofNat (gN g) from hC.1.1, if_neg nz]
      by_cases v0 : v < 0
      · rw [if_pos v0]; rfl
      · rw [if_neg v0, if_pos (show (60 : Int32) < v from Classical.byContradiction fun q => hv ((isR_iff2 (n := 61) (by omega) v).mpr ⟨v0, q⟩))]; rfl
    · rw [o_X12_rounds, t_X12_rounds_0, show τ 185 1 = Int32.ofNat (gN g) from hM.1.1, if_neg nz, q_in, Option.bind_some]
      rw [if_pos (by dsimp only; rw [pb2_0]; exact fun q => hv ((isR_iff2 (n := 61) (by omega) v).mpr q))]; rfl
