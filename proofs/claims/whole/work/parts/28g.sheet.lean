/-! sheet -/
def shV (k e f s : Int32) (r : Nat) : Int32 := if k = 3 then 0 else if Int32.ofNat r < e then pclamp (pnarrow k (f + Int32.ofNat r * s)) else 0
def shT (k e f s : Int32) (n : Nat) (x : pS) (i r : Nat) : Int32 := if r < i then shV k e f s r else sT x r
def shS (k e f s : Int32) (n : Nat) (x : pS) : pS := (sF x, sN x, sD x, sW x, sP x, shT k e f s n x n, sS x, sR x, sM x)
theorem sh_step (f s : Int32) (i : Nat) : f + Int32.ofNat i * s + s = f + Int32.ofNat (i + 1) * s := by
  rw [← pn_a1, Int32.add_mul, Int32.one_mul, Int32.add_assoc]
theorem p_sheet : en_st_sheet pInv := by
  intro c k e fi st hc
  refine p_two hc (fun A σ0 hA hB => ?_)
  obtain ⟨g, t, ro, x, us, kp⟩ := A
  have hgv : GV g := hA.1
  have hn : gN g ≤ 7 := hgv.1
  have hVS : VS (gN g) (2000 * c) x := hA.2.2.2.2.2.2.2.1
  by_cases h1 : k < 0 ∨ 3 < k ∨ 7 < e
  · refine p_no hA (-1) (fun hC => ?_) (fun τ hM => ?_)
    · rw [o_X11_sheet, t_X11_sheet_0]
      by_cases c1 : k < 0
      · rw [if_pos c1]; rfl
      rw [if_neg c1]
      by_cases c2 : 3 < k
      · rw [if_pos c2]; rfl
      rw [if_neg c2, if_pos (show 7 < e by rcases h1 with h | h | h <;> first | exact h | exact absurd h c1 | exact absurd h c2)]; rfl
    · rw [o_X12_sheet, t_X12_sheet_0, q_in, Option.bind_some]
      dsimp only
      rw [pi_if (pb2_0 _)]
      by_cases c2 : ¬ (¬ k < 0 ∧ ¬ 3 < k)
      · rw [if_pos c2]; rfl
      have c2 := Classical.not_not.mp c2
      rw [if_neg (fun q => q c2), if_pos (show 7 < e by rcases h1 with h | h | h <;> first | exact h | exact absurd h c2.1 | exact absurd h c2.2)]; rfl
  have k1 : ¬ k < 0 := fun q => h1 (Or.inl q)
  have k2 : ¬ 3 < k := fun q => h1 (Or.inr (Or.inl q))
  have k3 : ¬ 7 < e := fun q => h1 (Or.inr (Or.inr q))
  by_cases h2 : k < 3 ∧ e < 0
  · refine p_no hA (-2) (fun hC => ?_) (fun τ hM => ?_)
    · rw [o_X11_sheet, t_X11_sheet_0, if_neg k1, if_neg k2, if_neg k3, if_pos h2.1, if_pos h2.2]; rfl
    · rw [o_X12_sheet, t_X12_sheet_0, q_in, Option.bind_some, if_neg (by dsimp only; rw [pb2_0]; exact fun q => q ⟨k1, k2⟩), if_neg k3, if_pos h2.1, if_pos h2.2]; rfl
  have hV' : VS (gN g) (2000 * c) (shS k e fi st (gN g) x) := by
    obtain ⟨a1, a2, a3, a4, a5, a6⟩ := hVS
    refine ⟨a1, a2, a3, a4, a5, fun r hr h7 => ⟨?_, (a6 r hr h7).2⟩⟩
    show (if r < gN g then shV k e fi st r else sT x r) = 0
    rw [if_neg (by omega)]; exact (a6 r hr h7).1
  have hsum : smN (shT k e fi st (gN g) x (gN g)) 7 = smN (shV k e fi st) (gN g) := by
    rw [smN_ge (T := shT k e fi st (gN g) x (gN g)) (n := gN g) (fun r hr h7 => (hV'.2.2.2.2.2 r hr h7).1) 7 hn (by omega)]
    exact smN_congr _ (fun r hr => if_pos hr)
  refine ⟨if k = 3 then -3 else smN (shV k e fi st) (gN g), (g, t, ro, shS k e fi st (gN g) x, us, kp), fun hC => ?_, fun τ hM => ?_, hA.live (by omega) (hV'.mono (by omega)) hA.2.2.2.2.2.2.2.2.1 (fun i hi => (hA.2.2.2.2.2.2.2.2.2.1 i hi).mono (by omega)) (fun i hi hk => (hA.2.2.2.2.2.2.2.2.2.2 i hi hk).mono (by omega))⟩
  · have key : ∀ e' : Int32, e' = (if k = 3 then 0 else e) → ∃ σ', en_oi (T_X11_sheet_44 en_FU k e fi st e' 0 σ0) = some (if k = 3 then -3 else smN (shV k e fi st) (gN g), σ') ∧ CI σ' (g, t, ro, shS k e fi st (gN g) x, us, kp) ∧ FrC σ0 σ' := by
      intro e' he
      refine pl_for1 (F := fun f i (q : en_M) => T_X11_sheet_44 f k e fi st e' (Int32.ofNat i) q) (P := fun i q => (∀ r, r < 7 → q 16 r = shT k e fi st (gN g) x i r) ∧ ∀ c, c ≠ 16 → q c = σ0 c) (Q := fun r => ∃ σ', en_oi r = some (if k = 3 then -3 else smN (shV k e fi st) (gN g), σ') ∧ CI σ' (g, t, ro, shS k e fi st (gN g) x, us, kp) ∧ FrC σ0 σ') (N := gN g) ?_ ?_ (gN g) 0 en_FU σ0 (by omega) (pl_FU (by omega)) ⟨fun r hr => by unfold shT; rw [if_neg (by omega)]; exact (hC.2.2.2.1.2.2.2.2.2.1 r hr).1, fun _ _ => rfl⟩
      · rintro f i σ hi ⟨p1, p2⟩
        have h53 : σ 5 3 = Int32.ofNat (gN g) := by rw [p2 5 (by omega)]; exact hC.1.1
        refine Or.inl ⟨en_up σ 16 i (shV k e fi st i), ?_, fun r hr => ?_, fun c hc => by rw [pu_row hc, p2 c hc]⟩
        · show T_X11_sheet_44 (f + 1) _ _ _ _ _ _ σ = _
          rw [t_X11_sheet_44, h53, if_pos ((pn_lt (by omega) (by omega)).mpr hi), q_narrowed, Option.bind_some]
          dsimp only
          rw [q_put, Option.bind_some, pn_ix (by omega) (by omega), Option.bind_some, Option.bind_some, pn_a1]
          unfold shV
          by_cases c3 : k = 3
          · rw [if_pos c3] at he
            rw [he, if_neg (pn_nlt0 (by omega)), if_pos c3]
          · rw [if_neg c3] at he
            rw [he, if_neg c3]
            by_cases c4 : Int32.ofNat i < e
            · rw [if_pos c4, if_pos c4]
            · rw [if_neg c4, if_neg c4]
        · rw [pu_at]
          unfold shT
          by_cases e1 : r = i
          · rw [if_pos e1, if_pos (by omega), e1]
          · rw [if_neg e1, p1 r hr]
            unfold shT
            by_cases e2 : r < i
            · rw [if_pos e2, if_pos (by omega)]
            · rw [if_neg e2, if_neg (by omega)]
      · rintro f σ ⟨p1, p2⟩
        have h53 : σ 5 3 = Int32.ofNat (gN g) := by rw [p2 5 (by omega)]; exact hC.1.1
        obtain ⟨a1, a2, a3, a4, a5, a6, a7⟩ := id hC.2.2.2.1
        have hCS : CS σ 15 (shS k e fi st (gN g) x) := by
          refine ⟨by rw [p2 15 (by omega)]; exact a1, by rw [p2 15 (by omega)]; exact a2, by rw [p2 15 (by omega)]; exact a3, by rw [p2 15 (by omega)]; exact a4, by rw [p2 15 (by omega)]; exact a5, fun r hr => ⟨p1 r hr, ?_, ?_⟩, fun j hj hj2 => ?_⟩
          · rw [p2 (15 + 2) (by omega)]; exact (a6 r hr).2.1
          · rw [p2 (15 + 3) (by omega)]; exact (a6 r hr).2.2
          · rw [p2 (15 + 4) (by omega)]; exact a7 j hj hj2
        have hC' : CI σ (g, t, ro, shS k e fi st (gN g) x, us, kp) := hC.set hCS (hC.2.2.2.2.1.fr (fun c a b => p2 c (by omega))) (hC.2.2.2.2.2.fr (fun c a b => p2 c (by omega))) (fun c hc => p2 c (by omega))
        show ∃ σ', en_oi (T_X11_sheet_44 (f + 1) _ _ _ _ _ _ σ) = _ ∧ _
        rw [t_X11_sheet_44, h53, if_neg (by rw [pn_lt (by omega) (by omega)]; omega)]
        by_cases c3 : k = 3
        · rw [if_pos c3, if_pos c3]
          exact ⟨σ, rfl, hC', fun c hc => p2 c (by omega)⟩
        · rw [if_neg c3, if_neg c3, q_sum, Option.bind_some, smN_congr 7 p1, hsum]
          exact ⟨σ, rfl, hC', fun c hc => p2 c (by omega)⟩
    rw [o_X11_sheet, t_X11_sheet_0, if_neg k1, if_neg k2, if_neg k3]
    by_cases c5 : k < 3
    · rw [if_pos c5, if_neg (fun q => h2 ⟨c5, q⟩)]
      by_cases c3 : k = 3
      · rw [if_pos c3]; exact key 0 (by rw [if_pos c3])
      · rw [if_neg c3]; exact key e (by rw [if_neg c3])
    · rw [if_neg c5]
      by_cases c3 : k = 3
      · rw [if_pos c3]; exact key 0 (by rw [if_pos c3])
      · rw [if_neg c3]; exact key e (by rw [if_neg c3])
  · have hM2 := hM.slot 11 0 (by omega)
    have hfr : FrM τ (en_up τ 185 11 0) := FrM.up (by omega) (by omega)
    rw [o_X12_sheet, t_X12_sheet_0, q_in, Option.bind_some, if_neg (by dsimp only; rw [pb2_0]; exact fun q => q ⟨k1, k2⟩), if_neg k3]
    dsimp only
    generalize en_up τ 185 11 0 = τ0 at hM2 hfr ⊢
    have key : ∃ τ', en_oi (T_X12_sheet_43 en_FU k e fi st 0 fi 0 en_un τ0) = some (if k = 3 then -3 else smN (shV k e fi st) (gN g), τ') ∧ MI τ' (g, t, ro, shS k e fi st (gN g) x, us, kp) ∧ FrM τ τ' := by
      obtain ⟨b1, b2, b3, b4, b5, b6, b7, b8⟩ := id hM2.2.2.2.1
      have b1 : FRow (gN g) (τ0 186) 0 (sF x) := b1
      refine pl_for1 (F := fun f i (q : Int32 × Int32 × en_V × en_M) => T_X12_sheet_43 f k e fi st q.1 q.2.1 (Int32.ofNat i) q.2.2.1 q.2.2.2) (P := fun i q => q.1 = smN (shV k e fi st) i ∧ q.2.1 = fi + Int32.ofNat i * st ∧ (∀ r, r < 7 → q.2.2.2 186 (7 + r) = shT k e fi st (gN g) x i r) ∧ (∀ j, j < 7 ∨ 14 ≤ j → q.2.2.2 186 j = τ0 186 j) ∧ ∀ c, c ≠ 186 → q.2.2.2 c = τ0 c) (Q := fun r => ∃ τ', en_oi r = some (if k = 3 then -3 else smN (shV k e fi st) (gN g), τ') ∧ MI τ' (g, t, ro, shS k e fi st (gN g) x, us, kp) ∧ FrM τ τ') (N := gN g) ?_ ?_ (gN g) 0 en_FU (0, fi, en_un, τ0) (by omega) (pl_FU (by omega)) ⟨rfl, by show fi = fi + 0 * st; rw [Int32.zero_mul, Int32.add_zero], fun r hr => by unfold shT; rw [if_neg (by omega)]; exact (b2 r hr).1, fun _ _ => rfl, fun _ _ => rfl⟩
      · rintro f i ⟨r1, r2, ru, σ⟩ hi ⟨p1, p2, p3, p4, p5⟩
        have p1 : r1 = _ := p1
        have p2 : r2 = _ := p2
        have p3 : ∀ r, r < 7 → σ 186 (7 + r) = _ := p3
        have p4 : ∀ j, j < 7 ∨ 14 ≤ j → σ 186 j = τ0 186 j := p4
        have p5 : ∀ c, c ≠ 186 → σ c = τ0 c := p5
        have h1' : σ 185 1 = Int32.ofNat (gN g) := by rw [p5 185 (by omega)]; exact hM2.1.1
        have tail : ∀ (w : Int32) (u : en_V), w = shV k e fi st i → ∃ q' : Int32 × Int32 × en_V × en_M, T_X12_sheet_43 f k e fi st (r1 + (en_up σ 186 (7 + i) w) 186 (7 + i)) (r2 + st) (Int32.ofNat (i + 1)) u (en_up σ 186 (7 + i) w) = T_X12_sheet_43 f k e fi st q'.1 q'.2.1 (Int32.ofNat (i + 1)) q'.2.2.1 q'.2.2.2 ∧ q'.1 = smN (shV k e fi st) (i + 1) ∧ q'.2.1 = fi + Int32.ofNat (i + 1) * st ∧ (∀ r, r < 7 → q'.2.2.2 186 (7 + r) = shT k e fi st (gN g) x (i + 1) r) ∧ (∀ j, j < 7 ∨ 14 ≤ j → q'.2.2.2 186 j = τ0 186 j) ∧ ∀ c, c ≠ 186 → q'.2.2.2 c = τ0 c := by
          rintro w u rfl
          refine ⟨(r1 + shV k e fi st i, r2 + st, u, en_up σ 186 (7 + i) (shV k e fi st i)), by rw [pu_same], by show r1 + _ = _; rw [p1]; rfl, by show r2 + st = _; rw [p2, sh_step], fun r hr => ?_, fun j hj => ?_, fun c hc => ?_⟩
          · show en_up σ 186 (7 + i) _ 186 (7 + r) = _
            rw [pu_at]
            unfold shT
            by_cases e1 : r = i
            · rw [if_pos (by omega), if_pos (by omega), e1]
            · rw [if_neg (by omega), p3 r hr]
              unfold shT
              by_cases e2 : r < i
              · rw [if_pos e2, if_pos (by omega)]
              · rw [if_neg e2, if_neg (by omega)]
          · show en_up σ 186 (7 + i) _ 186 j = _
            rw [pu_slot (by omega)]; exact p4 j hj
          · show en_up σ 186 (7 + i) _ c = _
            rw [pu_row hc]; exact p5 c hc
        left
        show ∃ q' : Int32 × Int32 × en_V × en_M, T_X12_sheet_43 (f + 1) _ _ _ _ r1 r2 _ ru σ = _ ∧ _
        rw [t_X12_sheet_43, h1', if_pos ((pn_lt (by omega) (by omega)).mpr hi)]
        simp only [q_min, q_max, Option.bind_some, show (7 : Int32) + Int32.ofNat i = Int32.ofNat (7 + i) from pn_add 7 i, pn_ix (show 7 + i < 53 by omega) (show 7 + i < 2147483648 by omega), pn_a1]
        by_cases c0 : k = 0
        · have c3 : ¬ k = 3 := fun q => by rw [c0] at q; exact absurd q (by decide)
          rw [if_pos c0, if_neg c3]
          by_cases c4 : Int32.ofNat i < e
          · rw [if_pos c4]; exact tail _ _ (by unfold shV pclamp pnarrow; rw [if_neg c3, if_pos c4, if_pos c0, p2])
          · rw [if_neg c4]; exact tail _ _ (by unfold shV; rw [if_neg c3, if_neg c4])
        · rw [if_neg c0]
          by_cases c1 : k = 1
          · have c3 : ¬ k = 3 := fun q => by rw [c1] at q; exact absurd q (by decide)
            rw [if_pos c1, if_neg c3]
            by_cases c4 : Int32.ofNat i < e
            · rw [if_pos c4]; exact tail _ _ (by unfold shV pclamp pnarrow; rw [if_neg c3, if_pos c4, if_neg c0, if_pos c1, p2])
            · rw [if_neg c4]; exact tail _ _ (by unfold shV; rw [if_neg c3, if_neg c4])
          · rw [if_neg c1]
            by_cases c3 : k = 3
            · rw [if_pos c3]; exact tail _ _ (by unfold shV; rw [if_pos c3])
            · rw [if_neg c3]
              by_cases c4 : Int32.ofNat i < e
              · rw [if_pos c4]; exact tail _ _ (by unfold shV pclamp pnarrow; rw [if_neg c3, if_pos c4, if_neg c0, if_neg c1, p2])
              · rw [if_neg c4]; exact tail _ _ (by unfold shV; rw [if_neg c3, if_neg c4])
      · rintro f ⟨r1, r2, ru, σ⟩ ⟨p1, p2, p3, p4, p5⟩
        have p1 : r1 = _ := p1
        have p3 : ∀ r, r < 7 → σ 186 (7 + r) = _ := p3
        have p4 : ∀ j, j < 7 ∨ 14 ≤ j → σ 186 j = τ0 186 j := p4
        have p5 : ∀ c, c ≠ 186 → σ c = τ0 c := p5
        have h1' : σ 185 1 = Int32.ofNat (gN g) := by rw [p5 185 (by omega)]; exact hM2.1.1
        have hMS : MSr (gN g) (σ 186) (shS k e fi st (gN g) x) := by
          refine ⟨fun p hp => by rw [p4 _ (by omega)]; exact b1 p hp, fun r hr => ⟨p3 r hr, ?_, ?_⟩, ?_, ?_, ?_, ?_, ?_, fun j hj => ?_⟩
          · rw [p4 _ (by omega)]; exact (b2 r hr).2.1
          · rw [p4 _ (by omega)]; exact (b2 r hr).2.2
          · rw [p4 _ (by omega)]; exact b3
          · rw [p4 _ (by omega)]; exact b4
          · rw [p4 _ (by omega)]; exact b5
          · rw [p4 _ (by omega)]; exact b6
          · rw [p4 _ (by omega)]; exact b7
          · rw [p4 _ (by omega)]; exact b8 j hj
        have hM' : MI σ (g, t, ro, shS k e fi st (gN g) x, us, kp) := hM2.set hMS (hM2.2.2.2.2.1.fr (by rw [p5 185 (by omega)]) (p5 194 (by omega))) (hM2.2.2.2.2.2.fr (p5 208 (by omega)) (p5 207 (by omega))) (fun j _ => by rw [p5 185 (by omega)]) (fun c hc => p5 c (by omega))
        have hf' : FrM τ σ := fun c hc => by rw [p5 c (by omega), hfr c hc]
        show ∃ τ', en_oi (T_X12_sheet_43 (f + 1) _ _ _ _ r1 r2 _ ru σ) = _ ∧ _
        rw [t_X12_sheet_43, h1', if_neg (by rw [pn_lt (by omega) (by omega)]; omega), p1]
        by_cases c3 : k = 3
        · rw [if_pos c3, if_pos c3]; exact ⟨σ, rfl, hM', hf'⟩
        · rw [if_neg c3, if_neg c3]; exact ⟨σ, rfl, hM', hf'⟩
    by_cases c5 : k < 3
    · rw [if_pos c5, if_neg (fun q => h2 ⟨c5, q⟩)]; exact key
    · rw [if_neg c5]; exact key
