/-! fails and lasts -/
theorem k_trial {A : pI} {σ : en_M} (hC : CI σ A) : ∃ σ', O_X7_copy [.inr (20, 7, 0, 0), .inr (15, 7, 0, 0)] σ = some σ' ∧ CI σ' A ∧ CS σ' 20 (iS A) ∧ FrC σ σ' := by
  obtain ⟨σ', e1, e2, e3⟩ := q_copy (k0 := 20) hC.2.2.2.1 (by omega)
  exact ⟨σ', e1, hC.kept (fun c hc => e3 c (by omega)) (by rw [e3 10 (by omega)]), e2, fun c hc => e3 c (by omega)⟩
theorem k_go {A : pI} {y : pS} {B s : Nat} {σ : en_M} (hg : GV (iG A)) (hC : CI σ A) (hy : CS σ 20 y) (hv : VS (gN (iG A)) B y) (hB : B < 1000000000) (hn0 : 0 < gN (iG A)) (hs : s < 2 ^ gN (iG A)) : ∃ σ', O_X10_ring [.inr (5, 10, 0, 0), .inr (20, 7, 0, 0), .inl (Int32.ofNat s)] σ = some (Int32.ofNat (lawS (iG A) y s), σ') ∧ CI σ' A ∧ CS σ' 20 (nx (iG A) y s) ∧ σ' 20 9 = Int32.ofNat (drN (iG A) y s (gN (iG A))) ∧ FrC σ σ' := by
  obtain ⟨σ', e1, e2, e3, e4⟩ := q_ring (k := 20) hg hC.1 hy hv hB hn0 hs (by omega) (by omega)
  exact ⟨σ', e1, hC.kept (fun c hc => e4 c (by omega) (by omega) (by omega) (by omega) (by omega) (by omega) (by omega)) (by rw [e4 10 (by omega) (by omega) (by omega) (by omega) (by omega) (by omega) (by omega)]), e2, e3, fun c hc => e4 c (by omega) (by omega) (by omega) (by omega) (by omega) (by omega) (by omega)⟩
/-- the most tired that may miss alone, among the first k -/
def mtN (g : pG) (y : pS) : Nat → Option Nat
  | 0 => none
  | k + 1 => if lawS g y (2 ^ k) = 0 then (match mtN g y k with
      | none => some k
      | some b => if sT y b < sT y k then some k else some b) else mtN g y k
theorem mtN_lt (g : pG) (y : pS) : ∀ k b, mtN g y k = some b → b < k
  | 0, b, h => by simp [mtN] at h
  | k + 1, b, h => by
    have ih := mtN_lt g y k
    unfold mtN at h
    by_cases c : lawS g y (2 ^ k) = 0
    · rw [if_pos c] at h
      rcases e : mtN g y k with _ | d
      · rw [e] at h
        have h := Option.some.inj h
        omega
      · rw [e] at h
        have := ih d e
        have h : (if sT y d < sT y k then some k else some d) = some b := h
        by_cases c2 : sT y d < sT y k
        · rw [if_pos c2] at h; have h := Option.some.inj h; omega
        · rw [if_neg c2] at h; have h := Option.some.inj h; omega
    · rw [if_neg c] at h
      have := ih b h
      omega
def oI : Option Nat → Int32
  | none => -1
  | some b => Int32.ofNat b
def mtS (g : pG) (y : pS) : Nat := match mtN g y (gN g) with
  | none => 0
  | some b => 2 ^ b
theorem mtS_lt (g : pG) (y : pS) : mtS g y < 2 ^ gN g := by
  unfold mtS
  rcases e : mtN g y (gN g) with _ | b
  · exact Nat.two_pow_pos _
  · exact Nat.pow_lt_pow_right (by decide) (mtN_lt g y _ b e)
theorem q_mostTired {g : pG} {y : pS} {B : Nat} {σ : en_M} (hg : GV g) (hc : CG σ g) (hy : CS σ 20 y) (hv : VS (gN g) B y) (hB : B < 1000000000) (hn0 : 0 < gN g) : O_X10_mostTiredThatMay [.inr (5, 10, 0, 0), .inr (20, 7, 0, 0)] σ = some (Int32.ofNat (mtS g y), σ) := by
  have hn := hg.1
  have hN : sN y ≤ B := hv.2.1
  have htn := tnN_lt (gW g) (gN g) hn0
  obtain ⟨a1, a2, a3, a4, a5, a6, -⟩ := hy
  rw [o_X10_mostTiredThatMay, t_X10_mostTiredThatMay_0]
  refine pl_for1 (F := fun m i (q : Int32 × en_V) => T_X10_mostTiredThatMay_4 m 20 q.1 (Int32.ofNat i) q.2 σ) (P := fun i q => q.1 = oI (mtN g y i)) (Q := fun r => en_oi r = some (Int32.ofNat (mtS g y), σ)) (N := gN g) ?_ ?_ (gN g) 0 en_FU (-1, en_un) (by omega) (pl_FU (by omega)) rfl
  · rintro m i ⟨q1, u⟩ hi hP
    have hP : q1 = _ := hP
    have hs : 2 ^ i < 2 ^ gN g := Nat.pow_lt_pow_right (by decide) hi
    have hl6 : lawS g y (2 ^ i) < 6 := lawN_lt _ _ _ _ _ _ _
    have hbr : O_X10_breach [.inr (5, 10, 0, 0), .inl (σ 20 4), .inl (σ 20 5), .inl (Int32.ofNat (2 ^ i)), .inl (σ 20 7), .inl (σ 20 8)] σ = some (Int32.ofNat (lawS g y (2 ^ i)), σ) := by
      rw [a1, a2, a4, a5, q_breach hv.1 hn hs hg.2.2.2.2.2.1 (show tnN (gW g) (gN g) < 7 by omega) (by omega) hc.2.2.2.1 (by rw [hc.2.2.1, if_neg (by omega)])]; rfl
    left
    show ∃ q' : Int32 × en_V, T_X10_mostTiredThatMay_4 (m + 1) 20 q1 _ u σ = _ ∧ _
    rw [t_X10_mostTiredThatMay_4, hc.1, if_pos ((pn_lt (by omega) (by omega)).mpr hi), pb_1 (by omega), hbr, Option.bind_some]
    dsimp only
    rw [pi_if (pn_eq0 (show lawS g y (2 ^ i) < 2147483648 by omega)), hP, pn_a1]
    show ∃ q' : Int32 × en_V, _ ∧ q'.1 = oI (if lawS g y (2 ^ i) = 0 then (match mtN g y i with
      | none => some i
      | some b => if sT y b < sT y i then some i else some b) else mtN g y i)
    by_cases c1 : lawS g y (2 ^ i) = 0
    · rw [if_pos c1, if_pos c1, if_neg (show ¬ (1 : Int32) = 0 by decide)]
      rcases e : mtN g y i with _ | b
      · rw [show oI none = -1 from rfl, if_pos rfl]
        exact ⟨(Int32.ofNat i, _), rfl, rfl⟩
      · have hb := mtN_lt g y i b e
        rw [show oI (some b) = Int32.ofNat b from rfl, if_neg (pn_nm1 (by omega)), pn_ix (show i < 7 by omega) (by omega), pn_ix (show b < 7 by omega) (by omega), Option.bind_some, Option.bind_some, pi_if (show (σ (20 + 1) b < σ (20 + 1) i) = (sT y b < sT y i) by rw [show σ (20 + 1) b = sT y b from (a6 b (by omega)).1, show σ (20 + 1) i = sT y i from (a6 i (by omega)).1])]
        by_cases c2 : sT y b < sT y i
        · rw [if_pos c2]
          exact ⟨(Int32.ofNat i, _), rfl, by show _ = oI (if sT y b < sT y i then some i else some b); rw [if_pos c2]; rfl⟩
        · rw [if_neg c2]
          exact ⟨(Int32.ofNat b, _), rfl, by show _ = oI (if sT y b < sT y i then some i else some b); rw [if_neg c2]; rfl⟩
    · rw [if_neg c1, if_neg c1, if_pos rfl]
      exact ⟨(oI (mtN g y i), _), rfl, rfl⟩
  · rintro m ⟨q1, u⟩ hP
    have hP : q1 = _ := hP
    show en_oi (T_X10_mostTiredThatMay_4 (m + 1) 20 q1 _ u σ) = _
    rw [t_X10_mostTiredThatMay_4, hc.1, if_neg (by rw [pn_lt (by omega) (by omega)]; omega), hP]
    unfold mtS
    rcases e : mtN g y (gN g) with _ | b
    · rw [show oI none = -1 from rfl, if_pos rfl]; rfl
    · have hb := mtN_lt g y _ b e
      rw [show oI (some b) = Int32.ofNat b from rfl, if_neg (pn_nm1 (by omega)), pb_1 (by omega)]; rfl
theorem r_mostTired {g : pG} {y : pS} {B : Nat} {σ : en_M} (hg : GV g) (hc : MG σ g) (hy : MSr (gN g) (σ 198) y) (hv : VS (gN g) B y) (hB : B < 1000000000) (hn0 : 0 < gN g) : O_X12_mostTired [.inr (185, 12, 0, 0), .inr (198, 20, 53, 0)] σ = some (Int32.ofNat (mtS g y), σ) := by
  have hn := hg.1
  have hN : sN y ≤ B := hv.2.1
  rw [o_X12_mostTired, t_X12_mostTired_0]
  refine pl_for1 (F := fun m i (q : Int32) => T_X12_mostTired_4 m 198 q (Int32.ofNat i) σ) (P := fun i q => q = oI (mtN g y i)) (Q := fun r => en_oi r = some (Int32.ofNat (mtS g y), σ)) (N := gN g) ?_ ?_ (gN g) 0 en_FU (-1) (by omega) (pl_FU (by omega)) rfl
  · rintro m i q1 hi rfl
    have hs : 2 ^ i < 2 ^ gN g := Nat.pow_lt_pow_right (by decide) hi
    have hl6 : lawS g y (2 ^ i) < 6 := lawN_lt _ _ _ _ _ _ _
    left
    show ∃ q' : Int32, T_X12_mostTired_4 (m + 1) 198 _ _ σ = _ ∧ _
    rw [t_X12_mostTired_4, hc.1, if_pos ((pn_lt (by omega) (by omega)).mpr hi), pb_1 (by omega), r_broken (k := 198) hg hc hy hv.1 (by omega) hn0 hs, Option.bind_some]
    dsimp only
    rw [pi_if (pn_eq0 (show lawS g y (2 ^ i) < 2147483648 by omega)), pn_a1]
    show ∃ q' : Int32, _ ∧ q' = oI (if lawS g y (2 ^ i) = 0 then (match mtN g y i with
      | none => some i
      | some b => if sT y b < sT y i then some i else some b) else mtN g y i)
    by_cases c1 : lawS g y (2 ^ i) = 0
    · rw [if_pos c1, if_pos c1]
      rcases e : mtN g y i with _ | b
      · rw [show oI none = -1 from rfl, if_pos rfl]
        exact ⟨Int32.ofNat i, rfl, rfl⟩
      · have hb := mtN_lt g y i b e
        rw [show oI (some b) = Int32.ofNat b from rfl, if_neg (pn_nm1 (by omega)), show (7 : Int32) + Int32.ofNat i = Int32.ofNat (7 + i) from pn_add 7 i, show (7 : Int32) + Int32.ofNat b = Int32.ofNat (7 + b) from pn_add 7 b, pn_ix (show 7 + i < 53 by omega) (by omega), pn_ix (show 7 + b < 53 by omega) (by omega), Option.bind_some, Option.bind_some, pi_if (show (σ 198 (7 + b) < σ 198 (7 + i)) = (sT y b < sT y i) by rw [(hy.2.1 b (by omega)).1, (hy.2.1 i (by omega)).1])]
        by_cases c2 : sT y b < sT y i
        · rw [if_pos c2]
          exact ⟨Int32.ofNat i, rfl, by show _ = oI (if sT y b < sT y i then some i else some b); rw [if_pos c2]; rfl⟩
        · rw [if_neg c2]
          exact ⟨Int32.ofNat b, rfl, by show _ = oI (if sT y b < sT y i then some i else some b); rw [if_neg c2]; rfl⟩
    · rw [if_neg c1, if_neg c1]
      exact ⟨oI (mtN g y i), rfl, rfl⟩
  · rintro m q1 rfl
    show en_oi (T_X12_mostTired_4 (m + 1) 198 _ _ σ) = _
    rw [t_X12_mostTired_4, hc.1, if_neg (by rw [pn_lt (by omega) (by omega)]; omega)]
    unfold mtS
    rcases e : mtN g y (gN g) with _ | b
    · rw [show oI none = -1 from rfl, if_pos rfl]; rfl
    · have hb := mtN_lt g y _ b e
      rw [show oI (some b) = Int32.ofNat b from rfl, if_neg (pn_nm1 (by omega)), pb_1 (by omega)]; rfl
/-- the set that misses each round: nobody, or the most tired that may -/
def sdN (md : Int32) (g : pG) (y : pS) : Nat := if md = 0 then 0 else mtS g y
theorem sdN_lt (md : Int32) (g : pG) (y : pS) : sdN md g y < 2 ^ gN g := by
  unfold sdN
  split
  · exact Nat.two_pow_pos _
  · exact mtS_lt g y
def ydN (md : Int32) (g : pG) (x : pS) : Nat → pS
  | 0 => x
  | k + 1 => nx g (ydN md g x k) (sdN md g (ydN md g x k))
theorem ydN_VS {md : Int32} {g : pG} {x : pS} {B : Nat} (hg : GV g) (hv : VS (gN g) B x) : ∀ k, VS (gN g) (B + k) (ydN md g x k)
  | 0 => hv
  | k + 1 => nx_VS hg (ydN_VS hg hv k) (sdN_lt md g _)
def ddN (md : Int32) (g : pG) (x : pS) (k : Nat) : Nat := drN g (ydN md g x k) (sdN md g (ydN md g x k)) (gN g)
/-- the first drift: behind how many rounds, and whose -/
def fdN (d : Nat → Nat) : Nat → Nat → Option (Nat × Nat)
  | 0, _ => none
  | m + 1, k => if d k = 0 then fdN d m (k + 1) else some (k + 1, d k)
theorem p_drift {c : Nat} {md : Int32} (hmd : md = 0 ∨ md = 1) {fC fM : en_M → Option (Int32 × en_M)} (hc : c < 512)
    (hfC : ∀ σ, fC σ = ((O_X11_firstDrift [.inr (0, 11, 0, 0), .inl md] σ).bind fun r => en_oi (en_ri r.1 r.2)))
    (hfM : ∀ τ, fM τ = ((O_X12_failsBy [.inr (185, 12, 0, 0), .inl md] (en_up τ 185 11 0)).bind fun r => en_oi (en_ri r.1 r.2))) : en_two pInv c fC fM := by
  refine p_two hc (fun A σ0 hA hB => ?_)
  have hA0 := hA
  obtain ⟨g, t, ro, x, us, kp⟩ := A
  have hgv : GV g := hA.1
  have hn : gN g ≤ 7 := hgv.1
  have hVS : VS (gN g) (2000 * c) x := hA.2.2.2.2.2.2.2.1
  by_cases hz : gN g = 0
  · refine p_no hA (-2) (fun hC => ?_) (fun τ hM => ?_)
    · rw [hfC, o_X11_firstDrift, t_X11_firstDrift_0, show σ0 5 3 = Int32.ofNat (gN g) from hC.1.1, hz, if_pos (by decide)]; rfl
    · rw [hfM, o_X12_failsBy, t_X12_failsBy_0, show (en_up τ 185 11 0) 185 1 = Int32.ofNat (gN g) from (hM.slot 11 0 (by omega)).1.1, hz, if_pos (by decide)]; rfl
  have nz : ¬ Int32.ofNat (gN g) = 0 := by rw [pn_eq0 (by omega)]; exact hz
  have hn0 : 0 < gN g := by omega
  have h128 := p2lt hn
  have hd128 : ∀ k, ddN md g x k < 128 := fun k => drN128 hgv _ _
  have hvk : ∀ k, VS (gN g) (2000 * c + k) (ydN md g x k) := ydN_VS hgv hVS
  obtain ⟨v', A', q1, q2, q3⟩ : ∃ (v' : Int32) (A' : pI), (fdN (ddN md g x) 200 0 = none → v' = -2 ∧ A' = (g, t, ro, x, us, kp)) ∧ (∀ n d, fdN (ddN md g x) 200 0 = some (n, d) → v' = Int32.ofNat n ∧ A' = (g, t, [Int32.ofNat d], x, us, kp)) ∧ AV (2000 * (c + 1)) A' := by
    rcases e : fdN (ddN md g x) 200 0 with _ | ⟨n, d⟩
    · exact ⟨-2, (g, t, ro, x, us, kp), fun _ => ⟨rfl, rfl⟩, fun _ _ q => (by simp at q), hA.mono (by omega)⟩
    · refine ⟨Int32.ofNat n, (g, t, [Int32.ofNat d], x, us, kp), fun q => (by simp at q), fun n' d' q => ?_, (hA.row (by simp)).mono (by omega)⟩
      have q' := Option.some.inj q
      obtain ⟨rfl, rfl⟩ := Prod.mk.inj q'
      exact ⟨rfl, rfl⟩
  refine ⟨v', A', fun hC => ?_, fun τ hM => ?_, q3⟩
  · obtain ⟨σ1, e1, e2, e3, e4⟩ := k_trial hC
    have key : ∃ σ', O_X11_firstDrift [.inr (0, 11, 0, 0), .inl md] σ0 = some (v', σ') ∧ CI σ' A' ∧ FrC σ0 σ' := by
      rw [o_X11_firstDrift, t_X11_firstDrift_0, show σ0 5 3 = Int32.ofNat (gN g) from hC.1.1, if_neg nz, e1, Option.bind_some]
      refine pl_for1 (F := fun f i (q : en_M) => T_X11_firstDrift_26 f md (Int32.ofNat (i + 1)) q) (P := fun i q => CI q (g, t, ro, x, us, kp) ∧ CS q 20 (ydN md g x i) ∧ fdN (ddN md g x) 200 0 = fdN (ddN md g x) (200 - i) i ∧ FrC σ0 q) (Q := fun r => ∃ σ', en_oi r = some (v', σ') ∧ CI σ' A' ∧ FrC σ0 σ') (N := 200) ?_ ?_ 200 0 en_FU σ1 (by omega) (pl_FU (by omega)) ⟨e2, e3, rfl, e4⟩
      · rintro f i σ hi ⟨p1, p2, p3, p4⟩
        rw [show 200 - i = (200 - (i + 1)) + 1 by omega] at p3
        conv at p3 => rhs; unfold fdN
        have hv := hvk i
        have hdl := hd128 i
        obtain ⟨σ', r1, r2, r3, r4, r5⟩ := k_go (A := (g, t, ro, x, us, kp)) hgv p1 p2 hv (by omega) hn0 (sdN_lt md g (ydN md g x i))
        have r4 : σ' 20 9 = Int32.ofNat (ddN md g x i) := r4
        have hst : T_X11_firstDrift_26 (f + 1) md (Int32.ofNat (i + 1)) σ = ((O_X10_ring [.inr (5, 10, 0, 0), .inr (20, 7, 0, 0), .inl (Int32.ofNat (sdN md g (ydN md g x i)))] σ).bind fun r2 => if (r2.2 20 9) = 0 then (T_X11_firstDrift_26 f md (Int32.ofNat (i + 1) + (1 : Int32)) r2.2) else ((O_X9_begin [.inr (3, 9, 0, 0)] r2.2).bind fun r3 => (O_X9_add [.inr (3, 9, 0, 0), .inl (r3 20 9)] r3).bind fun r4 => en_ri (Int32.ofNat (i + 1)) r4)) := by
          rw [t_X11_firstDrift_26, if_neg (show ¬ (200 : Int32) < Int32.ofNat (i + 1) from fun q => by have := (pn_lt (a := 200) (by omega) (by omega)).mp q; omega)]
          rcases hmd with rfl | rfl
          · rw [if_pos rfl]; rfl
          · rw [if_neg (by decide), q_mostTired hgv p1.1 p2 hv (by omega) hn0, Option.bind_some]; rfl
        show (∃ q' : en_M, T_X11_firstDrift_26 (f + 1) md _ σ = _ ∧ _) ∨ ∃ σ', en_oi (T_X11_firstDrift_26 (f + 1) md _ σ) = _ ∧ _
        rw [hst, r1, Option.bind_some]
        dsimp only
        rw [pi_if (show (σ' 20 9 = 0) = (ddN md g x i = 0) by rw [r4]; exact pn_eq0 (by omega)), pn_a1]
        by_cases c1 : ddN md g x i = 0
        · rw [if_pos c1] at p3
          rw [if_pos c1]
          exact Or.inl ⟨σ', rfl, r2, r3, p3, p4.trans r5⟩
        · rw [if_neg c1] at p3
          rw [if_neg c1]
          obtain ⟨rfl, rfl⟩ := q2 _ _ p3
          obtain ⟨σ3, g1, g2, g3⟩ := CI.add (CI.begin r2) (by simp) (Int32.ofNat (ddN md g x i))
          rw [q_tbegin, Option.bind_some, show (en_up σ' 3 1 0) 20 9 = Int32.ofNat (ddN md g x i) by rw [pu_cell (by omega)]; exact r4, g1, Option.bind_some]
          exact Or.inr ⟨σ3, rfl, g2, fun c hc => by rw [g3 c (by omega) (by omega), pu_row (by omega), r5 c hc, p4 c hc]⟩
      · rintro f σ ⟨p1, p2, p3, p4⟩
        have p3 : fdN (ddN md g x) 200 0 = none := p3
        show ∃ σ', en_oi (T_X11_firstDrift_26 (f + 1) md _ σ) = _ ∧ _
        rw [t_X11_firstDrift_26, if_pos (show (200 : Int32) < Int32.ofNat (200 + 1) by decide)]
        obtain ⟨rfl, rfl⟩ := q1 p3
        exact ⟨σ, rfl, p1, p4⟩
    obtain ⟨σ', k1, k2, k3⟩ := key
    rw [hfC, k1, Option.bind_some]
    exact ⟨σ', rfl, k2, k3⟩
  · have hM2 := hM.slot 11 0 (by omega)
    have hfr : FrM τ (en_up τ 185 11 0) := FrM.up (by omega) (by omega)
    rw [hfM]
    generalize en_up τ 185 11 0 = τ0 at hM2 hfr ⊢
    obtain ⟨τ1, e1, e2, e3, e4⟩ := m_trial (A := (g, t, ro, x, us, kp)) hn hM2
    have key : ∃ τ', O_X12_failsBy [.inr (185, 12, 0, 0), .inl md] τ0 = some (v', τ') ∧ MI τ' A' ∧ FrM τ τ' := by
      rw [o_X12_failsBy, t_X12_failsBy_0, show τ0 185 1 = Int32.ofNat (gN g) from hM2.1.1, if_neg nz, e1, Option.bind_some]
      refine pl_for1 (F := fun f i (q : en_M) => T_X12_failsBy_24 f md (Int32.ofNat (i + 1)) q) (P := fun i q => MI q (g, t, ro, x, us, kp) ∧ MSr (gN g) (q 198) (ydN md g x i) ∧ fdN (ddN md g x) 200 0 = fdN (ddN md g x) (200 - i) i ∧ FrM τ q) (Q := fun r => ∃ τ', en_oi r = some (v', τ') ∧ MI τ' A' ∧ FrM τ τ') (N := 200) ?_ ?_ 200 0 en_FU τ1 (by omega) (pl_FU (by omega)) ⟨e2, e3, rfl, fun c hc => by rw [e4 c (by omega), hfr c hc]⟩
      · rintro f i σ hi ⟨p1, p2, p3, p4⟩
        rw [show 200 - i = (200 - (i + 1)) + 1 by omega] at p3
        conv at p3 => rhs; unfold fdN
        have hv := hvk i
        have hdl := hd128 i
        obtain ⟨σ', r1, r2, r3, r4, r5, r6⟩ := m_go (A := (g, t, ro, x, us, kp)) hgv p1 p2 hv (by omega) hn0 (sdN_lt md g (ydN md g x i))
        have r5 : σ' 185 26 = Int32.ofNat (ddN md g x i) := r5
        have hst : T_X12_failsBy_24 (f + 1) md (Int32.ofNat (i + 1)) σ = ((O_X12_goRound [.inr (185, 12, 0, 0), .inr (198, 20, 53, 0), .inl (Int32.ofNat (sdN md g (ydN md g x i)))] σ).bind fun r2 => if (r2 185 26) = 0 then (T_X12_failsBy_24 f md (Int32.ofNat (i + 1) + (1 : Int32)) r2) else ((O_X12_tell [.inr (185, 12, 0, 0), .inl (r2 185 26)] (en_up r2 185 10 (0 : Int32))).bind fun r3 => en_ri (Int32.ofNat (i + 1)) r3)) := by
          rw [t_X12_failsBy_24, if_neg (show ¬ (200 : Int32) < Int32.ofNat (i + 1) from fun q => by have := (pn_lt (a := 200) (by omega) (by omega)).mp q; omega)]
          rcases hmd with rfl | rfl
          · rw [if_pos rfl]; rfl
          · rw [if_neg (by decide), r_mostTired hgv p1.1 p2 hv (by omega) hn0, Option.bind_some]; rfl
        show (∃ q' : en_M, T_X12_failsBy_24 (f + 1) md _ σ = _ ∧ _) ∨ ∃ σ', en_oi (T_X12_failsBy_24 (f + 1) md _ σ) = _ ∧ _
        rw [hst, r1, Option.bind_some, pi_if (show (σ' 185 26 = 0) = (ddN md g x i = 0) by rw [r5]; exact pn_eq0 (by omega)), pn_a1]
        by_cases c1 : ddN md g x i = 0
        · rw [if_pos c1] at p3
          rw [if_pos c1]
          exact Or.inl ⟨σ', rfl, r2, r3, p3, p4.trans r6.frm⟩
        · rw [if_neg c1] at p3
          rw [if_neg c1]
          obtain ⟨rfl, rfl⟩ := q2 _ _ p3
          obtain ⟨σ3, g1, g2, g3, -⟩ := MI.add (MI.begin r2) (by simp) (Int32.ofNat (ddN md g x i))
          rw [r5, g1, Option.bind_some]
          exact Or.inr ⟨σ3, rfl, g2, fun c hc => by rw [g3 c (by omega) (by omega), pu_row (by omega), r6.frm c hc, p4 c hc]⟩
      · rintro f σ ⟨p1, p2, p3, p4⟩
        have p3 : fdN (ddN md g x) 200 0 = none := p3
        show ∃ σ', en_oi (T_X12_failsBy_24 (f + 1) md _ σ) = _ ∧ _
        rw [t_X12_failsBy_24, if_pos (show (200 : Int32) < Int32.ofNat (200 + 1) by decide)]
        obtain ⟨rfl, rfl⟩ := q1 p3
        exact ⟨σ, rfl, p1, p4⟩
    obtain ⟨τ', k1, k2, k3⟩ := key
    rw [k1, Option.bind_some]
    exact ⟨τ', rfl, k2, k3⟩
theorem p_fails : en_st_fails pInv := fun c hc => p_drift (Or.inl rfl) hc (fun σ => by rw [o_X11_fails, t_X11_fails_0]; cases O_X11_firstDrift [.inr (0, 11, 0, 0), .inl (0 : Int32)] σ <;> rfl) (fun τ => by rw [o_X12_fails, t_X12_fails_0]; cases O_X12_failsBy [.inr (185, 12, 0, 0), .inl (0 : Int32)] (en_up τ 185 11 0) <;> rfl)
theorem p_lasts : en_st_lasts pInv := fun c hc => p_drift (Or.inr rfl) hc (fun σ => by rw [o_X11_lasts, t_X11_lasts_0]; cases O_X11_firstDrift [.inr (0, 11, 0, 0), .inl (1 : Int32)] σ <;> rfl) (fun τ => by rw [o_X12_lasts, t_X12_lasts_0]; cases O_X12_failsBy [.inr (185, 12, 0, 0), .inl (1 : Int32)] (en_up τ 185 11 0) <;> rfl)
