/-! rounds of wanted sets, tried -/
def rsN (g : pG) (x : pS) (w : Nat → Nat) : Nat → pS
  | 0 => x
  | k + 1 => nx g (rsN g x w k) (w k)
theorem rsN_VS {g : pG} {x : pS} {w : Nat → Nat} {B : Nat} (hg : GV g) (hv : VS (gN g) B x) : ∀ k, (∀ j, j < k → w j < 2 ^ gN g) → VS (gN g) (B + k) (rsN g x w k)
  | 0, _ => hv
  | k + 1, hw => nx_VS hg (rsN_VS hg hv k (fun j hj => hw j (by omega))) (hw k (by omega))
theorem rsN_od {g : pG} {x : pS} {w : Nat → Nat} : ∀ k, sF (rsN g x w k) = odN g x k ∧ sN (rsN g x w k) = sN x + k
  | 0 => ⟨rfl, rfl⟩
  | k + 1 => by
    obtain ⟨h1, h2⟩ := rsN_od (g := g) (x := x) (w := w) k
    refine ⟨?_, ?_⟩
    · show nxF g (sF (rsN g x w k)) (sN (rsN g x w k)) = nxF g (odN g x k) (sN x + k)
      rw [h1, h2]
    · show sN (rsN g x w k) + 1 = _
      rw [h2]; rfl
/-- how many go before the first breach, and which breach -/
def brN (g : pG) (x : pS) (w : Nat → Nat) : Nat → Nat → Nat × Nat
  | 0, k => (k, 0)
  | m + 1, k => if lawS g (rsN g x w k) (w k) = 0 then brN g x w m (k + 1) else (k, lawS g (rsN g x w k) (w k))
theorem q_lawfulRounds {g t ro x us kp} {B m : Nat} {w : Nat → Nat} {σ : en_M} (hA : AV B (g, t, ro, x, us, kp)) (hB : B < 1000000000) (hC : CI σ (g, t, ro, x, us, kp)) (hn0 : 0 < gN g) (hm : m ≤ 60) (ha : ∀ k, k ≤ m → σ 182 k = Int32.ofNat (pkN (odN g x k))) (hw : ∀ k, k < m → w k < 2 ^ gN g ∧ σ 183 k = Int32.ofNat (w k)) :
    ∃ σ', O_X11_lawfulRounds [.inr (0, 11, 0, 0), .inl (Int32.ofNat m)] σ = some (Int32.ofNat (brN g x w m 0).1, σ') ∧ σ' 0 13 = Int32.ofNat (brN g x w m 0).2 ∧ CI σ' (g, t, ro, x, us, kp) ∧ ∀ c, c ≠ 0 → σ' c = σ c := by
  have hgv : GV g := hA.1
  have hn : gN g ≤ 7 := hgv.1
  have hpm : ∀ k, PMf (gN g) (odN g x k) := fun k => odN_PMf hgv hA.2.2.2.2.2.2.2.1.1 k
  have hNB : sN x ≤ B := hA.2.2.2.2.2.2.2.1.2.1
  have htn := tnN_lt (gW g) (gN g) hn0
  obtain ⟨a1, a2, a3, a4, a5, -⟩ := hC.2.2.2.1
  have a2 : σ 15 5 = Int32.ofNat (sN x) := a2
  have a4 : σ 15 7 = Int32.ofNat (sW x) := a4
  have a5 : σ 15 8 = Int32.ofNat (sP x) := a5
  have h55 : σ 5 5 = Int32.ofNat (gT g) := hC.1.2.2.2.1
  have h54 : σ 5 4 = Int32.ofNat (tnN (gW g) (gN g)) := by rw [hC.1.2.2.1]; exact if_neg (by show ¬ gN g = 0; omega)
  have hkC : ∀ σ', (∀ c, c ≠ 0 → σ' c = σ c) → CI σ' (g, t, ro, x, us, kp) := fun σ' h => hC.kept (fun c hc => h c (by omega)) (by rw [h 10 (by omega)])
  rw [o_X11_lawfulRounds, t_X11_lawfulRounds_0, a4, a5]
  refine pl_for1 (F := fun f i (q : Int32 × Int32 × en_M) => T_X11_lawfulRounds_24 f (Int32.ofNat m) q.1 q.2.1 (Int32.ofNat i) q.2.2) (P := fun i q => i ≤ m ∧ brN g x w m 0 = brN g x w (m - i) i ∧ q.1 = Int32.ofNat (sW (rsN g x w i)) ∧ q.2.1 = Int32.ofNat (sP (rsN g x w i)) ∧ q.2.2 0 13 = 0 ∧ ∀ c, c ≠ 0 → q.2.2 c = σ c)
    (Q := fun r => ∃ σ', en_oi r = some (Int32.ofNat (brN g x w m 0).1, σ') ∧ σ' 0 13 = Int32.ofNat (brN g x w m 0).2 ∧ CI σ' (g, t, ro, x, us, kp) ∧ ∀ c, c ≠ 0 → σ' c = σ c) (N := m) ?_ ?_ m 0 en_FU (Int32.ofNat (sW x), Int32.ofNat (sP x), en_up σ 0 13 0) (by omega) (pl_FU (by omega)) ⟨Nat.zero_le _, rfl, rfl, rfl, pu_same σ 0 13 0, fun c hc => pu_row hc⟩
  · rintro f i ⟨q1, q2, τ⟩ hi ⟨-, p2, p3, p4, p5, p6⟩
    have p3 : q1 = _ := p3
    have p4 : q2 = _ := p4
    have p6 : ∀ c, c ≠ 0 → τ c = σ c := p6
    obtain ⟨w1, w2⟩ := hw i hi
    obtain ⟨d1, d2⟩ := rsN_od (g := g) (x := x) (w := w) i
    rw [show m - i = (m - (i + 1)) + 1 by omega] at p2
    conv at p2 => rhs; unfold brN
    have e182 : τ 182 i = Int32.ofNat (pkN (odN g x i)) := by rw [p6 182 (by omega)]; exact ha i (by omega)
    have e183 : τ 183 i = Int32.ofNat (w i) := by rw [p6 183 (by omega)]; exact w2
    have hbr : O_X10_breach [.inr (5, 10, 0, 0), .inl (Int32.ofNat (pkN (odN g x i))), .inl (Int32.ofNat (sN x + i)), .inl (Int32.ofNat (w i)), .inl (Int32.ofNat (sW (rsN g x w i))), .inl (Int32.ofNat (sP (rsN g x w i)))] τ = some (Int32.ofNat (lawS g (rsN g x w i) (w i)), τ) := by
      rw [q_breach (hpm i) hn w1 hgv.2.2.2.2.2.1 (show tnN (gW g) (gN g) < 7 by omega) (by omega) (by rw [p6 5 (by omega)]; exact h55) (by rw [p6 5 (by omega)]; exact h54)]
      unfold lawS
      rw [d1, d2]
    have hl6 : lawS g (rsN g x w i) (w i) < 6 := lawN_lt _ _ _ _ _ _ _
    show (∃ q' : Int32 × Int32 × en_M, T_X11_lawfulRounds_24 (f + 1) _ q1 q2 _ τ = _ ∧ _) ∨ ∃ σ', en_oi (T_X11_lawfulRounds_24 (f + 1) _ q1 q2 _ τ) = _ ∧ _
    rw [t_X11_lawfulRounds_24, if_pos ((pn_lt (by omega) (by omega)).mpr hi), if_pos (show Int32.ofNat i < (60 : Int32) from (pn_lt (b := 60) (by omega) (by omega)).mpr (by omega)), pn_ix (show i < 201 by omega) (by omega), Option.bind_some, pn_ix (show i < 60 by omega) (by omega), Option.bind_some, e182, e183, p6 15 (by omega), a2, pn_add, p3, p4, hbr, Option.bind_some]
    dsimp only
    rw [pi_if (pn_eq0 (show lawS g (rsN g x w i) (w i) < 2147483648 by omega))]
    by_cases c1 : lawS g (rsN g x w i) (w i) = 0
    · rw [if_pos c1] at p2
      rw [if_pos c1, Option.bind_some, Option.bind_some, e182, e183, q_placesOf (hpm i) hn w1, Option.bind_some, pn_a1]
      refine Or.inl ⟨(Int32.ofNat (w i), Int32.ofNat (plN (odN g x i) (w i) (gN g)), en_up τ 0 13 (Int32.ofNat (lawS g (rsN g x w i) (w i)))), rfl, by omega, p2, rfl, ?_, ?_, fun c hc => ?_⟩
      · show _ = Int32.ofNat (plN (sF (rsN g x w i)) (w i) (gN g))
        rw [d1]
      · show en_up τ 0 13 _ 0 13 = 0
        rw [pu_same, c1]; rfl
      · show en_up τ 0 13 _ c = σ c
        rw [pu_row hc]; exact p6 c hc
    · rw [if_neg c1] at p2
      rw [if_neg c1, p2]
      refine Or.inr ⟨_, rfl, pu_same _ _ _ _, hkC _ (fun c hc => ?_), fun c hc => ?_⟩
      · rw [pu_row hc]; exact p6 c hc
      · rw [pu_row hc]; exact p6 c hc
  · rintro f ⟨q1, q2, τ⟩ ⟨-, p2, p3, p4, p5, p6⟩
    have p5 : τ 0 13 = 0 := p5
    have p6 : ∀ c, c ≠ 0 → τ c = σ c := p6
    rw [Nat.sub_self] at p2
    have p2 : brN g x w m 0 = (m, 0) := p2
    show ∃ σ', en_oi (T_X11_lawfulRounds_24 (f + 1) _ q1 q2 _ τ) = _ ∧ _
    rw [t_X11_lawfulRounds_24, if_neg (by rw [pn_lt (by omega) (by omega)]; omega), p2]
    exact ⟨τ, rfl, p5, hkC τ p6, p6⟩
/-- the reference: the night laid aside, and rung there -/
theorem m_trial {A : pI} {τ : en_M} (hn : gN (iG A) ≤ 7) (hM : MI τ A) : ∃ τ', O_X12_lay [.inr (186, 20, 53, 0), .inr (198, 20, 53, 0), .inl (0 : Int32)] τ = some τ' ∧ MI τ' A ∧ MSr (gN (iG A)) (τ' 198) (iS A) ∧ ∀ c, c ≠ 198 → τ' c = τ c := by
  have e := r_lay (σ := τ) (k0 := 186) (k1 := 198) (n1 := 53) (o := 0) (by omega) (by omega) (by omega)
  have hrow : ∀ j, j < 53 → pst τ 198 (fun i => if 0 ≤ i ∧ i < 0 + 53 then τ 186 (i - 0) else τ 198 i) 198 j = τ 186 j := fun j hj => by rw [pst_same, if_pos (by omega), Nat.sub_zero]
  refine ⟨_, e, hM.kept (fun j _ => by rw [pst_ne (by omega)]) (fun c hc => pst_ne (by omega)), ?_, fun c hc => pst_ne hc⟩
  obtain ⟨b1, b2, b3, b4, b5, b6, b7, b8⟩ := hM.2.2.2.1
  refine ⟨fun p hp => ?_, fun r hr => ?_, ?_, ?_, ?_, ?_, ?_, fun j hj => ?_⟩
  · rw [hrow _ (by omega)]; exact b1 p hp
  · rw [hrow _ (by omega), hrow _ (by omega), hrow _ (by omega)]; exact b2 r hr
  · rw [hrow _ (by omega)]; exact b3
  · rw [hrow _ (by omega)]; exact b4
  · rw [hrow _ (by omega)]; exact b5
  · rw [hrow _ (by omega)]; exact b6
  · rw [hrow _ (by omega)]; exact b7
  · rw [hrow _ (by omega)]; exact b8 j hj
theorem m_go {A : pI} {y : pS} {B s : Nat} {τ : en_M} (hg : GV (iG A)) (hM : MI τ A) (hy : MSr (gN (iG A)) (τ 198) y) (hv : VS (gN (iG A)) B y) (hB : B < 1000000000) (hn0 : 0 < gN (iG A)) (hs : s < 2 ^ gN (iG A)) : ∃ τ', O_X12_goRound [.inr (185, 12, 0, 0), .inr (198, 20, 53, 0), .inl (Int32.ofNat s)] τ = some τ' ∧ MI τ' A ∧ MSr (gN (iG A)) (τ' 198) (nx (iG A) y s) ∧ τ' 185 25 = Int32.ofNat (lawS (iG A) y s) ∧ τ' 185 26 = Int32.ofNat (drN (iG A) y s (gN (iG A))) ∧ MFr 198 τ τ' := by
  obtain ⟨τ', e1, e2, e3, e4, e5⟩ := r_goRound hg hM.1 hy hv hB hn0 hs (Or.inr rfl)
  exact ⟨τ', e1, hM.kept (fun j hj => e5.2 j (by omega) (by omega) (by omega) (by omega)) (fun c hc => e5.1 c (by omega) (by omega) (by omega)), e2, e3, e4, e5⟩
theorem MFr.frm {σ τ : en_M} (h : MFr 198 σ τ) : FrM σ τ := fun c hc => h.1 c (by omega) (by omega) (by omega)
