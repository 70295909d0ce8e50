/-! rule: the reference reads on -/
theorem m_product {L : Nat} {tx : Nat → Nat} (hb : ∀ j, tx j < 256) {D d : Nat} {q : Nat → PRs} (hG : GPr q) (hq : ∀ p, p ≤ 40 → MCp L tx (hX D 3 d) q p) : ∀ p, p ≤ 40 → MCp L tx (hX (D + 1) 2 d) (opP L tx 42 47 q) p := by
  intro p hp τ b hR
  have hFU := en_FU_ge
  have stop : ∀ f x2 u3 u4 υ p'' e, e < 1000 → RD υ b L 40 tx p'' (Int32.ofNat e) → T_X12_product_6 (RG_X12_held D) (f + 1) (Int32.ofNat d) x2 u3 u4 υ = en_ri x2 υ := by
    intro f x2 u3 u4 υ p'' e he hRu
    rw [t_X12_product_6, m_fine_n hRu he, Option.bind_some]
    dsimp only
    rw [if_pos (show (0 : Int32) = 0 from rfl)]
  have main : ∀ K (a : PRs) f u3 u4 υ x2, 40 ≤ a.2.1 + K → K + 5 < f → a.1 = true → a.2.1 ≤ 40 → RD υ b L 40 tx a.2.1 (-1) → FrU τ υ → x2 = a.2.2.2 (thM τ) → HRs L tx b τ (lpP L tx 42 47 q K a) (en_oi (T_X12_product_6 (RG_X12_held D) f (Int32.ofNat d) x2 u3 u4 υ)) := by
    intro K
    induction K with
    | zero =>
      intro a f u3 u4 υ x2 h40 hf ha hle hRu hFu hx
      obtain ⟨f, rfl⟩ : ∃ j, f = j + 1 := Nat.exists_eq_succ_of_ne_zero (by omega)
      have n1 : ¬ hr L 40 tx a.2.1 = 42 := fun z => by have := sgN_in (by omega) ((iff_of_eq (sgN_hr (c := 42) hb (by omega))).mp z); omega
      have n2 : ¬ hr L 40 tx a.2.1 = 47 := fun z => by have := sgN_in (by omega) ((iff_of_eq (sgN_hr (c := 47) hb (by omega))).mp z); omega
      rw [t_X12_product_6, m_fine_y hRu, Option.bind_some]
      dsimp only
      rw [if_neg (show ¬ (1 : Int32) = 0 by decide), m_here hRu (by omega), Option.bind_some]
      dsimp only
      rw [if_neg n1, m_here hRu (by omega), Option.bind_some]
      dsimp only
      rw [if_neg n2]
      exact HRs.ok ha rfl hFu hRu hx
    | succ K ih =>
      intro a f u3 u4 υ x2 h40 hf ha hle hRu hFu hx
      obtain ⟨f, rfl⟩ : ∃ j, f = j + 1 := Nat.exists_eq_succ_of_ne_zero (by omega)
      have more : ∀ s, sgN L tx a.2.1 = s → s < 256 → ∀ r, (∀ v τ1, RG_X12_held D 3 [.inr (185, 12, 0, 0), .inl (Int32.ofNat d)] (en_up υ 185 15 (Int32.ofNat (a.2.1 + 1))) = some (v, τ1) → ∃ u3 u4, r = T_X12_product_6 (RG_X12_held D) f (Int32.ofNat d) (wkV s x2 v) u3 u4 τ1) →
          HRs L tx b τ (if (q (a.2.1 + 1)).1 = false then flP (q (a.2.1 + 1)).2.1 else lpP L tx 42 47 q K (true, (q (a.2.1 + 1)).2.1, a.2.2.1 ++ (q (a.2.1 + 1)).2.2.1 ++ [2000 + sgN L tx a.2.1], fun th => wkV (sgN L tx a.2.1) (a.2.2.2 th) ((q (a.2.1 + 1)).2.2.2 th))) (en_oi r) := by
        intro s hs hs2 r hrr
        have hi := sgN_in hs2 hs
        have hF0 : FrU τ (en_up υ 185 15 (Int32.ofNat (a.2.1 + 1))) := hFu.up (by omega) _
        obtain ⟨g1, g2, g3⟩ := hG (a.2.1 + 1) (by omega)
        obtain ⟨v, τ1, e1, e2, e3, e4⟩ := hq (a.2.1 + 1) (by omega) (en_up υ 185 15 (Int32.ofNat (a.2.1 + 1))) b (hRu.at (a.2.1 + 1))
        obtain ⟨w3, w4, er⟩ := hrr v τ1 e1
        rw [er]
        by_cases cx : (q (a.2.1 + 1)).1 = true
        · obtain ⟨k1, k2⟩ := e3 cx
          obtain ⟨o1, -⟩ := g3 cx
          rw [if_neg (by rw [cx]; decide)]
          refine ih _ f w3 w4 τ1 _ ?_ (by omega) rfl g2 k1 (hF0.trans e2) ?_
          · show 40 ≤ (q (a.2.1 + 1)).2.1 + K
            omega
          · show wkV s x2 v = wkV (sgN L tx a.2.1) (a.2.2.2 (thM τ)) ((q (a.2.1 + 1)).2.2.2 (thM τ))
            rw [hs, hx, k2, hF0.tth]
        · have cx' : (q (a.2.1 + 1)).1 = false := Bool.eq_false_iff.mpr cx
          obtain ⟨p'', k1⟩ := e4 cx'
          obtain ⟨f2, rfl⟩ : ∃ j, f = j + 1 := Nat.exists_eq_succ_of_ne_zero (by omega)
          rw [if_pos cx', stop f2 _ w3 w4 τ1 p'' _ (by omega) k1]
          exact HRs.no rfl rfl (hF0.trans e2) k1
      have h15 := hRu.2.2.2.1
      rw [t_X12_product_6, m_fine_y hRu, Option.bind_some]
      dsimp only
      rw [if_neg (show ¬ (1 : Int32) = 0 by decide), m_here hRu (by omega), Option.bind_some]
      dsimp only
      unfold lpP
      by_cases c1 : sgN L tx a.2.1 = 42
      · have h1 : hr L 40 tx a.2.1 = 42 := (iff_of_eq (sgN_hr (c := 42) hb (by omega))).mpr c1
        rw [if_pos (show sgN L tx a.2.1 = 42 ∨ sgN L tx a.2.1 = 47 from Or.inl c1), if_pos h1, m_here hRu (by omega), Option.bind_some]
        dsimp only
        rw [if_pos h1, h15, pn_a1]
        refine more 42 c1 (by omega) _ (fun v τ1 e => ⟨.inl 1, .inl v, ?_⟩)
        rw [e, Option.bind_some]
        dsimp only
        rw [if_neg (show ¬ (1 : Int32) = 0 by decide)]; rfl
      · have n1 : ¬ hr L 40 tx a.2.1 = 42 := fun z => c1 ((iff_of_eq (sgN_hr (c := 42) hb (by omega))).mp z)
        rw [if_neg n1, m_here hRu (by omega), Option.bind_some]
        dsimp only
        by_cases c2 : sgN L tx a.2.1 = 47
        · have h2 : hr L 40 tx a.2.1 = 47 := (iff_of_eq (sgN_hr (c := 47) hb (by omega))).mpr c2
          rw [if_pos (show sgN L tx a.2.1 = 42 ∨ sgN L tx a.2.1 = 47 from Or.inr c2), if_pos h2, m_here hRu (by omega), Option.bind_some]
          dsimp only
          rw [if_neg n1, h15, pn_a1]
          refine more 47 c2 (by omega) _ (fun v τ1 e => ⟨.inl 0, .inl v, ?_⟩)
          rw [e, Option.bind_some]
          dsimp only
          rw [if_pos (show (0 : Int32) = 0 from rfl)]
          by_cases z : v = 0
          · rw [if_pos z, show wkV 47 x2 v = 0 from if_pos z]
          · rw [if_neg z, if_neg z, show wkV 47 x2 v = x2 / v from if_neg z]
        · have n2 : ¬ hr L 40 tx a.2.1 = 47 := fun z => c2 ((iff_of_eq (sgN_hr (c := 47) hb (by omega))).mp z)
          rw [if_neg (show ¬ (sgN L tx a.2.1 = 42 ∨ sgN L tx a.2.1 = 47) from fun z => z.elim c1 c2), if_neg n2]
          exact HRs.ok ha rfl hFu hRu hx
  obtain ⟨v, τ1, e1, e2, e3, e4⟩ := hq p hp τ b hR
  have e1' : RG_X12_held D 3 [.inr (185, 12, 0, 0), .inl (Int32.ofNat d)] τ = some (v, τ1) := e1
  obtain ⟨g1, g2, g3⟩ := hG p hp
  rw [show hX (D + 1) 2 d τ = en_oi (T_X12_product_0 (RG_X12_held D) (Int32.ofNat d) τ) from rfl, t_X12_product_0, e1', Option.bind_some]
  dsimp only
  by_cases cx : (q p).1 = true
  · obtain ⟨k1, k2⟩ := e3 cx
    rw [show opP L tx 42 47 q p = lpP L tx 42 47 q 40 (q p) from if_neg (by rw [cx]; decide)]
    exact main 40 (q p) en_FU en_un en_un τ1 v (by omega) (by omega) cx g2 k1 e2 k2
  · have cx' : (q p).1 = false := Bool.eq_false_iff.mpr cx
    obtain ⟨p'', k1⟩ := e4 cx'
    obtain ⟨f, hf⟩ : ∃ j, en_FU = j + 1 := Nat.exists_eq_succ_of_ne_zero (by omega)
    rw [show opP L tx 42 47 q p = flP (q p).2.1 from if_pos cx', hf, stop f _ _ _ τ1 p'' _ (by omega) k1]
    exact HRs.no rfl rfl e2 k1
theorem m_sum {L : Nat} {tx : Nat → Nat} (hb : ∀ j, tx j < 256) {D d : Nat} {q : Nat → PRs} (hG : GPr q) (hq : ∀ p, p ≤ 40 → MCp L tx (hX D 2 d) q p) : ∀ p, p ≤ 40 → MCp L tx (hX (D + 1) 1 d) (opP L tx 43 45 q) p := by
  intro p hp τ b hR
  have hFU := en_FU_ge
  have stop : ∀ f x2 u3 u4 υ p'' e, e < 1000 → RD υ b L 40 tx p'' (Int32.ofNat e) → T_X12_sum_6 (RG_X12_held D) (f + 1) (Int32.ofNat d) x2 u3 u4 υ = en_ri x2 υ := by
    intro f x2 u3 u4 υ p'' e he hRu
    rw [t_X12_sum_6, m_fine_n hRu he, Option.bind_some]
    dsimp only
    rw [if_pos (show (0 : Int32) = 0 from rfl)]
  have main : ∀ K (a : PRs) f u3 u4 υ x2, 40 ≤ a.2.1 + K → K + 5 < f → a.1 = true → a.2.1 ≤ 40 → RD υ b L 40 tx a.2.1 (-1) → FrU τ υ → x2 = a.2.2.2 (thM τ) → HRs L tx b τ (lpP L tx 43 45 q K a) (en_oi (T_X12_sum_6 (RG_X12_held D) f (Int32.ofNat d) x2 u3 u4 υ)) := by
    intro K
    induction K with
    | zero =>
      intro a f u3 u4 υ x2 h40 hf ha hle hRu hFu hx
      obtain ⟨f, rfl⟩ : ∃ j, f = j + 1 := Nat.exists_eq_succ_of_ne_zero (by omega)
      have n1 : ¬ hr L 40 tx a.2.1 = 43 := fun z => by have := sgN_in (by omega) ((iff_of_eq (sgN_hr (c := 43) hb (by omega))).mp z); omega
      have n2 : ¬ hr L 40 tx a.2.1 = 45 := fun z => by have := sgN_in (by omega) ((iff_of_eq (sgN_hr (c := 45) hb (by omega))).mp z); omega
      rw [t_X12_sum_6, m_fine_y hRu, Option.bind_some]
      dsimp only
      rw [if_neg (show ¬ (1 : Int32) = 0 by decide), m_here hRu (by omega), Option.bind_some]
      dsimp only
      rw [if_neg n1, m_here hRu (by omega), Option.bind_some]
      dsimp only
      rw [if_neg n2]
      exact HRs.ok ha rfl hFu hRu hx
    | succ K ih =>
      intro a f u3 u4 υ x2 h40 hf ha hle hRu hFu hx
      obtain ⟨f, rfl⟩ : ∃ j, f = j + 1 := Nat.exists_eq_succ_of_ne_zero (by omega)
      have more : ∀ s, sgN L tx a.2.1 = s → s < 256 → ∀ r, (∀ v τ1, RG_X12_held D 2 [.inr (185, 12, 0, 0), .inl (Int32.ofNat d)] (en_up υ 185 15 (Int32.ofNat (a.2.1 + 1))) = some (v, τ1) → ∃ u3 u4, r = T_X12_sum_6 (RG_X12_held D) f (Int32.ofNat d) (wkV s x2 v) u3 u4 τ1) →
          HRs L tx b τ (if (q (a.2.1 + 1)).1 = false then flP (q (a.2.1 + 1)).2.1 else lpP L tx 43 45 q K (true, (q (a.2.1 + 1)).2.1, a.2.2.1 ++ (q (a.2.1 + 1)).2.2.1 ++ [2000 + sgN L tx a.2.1], fun th => wkV (sgN L tx a.2.1) (a.2.2.2 th) ((q (a.2.1 + 1)).2.2.2 th))) (en_oi r) := by
        intro s hs hs2 r hrr
        have hi := sgN_in hs2 hs
        have hF0 : FrU τ (en_up υ 185 15 (Int32.ofNat (a.2.1 + 1))) := hFu.up (by omega) _
        obtain ⟨g1, g2, g3⟩ := hG (a.2.1 + 1) (by omega)
        obtain ⟨v, τ1, e1, e2, e3, e4⟩ := hq (a.2.1 + 1) (by omega) (en_up υ 185 15 (Int32.ofNat (a.2.1 + 1))) b (hRu.at (a.2.1 + 1))
        obtain ⟨w3, w4, er⟩ := hrr v τ1 e1
        rw [er]
        by_cases cx : (q (a.2.1 + 1)).1 = true
        · obtain ⟨k1, k2⟩ := e3 cx
          obtain ⟨o1, -⟩ := g3 cx
          rw [if_neg (by rw [cx]; decide)]
          refine ih _ f w3 w4 τ1 _ ?_ (by omega) rfl g2 k1 (hF0.trans e2) ?_
          · show 40 ≤ (q (a.2.1 + 1)).2.1 + K
            omega
          · show wkV s x2 v = wkV (sgN L tx a.2.1) (a.2.2.2 (thM τ)) ((q (a.2.1 + 1)).2.2.2 (thM τ))
            rw [hs, hx, k2, hF0.tth]
        · have cx' : (q (a.2.1 + 1)).1 = false := Bool.eq_false_iff.mpr cx
          obtain ⟨p'', k1⟩ := e4 cx'
          obtain ⟨f2, rfl⟩ : ∃ j, f = j + 1 := Nat.exists_eq_succ_of_ne_zero (by omega)
          rw [if_pos cx', stop f2 _ w3 w4 τ1 p'' _ (by omega) k1]
          exact HRs.no rfl rfl (hF0.trans e2) k1
      have h15 := hRu.2.2.2.1
      rw [t_X12_sum_6, m_fine_y hRu, Option.bind_some]
      dsimp only
      rw [if_neg (show ¬ (1 : Int32) = 0 by decide), m_here hRu (by omega), Option.bind_some]
      dsimp only
      unfold lpP
      by_cases c1 : sgN L tx a.2.1 = 43
      · have h1 : hr L 40 tx a.2.1 = 43 := (iff_of_eq (sgN_hr (c := 43) hb (by omega))).mpr c1
        rw [if_pos (show sgN L tx a.2.1 = 43 ∨ sgN L tx a.2.1 = 45 from Or.inl c1), if_pos h1, m_here hRu (by omega), Option.bind_some]
        dsimp only
        rw [if_pos h1, h15, pn_a1]
        refine more 43 c1 (by omega) _ (fun v τ1 e => ⟨.inl 1, .inl v, ?_⟩)
        rw [e, Option.bind_some]
        dsimp only
        rw [if_neg (show ¬ (1 : Int32) = 0 by decide)]; rfl
      · have n1 : ¬ hr L 40 tx a.2.1 = 43 := fun z => c1 ((iff_of_eq (sgN_hr (c := 43) hb (by omega))).mp z)
        rw [if_neg n1, m_here hRu (by omega), Option.bind_some]
        dsimp only
        by_cases c2 : sgN L tx a.2.1 = 45
        · have h2 : hr L 40 tx a.2.1 = 45 := (iff_of_eq (sgN_hr (c := 45) hb (by omega))).mpr c2
          rw [if_pos (show sgN L tx a.2.1 = 43 ∨ sgN L tx a.2.1 = 45 from Or.inr c2), if_pos h2, m_here hRu (by omega), Option.bind_some]
          dsimp only
          rw [if_neg n1, h15, pn_a1]
          refine more 45 c2 (by omega) _ (fun v τ1 e => ⟨.inl 0, .inl v, ?_⟩)
          rw [e, Option.bind_some]
          dsimp only
          rw [if_pos (show (0 : Int32) = 0 from rfl)]; rfl
        · have n2 : ¬ hr L 40 tx a.2.1 = 45 := fun z => c2 ((iff_of_eq (sgN_hr (c := 45) hb (by omega))).mp z)
          rw [if_neg (show ¬ (sgN L tx a.2.1 = 43 ∨ sgN L tx a.2.1 = 45) from fun z => z.elim c1 c2), if_neg n2]
          exact HRs.ok ha rfl hFu hRu hx
  obtain ⟨v, τ1, e1, e2, e3, e4⟩ := hq p hp τ b hR
  have e1' : RG_X12_held D 2 [.inr (185, 12, 0, 0), .inl (Int32.ofNat d)] τ = some (v, τ1) := e1
  obtain ⟨g1, g2, g3⟩ := hG p hp
  rw [show hX (D + 1) 1 d τ = en_oi (T_X12_sum_0 (RG_X12_held D) (Int32.ofNat d) τ) from rfl, t_X12_sum_0, e1', Option.bind_some]
  dsimp only
  by_cases cx : (q p).1 = true
  · obtain ⟨k1, k2⟩ := e3 cx
    rw [show opP L tx 43 45 q p = lpP L tx 43 45 q 40 (q p) from if_neg (by rw [cx]; decide)]
    exact main 40 (q p) en_FU en_un en_un τ1 v (by omega) (by omega) cx g2 k1 e2 k2
  · have cx' : (q p).1 = false := Bool.eq_false_iff.mpr cx
    obtain ⟨p'', k1⟩ := e4 cx'
    obtain ⟨f, hf⟩ : ∃ j, en_FU = j + 1 := Nat.exists_eq_succ_of_ne_zero (by omega)
    rw [show opP L tx 43 45 q p = flP (q p).2.1 from if_pos cx', hf, stop f _ _ _ τ1 p'' _ (by omega) k1]
    exact HRs.no rfl rfl e2 k1
theorem m_held {L : Nat} {tx : Nat → Nat} (hb : ∀ j, tx j < 256) {D d : Nat} {q : Nat → PRs} (hG : GPr q) (hq : ∀ p, p ≤ 40 → MCp L tx (hX D 1 d) q p) : ∀ p, p ≤ 40 → MCp L tx (hX (D + 1) 0 d) (exP L tx q) p := by
  intro p hp τ b hR
  obtain ⟨v1, τ1, e1, e2, e3, e4⟩ := hq p hp τ b hR
  have e1' : RG_X12_held D 1 [.inr (185, 12, 0, 0), .inl (Int32.ofNat d)] τ = some (v1, τ1) := e1
  obtain ⟨g1, g2, g3⟩ := hG p hp
  rw [show hX (D + 1) 0 d τ = en_oi (T_X12_held_0 (RG_X12_held D) (Int32.ofNat d) τ) from rfl, t_X12_held_0, e1', Option.bind_some]
  dsimp only
  by_cases cx : (q p).1 = true
  · obtain ⟨k1, k2⟩ := e3 cx
    have more : ∀ s, sgN L tx (q p).2.1 = s → (s = 60 ∨ s = 62 ∨ s = 61) → ∀ r, (∀ v2 τ2, RG_X12_held D 1 [.inr (185, 12, 0, 0), .inl (Int32.ofNat d)] (en_up τ1 185 15 (Int32.ofNat ((q p).2.1 + 1))) = some (v2, τ2) → en_oi r = some (wkV s v1 v2, τ2)) → HRs L tx b τ (exP L tx q p) (en_oi r) := by
      intro s hs hs2 r hrr
      have hi := sgN_in (by omega) hs
      have hF0 : FrU τ (en_up τ1 185 15 (Int32.ofNat ((q p).2.1 + 1))) := e2.up (by omega) _
      obtain ⟨v, τ2, j1, j2, j3, j4⟩ := hq ((q p).2.1 + 1) (by omega) (en_up τ1 185 15 (Int32.ofNat ((q p).2.1 + 1))) b (k1.at _)
      rw [hrr v τ2 j1]
      have hexp : exP L tx q p = (if (q ((q p).2.1 + 1)).1 = false then flP (q ((q p).2.1 + 1)).2.1 else (true, (q ((q p).2.1 + 1)).2.1, (q p).2.2.1 ++ (q ((q p).2.1 + 1)).2.2.1 ++ [2000 + sgN L tx (q p).2.1], fun th => wkV (sgN L tx (q p).2.1) ((q p).2.2.2 th) ((q ((q p).2.1 + 1)).2.2.2 th))) := by
        unfold exP
        rw [if_neg (by rw [cx]; decide), if_pos (by rw [hs]; exact hs2)]
      rw [hexp]
      by_cases cq : (q ((q p).2.1 + 1)).1 = true
      · obtain ⟨m1, m2⟩ := j3 cq
        rw [if_neg (by rw [cq]; decide)]
        refine HRs.ok rfl rfl (hF0.trans j2) m1 ?_
        show wkV s v1 v = wkV (sgN L tx (q p).2.1) ((q p).2.2.2 (thM τ)) ((q ((q p).2.1 + 1)).2.2.2 (thM τ))
        rw [hs, k2, m2, hF0.tth]
      · have cq' : (q ((q p).2.1 + 1)).1 = false := Bool.eq_false_iff.mpr cq
        obtain ⟨p'', m1⟩ := j4 cq'
        rw [if_pos cq']
        exact HRs.no rfl rfl (hF0.trans j2) m1
    rw [m_passes k1 (by omega)]
    by_cases c1 : sgN L tx (q p).2.1 = 60
    · have h1 : hr L 40 tx (q p).2.1 = 60 := (iff_of_eq (sgN_hr (c := 60) hb (by omega))).mpr c1
      rw [if_pos h1, Option.bind_some]
      dsimp only
      rw [if_neg (show ¬ (1 : Int32) = 0 by decide)]
      refine more 60 c1 (Or.inl rfl) _ (fun v2 τ2 e => ?_)
      rw [e, Option.bind_some]
      dsimp only
      by_cases z : v1 < v2
      · rw [if_pos z, show wkV 60 v1 v2 = 1 from if_pos z]; rfl
      · rw [if_neg z, show wkV 60 v1 v2 = 0 from if_neg z]; rfl
    have n1 : ¬ hr L 40 tx (q p).2.1 = 60 := fun z => c1 ((iff_of_eq (sgN_hr (c := 60) hb (by omega))).mp z)
    rw [if_neg n1, Option.bind_some]
    dsimp only
    rw [if_pos (show (0 : Int32) = 0 from rfl), m_passes k1 (by omega)]
    by_cases c2 : sgN L tx (q p).2.1 = 62
    · have h1 : hr L 40 tx (q p).2.1 = 62 := (iff_of_eq (sgN_hr (c := 62) hb (by omega))).mpr c2
      rw [if_pos h1, Option.bind_some]
      dsimp only
      rw [if_neg (show ¬ (1 : Int32) = 0 by decide)]
      refine more 62 c2 (Or.inr (Or.inl rfl)) _ (fun v2 τ2 e => ?_)
      rw [e, Option.bind_some]
      dsimp only
      by_cases z : v2 < v1
      · rw [if_pos z, show wkV 62 v1 v2 = 1 from if_pos z]; rfl
      · rw [if_neg z, show wkV 62 v1 v2 = 0 from if_neg z]; rfl
    have n2 : ¬ hr L 40 tx (q p).2.1 = 62 := fun z => c2 ((iff_of_eq (sgN_hr (c := 62) hb (by omega))).mp z)
    rw [if_neg n2, Option.bind_some]
    dsimp only
    rw [if_pos (show (0 : Int32) = 0 from rfl), m_passes k1 (by omega)]
    by_cases c3 : sgN L tx (q p).2.1 = 61
    · have h1 : hr L 40 tx (q p).2.1 = 61 := (iff_of_eq (sgN_hr (c := 61) hb (by omega))).mpr c3
      rw [if_pos h1, Option.bind_some]
      dsimp only
      rw [if_neg (show ¬ (1 : Int32) = 0 by decide)]
      refine more 61 c3 (Or.inr (Or.inr rfl)) _ (fun v2 τ2 e => ?_)
      rw [e, Option.bind_some]
      dsimp only
      by_cases z : v1 = v2
      · rw [if_pos z, show wkV 61 v1 v2 = 1 from if_pos z]; rfl
      · rw [if_neg z, show wkV 61 v1 v2 = 0 from if_neg z]; rfl
    have n3 : ¬ hr L 40 tx (q p).2.1 = 61 := fun z => c3 ((iff_of_eq (sgN_hr (c := 61) hb (by omega))).mp z)
    rw [if_neg n3, Option.bind_some]
    dsimp only
    rw [if_pos (show (0 : Int32) = 0 from rfl)]
    have hexp : exP L tx q p = q p := by
      unfold exP
      rw [if_neg (by rw [cx]; decide), if_neg (fun z => z.elim c1 (fun z => z.elim c2 c3))]
    rw [hexp]
    exact HRs.ok cx rfl e2 k1 k2
  · have cx' : (q p).1 = false := Bool.eq_false_iff.mpr cx
    obtain ⟨p'', k1⟩ := e4 cx'
    rw [show exP L tx q p = flP (q p).2.1 from if_pos cx', m_passes_n k1 (by omega), Option.bind_some]
    dsimp only
    rw [if_pos (show (0 : Int32) = 0 from rfl), m_passes_n k1 (by omega), Option.bind_some]
    dsimp only
    rw [if_pos (show (0 : Int32) = 0 from rfl), m_passes_n k1 (by omega), Option.bind_some]
    dsimp only
    rw [if_pos (show (0 : Int32) = 0 from rfl)]
    exact HRs.no rfl rfl e2 k1
theorem m_ee {L : Nat} {tx : Nat → Nat} (hb : ∀ j, tx j < 256) : ∀ e d D, d + e = 4 → ∀ p, p ≤ 40 → MCp L tx (hX (D + 44 * (e + 1)) 0 d) (eeP L tx e) p
  | 0, d, D, hd => by
    have gT := GP_th (L := L) (tx := tx) (deep := false) hb GP_fl
    have gF := GP_fa (L := L) (tx := tx) gT
    have gP := GP_op (L := L) (tx := tx) (c1 := 42) (c2 := 47) (by omega) (by omega) gF
    have gS := GP_op (L := L) (tx := tx) (c1 := 43) (c2 := 45) (by omega) (by omega) gP
    have hT := m_thing (L := L) (D := D) (d := d) (ex := fun p => flP p) (deep := false) hb (by omega) (decide_eq_false (by omega)).symm GP_fl (fun z => absurd z (by omega))
    have hF := fun p (hp : p ≤ 40) => hT 40 p hp (by omega)
    have h := m_held hb gS (m_sum hb gP (m_product hb gF hF))
    rw [show D + 44 * (0 + 1) = D + 40 + 1 + 1 + 1 + 1 by omega]
    exact h
  | e + 1, d, D, hd => by
    have gT := GP_th (L := L) (tx := tx) (deep := true) hb (GP_ee (L := L) hb e)
    have gF := GP_fa (L := L) (tx := tx) gT
    have gP := GP_op (L := L) (tx := tx) (c1 := 42) (c2 := 47) (by omega) (by omega) gF
    have gS := GP_op (L := L) (tx := tx) (c1 := 43) (c2 := 45) (by omega) (by omega) gP
    have hT := m_thing (L := L) (D := D + 44 * (e + 1)) (d := d) (ex := eeP L tx e) (deep := true) hb (by omega) (decide_eq_true (by omega)).symm (GP_ee hb e) (fun _ k p hp => by
      rw [show D + 44 * (e + 1) + k = D + k + 44 * (e + 1) by omega]
      exact m_ee hb e (d + 1) (D + k) (by omega) p hp)
    have hF := fun p (hp : p ≤ 40) => hT 40 p hp (by omega)
    have h := m_held hb gS (m_sum hb gP (m_product hb gF hF))
    rw [show D + 44 * (e + 1 + 1) = D + 44 * (e + 1) + 40 + 1 + 1 + 1 + 1 by omega]
    exact h
