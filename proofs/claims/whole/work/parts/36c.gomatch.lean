/-! matches: the reference tries them all -/
theorem rg_go (D : Nat) (x1 x2 x3 x4 x5 : Int32) (σ : en_M) : RG_X12_goMatches (D + 1) 0 [.inr (185, 12, 0, 0), .inl x1, .inl x2, .inl x3, .inl x4, .inl x5] σ = en_ov (T_X12_goMatches_0 (RG_X12_goMatches D) x1 x2 x3 x4 x5 σ) := rfl
def WN (g : pG) (x : pS) (m a b : Nat) : Nat := (brN g x (rvW a b) m 0).1
theorem WN_le (g : pG) (x : pS) (m a b : Nat) : WN g x m a b ≤ m := by
  have := brN_le g x (rvW a b) m 0
  show (brN g x (rvW a b) m 0).1 ≤ m
  omega
/-- the best so far, behind a try -/
def UP (n : Nat) (C : Int32) (v : Nat) (as : Nat → Int32) (τ q : en_M) : Prop := (C < Int32.ofNat v → q 185 36 = Int32.ofNat v ∧ ∀ r, r < n → q 201 r = as r) ∧ (¬ C < Int32.ofNat v → q 185 36 = C ∧ ∀ r, r < n → q 201 r = τ 201 r)
theorem FrV.m {a b : en_M} (h : FrV a b) : FrM a b := fun c hc => h.1 c (by omega) (by omega) (by omega)
theorem r_go {g t ro x us kp} {B m : Nat} (hgv : GV g) (hVS : VS (gN g) B x) (hB : B + m < 1000000000) (hm : m ≤ 60) :
    ∀ d i D s p acc τ, i + d = gN g → d < D → s < 2 ^ gN g → (∀ k, k < i → s.testBit k = false) → p = pcn s % 2 → acc + 60 * d ≤ 1000 → MI τ (g, t, ro, x, us, kp) → (∀ k, k < 7 → s.testBit k = true → τ 200 k = -1) →
      ∃ τ', RG_X12_goMatches D 0 [.inr (185, 12, 0, 0), .inl (Int32.ofNat i), .inl (Int32.ofNat s), .inl (Int32.ofNat p), .inl (Int32.ofNat acc), .inl (Int32.ofNat m)] τ = some τ' ∧ MI τ' (g, t, ro, x, us, kp) ∧ FrM τ τ' ∧ τ' 200 = τ 200 ∧ UP (gN g) (τ 185 36) (acc + mtv (WN g x m) d i s p) (asN (WN g x m) d i s p (τ 200)) τ τ' := by
  have hn : gN g ≤ 7 := hgv.1
  have h128 := p2lt hn
  have hFU := en_FU_ge
  have hWle : ∀ a b, WN g x m a b ≤ 60 := fun a b => Nat.le_trans (WN_le g x m a b) hm
  intro d
  induction d with
  | zero =>
    intro i D s p acc τ hi hD hs hb hp hacc hM h200
    obtain ⟨D, rfl⟩ : ∃ j, D = j + 1 := ⟨D - 1, by omega⟩
    have hi : i = gN g := hi
    rw [rg_go, t_X12_goMatches_0, if_pos (show Int32.ofNat i = τ 185 1 by rw [show τ 185 1 = Int32.ofNat (gN g) from hM.1.1, hi])]
    show ∃ τ', en_ov (if τ 185 36 < Int32.ofNat acc then _ else _) = some τ' ∧ _
    by_cases c : τ 185 36 < Int32.ofNat acc
    · rw [if_pos c]
      refine pl_for1 (F := fun f r (q : en_M) => T_X12_goMatches_27 (RG_X12_goMatches D) f (Int32.ofNat i) (Int32.ofNat s) (Int32.ofNat p) (Int32.ofNat acc) (Int32.ofNat m) (Int32.ofNat r) q) (P := fun r q => MI q (g, t, ro, x, us, kp) ∧ FrM τ q ∧ q 200 = τ 200 ∧ q 185 36 = Int32.ofNat acc ∧ ∀ r', r' < r → q 201 r' = τ 200 r')
        (Q := fun r => ∃ τ', en_ov r = some τ' ∧ MI τ' (g, t, ro, x, us, kp) ∧ FrM τ τ' ∧ τ' 200 = τ 200 ∧ UP (gN g) (τ 185 36) (acc + mtv (WN g x m) 0 i s p) (asN (WN g x m) 0 i s p (τ 200)) τ τ') (N := gN g) ?_ ?_ (gN g) 0 en_FU (en_up τ 185 36 (Int32.ofNat acc)) (by omega) (pl_FU (by omega)) ⟨hM.slot 36 _ (by omega), FrM.up (by omega) (by omega), pu_row (by omega), pu_same _ _ _ _, fun r' hr => absurd hr (by omega)⟩
      · rintro f r q hr ⟨p1, p2, p3, p4, p5⟩
        left
        refine ⟨en_up q 201 r (τ 200 r), ?_, p1.kept (fun j _ => pu_cell (by omega)) (fun c hc => pu_row (by omega)), p2.trans (FrM.up (by omega) (by omega)), by rw [pu_row (by omega)]; exact p3, by rw [pu_cell (by omega)]; exact p4, fun r' hr' => ?_⟩
        · show T_X12_goMatches_27 _ (f + 1) _ _ _ _ _ (Int32.ofNat r) q = _
          rw [t_X12_goMatches_27, show q 185 1 = Int32.ofNat (gN g) from p1.1.1, if_pos ((pn_lt (by omega) (by omega)).mpr hr), pn_ix (show r < 7 by omega) (by omega), Option.bind_some, Option.bind_some, p3, pn_a1]
        · by_cases e : r' = r
          · rw [e, pu_same]
          · rw [pu_slot e]; exact p5 r' (by omega)
      · rintro f q ⟨p1, p2, p3, p4, p5⟩
        show ∃ τ', en_ov (T_X12_goMatches_27 _ (f + 1) _ _ _ _ _ (Int32.ofNat (gN g)) q) = _ ∧ _
        rw [t_X12_goMatches_27, show q 185 1 = Int32.ofNat (gN g) from p1.1.1, if_neg (by rw [pn_lt (by omega) (by omega)]; omega)]
        exact ⟨q, rfl, p1, p2, p3, fun _ => ⟨p4, p5⟩, fun z => absurd c z⟩
    · rw [if_neg c]
      exact ⟨τ, rfl, hM, FrM.refl τ, rfl, fun z => absurd z c, fun _ => ⟨rfl, fun _ _ => rfl⟩⟩
  | succ d ih =>
    intro i D s p acc τ hi hD hs hb hp hacc hM h200
    obtain ⟨D, rfl⟩ : ∃ j, D = j + 1 := ⟨D - 1, by omega⟩
    have hs128 : s < 128 := by omega
    have hi7 : i < 7 := by omega
    have hs1 : clr s i < 2 ^ gN g := Nat.lt_of_le_of_lt (clr_le s i) hs
    have hs1' : clr s i < 128 := by omega
    obtain ⟨cf1, cf2, cf3⟩ := clr_f hs128 hi7
    have hb1 : ∀ k, k < i + 1 → (clr s i).testBit k = false := fun k hk => clr_n hs128 hi7 (by omega) (by
      by_cases e : k = i
      · exact Or.inr e
      · exact Or.inl (hb k (by omega)))
    rw [rg_go, t_X12_goMatches_0, if_neg (show ¬ Int32.ofNat i = τ 185 1 by rw [show τ 185 1 = Int32.ofNat (gN g) from hM.1.1, pn_eq (by omega) (by omega)]; omega), q_has, Option.bind_some]
    dsimp only
    rw [pi_if ((pb2_0 _).trans (congrArg Not (pb_bit1 (show s < 2147483648 by omega) (show i < 32 by omega)))), pn_a1]
    by_cases c : s.testBit i = true
    · rw [if_neg (fun z => z c), mtv_y c]
      have hp2 : p < 2 := by omega
      -- what the options give
      have hvle : ∀ o v, voN (WN g x m) d i s p o = some v → acc + v ≤ 1000 := fun o v hv => by
        have := mtv_le hWle
        cases o with
        | zero =>
          by_cases hp : 0 < p
          · rw [vo_0 hp] at hv
            cases hv
            have := this d (i + 1) (clr s i) (p - 1)
            omega
          · rw [vo_0n hp] at hv; cases hv
        | succ j =>
          by_cases cj : (clr s i).testBit j = true
          · rw [vo_y cj] at hv
            cases hv
            have := this d (i + 1) (clr (clr s i) j) p
            have := hWle i j
            omega
          · rw [vo_n cj] at hv; cases hv
      let ST : Nat → en_M → Prop := fun o q => MI q (g, t, ro, x, us, kp) ∧ FrM τ q ∧ q 200 = τ 200 ∧ (boN (voN (WN g x m) d i s p) o = none → q 185 36 = τ 185 36 ∧ ∀ r, r < gN g → q 201 r = τ 201 r) ∧ ∀ b, boN (voN (WN g x m) d i s p) o = some b → UP (gN g) (τ 185 36) (acc + b.1) (aoN (WN g x m) d i s p (τ 200) b.2) τ q
      -- one option more
      have more : ∀ o v q q', voN (WN g x m) d i s p o = some v → ST o q → MI q' (g, t, ro, x, us, kp) → FrM q q' → q' 200 = q 200 → UP (gN g) (q 185 36) (acc + v) (aoN (WN g x m) d i s p (τ 200) o) q q' → ST (o + 1) q' := by
        rintro o v q q' hv ⟨t1, t2, t3, t4, t5⟩ hM' hF' h2' ⟨u1, u2⟩
        have hvl := hvle o v hv
        refine ⟨hM', t2.trans hF', by rw [h2', t3], ?_, ?_⟩
        · intro hno
          have := (bo_ok (o + 1)).1 hno o (by omega)
          rw [hv] at this; cases this
        · intro b hb
          cases hB : boN (voN (WN g x m) d i s p) o with
          | none =>
            rw [bo_y0 hv hB] at hb
            cases hb
            obtain ⟨w1, w2⟩ := t4 hB
            rw [w1] at u1 u2
            exact ⟨u1, fun z => ⟨(u2 z).1, fun r hr => by rw [(u2 z).2 r hr]; exact w2 r hr⟩⟩
          | some q0 =>
            rw [bo_y1 hv hB] at hb
            obtain ⟨w1, w2⟩ := t5 q0 hB
            have hq0 := hvle q0.2 q0.1 ((bo_ok o).2 q0 hB).1
            by_cases cv : q0.1 < v
            · rw [if_pos cv] at hb
              cases hb
              by_cases cC : τ 185 36 < Int32.ofNat (acc + q0.1)
              · obtain ⟨y1, y2⟩ := w1 cC
                rw [y1, pn_lt (show acc + q0.1 < 2147483648 by omega) (show acc + v < 2147483648 by omega)] at u1
                refine ⟨fun _ => u1 (by omega), fun z => absurd (Int32.lt_trans cC ((pn_lt (by omega) (by omega)).mpr (show acc + q0.1 < acc + v by omega))) z⟩
              · obtain ⟨y1, y2⟩ := w2 cC
                rw [y1] at u1 u2
                exact ⟨u1, fun z => ⟨(u2 z).1, fun r hr => by rw [(u2 z).2 r hr]; exact y2 r hr⟩⟩
            · rw [if_neg cv] at hb
              cases hb
              by_cases cC : τ 185 36 < Int32.ofNat (acc + b.1)
              · obtain ⟨y1, y2⟩ := w1 cC
                rw [y1, pn_lt (show acc + b.1 < 2147483648 by omega) (show acc + v < 2147483648 by omega)] at u2
                obtain ⟨z1, z2⟩ := u2 (by omega)
                exact ⟨fun _ => ⟨z1, fun r hr => by rw [z2 r hr]; exact y2 r hr⟩, fun z => absurd cC z⟩
              · obtain ⟨y1, y2⟩ := w2 cC
                rw [y1] at u2
                obtain ⟨z1, z2⟩ := u2 (fun z => cC (Int32.lt_of_lt_of_le z ((pn_le (by omega) (by omega)).mpr (show acc + v ≤ acc + b.1 by omega)) : τ 185 36 < Int32.ofNat (acc + b.1)))
                exact ⟨fun z => absurd z cC, fun _ => ⟨z1, fun r hr => by rw [z2 r hr]; exact y2 r hr⟩⟩
      have none1 : ∀ o q, voN (WN g x m) d i s p o = none → ST o q → ST (o + 1) q := fun o q hv ⟨t1, t2, t3, t4, t5⟩ => ⟨t1, t2, t3, by rw [bo_n hv]; exact t4, by rw [bo_n hv]; exact t5⟩
      have noneK : ∀ k o q, (∀ j, o ≤ j → j < o + k → voN (WN g x m) d i s p j = none) → ST o q → ST (o + k) q := by
        intro k
        induction k with
        | zero => intro o q _ h; exact h
        | succ k ihk => intro o q hj h; exact none1 (o + k) q (hj _ (by omega) (by omega)) (ihk o q (fun j h1 h2 => hj j h1 (by omega)) h)
      have st0 : ST 0 τ := ⟨hM, FrM.refl τ, rfl, fun _ => ⟨rfl, fun _ _ => rfl⟩, fun b hb => absurd (show (none : Option (Nat × Nat)) = some b from hb) (fun z => by cases z)⟩
      -- the pairs
      have pairs : ∀ q, ST (i + 2) q → ∃ τ', en_ov (T_X12_goMatches_109 (RG_X12_goMatches D) en_FU (Int32.ofNat i) (Int32.ofNat s) (Int32.ofNat p) (Int32.ofNat acc) (Int32.ofNat m) (Int32.ofNat (i + 1)) q) = some τ' ∧ ST 8 τ' := by
        intro q hq
        refine pl_for1 (F := fun f j (q : en_M) => T_X12_goMatches_109 (RG_X12_goMatches D) f (Int32.ofNat i) (Int32.ofNat s) (Int32.ofNat p) (Int32.ofNat acc) (Int32.ofNat m) (Int32.ofNat j) q) (P := fun j q => i < j ∧ ST (j + 1) q) (Q := fun r => ∃ τ', en_ov r = some τ' ∧ ST 8 τ') (N := gN g) ?_ ?_ (gN g - (i + 1)) (i + 1) en_FU q (by omega) (pl_FU (by omega)) ⟨by omega, hq⟩
        · rintro f j q hj ⟨hij, hS⟩
          have hSq := hS
          obtain ⟨t1, t2, t3, t4, t5⟩ := hS
          left
          show ∃ q', T_X12_goMatches_109 _ (f + 1) _ _ _ _ _ (Int32.ofNat j) q = _ ∧ _
          rw [t_X12_goMatches_109, show q 185 1 = Int32.ofNat (gN g) from t1.1.1, if_pos ((pn_lt (by omega) (by omega)).mpr hj), q_has, Option.bind_some]
          dsimp only
          rw [pi_if ((pb2_0 _).trans (congrArg Not (pb_bit1 (show s < 2147483648 by omega) (show j < 32 by omega)))), pn_a1, pn_a1]
          by_cases cj : s.testBit j = true
          · have cj1 : (clr s i).testBit j = true := (clr_y hs128 hi7 (by omega)).mpr ⟨cj, by omega⟩
            have hM2 : MI (en_up (en_up q 200 i (Int32.ofNat j)) 200 j (Int32.ofNat i)) (g, t, ro, x, us, kp) := t1.kept (fun j _ => by rw [pu_cell (by omega), pu_cell (by omega)]) (fun c hc => by rw [pu_row (by omega), pu_row (by omega)])
            obtain ⟨q2, k1, -, k3, k4⟩ := m_rivals (a := i) (b := j) hgv hVS hB hm hM2 (by omega) hj
            have k1 : O_X12_rivalsOf [.inr (185, 12, 0, 0), .inl (Int32.ofNat i), .inl (Int32.ofNat j), .inl (Int32.ofNat m)] (en_up (en_up q 200 i (Int32.ofNat j)) 200 j (Int32.ofNat i)) = some (Int32.ofNat (WN g x m i j), q2) := k1
            have q2200 : q2 200 = fun r => if r = j then Int32.ofNat i else if r = i then Int32.ofNat j else τ 200 r := by
              rw [k4.1 200 (by omega) (by omega) (by omega)]
              funext r
              by_cases e : r = j
              · rw [e, pu_same, if_pos rfl]
              · rw [pu_slot e, if_neg e]
                by_cases e2 : r = i
                · rw [e2, pu_same, if_pos rfl]
                · rw [pu_slot e2, if_neg e2, t3]
            obtain ⟨b1, b2, b3⟩ := clr_f hs1' (show j < 7 by omega)
            obtain ⟨q3, g1, g2, g3, g4, g5⟩ := ih (i + 1) D (clr (clr s i) j) p (acc + WN g x m i j) q2 (by omega) (by omega) (Nat.lt_of_le_of_lt (clr_le _ _) hs1) (fun k hk => clr_n hs1' (by omega) (by omega) (Or.inl (hb1 k hk))) (by rw [b3 cj1]; have := cf3 c; omega) (by have := hWle i j; omega) k3 (fun k hk hkb => by
              have h1 := (clr_y hs1' (by omega) hk).mp hkb
              have h2 := (clr_y hs128 hi7 hk).mp h1.1
              rw [q2200]
              show (if k = j then _ else if k = i then _ else τ 200 k) = _
              rw [if_neg h1.2, if_neg h2.2]
              exact h200 k hk h2.1)
            have q2e : q2 185 36 = q 185 36 := by rw [k4.2 36 (by omega) (by omega) (by omega) (by omega) (by omega), pu_cell (by omega), pu_cell (by omega)]
            have q2f : q2 201 = q 201 := by rw [k4.1 201 (by omega) (by omega) (by omega), pu_row (by omega), pu_row (by omega)]
            have hvo := vo_y (W := WN g x m) (d := d) (p := p) cj1
            have hM3 : MI (en_up (en_up q3 200 i (-1)) 200 j (-1)) (g, t, ro, x, us, kp) := g2.kept (fun j _ => by rw [pu_cell (by omega), pu_cell (by omega)]) (fun c hc => by rw [pu_row (by omega), pu_row (by omega)])
            have hrow : (en_up (en_up q3 200 i (-1)) 200 j (-1)) 200 = q 200 := by
              funext r
              by_cases e : r = j
              · rw [e, pu_same, t3]; exact (h200 j (by omega) cj).symm
              · rw [pu_slot e]
                by_cases e2 : r = i
                · rw [e2, pu_same, t3]; exact (h200 i hi7 c).symm
                · rw [pu_slot e2, g4, q2200, t3]
                  show (if r = j then _ else if r = i then _ else τ 200 r) = _
                  rw [if_neg e, if_neg e2]
            refine ⟨en_up (en_up q3 200 i (-1)) 200 j (-1), ?_, by omega, more (j + 1) _ q _ hvo hSq hM3 (fun a ha => by rw [pu_row (by omega), pu_row (by omega), g3 a ha, k4.1 a (by omega) (by omega) (by omega), pu_row (by omega), pu_row (by omega)]) hrow ?_⟩
            · rw [if_neg (fun z => z cj), pn_ix (show i < 7 by omega) (by omega), Option.bind_some, pn_ix (show j < 7 by omega) (by omega), Option.bind_some, k1, Option.bind_some, clr_I2 hs128 hi7 (by omega), pn_add]
              dsimp only
              rw [g1, Option.bind_some, Option.bind_some, Option.bind_some]
            · have hao : aoN (WN g x m) d i s p (τ 200) (j + 1) = asN (WN g x m) d (i + 1) (clr (clr s i) j) p (q2 200) := by
                rw [q2200]
                show (if j + 1 = 0 then _ else asN (WN g x m) d (i + 1) (clr (clr s i) (j + 1 - 1)) p (fun r => if r = j + 1 - 1 then Int32.ofNat i else if r = i then Int32.ofNat (j + 1 - 1) else τ 200 r)) = _
                rw [if_neg (by omega), Nat.add_sub_cancel]
              rw [hao, ← Nat.add_assoc]
              obtain ⟨y1, y2⟩ := g5
              rw [q2e] at y1 y2
              refine ⟨fun z => ⟨by rw [pu_cell (by omega), pu_cell (by omega)]; exact (y1 z).1, fun r hr => by rw [pu_cell (by omega), pu_cell (by omega)]; exact (y1 z).2 r hr⟩, fun z => ⟨by rw [pu_cell (by omega), pu_cell (by omega)]; exact (y2 z).1, fun r hr => by rw [pu_cell (by omega), pu_cell (by omega), (y2 z).2 r hr, q2f]⟩⟩
          · rw [if_pos cj]
            exact ⟨q, rfl, by omega, none1 (j + 1) q (vo_n (fun z => cj ((clr_y hs128 hi7 (by omega)).mp z).1)) hSq⟩
        · rintro f q ⟨hij, hS⟩
          show ∃ τ', en_ov (T_X12_goMatches_109 _ (f + 1) _ _ _ _ _ (Int32.ofNat (gN g)) q) = _ ∧ _
          rw [t_X12_goMatches_109, show q 185 1 = Int32.ofNat (gN g) from hS.1.1.1, if_neg (by rw [pn_lt (by omega) (by omega)]; omega)]
          refine ⟨q, rfl, ?_⟩
          have := noneK (8 - (gN g + 1)) (gN g + 1) q (fun j h1 h2 => by
            obtain ⟨j', rfl⟩ : ∃ j', j = j' + 1 := ⟨j - 1, by omega⟩
            refine vo_n (fun z => ?_)
            have hlt : 2 ^ gN g ≤ 2 ^ j' := Nat.pow_le_pow_right (by decide) (by omega)
            rw [Nat.testBit_lt_two_pow (by omega)] at z; exact absurd z (by decide)) hS
          rw [show gN g + 1 + (8 - (gN g + 1)) = 8 by omega] at this
          exact this
      -- the first option, then the pairs
      have low : ∀ q, ST 1 q → ST (i + 2) q := fun q h => by
        have := noneK (i + 1) 1 q (fun j h1 h2 => by
          obtain ⟨j', rfl⟩ : ∃ j', j = j' + 1 := ⟨j - 1, by omega⟩
          exact vo_n (by rw [hb1 j' (by omega)]; decide)) h
        rw [show 1 + (i + 1) = i + 2 by omega] at this
        exact this
      -- some option there is
      have hsome : ∃ b, boN (voN (WN g x m) d i s p) 8 = some b := by
        cases hB : boN (voN (WN g x m) d i s p) 8 with
        | some b => exact ⟨b, rfl⟩
        | none =>
          exfalso
          have hno := (bo_ok 8).1 hB
          by_cases h0 : 0 < p
          · have := hno 0 (by omega)
            rw [vo_0 h0] at this; cases this
          · obtain ⟨j, hj, hjb⟩ := even_two hs128 hi7 c (by omega)
            have := hno (j + 1) (by omega)
            rw [vo_y hjb] at this; cases this
      obtain ⟨bb, hbb⟩ := hsome
      have fin : ∀ q, ST 8 q → MI q (g, t, ro, x, us, kp) ∧ FrM τ q ∧ q 200 = τ 200 ∧ UP (gN g) (τ 185 36) (acc + mxv (boN (voN (WN g x m) d i s p) 8)) (asN (WN g x m) (d + 1) i s p (τ 200)) τ q := fun q ⟨t1, t2, t3, t4, t5⟩ => by
        rw [as_y c hbb, hbb]
        exact ⟨t1, t2, t3, t5 bb hbb⟩
      rw [pi_if (pn_0lt (b := p) (by omega))]
      by_cases h0 : 0 < p
      · obtain ⟨q1, g1, g2, g3, g4, g5⟩ := ih (i + 1) D (clr s i) (p - 1) acc τ (by omega) (by omega) hs1 hb1 (by rw [cf3 c]; omega) (by omega) hM (fun k hk hkb => h200 k hk ((clr_y hs128 hi7 hk).mp hkb).1)
        have hS1 : ST 1 q1 := more 0 _ τ q1 (vo_0 h0) st0 g2 g3 g4 (by
          show UP _ _ _ (if (0 : Nat) = 0 then asN (WN g x m) d (i + 1) (clr s i) (p - 1) (τ 200) else _) _ _
          rw [if_pos rfl]; exact g5)
        obtain ⟨τ', r1, r2⟩ := pairs q1 (low q1 hS1)
        rw [if_pos h0, clr_I s i (by omega), show Int32.ofNat p - (1 : Int32) = Int32.ofNat (p - 1) from pn_sub (b := 1) (by omega), g1, Option.bind_some, r1]
        exact ⟨τ', rfl, fin τ' r2⟩
      · obtain ⟨τ', r1, r2⟩ := pairs τ (low τ (none1 0 τ (vo_0n h0) st0))
        rw [if_neg h0, r1]
        exact ⟨τ', rfl, fin τ' r2⟩
    · rw [if_pos c, mtv_n c, as_n c]
      obtain ⟨q1, g1, g2, g3, g4, g5⟩ := ih (i + 1) D s p acc τ (by omega) (by omega) hs (fun k hk => by
        by_cases e : k = i
        · rw [e]; exact Bool.eq_false_iff.mpr c
        · exact hb k (by omega)) hp (by omega) hM h200
      rw [g1, Option.bind_some]
      exact ⟨q1, rfl, g2, g3, g4, g5⟩
