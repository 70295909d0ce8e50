/-! lawful -/
theorem r_everybody {n : Nat} {σ : en_M} (hn : n ≤ 7) (h : σ 185 1 = Int32.ofNat n) : O_X12_everybody [.inr (185, 12, 0, 0)] σ = some (Int32.ofNat (2 ^ n - 1), σ) := by
  rw [o_X12_everybody, t_X12_everybody_0, h, pb_1 (by omega), show Int32.ofNat (2 ^ n) - (1 : Int32) = Int32.ofNat (2 ^ n - 1) from pn_sub (b := 1) (Nat.two_pow_pos n)]; rfl
/-- the tired of a set, among the first r -/
def tsN (T : Nat → Int32) (s : Nat) : Nat → Int32
  | 0 => 0
  | r + 1 => tsN T s r + (if s.testBit r then T r else 0)
theorem tsN_ge {T : Nat → Int32} {s n : Nat} (hs : s < 2 ^ n) : ∀ i, n ≤ i → tsN T s i = tsN T s n := by
  intro i hi
  induction i with
  | zero => rw [show n = 0 by omega]
  | succ i ih =>
    by_cases e : n = i + 1
    · rw [e]
    · rw [← ih (by omega)]
      show tsN T s i + (if s.testBit i then T i else 0) = _
      rw [if_neg (by rw [Nat.testBit_lt_two_pow (Nat.lt_of_lt_of_le hs (Nat.pow_le_pow_right (by decide) (by omega)))]; decide), Int32.add_zero]
theorem tsN_0 (T : Nat → Int32) : ∀ i, tsN T 0 i = 0
  | 0 => rfl
  | i + 1 => by
    unfold tsN
    rw [tsN_0 T i, if_neg (by simp)]; rfl
theorem ts_bit {s r : Nat} (v : Int32) : Int32.ofNat (s / 2 ^ r % 2) * v = if s.testBit r then v else 0 := by
  rw [Nat.testBit_eq_decide_div_mod_eq]
  rcases Nat.mod_two_eq_zero_or_one (s / 2 ^ r) with h | h
  · rw [h, if_neg (by decide)]; exact Int32.zero_mul
  · rw [h, if_pos (by decide)]; exact Int32.one_mul v
theorem q_tiredOf {σ : en_M} {T : Nat → Int32} {s : Nat} (hs : s < 128) (h : ∀ r, r < 7 → σ 16 r = T r) : O_X7_tiredOf [.inr (15, 7, 0, 0), .inl (Int32.ofNat s)] σ = some (tsN T s 7, σ) := by
  rw [o_X7_tiredOf, t_X7_tiredOf_0]
  refine pl_for1 (F := fun m i (q : Int32) => T_X7_tiredOf_4 m 15 (Int32.ofNat s) q (Int32.ofNat i) σ) (P := fun i q => q = tsN T s i) (Q := fun r => en_oi r = some (tsN T s 7, σ)) (N := 7) ?_ ?_ 7 0 en_FU 0 (by omega) (pl_FU (by omega)) rfl
  · rintro m i q hi rfl
    refine Or.inl ⟨tsN T s (i + 1), ?_, rfl⟩
    show T_X7_tiredOf_4 (m + 1) 15 _ _ _ σ = _
    rw [t_X7_tiredOf_4, if_pos (show Int32.ofNat i < (7 : Int32) from (pn_lt (b := 7) (by omega) (by omega)).mpr hi), q_bit, Option.bind_some, pn_ix hi (by omega), Option.bind_some]
    dsimp only
    rw [pb_bit (by omega) (by omega), show σ (15 + 1) i = T i from h i hi, ts_bit, pn_a1]; rfl
  · rintro m q rfl
    show en_oi (T_X7_tiredOf_4 (m + 1) 15 _ _ _ σ) = _
    rw [t_X7_tiredOf_4, if_neg (show ¬ Int32.ofNat 7 < (7 : Int32) by decide)]; rfl
theorem plN_0 (f : Nat → Nat) (i : Nat) : plN f 0 i = 0 := by
  apply Nat.eq_of_testBit_eq; intro p
  rw [plN_bit]; simp
theorem lawS_0 (g : pG) (x : pS) : lawS g x 0 = 0 := by
  unfold lawS lawN
  rw [plN_0]
  simp [pcn]
/-- the lawful sets below k: how many, the most tired, all of them -/
def lfN (L : Nat → Nat) (T : Nat → Int32) : Nat → Nat × Nat × Nat
  | 0 => (0, 0, 0)
  | s + 1 => if L s = 0 then ((lfN L T s).1 + 1, if T (lfN L T s).2.1 < T s then s else (lfN L T s).2.1, (lfN L T s).2.2 ||| s) else lfN L T s
theorem lfN_le (L : Nat → Nat) (T : Nat → Int32) : ∀ s, (lfN L T s).2.1 ≤ s
  | 0 => Nat.le_refl _
  | s + 1 => by
    have ih := lfN_le L T s
    unfold lfN
    by_cases c : L s = 0
    · rw [if_pos c]
      show (if T (lfN L T s).2.1 < T s then s else (lfN L T s).2.1) ≤ s + 1
      split <;> omega
    · rw [if_neg c]; omega
theorem p_lawful : en_st_lawful pInv := by
  intro c hc
  refine p_two hc (fun A σ0 hA hB => ?_)
  have hA0 := hA
  obtain ⟨g, t, ro, x, us, kp⟩ := A
  have hgv : GV g := hA.1
  have hn : gN g ≤ 7 := hgv.1
  by_cases hz : gN g = 0
  · refine p_no hA (-2) (fun hC => ?_) (fun τ hM => ?_)
    · rw [o_X11_lawful, t_X11_lawful_0, show σ0 5 3 = Int32.ofNat (gN g) from hC.1.1, hz, if_pos (by decide)]; rfl
    · rw [o_X12_lawful, t_X12_lawful_0, show τ 185 1 = Int32.ofNat (gN g) from hM.1.1, hz, if_pos (by decide)]; rfl
  have nz : ¬ Int32.ofNat (gN g) = 0 := by rw [pn_eq0 (by omega)]; exact hz
  have h128 := p2lt hn
  have hNB : sN x ≤ 2000 * c := hA.2.2.2.2.2.2.2.1.2.1
  have hpp : PMf (gN g) (sF x) := hA.2.2.2.2.2.2.2.1.1
  have hL6 : ∀ s, lawS g x s < 6 := fun s => lawN_lt _ _ _ _ _ _ _
  generalize hZ : lfN (lawS g x) (fun s => tsN (sT x) s 7) = Z
  have hZs : ∀ s, Z (s + 1) = if lawS g x s = 0 then ((Z s).1 + 1, if tsN (sT x) (Z s).2.1 7 < tsN (sT x) s 7 then s else (Z s).2.1, (Z s).2.2 ||| s) else Z s := fun s => by rw [← hZ]; rfl
  have hZ0 : Z 0 = (0, 0, 0) := by rw [← hZ]; rfl
  have hZl : ∀ s, (Z s).2.1 ≤ s := fun s => by rw [← hZ]; exact lfN_le _ _ s
  refine ⟨Int32.ofNat (Z (2 ^ gN g)).1, (g, t, [Int32.ofNat (Z (2 ^ gN g)).2.1, Int32.ofNat (Z (2 ^ gN g)).2.2], x, us, kp), fun hC => ?_, fun τ hM => ?_, (hA.row (by simp)).mono (by omega)⟩
  · have hT : ∀ r, r < 7 → σ0 16 r = sT x r := fun r hr => (hC.2.2.2.1.2.2.2.2.2.1 r hr).1
    rw [o_X11_lawful, t_X11_lawful_0, show σ0 5 3 = Int32.ofNat (gN g) from hC.1.1, if_neg nz]
    refine pl_for1 (F := fun f i (q : Int32 × Int32 × Int32) => T_X11_lawful_22 f q.1 q.2.1 q.2.2 (Int32.ofNat i) σ0) (P := fun i q => q = (Int32.ofNat (Z i).1, Int32.ofNat (Z i).2.1, Int32.ofNat (Z i).2.2)) (Q := fun r => ∃ σ', en_oi r = some (Int32.ofNat (Z (2 ^ gN g)).1, σ') ∧ CI σ' (g, t, [Int32.ofNat (Z (2 ^ gN g)).2.1, Int32.ofNat (Z (2 ^ gN g)).2.2], x, us, kp) ∧ FrC σ0 σ') (N := 2 ^ gN g) ?_ ?_ (2 ^ gN g) 0 en_FU (0, 0, 0) (by omega) (pl_FU (by omega)) (by rw [hZ0]; rfl)
    · rintro f i q hi rfl
      have hl := hZl i
      have hb : O_X11_brokenNow [.inr (0, 11, 0, 0), .inl (Int32.ofNat i)] σ0 = some (Int32.ofNat (lawS g x i), σ0) := q_brokenNow hA0 (by omega) hC (by show 0 < gN g; omega) hi
      have hl6 := hL6 i
      refine Or.inl ⟨_, ?_, rfl⟩
      show T_X11_lawful_22 (f + 1) _ _ _ _ σ0 = T_X11_lawful_22 f (Int32.ofNat (Z (i + 1)).1) (Int32.ofNat (Z (i + 1)).2.1) (Int32.ofNat (Z (i + 1)).2.2) _ σ0
      rw [t_X11_lawful_22, show σ0 5 3 = Int32.ofNat (gN g) from hC.1.1, pb_1 (by omega), if_pos ((pn_lt (by omega) (by omega)).mpr hi), hb, Option.bind_some]
      dsimp only
      rw [pi_if (pn_eq0 (show lawS g x i < 2147483648 by omega)), pn_a1, hZs]
      by_cases c1 : lawS g x i = 0
      · rw [if_pos c1, if_pos c1, q_tiredOf (by omega) hT, Option.bind_some]
        dsimp only
        rw [q_tiredOf (by omega) hT, Option.bind_some]
        dsimp only
        rw [pn_a1, pn_or]
        by_cases c2 : tsN (sT x) (Z i).2.1 7 < tsN (sT x) i 7
        · rw [if_pos c2, if_pos c2]
        · rw [if_neg c2, if_neg c2]
      · rw [if_neg c1, if_neg c1, pn_a1]
    · rintro f q rfl
      show ∃ σ', en_oi (T_X11_lawful_22 (f + 1) _ _ _ _ σ0) = _ ∧ _
      obtain ⟨σ3, g1, g2, g3⟩ := CI.add (CI.begin hC) (by simp) (Int32.ofNat (Z (2 ^ gN g)).2.1)
      obtain ⟨σ4, k1, k2, k3⟩ := CI.add g2 (by simp) (Int32.ofNat (Z (2 ^ gN g)).2.2)
      rw [t_X11_lawful_22, show σ0 5 3 = Int32.ofNat (gN g) from hC.1.1, pb_1 (by omega), if_neg (by rw [pn_lt (by omega) (by omega)]; omega), q_tbegin, Option.bind_some]
      dsimp only
      rw [g1, Option.bind_some, k1, Option.bind_some]
      exact ⟨σ4, rfl, k2, fun c hc => by rw [k3 c (by omega) (by omega), g3 c (by omega) (by omega), pu_row (by omega)]⟩
  · have hM2 := hM.slot 11 0 (by omega)
    have hfr : FrM τ (en_up τ 185 11 0) := FrM.up (by omega) (by omega)
    rw [o_X12_lawful, t_X12_lawful_0, show τ 185 1 = Int32.ofNat (gN g) from hM.1.1, if_neg nz]
    generalize en_up τ 185 11 0 = τ1 at hM2 hfr ⊢
    have h1 : τ1 185 1 = Int32.ofNat (gN g) := hM2.1.1
    have hT : ∀ r, r < 7 → τ1 186 (7 + r) = sT x r := fun r hr => (hM2.2.2.2.1.2.1 r hr).1
    refine pl_for (F := fun f i (q : Int32 × Int32 × Int32 × Int32 × en_V × en_V) => T_X12_lawful_27 f q.1 q.2.1 q.2.2.1 q.2.2.2.1 (Int32.ofNat i) q.2.2.2.2.1 q.2.2.2.2.2 τ1) (P := fun i q => q.1 = Int32.ofNat (Z i).1 ∧ q.2.1 = Int32.ofNat (Z i).2.1 ∧ q.2.2.1 = (if i = 0 then -1 else tsN (sT x) (Z i).2.1 7) ∧ q.2.2.2.1 = Int32.ofNat (Z i).2.2) (Q := fun r => ∃ τ', en_oi r = some (Int32.ofNat (Z (2 ^ gN g)).1, τ') ∧ MI τ' (g, t, [Int32.ofNat (Z (2 ^ gN g)).2.1, Int32.ofNat (Z (2 ^ gN g)).2.2], x, us, kp) ∧ FrM τ τ') (N := 2 ^ gN g) (C := 10) (C0 := 1) ?_ ?_ (2 ^ gN g) 0 en_FU (0, 0, -1, 0, en_un, en_un) (by omega) (by have := en_FU_ge; omega) ⟨by rw [hZ0]; rfl, by rw [hZ0]; rfl, rfl, by rw [hZ0]; rfl⟩
    · rintro f i ⟨q1, q2, q3, q4, u6, u7⟩ hi hf ⟨y1, y2, y3, y4⟩
      have y1 : q1 = _ := y1
      have y2 : q2 = _ := y2
      have y3 : q3 = _ := y3
      have y4 : q4 = _ := y4
      have hl6 := hL6 i
      have hbr : O_X12_broken [.inr (185, 12, 0, 0), .inr (186, 20, 53, 0), .inl (Int32.ofNat i)] τ1 = some (Int32.ofNat (lawS g x i), τ1) := r_broken (x := x) (k := 186) hgv hM2.1 hM2.2.2.2.1 hpp (by omega) (by omega) hi
      obtain ⟨f, rfl⟩ : ∃ j, f = j + 1 := ⟨f - 1, by omega⟩
      left
      show ∃ n', ∃ q' : Int32 × Int32 × Int32 × Int32 × en_V × en_V, T_X12_lawful_27 (f + 1) q1 q2 q3 q4 _ u6 u7 τ1 = _ ∧ _
      rw [t_X12_lawful_27, r_everybody hn h1, Option.bind_some]
      dsimp only
      rw [if_neg (by rw [pn_lt (by omega) (by omega)]; omega), hbr, Option.bind_some]
      dsimp only
      rw [pi_if (pn_eq0 (show lawS g x i < 2147483648 by omega)), hZs]
      by_cases c1 : lawS g x i = 0
      · rw [if_pos c1]
        simp only [if_pos c1]
        obtain ⟨r, b1, b2⟩ := pl_to (F := fun f p (q : Int32) => T_X12_lawful_68 f (q1 + 1) q2 q3 (q4 ||| Int32.ofNat i) (Int32.ofNat i) q (Int32.ofNat p) τ1) (P := fun p q => q = tsN (sT x) i p) (N := gN g) (by
          rintro f p q hp rfl
          refine ⟨tsN (sT x) i (p + 1), ?_, rfl⟩
          show T_X12_lawful_68 (f + 1) _ _ _ _ _ _ _ τ1 = _
          rw [t_X12_lawful_68, h1, if_pos ((pn_lt (by omega) (by omega)).mpr hp), q_has, Option.bind_some]
          dsimp only
          have e1 : (pb2 (en_shr (Int32.ofNat i) (Int32.ofNat p) &&& 1 = 1) = 0) = ¬ i.testBit p = true := by rw [pb2_0, pb_bit1 (by omega) (by omega)]
          rw [pi_if e1, pn_a1, show (7 : Int32) + Int32.ofNat p = Int32.ofNat (7 + p) from pn_add 7 p, pn_ix (by omega) (by omega), Option.bind_some, hT p (by omega)]
          conv => rhs; unfold tsN
          by_cases c2 : i.testBit p = true
          · rw [if_neg (fun q => q c2), if_pos c2]
          · rw [if_pos c2, if_neg c2]) (gN g) 0 f 0 (by omega) (by omega) rfl
        have b1 : T_X12_lawful_68 f (q1 + 1) q2 q3 (q4 ||| Int32.ofNat i) (Int32.ofNat i) 0 0 τ1 = T_X12_lawful_68 (f - gN g) (q1 + 1) q2 q3 (q4 ||| Int32.ofNat i) (Int32.ofNat i) r (Int32.ofNat (gN g)) τ1 := b1
        have b2 : r = tsN (sT x) i (gN g) := b2
        rw [← tsN_ge hi 7 hn] at b2
        obtain ⟨d, hd⟩ : ∃ d, f - gN g = d + 1 := ⟨f - gN g - 1, by omega⟩
        rw [b1, hd, t_X12_lawful_68, h1, if_neg (by rw [pn_lt (by omega) (by omega)]; omega), pn_a1, y1, y2, y3, y4, b2, pn_a1, pn_or]
        by_cases c0 : i = 0
        · subst c0
          rw [if_pos rfl, tsN_0, if_pos (show (-1 : Int32) < 0 by decide)]
          refine ⟨d, (Int32.ofNat ((Z 0).1 + 1), Int32.ofNat 0, 0, Int32.ofNat ((Z 0).2.2 ||| 0), _, _), rfl, by omega, rfl, ?_, ?_, rfl⟩
          · show Int32.ofNat 0 = Int32.ofNat (if tsN (sT x) (Z 0).2.1 7 < 0 then 0 else (Z 0).2.1)
            rw [hZ0, tsN_0, if_neg (show ¬ (0 : Int32) < 0 by decide)]
          · show (0 : Int32) = if 0 + 1 = 0 then -1 else tsN (sT x) (if tsN (sT x) (Z 0).2.1 7 < 0 then 0 else (Z 0).2.1) 7
            rw [hZ0, tsN_0, if_neg (show ¬ (0 : Int32) < 0 by decide), tsN_0]; rfl
        · rw [if_neg c0]
          by_cases c2 : tsN (sT x) (Z i).2.1 7 < tsN (sT x) i 7
          · rw [if_pos c2]
            simp only [if_pos c2]
            exact ⟨d, (Int32.ofNat ((Z i).1 + 1), Int32.ofNat i, tsN (sT x) i 7, Int32.ofNat ((Z i).2.2 ||| i), _, _), rfl, by omega, rfl, rfl, by rw [if_neg (by omega)], rfl⟩
          · rw [if_neg c2]
            simp only [if_neg c2]
            exact ⟨d, (Int32.ofNat ((Z i).1 + 1), Int32.ofNat (Z i).2.1, tsN (sT x) (Z i).2.1 7, Int32.ofNat ((Z i).2.2 ||| i), _, _), rfl, by omega, rfl, rfl, by rw [if_neg (by omega)], rfl⟩
      · rw [if_neg c1]
        simp only [if_neg c1]
        have c0 : i ≠ 0 := fun q => c1 (by rw [q]; exact lawS_0 g x)
        refine ⟨f, (q1, q2, q3, q4, u6, u7), by rw [pn_a1], by omega, y1, y2, ?_, y4⟩
        show q3 = _
        rw [y3, if_neg c0, if_neg (by omega)]
    · rintro f ⟨q1, q2, q3, q4, u6, u7⟩ hf ⟨y1, y2, y3, y4⟩
      have y1 : q1 = _ := y1
      have y2 : q2 = _ := y2
      have y4 : q4 = _ := y4
      obtain ⟨f, rfl⟩ : ∃ j, f = j + 1 := ⟨f - 1, by omega⟩
      obtain ⟨τ3, g1, g2, g3, -⟩ := MI.add (MI.begin hM2) (by simp) (Int32.ofNat (Z (2 ^ gN g)).2.1)
      obtain ⟨τ4, k1, k2, k3, -⟩ := MI.add g2 (by simp) (Int32.ofNat (Z (2 ^ gN g)).2.2)
      show ∃ τ', en_oi (T_X12_lawful_27 (f + 1) q1 q2 q3 q4 _ u6 u7 τ1) = _ ∧ _
      rw [t_X12_lawful_27, r_everybody hn h1, Option.bind_some]
      dsimp only
      rw [if_pos ((pn_lt (by omega) (by omega)).mpr (by have := Nat.two_pow_pos (gN g); omega)), y2, g1, Option.bind_some, y4, k1, Option.bind_some, y1]
      exact ⟨τ4, rfl, k2, fun c hc => by rw [k3 c (by omega) (by omega), g3 c (by omega) (by omega), pu_row (by omega), hfr c hc]⟩
