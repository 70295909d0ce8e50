/-! covers -/
theorem an_sub {a b c d : Nat} (h : (a ||| b) &&& (c ||| d) = 0) : b &&& d = 0 := by
  apply Nat.eq_of_testBit_eq; intro i
  have hi := congrArg (fun z => Nat.testBit z i) h
  simp only [Nat.testBit_and, Nat.testBit_or, Nat.zero_testBit] at hi ⊢
  revert hi
  cases a.testBit i <;> cases b.testBit i <;> cases c.testBit i <;> cases d.testBit i <;> decide
theorem plN_or (f : Nat → Nat) (a b n : Nat) : plN f (a ||| b) n = plN f a n ||| plN f b n := by
  apply Nat.eq_of_testBit_eq; intro i
  simp only [plN_bit, Nat.testBit_or]
  cases decide (i < n) <;> simp
theorem pcn_le {a b : Nat} (ha : a < 128) (hb : b < 128) : pcn b ≤ pcn (a ||| b) := (by decide +kernel : ∀ a < 128, ∀ b < 128, pcn b ≤ pcn (a ||| b)) a ha b hb
theorem lawN_0 {mo tn s pl who wh N : Nat} : lawN mo tn s pl who wh N = 0 ↔ ¬ mo < pcn s ∧ s &&& who = 0 ∧ pl &&& (pl / 2) = 0 ∧ pl &&& wh = 0 ∧ ¬ (N % 7 = 0 ∧ s.testBit tn = true) := by
  unfold lawN
  by_cases c1 : mo < pcn s
  · rw [if_pos c1]; exact ⟨fun q => by omega, fun q => absurd c1 q.1⟩
  rw [if_neg c1]
  by_cases c2 : s &&& who = 0
  · rw [if_neg (fun q => q c2)]
    by_cases c3 : pl &&& (pl / 2) = 0
    · rw [if_neg (fun q => q c3)]
      by_cases c4 : pl &&& wh = 0
      · rw [if_neg (fun q => q c4)]
        by_cases c5 : N % 7 = 0 ∧ s.testBit tn = true
        · rw [if_pos c5]; exact ⟨fun q => by omega, fun q => absurd c5 q.2.2.2.2⟩
        · rw [if_neg c5]; exact ⟨fun _ => ⟨c1, c2, c3, c4, c5⟩, fun _ => rfl⟩
      · rw [if_pos c4]; exact ⟨fun q => by omega, fun q => absurd q.2.2.2.1 c4⟩
    · rw [if_pos c3]; exact ⟨fun q => by omega, fun q => absurd q.2.2.1 c3⟩
  · rw [if_pos c2]; exact ⟨fun q => by omega, fun q => absurd q.2.1 c2⟩
/-- less is as lawful -/
theorem lawS_or {g : pG} {x : pS} {a b : Nat} (ha : a < 128) (hb : b < 128) (h : lawS g x (a ||| b) = 0) : lawS g x b = 0 := by
  unfold lawS at h ⊢
  rw [lawN_0] at h ⊢
  obtain ⟨h1, h2, h3, h4, h5⟩ := h
  rw [plN_or] at h3 h4
  have hp := pcn_le ha hb
  refine ⟨by omega, ?_, ?_, ?_, fun q => h5 ⟨q.1, ?_⟩⟩
  · have h2' : (a ||| b) &&& (0 ||| sW x) = 0 := by rw [Nat.zero_or]; exact h2
    exact an_sub h2'
  · rw [Nat.or_div_two] at h3
    exact an_sub h3
  · have h4' : (plN (sF x) a (gN g) ||| plN (sF x) b (gN g)) &&& (0 ||| sP x) = 0 := by rw [Nat.zero_or]; exact h4
    exact an_sub h4'
  · rw [Nat.testBit_or, q.2, Bool.or_true]
/-- who covers ringer r, who does not, among the first k -/
def cvN (L : Nat → Nat) (r : Nat) : Nat → Nat × Nat
  | 0 => (0, 0)
  | k + 1 => if k = r then cvN L r k else if L (2 ^ r ||| 2 ^ k) = 0 then ((cvN L r k).1 ||| 2 ^ k, (cvN L r k).2) else if L (2 ^ k) = 0 then ((cvN L r k).1, (cvN L r k).2 ||| 2 ^ k) else cvN L r k
theorem and_p2 {k b : Nat} (h : b < 2 ^ k) : 2 ^ k &&& b = 0 := by
  apply Nat.eq_of_testBit_eq; intro i
  rw [Nat.testBit_and, Nat.testBit_two_pow, Nat.zero_testBit]
  by_cases c : k = i
  · subst c; rw [Nat.testBit_lt_two_pow h, Bool.and_false]
  · simp [c]
theorem cvN_inv (L : Nat → Nat) (r : Nat) : ∀ k, (cvN L r k).1 < 2 ^ k ∧ (cvN L r k).2 < 2 ^ k ∧ (cvN L r k).1 &&& (cvN L r k).2 = 0
  | 0 => ⟨Nat.one_pos, Nat.one_pos, Nat.and_self 0⟩
  | k + 1 => by
    obtain ⟨h1, h2, h3⟩ := cvN_inv L r k
    have hp : 2 ^ k < 2 ^ (k + 1) := Nat.pow_lt_pow_right (by decide) (by omega)
    unfold cvN
    by_cases c1 : k = r
    · rw [if_pos c1]; exact ⟨by omega, by omega, h3⟩
    rw [if_neg c1]
    by_cases c2 : L (2 ^ r ||| 2 ^ k) = 0
    · rw [if_pos c2]
      refine ⟨Nat.or_lt_two_pow (by omega) hp, by show (cvN L r k).2 < _; omega, ?_⟩
      show ((cvN L r k).1 ||| 2 ^ k) &&& (cvN L r k).2 = 0
      rw [Nat.and_or_distrib_right, h3, and_p2 h2]; rfl
    · rw [if_neg c2]
      by_cases c3 : L (2 ^ k) = 0
      · rw [if_pos c3]
        refine ⟨by show (cvN L r k).1 < _; omega, Nat.or_lt_two_pow (by omega) hp, ?_⟩
        show (cvN L r k).1 &&& ((cvN L r k).2 ||| 2 ^ k) = 0
        rw [Nat.and_or_distrib_left, h3, Nat.and_comm, and_p2 h1]; rfl
      · rw [if_neg c3]; exact ⟨by omega, by omega, h3⟩
theorem cv_not {a b : Nat} (ha : a < 128) (hb : b < 128) (h : a &&& b = 0) : Int32.ofNat (a ||| b) &&& (Int32.ofNat a ^^^ -1) = Int32.ofNat b := (by decide +kernel : ∀ a < 128, ∀ b < 128, a &&& b = 0 → Int32.ofNat (a ||| b) &&& (Int32.ofNat a ^^^ -1) = Int32.ofNat b) a ha b hb h
theorem p_covers : en_st_covers pInv := by
  intro c v hc
  refine p_two hc (fun A σ0 hA hB => ?_)
  have hA0 := hA
  obtain ⟨g, t, ro, x, us, kp⟩ := A
  have hgv : GV g := hA.1
  have hn : gN g ≤ 7 := hgv.1
  by_cases hv : isR (gN g) v
  · obtain ⟨r, hr, rfl⟩ := hv
    have hrr : isR (gN g) (Int32.ofNat r) := ⟨r, hr, rfl⟩
    have h128 := p2lt hn
    have hNB : sN x ≤ 2000 * c := hA.2.2.2.2.2.2.2.1.2.1
    have hpp : PMf (gN g) (sF x) := hA.2.2.2.2.2.2.2.1.1
    have hL6 : ∀ s, lawS g x s < 6 := fun s => lawN_lt _ _ _ _ _ _ _
    have hp2 : ∀ k, k < gN g → 2 ^ k < 2 ^ gN g := fun k hk => Nat.pow_lt_pow_right (by decide) hk
    have hpr := hp2 r hr
    have hM0 : ∀ τ : en_M, MI τ (g, t, ro, x, us, kp) → ∀ s, s < 2 ^ gN g → O_X12_broken [.inr (185, 12, 0, 0), .inr (186, 20, 53, 0), .inl (Int32.ofNat s)] τ = some (Int32.ofNat (lawS g x s), τ) := fun τ hM s hs => r_broken (x := x) (k := 186) hgv hM.1 hM.2.2.2.1 hpp (by omega) (by omega) hs
    have hC0 : CI σ0 (g, t, ro, x, us, kp) → ∀ s, s < 2 ^ gN g → O_X11_brokenNow [.inr (0, 11, 0, 0), .inl (Int32.ofNat s)] σ0 = some (Int32.ofNat (lawS g x s), σ0) := fun hC s hs => q_brokenNow hA0 (by omega) hC (by show 0 < gN g; omega) hs
    have hz : ∀ s, (Int32.ofNat (lawS g x s) = 0) = (lawS g x s = 0) := fun s => pn_eq0 (by have := hL6 s; omega)
    by_cases hl : lawS g x (2 ^ r) = 0
    · generalize hZ : cvN (lawS g x) r = Z
      have hZi : ∀ k, (Z k).1 < 2 ^ k ∧ (Z k).2 < 2 ^ k ∧ (Z k).1 &&& (Z k).2 = 0 := fun k => by rw [← hZ]; exact cvN_inv _ _ k
      have hZ0 : Z 0 = (0, 0) := by rw [← hZ]; rfl
      have hZs : ∀ k, Z (k + 1) = if k = r then Z k else if lawS g x (2 ^ r ||| 2 ^ k) = 0 then ((Z k).1 ||| 2 ^ k, (Z k).2) else if lawS g x (2 ^ k) = 0 then ((Z k).1, (Z k).2 ||| 2 ^ k) else Z k := fun k => by rw [← hZ]; rfl
      refine ⟨Int32.ofNat (Z (gN g)).1, (g, t, [Int32.ofNat (Z (gN g)).2], x, us, kp), fun hC => ?_, fun τ hM => ?_, (hA.row (by simp)).mono (by omega)⟩
      · have hb := hC0 hC
        rw [o_X11_covers, t_X11_covers_0, k_hasRinger_y hA0 hC.1 hrr, Option.bind_some, if_neg (show ¬ (1 : Int32) = 0 by decide)]
        dsimp only
        rw [pb_1 (by omega), hb _ hpr, Option.bind_some]
        dsimp only
        rw [pi_if (hz _), if_pos hl]
        refine pl_for1 (F := fun f i (q : Int32 × Int32 × en_V) => T_X11_covers_36 f (Int32.ofNat r) (Int32.ofNat (2 ^ r)) q.1 q.2.1 (Int32.ofNat i) q.2.2 σ0) (P := fun i q => q.1 = Int32.ofNat (Z i).1 ∧ q.2.1 = Int32.ofNat ((Z i).1 ||| (Z i).2)) (Q := fun r => ∃ σ', en_oi r = some (Int32.ofNat (Z (gN g)).1, σ') ∧ CI σ' (g, t, [Int32.ofNat (Z (gN g)).2], x, us, kp) ∧ FrC σ0 σ') (N := gN g) ?_ ?_ (gN g) 0 en_FU (0, 0, en_un) (by omega) (pl_FU (by omega)) ⟨by rw [hZ0]; rfl, by rw [hZ0]; rfl⟩
        · rintro f i ⟨q1, q2, u⟩ hi ⟨y1, y2⟩
          have y1 : q1 = _ := y1
          have y2 : q2 = _ := y2
          have hpi := hp2 i hi
          left
          show ∃ q' : Int32 × Int32 × en_V, T_X11_covers_36 (f + 1) _ _ q1 q2 _ u σ0 = _ ∧ _
          rw [t_X11_covers_36, show σ0 5 3 = Int32.ofNat (gN g) from hC.1.1, if_pos ((pn_lt (by omega) (by omega)).mpr hi), pi_if (pn_eq (show i < 2147483648 by omega) (show r < 2147483648 by omega)), pn_a1, pb_1 (by omega), hb _ hpi, Option.bind_some]
          dsimp only
          rw [pi_if (hz _), pn_or (2 ^ r), hb _ (Nat.or_lt_two_pow hpr hpi), Option.bind_some]
          dsimp only
          rw [pi_if (hz _), hZs]
          by_cases c1 : i = r
          · rw [if_pos c1, if_pos c1]
            exact ⟨(q1, q2, _), rfl, y1, y2⟩
          · rw [if_neg c1, if_neg c1]
            by_cases c2 : lawS g x (2 ^ r ||| 2 ^ i) = 0
            · have c3 : lawS g x (2 ^ i) = 0 := lawS_or (by omega) (by omega) c2
              rw [if_pos c2, if_pos c3, if_pos c2, y1, y2, pn_or, pn_or]
              refine ⟨(Int32.ofNat ((Z i).1 ||| 2 ^ i), Int32.ofNat (((Z i).1 ||| (Z i).2) ||| 2 ^ i), _), rfl, rfl, ?_⟩
              show Int32.ofNat _ = Int32.ofNat (((Z i).1 ||| 2 ^ i) ||| (Z i).2)
              rw [Nat.or_assoc, Nat.or_assoc, Nat.or_comm (Z i).2]
            · rw [if_neg c2, if_neg c2]
              by_cases c3 : lawS g x (2 ^ i) = 0
              · rw [if_pos c3, if_pos c3, y1, y2, pn_or, Int32.or_zero]
                refine ⟨(Int32.ofNat (Z i).1, Int32.ofNat (((Z i).1 ||| (Z i).2) ||| 2 ^ i), _), rfl, rfl, ?_⟩
                show Int32.ofNat _ = Int32.ofNat ((Z i).1 ||| ((Z i).2 ||| 2 ^ i))
                rw [Nat.or_assoc]
              · rw [if_neg c3, if_neg c3]
                exact ⟨(q1, q2, _), rfl, y1, y2⟩
        · rintro f ⟨q1, q2, u⟩ ⟨y1, y2⟩
          have y1 : q1 = _ := y1
          have y2 : q2 = _ := y2
          obtain ⟨i1, i2, i3⟩ := hZi (gN g)
          obtain ⟨σ3, g1, g2, g3⟩ := CI.add (CI.begin hC) (by simp) (Int32.ofNat (Z (gN g)).2)
          show ∃ σ', en_oi (T_X11_covers_36 (f + 1) _ _ q1 q2 _ u σ0) = _ ∧ _
          rw [t_X11_covers_36, show σ0 5 3 = Int32.ofNat (gN g) from hC.1.1, if_neg (by rw [pn_lt (by omega) (by omega)]; omega), q_tbegin, Option.bind_some, y1, y2, cv_not (by omega) (by omega) i3, g1, Option.bind_some]
          exact ⟨σ3, rfl, g2, fun c hc => by rw [g3 c (by omega) (by omega), pu_row (by omega)]⟩
      · have hM2 := hM.slot 11 0 (by omega)
        have hfr : FrM τ (en_up τ 185 11 0) := FrM.up (by omega) (by omega)
        rw [o_X12_covers, t_X12_covers_0, m_isOne_y hA0 hM2.1 hrr, Option.bind_some, if_neg (show ¬ (1 : Int32) = 0 by decide)]
        dsimp only
        generalize en_up τ 185 11 0 = τ1 at hM2 hfr ⊢
        have hb := hM0 τ1 hM2
        have h1 : τ1 185 1 = Int32.ofNat (gN g) := hM2.1.1
        rw [pb_1 (by omega), hb _ hpr, Option.bind_some]
        dsimp only
        rw [pi_if (hz _), if_pos hl]
        refine pl_for1 (F := fun f i (q : Int32 × Int32 × en_V) => T_X12_covers_39 f (Int32.ofNat r) q.1 q.2.1 (Int32.ofNat i) q.2.2 τ1) (P := fun i q => q.1 = Int32.ofNat (Z i).1 ∧ q.2.1 = Int32.ofNat (Z i).2) (Q := fun r => ∃ τ', en_oi r = some (Int32.ofNat (Z (gN g)).1, τ') ∧ MI τ' (g, t, [Int32.ofNat (Z (gN g)).2], x, us, kp) ∧ FrM τ τ') (N := gN g) ?_ ?_ (gN g) 0 en_FU (0, 0, en_un) (by omega) (pl_FU (by omega)) ⟨by rw [hZ0]; rfl, by rw [hZ0]; rfl⟩
        · rintro f i ⟨q1, q2, u⟩ hi ⟨y1, y2⟩
          have y1 : q1 = _ := y1
          have y2 : q2 = _ := y2
          have hpi := hp2 i hi
          left
          show ∃ q' : Int32 × Int32 × en_V, T_X12_covers_39 (f + 1) _ q1 q2 _ u τ1 = _ ∧ _
          rw [t_X12_covers_39, h1, if_pos ((pn_lt (by omega) (by omega)).mpr hi), pi_if (pn_eq (show i < 2147483648 by omega) (show r < 2147483648 by omega)), pn_a1, pb_1 (show r < 31 by omega), pb_1 (show i < 31 by omega), pn_or, hb _ (Nat.or_lt_two_pow hpr hpi), Option.bind_some, hZs]
          dsimp only
          rw [pi_if (hz _)]
          by_cases c1 : i = r
          · rw [if_pos c1, if_pos c1]
            exact ⟨(q1, q2, _), rfl, y1, y2⟩
          · rw [if_neg c1, if_neg c1]
            by_cases c2 : lawS g x (2 ^ r ||| 2 ^ i) = 0
            · rw [if_pos c2, if_pos c2, if_neg (show ¬ (1 : Int32) = 0 by decide), if_neg (show ¬ (1 : Int32) = 0 by decide), y1, y2, pn_or, Int32.or_zero]
              exact ⟨(Int32.ofNat ((Z i).1 ||| 2 ^ i), Int32.ofNat (Z i).2, _), rfl, rfl, rfl⟩
            · rw [if_neg c2, if_neg c2, if_pos (show (0 : Int32) = 0 from rfl), if_pos (show (0 : Int32) = 0 from rfl), hb _ hpi, Option.bind_some]
              dsimp only
              rw [pi_if (hz _)]
              by_cases c3 : lawS g x (2 ^ i) = 0
              · rw [if_pos c3, if_pos c3, y1, y2, pn_or, Int32.or_zero]
                exact ⟨(Int32.ofNat (Z i).1, Int32.ofNat ((Z i).2 ||| 2 ^ i), _), rfl, rfl, rfl⟩
              · rw [if_neg c3, if_neg c3, Int32.or_zero, Int32.or_zero]
                exact ⟨(q1, q2, _), rfl, y1, y2⟩
        · rintro f ⟨q1, q2, u⟩ ⟨y1, y2⟩
          have y1 : q1 = _ := y1
          have y2 : q2 = _ := y2
          obtain ⟨τ3, g1, g2, g3, -⟩ := MI.add (MI.begin hM2) (by simp) (Int32.ofNat (Z (gN g)).2)
          show ∃ τ', en_oi (T_X12_covers_39 (f + 1) _ q1 q2 _ u τ1) = _ ∧ _
          rw [t_X12_covers_39, h1, if_neg (by rw [pn_lt (by omega) (by omega)]; omega), y1, y2, g1, Option.bind_some]
          exact ⟨τ3, rfl, g2, fun c hc => by rw [g3 c (by omega) (by omega), pu_row (by omega), hfr c hc]⟩
    · refine p_no hA (-2) (fun hC => ?_) (fun τ hM => ?_)
      · rw [o_X11_covers, t_X11_covers_0, k_hasRinger_y hA0 hC.1 hrr, Option.bind_some, if_neg (show ¬ (1 : Int32) = 0 by decide)]
        dsimp only
        rw [pb_1 (by omega), hC0 hC _ hpr, Option.bind_some]
        dsimp only
        rw [pi_if (hz _), if_neg hl]; rfl
      · have hM2 := hM.slot 11 0 (by omega)
        rw [o_X12_covers, t_X12_covers_0, m_isOne_y hA0 hM2.1 hrr, Option.bind_some, if_neg (show ¬ (1 : Int32) = 0 by decide)]
        dsimp only
        rw [pb_1 (by omega), hM0 _ hM2 _ hpr, Option.bind_some]
        dsimp only
        rw [pi_if (hz _), if_neg hl]; rfl
  · refine p_no hA (-1) (fun hC => ?_) (fun τ hM => ?_)
    · rw [o_X11_covers, t_X11_covers_0, k_hasRinger_n hA0 hC.1 hv, Option.bind_some, if_pos (show (0 : Int32) = 0 from rfl)]; rfl
    · have hM2 := hM.slot 11 0 (by omega)
      rw [o_X12_covers, t_X12_covers_0, m_isOne_n hA0 hM2.1 hv, Option.bind_some, if_pos (show (0 : Int32) = 0 from rfl)]; rfl
