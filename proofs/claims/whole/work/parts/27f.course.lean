/-! two ringers; course -/
theorem k_hasTwo_y {A : pI} {B : Nat} {σ : en_M} (hA : AV B A) (hC : CG σ (iG A)) {v w : Int32} (h1 : isR (gN (iG A)) v) (h2 : isR (gN (iG A)) w) (h3 : v ≠ w) : O_X10_hasTwo [.inr (5, 10, 0, 0), .inl v, .inl w] σ = some (1, σ) := by
  rw [o_X10_hasTwo, t_X10_hasTwo_0, k_hasRinger_y hA hC h1, Option.bind_some, if_neg (show ¬ (1 : Int32) = 0 by decide)]
  dsimp only
  rw [k_hasRinger_y hA hC h2, Option.bind_some, if_neg (show ¬ (1 : Int32) = 0 by decide), if_neg h3, if_pos (Or.inr rfl)]; rfl
theorem k_hasTwo_n {A : pI} {B : Nat} {σ : en_M} (hA : AV B A) (hC : CG σ (iG A)) {v w : Int32} (h : ¬ (isR (gN (iG A)) v ∧ isR (gN (iG A)) w ∧ v ≠ w)) : O_X10_hasTwo [.inr (5, 10, 0, 0), .inl v, .inl w] σ = some (0, σ) := by
  rw [o_X10_hasTwo, t_X10_hasTwo_0]
  by_cases h1 : isR (gN (iG A)) v
  · rw [k_hasRinger_y hA hC h1, Option.bind_some, if_neg (show ¬ (1 : Int32) = 0 by decide)]
    dsimp only
    by_cases h2 : isR (gN (iG A)) w
    · rw [k_hasRinger_y hA hC h2, Option.bind_some, if_neg (show ¬ (1 : Int32) = 0 by decide), if_pos (show v = w from Classical.byContradiction fun h3 => h ⟨h1, h2, h3⟩), if_pos (Or.inl rfl)]; rfl
    · rw [k_hasRinger_n hA hC h2, Option.bind_some, if_pos rfl, if_pos (Or.inl rfl)]; rfl
  · rw [k_hasRinger_n hA hC h1, Option.bind_some, if_pos rfl, if_pos (Or.inl rfl)]; rfl
theorem m_areTwo_y {A : pI} {B : Nat} {σ : en_M} (hA : AV B A) (hC : MG σ (iG A)) {v w : Int32} (h1 : isR (gN (iG A)) v) (h2 : isR (gN (iG A)) w) (h3 : v ≠ w) : O_X12_areTwo [.inr (185, 12, 0, 0), .inl v, .inl w] σ = some (1, σ) := by
  rw [o_X12_areTwo, t_X12_areTwo_0, m_isOne_y hA hC h1, Option.bind_some, if_neg (show ¬ (1 : Int32) = 0 by decide)]
  dsimp only
  rw [m_isOne_y hA hC h2, Option.bind_some, if_neg (show ¬ (1 : Int32) = 0 by decide), if_neg h3, if_pos (Or.inr rfl)]; rfl
theorem m_areTwo_n {A : pI} {B : Nat} {σ : en_M} (hA : AV B A) (hC : MG σ (iG A)) {v w : Int32} (h : ¬ (isR (gN (iG A)) v ∧ isR (gN (iG A)) w ∧ v ≠ w)) : O_X12_areTwo [.inr (185, 12, 0, 0), .inl v, .inl w] σ = some (0, σ) := by
  rw [o_X12_areTwo, t_X12_areTwo_0]
  by_cases h1 : isR (gN (iG A)) v
  · rw [m_isOne_y hA hC h1, Option.bind_some, if_neg (show ¬ (1 : Int32) = 0 by decide)]
    dsimp only
    by_cases h2 : isR (gN (iG A)) w
    · rw [m_isOne_y hA hC h2, Option.bind_some, if_neg (show ¬ (1 : Int32) = 0 by decide), if_pos (show v = w from Classical.byContradiction fun h3 => h ⟨h1, h2, h3⟩), if_pos (Or.inl rfl)]; rfl
    · rw [m_isOne_n hA hC h2, Option.bind_some, if_pos rfl, if_pos (Or.inl rfl)]; rfl
  · rw [m_isOne_n hA hC h1, Option.bind_some, if_pos rfl, if_pos (Or.inl rfl)]; rfl
/-- side by side, how often and since when, among the first k -/
def csN (f : Nat → Nat → Nat) (a b : Nat) : Nat → Nat × Int32
  | 0 => (0, -1)
  | k + 1 => if plc (f k) a = plc (f k) b + 1 ∨ plc (f k) b = plc (f k) a + 1 then ((csN f a b k).1 + 1, if (csN f a b k).2 = -1 then Int32.ofNat k else (csN f a b k).2) else csN f a b k
theorem csN_z (f : Nat → Nat → Nat) (a b : Nat) : ∀ k, k ≤ 200 → ((csN f a b k).1 = 0 ↔ (csN f a b k).2 = -1) ∧ (csN f a b k).1 ≤ k
  | 0, _ => ⟨⟨fun _ => rfl, fun _ => rfl⟩, Nat.le_refl _⟩
  | k + 1, hk => by
    obtain ⟨h1, h2⟩ := csN_z f a b k (by omega)
    unfold csN
    by_cases c : plc (f k) a = plc (f k) b + 1 ∨ plc (f k) b = plc (f k) a + 1
    · rw [if_pos c]
      refine ⟨⟨fun q => absurd q (by simp), fun q => ?_⟩, by show (csN f a b k).1 + 1 ≤ k + 1; omega⟩
      by_cases e : (csN f a b k).2 = -1
      · have q : (if (csN f a b k).2 = -1 then Int32.ofNat k else (csN f a b k).2) = -1 := q
        rw [if_pos e] at q
        exact absurd q (pn_nm1 (by omega))
      · have q : (if (csN f a b k).2 = -1 then Int32.ofNat k else (csN f a b k).2) = -1 := q
        rw [if_neg e] at q
        exact absurd q e
    · rw [if_neg c]; exact ⟨h1, by omega⟩
theorem cs_d1 {a b : Nat} (ha : a < 7) (hb : b < 7) : (Int32.ofNat a - Int32.ofNat b = 1) = (a = b + 1) := (by decide : ∀ a < 7, ∀ b < 7, (Int32.ofNat a - Int32.ofNat b = 1) = (a = b + 1)) a ha b hb
theorem cs_d2 {a b : Nat} (ha : a < 7) (hb : b < 7) : (Int32.ofNat a - Int32.ofNat b = -1) = (b = a + 1) := (by decide : ∀ a < 7, ∀ b < 7, (Int32.ofNat a - Int32.ofNat b = -1) = (b = a + 1)) a ha b hb
/-- side by side at a place before p -/
abbrev csH (pa pb p : Nat) : Prop := (pa = pb + 1 ∧ pb < p) ∨ (pb = pa + 1 ∧ pa < p)
theorem p_course : en_st_course pInv := by
  intro c v w z hc
  refine p_two hc (fun A σ0 hA hB => ?_)
  obtain ⟨g, t, ro, x, us, kp⟩ := A
  have hgv : GV g := hA.1
  have hn : gN g ≤ 7 := hgv.1
  have hpm : ∀ k, PMf (gN g) (odN g x k) := fun k => odN_PMf hgv hA.2.2.2.2.2.2.2.1.1 k
  by_cases hv : isR (gN g) v ∧ isR (gN g) w ∧ v ≠ w
  · by_cases hz : ¬ z < 1 ∧ ¬ 200 < z
    · obtain ⟨⟨a, ha, rfl⟩, ⟨b, hb, rfl⟩, hne⟩ := hv
      obtain ⟨m, hm, rfl⟩ : ∃ m : Nat, m < 201 ∧ z = Int32.ofNat m := by
        refine (isR_iff2 (n := 201) (by omega) z).mpr ⟨fun q => hz.1 ?_, hz.2⟩
        rw [Int32.lt_iff_toInt_lt] at q ⊢
        have h0 : (0 : Int32).toInt = 0 := by decide
        have h1 : (1 : Int32).toInt = 1 := by decide
        omega
      have hm1 : ¬ Int32.ofNat m < 1 := hz.1
      have hm2 : ¬ (200 : Int32) < Int32.ofNat m := hz.2
      have ra : isR (gN g) (Int32.ofNat a) := ⟨a, ha, rfl⟩
      have rb : isR (gN g) (Int32.ofNat b) := ⟨b, hb, rfl⟩
      have hpa : ∀ k, plc (odN g x k) a < gN g ∧ odN g x k (plc (odN g x k) a) = a := fun k => ⟨plc_ltn (hpm k) hn ha, (plc_lt (hpm k) (by omega)).2⟩
      have hpb : ∀ k, plc (odN g x k) b < gN g ∧ odN g x k (plc (odN g x k) b) = b := fun k => ⟨plc_ltn (hpm k) hn hb, (plc_lt (hpm k) (by omega)).2⟩
      refine ⟨Int32.ofNat (csN (odN g x) a b m).1, (g, t, [(csN (odN g x) a b m).2], x, us, kp), fun hC => ?_, fun τ hM => ?_, (hA.row (by simp)).mono (by omega)⟩
      · obtain ⟨σ1, e1, e2, e3, e4⟩ := k_look hA (by omega) hC (m := m) (by omega)
        rw [o_X11_course, t_X11_course_0, k_hasTwo_y hA hC.1 ra rb hne, Option.bind_some, if_neg (show ¬ (1 : Int32) = 0 by decide), if_neg hm1, if_neg hm2, e1, Option.bind_some]
        refine pl_for1 (F := fun f i (q : Int32 × Int32 × en_V) => T_X11_course_40 f (Int32.ofNat a) (Int32.ofNat b) (Int32.ofNat m) q.1 q.2.1 (Int32.ofNat i) q.2.2 σ1) (P := fun i q => q.1 = (csN (odN g x) a b i).2 ∧ q.2.1 = Int32.ofNat (csN (odN g x) a b i).1) (Q := fun r => ∃ σ', en_oi r = some (Int32.ofNat (csN (odN g x) a b m).1, σ') ∧ CI σ' (g, t, [(csN (odN g x) a b m).2], x, us, kp) ∧ FrC σ0 σ') (N := m) ?_ ?_ m 0 en_FU (-1, 0, en_un) (by omega) (pl_FU (by omega)) ⟨rfl, rfl⟩
        · rintro f i ⟨q1, q2, u⟩ hi ⟨h1, h2⟩
          have h1 : q1 = _ := h1
          have h2 : q2 = _ := h2
          obtain ⟨pa1, pa2⟩ := hpa i
          obtain ⟨pb1, pb2⟩ := hpb i
          have ea := q_placeOf (hpm i) (show plc (odN g x i) a < 7 by omega) σ1
          have eb := q_placeOf (hpm i) (show plc (odN g x i) b < 7 by omega) σ1
          rw [pa2] at ea
          rw [pb2] at eb
          refine Or.inl ⟨((csN (odN g x) a b (i + 1)).2, Int32.ofNat (csN (odN g x) a b (i + 1)).1, .inl (Int32.ofNat (plc (odN g x i) a) - Int32.ofNat (plc (odN g x i) b))), ?_, rfl, rfl⟩
          show T_X11_course_40 (f + 1) _ _ _ q1 q2 _ u σ1 = T_X11_course_40 f _ _ _ (csN (odN g x) a b (i + 1)).2 (Int32.ofNat (csN (odN g x) a b (i + 1)).1) _ _ σ1
          rw [h1, h2, t_X11_course_40, if_pos ((pn_lt (by omega) (by omega)).mpr hi), pn_ix (by omega) (by omega), Option.bind_some, e3 i (by omega), ea, Option.bind_some, Option.bind_some]
          dsimp only
          rw [e3 i (by omega), eb, Option.bind_some]
          dsimp only
          rw [pi_if (cs_d1 (show plc (odN g x i) a < 7 by omega) (show plc (odN g x i) b < 7 by omega)), pi_if (cs_d2 (show plc (odN g x i) a < 7 by omega) (show plc (odN g x i) b < 7 by omega)), pn_a1, pn_a1]
          conv => rhs; unfold csN
          by_cases c1 : plc (odN g x i) a = plc (odN g x i) b + 1
          · rw [if_pos c1, if_pos (show plc (odN g x i) a = plc (odN g x i) b + 1 ∨ plc (odN g x i) b = plc (odN g x i) a + 1 from Or.inl c1)]
            by_cases c2 : (csN (odN g x) a b i).2 = -1
            · rw [if_pos c2]; simp only [if_pos c2]
            · rw [if_neg c2]; simp only [if_neg c2]
          · rw [if_neg c1]
            by_cases c3 : plc (odN g x i) b = plc (odN g x i) a + 1
            · rw [if_pos c3, if_pos (show plc (odN g x i) a = plc (odN g x i) b + 1 ∨ plc (odN g x i) b = plc (odN g x i) a + 1 from Or.inr c3)]
              by_cases c2 : (csN (odN g x) a b i).2 = -1
              · rw [if_pos c2]; simp only [if_pos c2]
              · rw [if_neg c2]; simp only [if_neg c2]
            · rw [if_neg c3, if_neg (show ¬ (plc (odN g x i) a = plc (odN g x i) b + 1 ∨ plc (odN g x i) b = plc (odN g x i) a + 1) from fun q => q.elim c1 c3)]
        · rintro f ⟨q1, q2, u⟩ ⟨h1, h2⟩
          have h1 : q1 = _ := h1
          have h2 : q2 = _ := h2
          obtain ⟨σ3, g1, g2, g3⟩ := CI.add (CI.begin e2) (by simp) (csN (odN g x) a b m).2
          show ∃ σ', en_oi (T_X11_course_40 (f + 1) _ _ _ q1 q2 _ u σ1) = _ ∧ _
          rw [h1, h2, t_X11_course_40, if_neg (by rw [pn_lt (by omega) (by omega)]; omega), q_tbegin, Option.bind_some, g1, Option.bind_some]
          exact ⟨σ3, rfl, g2, fun c hc => by rw [g3 c (by omega) (by omega), pu_row (by omega), e4 c hc]⟩
      · have hM2 := hM.slot 11 0 (by omega)
        obtain ⟨τ1, e1, e2, e3, e4⟩ := m_lay hA (by omega) hM2 (m := m) (by omega)
        have h1 : τ1 185 1 = Int32.ofNat (gN g) := e2.1.1
        rw [o_X12_course, t_X12_course_0, m_areTwo_y hA hM2.1 ra rb hne, Option.bind_some, if_neg (show ¬ (1 : Int32) = 0 by decide)]
        dsimp only
        rw [q_in, Option.bind_some, if_neg (by dsimp only; rw [pb2_0]; exact fun q => q hz)]
        dsimp only
        rw [e1, Option.bind_some]
        refine pl_for (F := fun f i (q : Int32 × Int32 × en_V × en_V × en_V) => T_X12_course_41 f (Int32.ofNat a) (Int32.ofNat b) (Int32.ofNat m) q.1 q.2.1 (Int32.ofNat i) q.2.2.1 q.2.2.2.1 q.2.2.2.2 τ1) (P := fun i q => q.1 = Int32.ofNat (csN (odN g x) a b i).1 ∧ q.2.1 = (csN (odN g x) a b i).2) (Q := fun r => ∃ τ', en_oi r = some (Int32.ofNat (csN (odN g x) a b m).1, τ') ∧ MI τ' (g, t, [(csN (odN g x) a b m).2], x, us, kp) ∧ FrM τ τ') (N := m) (C := 10) (C0 := 1) ?_ ?_ m 0 en_FU (0, -1, en_un, en_un, en_un) (by omega) (by have := en_FU_ge; omega) ⟨rfl, rfl⟩
        · rintro f i ⟨q1, q2, u7, u8, u9⟩ hi hf ⟨h1', h2'⟩
          have h1' : q1 = _ := h1'
          have h2' : q2 = _ := h2'
          obtain ⟨pa1, pa2⟩ := hpa i
          obtain ⟨pb1, pb2⟩ := hpb i
          obtain ⟨z1, z2⟩ := csN_z (odN g x) a b i (by omega)
          have wa : ∀ p, p < 7 → (odN g x i p = a) = (p = plc (odN g x i) a) := fun p hp => propext ⟨fun q => (hpm i).2.1 _ _ hp (by omega) (by rw [pa2, q]), fun q => by rw [q]; exact pa2⟩
          have wb : ∀ p, p < 7 → (odN g x i p = b) = (p = plc (odN g x i) b) := fun p hp => propext ⟨fun q => (hpm i).2.1 _ _ hp (by omega) (by rw [pb2, q]), fun q => by rw [q]; exact pb2⟩
          have hab : plc (odN g x i) a ≠ plc (odN g x i) b := fun q => hne (by rw [← pa2, q, pb2])
          obtain ⟨f, rfl⟩ : ∃ j, f = j + 1 := ⟨f - 1, by omega⟩
          left
          show ∃ n', ∃ q' : Int32 × Int32 × en_V × en_V × en_V, T_X12_course_41 (f + 1) _ _ _ q1 q2 _ u7 u8 u9 τ1 = _ ∧ _
          rw [h1', h2', t_X12_course_41, if_pos ((pn_lt (by omega) (by omega)).mpr hi)]
          obtain ⟨⟨r1, r2, r8, r9⟩, b1, b2, b3⟩ := pl_to (F := fun f p (q : Int32 × Int32 × en_V × en_V) => T_X12_course_50 f (Int32.ofNat a) (Int32.ofNat b) (Int32.ofNat m) q.1 q.2.1 (Int32.ofNat i) (Int32.ofNat p) q.2.2.1 q.2.2.2 τ1) (P := fun p q => q.1 = Int32.ofNat (if csH (plc (odN g x i) a) (plc (odN g x i) b) p then (csN (odN g x) a b i).1 + 1 else (csN (odN g x) a b i).1) ∧ q.2.1 = if csH (plc (odN g x i) a) (plc (odN g x i) b) p then (if (csN (odN g x) a b i).2 = -1 then Int32.ofNat i else (csN (odN g x) a b i).2) else (csN (odN g x) a b i).2) (N := gN g - 1) (by
            rintro f p ⟨s1, s2, s8, s9⟩ hp ⟨y1, y2⟩
            have y1 : s1 = _ := y1
            have y2 : s2 = _ := y2
            have o1 := (hpm i).lt8 p (by omega)
            have o2 := (hpm i).lt8 (p + 1) (by omega)
            show ∃ q' : Int32 × Int32 × en_V × en_V, T_X12_course_50 (f + 1) _ _ _ s1 s2 _ _ s8 s9 τ1 = _ ∧ _
            rw [t_X12_course_50, h1, pn_a1, if_pos ((pn_lt (by omega) (by omega)).mpr (by omega)), show (7 : Int32) * Int32.ofNat i = Int32.ofNat (7 * i) from pn_mul 7 i, pn_add, pn_a1, pn_ix (by omega) (by omega), Option.bind_some, pn_ix (by omega) (by omega), Option.bind_some, e3 i p (by omega) (by omega), show τ1 197 (7 * i + p + 1) = Int32.ofNat (odN g x i (p + 1)) from e3 i (p + 1) (by omega) (by omega)]
            simp only [pn_eq (show odN g x i p < 2147483648 by omega) (show a < 2147483648 by omega), pn_eq (show odN g x i p < 2147483648 by omega) (show b < 2147483648 by omega), pn_eq (show odN g x i (p + 1) < 2147483648 by omega) (show a < 2147483648 by omega), pn_eq (show odN g x i (p + 1) < 2147483648 by omega) (show b < 2147483648 by omega), wa p (by omega), wb p (by omega), wa (p + 1) (by omega), wb (p + 1) (by omega)]
            have hit : ∀ u u' : en_V, csH (plc (odN g x i) a) (plc (odN g x i) b) (p + 1) → ¬ csH (plc (odN g x i) a) (plc (odN g x i) b) p → ∃ q' : Int32 × Int32 × en_V × en_V, (if s1 = 0 then T_X12_course_50 f (Int32.ofNat a) (Int32.ofNat b) (Int32.ofNat m) (s1 + 1) (Int32.ofNat i) (Int32.ofNat i) (Int32.ofNat (p + 1)) u u' τ1 else T_X12_course_50 f (Int32.ofNat a) (Int32.ofNat b) (Int32.ofNat m) (s1 + 1) s2 (Int32.ofNat i) (Int32.ofNat (p + 1)) u u' τ1) = T_X12_course_50 f (Int32.ofNat a) (Int32.ofNat b) (Int32.ofNat m) q'.1 q'.2.1 (Int32.ofNat i) (Int32.ofNat (p + 1)) q'.2.2.1 q'.2.2.2 τ1 ∧ q'.1 = Int32.ofNat (if csH (plc (odN g x i) a) (plc (odN g x i) b) (p + 1) then (csN (odN g x) a b i).1 + 1 else (csN (odN g x) a b i).1) ∧ q'.2.1 = if csH (plc (odN g x i) a) (plc (odN g x i) b) (p + 1) then (if (csN (odN g x) a b i).2 = -1 then Int32.ofNat i else (csN (odN g x) a b i).2) else (csN (odN g x) a b i).2 := by
              intro u u' k1 k2
              rw [if_neg k2] at y1 y2
              rw [if_pos k1, if_pos k1, y1, y2, pi_if (pn_eq0 (show (csN (odN g x) a b i).1 < 2147483648 by omega)), pn_a1]
              by_cases cz : (csN (odN g x) a b i).1 = 0
              · rw [if_pos cz, if_pos (z1.mp cz)]
                exact ⟨(Int32.ofNat ((csN (odN g x) a b i).1 + 1), Int32.ofNat i, u, u'), rfl, rfl, rfl⟩
              · rw [if_neg cz, if_neg (fun q => cz (z1.mpr q))]
                exact ⟨(Int32.ofNat ((csN (odN g x) a b i).1 + 1), (csN (odN g x) a b i).2, u, u'), rfl, rfl, rfl⟩
            have miss : ∀ u u' : en_V, (csH (plc (odN g x i) a) (plc (odN g x i) b) (p + 1) ↔ csH (plc (odN g x i) a) (plc (odN g x i) b) p) → ∃ q' : Int32 × Int32 × en_V × en_V, T_X12_course_50 f (Int32.ofNat a) (Int32.ofNat b) (Int32.ofNat m) s1 s2 (Int32.ofNat i) (Int32.ofNat (p + 1)) u u' τ1 = T_X12_course_50 f (Int32.ofNat a) (Int32.ofNat b) (Int32.ofNat m) q'.1 q'.2.1 (Int32.ofNat i) (Int32.ofNat (p + 1)) q'.2.2.1 q'.2.2.2 τ1 ∧ q'.1 = Int32.ofNat (if csH (plc (odN g x i) a) (plc (odN g x i) b) (p + 1) then (csN (odN g x) a b i).1 + 1 else (csN (odN g x) a b i).1) ∧ q'.2.1 = if csH (plc (odN g x i) a) (plc (odN g x i) b) (p + 1) then (if (csN (odN g x) a b i).2 = -1 then Int32.ofNat i else (csN (odN g x) a b i).2) else (csN (odN g x) a b i).2 := by
              intro u u' k1
              exact ⟨(s1, s2, u, u'), rfl, by show s1 = _; rw [y1, pi_if (propext k1)], by show s2 = _; rw [y2, pi_if (propext k1)]⟩
            by_cases c1 : p = plc (odN g x i) a
            · rw [if_pos c1]
              by_cases c2 : p + 1 = plc (odN g x i) b
              · rw [if_pos c2]; exact hit _ _ (by omega) (by omega)
              · rw [if_neg c2, if_neg (show ¬ p = plc (odN g x i) b by omega)]; exact miss _ _ (by omega)
            · rw [if_neg c1]
              by_cases c2 : p = plc (odN g x i) b
              · rw [if_pos c2]
                by_cases c3 : p + 1 = plc (odN g x i) a
                · rw [if_pos c3]; exact hit _ _ (by omega) (by omega)
                · rw [if_neg c3]; exact miss _ _ (by omega)
              · rw [if_neg c2]; exact miss _ _ (by omega)) (gN g - 1) 0 f (Int32.ofNat (csN (odN g x) a b i).1, (csN (odN g x) a b i).2, u8, u9) (by omega) (by omega) ⟨by rw [if_neg (by omega)], by rw [if_neg (by omega)]⟩
          have b1 : T_X12_course_50 f (Int32.ofNat a) (Int32.ofNat b) (Int32.ofNat m) (Int32.ofNat (csN (odN g x) a b i).1) (csN (odN g x) a b i).2 (Int32.ofNat i) 0 u8 u9 τ1 = T_X12_course_50 (f - (gN g - 1)) (Int32.ofNat a) (Int32.ofNat b) (Int32.ofNat m) r1 r2 (Int32.ofNat i) (Int32.ofNat (gN g - 1)) r8 r9 τ1 := b1
          have b2 : r1 = _ := b2
          have b3 : r2 = _ := b3
          obtain ⟨d, hd⟩ : ∃ d, f - (gN g - 1) = d + 1 := ⟨f - (gN g - 1) - 1, by omega⟩
          rw [b1, hd, t_X12_course_50, h1, pn_a1, if_neg (by rw [pn_lt (by omega) (by omega)]; omega), pn_a1]
          refine ⟨d, (Int32.ofNat (csN (odN g x) a b (i + 1)).1, (csN (odN g x) a b (i + 1)).2, .inl (Int32.ofNat (gN g - 1)), r8, r9), ?_, by omega, rfl, rfl⟩
          show _ = T_X12_course_41 d _ _ _ (Int32.ofNat (csN (odN g x) a b (i + 1)).1) (csN (odN g x) a b (i + 1)).2 _ _ _ _ τ1
          rw [b2, b3]
          have hH : csH (plc (odN g x i) a) (plc (odN g x i) b) (gN g - 1) = (plc (odN g x i) a = plc (odN g x i) b + 1 ∨ plc (odN g x i) b = plc (odN g x i) a + 1) := propext (by omega)
          conv => rhs; unfold csN
          by_cases c1 : plc (odN g x i) a = plc (odN g x i) b + 1 ∨ plc (odN g x i) b = plc (odN g x i) a + 1
          · have c2 : csH (plc (odN g x i) a) (plc (odN g x i) b) (gN g - 1) := by rw [hH]; exact c1
            simp only [if_pos c1, if_pos c2]
          · have c2 : ¬ csH (plc (odN g x i) a) (plc (odN g x i) b) (gN g - 1) := by rw [hH]; exact c1
            simp only [if_neg c1, if_neg c2]
        · rintro f ⟨q1, q2, u7, u8, u9⟩ hf ⟨h1', h2'⟩
          have h1' : q1 = _ := h1'
          have h2' : q2 = _ := h2'
          obtain ⟨f, rfl⟩ : ∃ j, f = j + 1 := ⟨f - 1, by omega⟩
          obtain ⟨τ3, g1, g2, g3, g4⟩ := MI.add (MI.begin e2) (by simp) (csN (odN g x) a b m).2
          show ∃ τ', en_oi (T_X12_course_41 (f + 1) _ _ _ q1 q2 _ u7 u8 u9 τ1) = _ ∧ _
          rw [h1', h2', t_X12_course_41, if_neg (by rw [pn_lt (by omega) (by omega)]; omega), g1, Option.bind_some]
          exact ⟨τ3, rfl, g2, fun c hc => by rw [g3 c (by omega) (by omega), pu_row (by omega), e4 c hc, pu_row (by omega)]⟩
    · refine p_no hA (-1) (fun hC => ?_) (fun τ hM => ?_)
      · rw [o_X11_course, t_X11_course_0, k_hasTwo_y hA hC.1 hv.1 hv.2.1 hv.2.2, Option.bind_some, if_neg (show ¬ (1 : Int32) = 0 by decide)]
        by_cases v0 : z < 1
        · rw [if_pos v0]; rfl
        · rw [if_neg v0, if_pos (show (200 : Int32) < z from Classical.byContradiction fun q => hz ⟨v0, q⟩)]; rfl
      · have hM2 := hM.slot 11 0 (by omega)
        rw [o_X12_course, t_X12_course_0, m_areTwo_y hA hM2.1 hv.1 hv.2.1 hv.2.2, Option.bind_some, if_neg (show ¬ (1 : Int32) = 0 by decide)]
        dsimp only
        rw [q_in, Option.bind_some, if_pos (by dsimp only; rw [pb2_0]; exact hz)]; rfl
  · refine p_no hA (-1) (fun hC => ?_) (fun τ hM => ?_)
    · rw [o_X11_course, t_X11_course_0, k_hasTwo_n hA hC.1 hv, Option.bind_some, if_pos rfl]; rfl
    · have hM2 := hM.slot 11 0 (by omega)
      rw [o_X12_course, t_X12_course_0, m_areTwo_n hA hM2.1 hv, Option.bind_some, if_pos rfl]; rfl
