/-! order, leads, heard -/
/-- what a call may leave of the class's memory: nothing from the reference's on -/
theorem k_look {g t ro x us kp} {B m : Nat} {σ : en_M} (hA : AV B (g, t, ro, x, us, kp)) (hB : B < 1000000000) (hC : CI σ (g, t, ro, x, us, kp)) (hm : m ≤ 200) : ∃ σ', O_X11_lookAhead [.inr (0, 11, 0, 0), .inl (Int32.ofNat m)] σ = some σ' ∧ CI σ' (g, t, ro, x, us, kp) ∧ (∀ k, k ≤ m → σ' 182 k = Int32.ofNat (pkN (odN g x k))) ∧ FrC σ σ' := by
  obtain ⟨σ', e1, e2, e3⟩ := q_lookAhead hA.1 hC.1 hC.2.2.2.1 hA.2.2.2.2.2.2.2.1 hB hm
  exact ⟨σ', e1, hC.kept (fun c hc => e3 c (by omega)) (by rw [e3 10 (by omega)]), e2, fun c hc => e3 c (by omega)⟩
theorem m_lay {g t ro x us kp} {B m : Nat} {σ : en_M} (hA : AV B (g, t, ro, x, us, kp)) (hB : B < 1000000000) (hM : MI σ (g, t, ro, x, us, kp)) (hm : m ≤ 200) : ∃ σ', O_X12_layOrders [.inr (185, 12, 0, 0), .inl (Int32.ofNat m)] σ = some σ' ∧ MI σ' (g, t, ro, x, us, kp) ∧ (∀ k p, k ≤ m → p < gN g → σ' 197 (7 * k + p) = Int32.ofNat (odN g x k p)) ∧ FrM σ σ' := by
  obtain ⟨σ', e1, e2, e3⟩ := r_layOrders hA.1 hM.1 hM.2.2.2.1 hA.2.2.2.2.2.2.2.1 hB hm
  exact ⟨σ', e1, hM.kept (fun j _ => by rw [e3 185 (by omega) (by omega)]) (fun c hc => e3 c (by omega) (by omega)), e2, fun c hc => e3 c (by omega) (by omega)⟩
theorem od8 {g t ro x us kp} {B : Nat} (hA : AV B (g, t, ro, x, us, kp)) (k : Nat) : ∀ p, p < 7 → odN g x k p < 8 := (odN_PMf hA.1 hA.2.2.2.2.2.2.2.1.1 k).lt8
def rwL (h : Nat → Int32) : Nat → List Int32
  | 0 => []
  | k + 1 => rwL h k ++ [h k]
theorem rwL_len (h : Nat → Int32) : ∀ k, (rwL h k).length = k
  | 0 => rfl
  | k + 1 => by unfold rwL; rw [List.length_append, rwL_len h k]; rfl
theorem p_order : en_st_order pInv := by
  intro c v hc
  refine p_two hc (fun A σ0 hA hB => ?_)
  obtain ⟨g, t, ro, x, us, kp⟩ := A
  have hn : gN g ≤ 7 := hA.1.1
  have same : ∀ w : Int32, (CI σ0 (g, t, ro, x, us, kp) → O_X11_order [.inr (0, 11, 0, 0), .inl v] σ0 = some (w, σ0)) → (∀ τ, MI τ (g, t, ro, x, us, kp) → O_X12_order [.inr (185, 12, 0, 0), .inl v] τ = some (w, en_up τ 185 11 0)) → ∃ v' A', (CI σ0 (g, t, ro, x, us, kp) → ∃ σ', O_X11_order [.inr (0, 11, 0, 0), .inl v] σ0 = some (v', σ') ∧ CI σ' A' ∧ FrC σ0 σ') ∧ (∀ τ, MI τ (g, t, ro, x, us, kp) → ∃ τ', O_X12_order [.inr (185, 12, 0, 0), .inl v] τ = some (v', τ') ∧ MI τ' A' ∧ FrM τ τ') ∧ AV (2000 * (c + 1)) A' :=
    fun w h1 h2 => ⟨w, _, fun hC => ⟨σ0, h1 hC, hC, FrC.refl _⟩, fun τ hM => ⟨_, h2 τ hM, hM.slot 11 0 (by omega), FrM.up (by omega) (by omega)⟩, hA.mono (by omega)⟩
  by_cases hz : gN g = 0
  · refine same (-2) (fun hC => ?_) (fun τ hM => ?_)
    · rw [o_X11_order, t_X11_order_0, show σ0 5 3 = Int32.ofNat (gN g) from hC.1.1, hz, if_pos (by decide)]; rfl
    · rw [o_X12_order, t_X12_order_0, show τ 185 1 = Int32.ofNat (gN g) from hM.1.1, hz, if_pos (by decide)]; rfl
  have nz : ¬ Int32.ofNat (gN g) = 0 := by rw [pn_eq0 (by omega)]; exact hz
  by_cases hv : isR 201 v
  · obtain ⟨m, hm, rfl⟩ := hv
    have ho := od8 hA m
    have hin : ∀ τ : en_M, ¬ ((pb2 (¬ Int32.ofNat m < 0 ∧ ¬ (200 : Int32) < Int32.ofNat m), τ) : Int32 × en_M).1 = 0 := fun τ => by
      dsimp only; rw [pb2_0]
      exact fun q => q ⟨pn_nlt0 (by omega), fun q => by have := (pn_lt (a := 200) (by omega) (by omega)).mp q; omega⟩
    refine ⟨Int32.ofNat (odN g x m 0), (g, t, rwL (fun p => Int32.ofNat (odN g x m p)) (gN g), x, us, kp), fun hC => ?_, fun τ hM => ?_, (hA.row (ro' := rwL (fun p => Int32.ofNat (odN g x m p)) (gN g)) (by rw [rwL_len]; omega)).mono (by omega)⟩
    · obtain ⟨σ1, e1, e2, e3, e4⟩ := k_look hA (by omega) hC (m := m) (by omega)
      rw [o_X11_order, t_X11_order_0, show σ0 5 3 = Int32.ofNat (gN g) from hC.1.1, if_neg nz, if_neg (pn_nlt0 (by omega)), if_neg (show ¬ (200 : Int32) < Int32.ofNat m from fun q => by have := (pn_lt (a := 200) (by omega) (by omega)).mp q; omega), e1, Option.bind_some, q_tbegin, Option.bind_some]
      refine pl_for1 (F := fun f i (q : en_M) => T_X11_order_40 f (Int32.ofNat m) (Int32.ofNat i) q) (P := fun i q => CI q (g, t, rwL (fun p => Int32.ofNat (odN g x m p)) i, x, us, kp) ∧ ∀ c, c ≠ 3 → c ≠ 4 → q c = σ1 c) (Q := fun r => ∃ σ', en_oi r = some (Int32.ofNat (odN g x m 0), σ') ∧ CI σ' (g, t, rwL (fun p => Int32.ofNat (odN g x m p)) (gN g), x, us, kp) ∧ FrC σ0 σ') (N := gN g) ?_ ?_ (gN g) 0 en_FU _ (by omega) (pl_FU (by omega)) ⟨e2.begin, fun c h1 h2 => pu_row h1⟩
      · rintro f i τ hi ⟨p1, p2⟩
        have a0 : τ 182 m = Int32.ofNat (pkN (odN g x m)) := by rw [p2 182 (by omega) (by omega)]; exact e3 m (Nat.le_refl _)
        obtain ⟨τ1, b1, b2, b3⟩ := p1.add (by rw [rwL_len]; omega) (Int32.ofNat (odN g x m i))
        refine Or.inl ⟨τ1, ?_, b2, fun c h1 h2 => by rw [b3 c h1 h2, p2 c h1 h2]⟩
        show T_X11_order_40 (f + 1) _ _ τ = _
        rw [t_X11_order_40, show τ 5 3 = Int32.ofNat (gN g) from p1.1.1, if_pos ((pn_lt (by omega) (by omega)).mpr hi), pn_ix (by omega) (by omega), Option.bind_some, q_bellAt, Option.bind_some]
        dsimp only
        rw [a0, pba ho (by omega), b1, Option.bind_some, pn_a1]
      · rintro f τ ⟨p1, p2⟩
        have a0 : τ 182 m = Int32.ofNat (pkN (odN g x m)) := by rw [p2 182 (by omega) (by omega)]; exact e3 m (Nat.le_refl _)
        show ∃ σ', en_oi (T_X11_order_40 (f + 1) _ _ τ) = _ ∧ _
        have hb : (en_shr (Int32.ofNat (pkN (odN g x m))) (3 * (0 : Int32)) &&& 7) = Int32.ofNat (odN g x m 0) := pba ho (p := 0) (by omega)
        rw [t_X11_order_40, show τ 5 3 = Int32.ofNat (gN g) from p1.1.1, if_neg (by rw [pn_lt (by omega) (by omega)]; omega), pn_ix (by omega) (by omega), Option.bind_some, q_bellAt, Option.bind_some]
        dsimp only
        rw [a0, hb]
        exact ⟨τ, rfl, p1, fun c hc => by rw [p2 c (by omega) (by omega), e4 c hc]⟩
    · have hM2 := hM.slot 11 0 (by omega)
      obtain ⟨τ1, e1, e2, e3, e4⟩ := m_lay hA (by omega) hM2 (m := m) (by omega)
      rw [o_X12_order, t_X12_order_0, show τ 185 1 = Int32.ofNat (gN g) from hM.1.1, if_neg nz, q_in, Option.bind_some, if_neg (hin _)]
      dsimp only
      rw [e1, Option.bind_some]
      refine pl_for1 (F := fun f i (q : en_M) => T_X12_order_40 f (Int32.ofNat m) (Int32.ofNat i) q) (P := fun i q => MI q (g, t, rwL (fun p => Int32.ofNat (odN g x m p)) i, x, us, kp) ∧ ∀ c, c ≠ 185 → c ≠ 190 → q c = τ1 c) (Q := fun r => ∃ τ', en_oi r = some (Int32.ofNat (odN g x m 0), τ') ∧ MI τ' (g, t, rwL (fun p => Int32.ofNat (odN g x m p)) (gN g), x, us, kp) ∧ FrM τ τ') (N := gN g) ?_ ?_ (gN g) 0 en_FU _ (by omega) (pl_FU (by omega)) ⟨e2.begin, fun c h1 h2 => pu_row h1⟩
      · rintro f i υ hi ⟨p1, p2⟩
        have a0 : υ 197 (7 * m + i) = Int32.ofNat (odN g x m i) := by rw [p2 197 (by omega) (by omega)]; exact e3 m i (Nat.le_refl _) hi
        obtain ⟨τ2, b1, b2, b3, b4⟩ := p1.add (by rw [rwL_len]; omega) (Int32.ofNat (odN g x m i))
        refine Or.inl ⟨τ2, ?_, b2, fun c h1 h2 => by rw [b3 c h1 h2, p2 c h1 h2]⟩
        show T_X12_order_40 (f + 1) _ _ υ = _
        rw [t_X12_order_40, show υ 185 1 = Int32.ofNat (gN g) from p1.1.1, if_pos ((pn_lt (by omega) (by omega)).mpr hi), show (7 : Int32) * Int32.ofNat m = Int32.ofNat (7 * m) from pn_mul 7 m, pn_add, pn_ix (by omega) (by omega), Option.bind_some, a0, b1, Option.bind_some, pn_a1]
      · rintro f υ ⟨p1, p2⟩
        have a0 : υ 197 (7 * m) = Int32.ofNat (odN g x m 0) := by rw [p2 197 (by omega) (by omega)]; exact e3 m 0 (Nat.le_refl _) (by show 0 < gN g; omega)
        show ∃ τ', en_oi (T_X12_order_40 (f + 1) _ _ υ) = _ ∧ _
        rw [t_X12_order_40, show υ 185 1 = Int32.ofNat (gN g) from p1.1.1, if_neg (by rw [pn_lt (by omega) (by omega)]; omega), show (7 : Int32) * Int32.ofNat m = Int32.ofNat (7 * m) from pn_mul 7 m, pn_ix (by omega) (by omega), Option.bind_some, a0]
        exact ⟨υ, rfl, p1, fun c hc => by rw [p2 c (by omega) (by omega), e4 c hc, pu_row (by omega)]⟩
  · refine same (-1) (fun hC => ?_) (fun τ hM => ?_)
    · rw [o_X11_order, t_X11_order_0, show σ0 5 3 = Int32.ofNat (gN g) from hC.1.1, if_neg nz]
      by_cases v0 : v < 0
      · rw [if_pos v0]; rfl
      · rw [if_neg v0, if_pos (show (200 : Int32) < v from Classical.byContradiction fun q => hv ((isR_iff2 (n := 201) (by omega) v).mpr ⟨v0, q⟩))]; rfl
    · rw [o_X12_order, t_X12_order_0, show τ 185 1 = Int32.ofNat (gN g) from hM.1.1, if_neg nz, q_in, Option.bind_some]
      rw [if_pos (by dsimp only; rw [pb2_0]; exact fun q => hv ((isR_iff2 (n := 201) (by omega) v).mpr q))]; rfl
/-- leads: the first round and how often, among the first k -/
def lsN (g : pG) (x : pS) (b p : Nat) : Nat → Int32 × Int32
  | 0 => (-1, 0)
  | k + 1 => if odN g x k p = b then (if (lsN g x b p k).1 = -1 then Int32.ofNat k else (lsN g x b p k).1, (lsN g x b p k).2 + (if k < 200 then 1 else 0)) else lsN g x b p k
theorem p_leads : en_st_leads pInv := by
  intro c v w hc
  refine p_two hc (fun A σ0 hA hB => ?_)
  obtain ⟨g, t, ro, x, us, kp⟩ := A
  have hn : gN g ≤ 7 := hA.1.1
  by_cases hv : isR (gN g) v ∧ isR (gN g) w
  · obtain ⟨⟨b, hb, rfl⟩, p, hp, rfl⟩ := hv
    have hfin : ∀ z : Int32 × Int32, z = lsN g x b p 201 → ∃ v' A', (z.1 = -1 → v' = -2 ∧ A' = (g, t, ro, x, us, kp)) ∧ (z.1 ≠ -1 → v' = z.1 ∧ A' = (g, t, [z.2], x, us, kp)) ∧ AV (2000 * (c + 1)) A' := fun z hz => by
      by_cases e : z.1 = -1
      · exact ⟨-2, (g, t, ro, x, us, kp), fun _ => ⟨rfl, rfl⟩, fun q => absurd e q, hA.mono (by omega)⟩
      · exact ⟨z.1, (g, t, [z.2], x, us, kp), fun q => absurd q e, fun _ => ⟨rfl, rfl⟩, (hA.row (by simp)).mono (by omega)⟩
    obtain ⟨v', A', f1, f2, f3⟩ := hfin _ rfl
    refine ⟨v', A', fun hC => ?_, fun τ hM => ?_, f3⟩
    · obtain ⟨σ1, e1, e2, e3, e4⟩ := k_look hA (by omega) hC (m := 200) (by omega)
      have e1' : O_X11_lookAhead [.inr (0, 11, 0, 0), .inl (200 : Int32)] σ0 = some σ1 := e1
      rw [o_X11_leads, t_X11_leads_0, k_hasRinger_y hA hC.1 ⟨b, hb, rfl⟩, Option.bind_some, if_neg (show ¬ (1 : Int32) = 0 by decide)]
      dsimp only
      rw [k_hasRinger_y hA hC.1 ⟨p, hp, rfl⟩, Option.bind_some, if_neg (show ¬ (1 : Int32) = 0 by decide)]
      dsimp only
      rw [e1', Option.bind_some]
      refine pl_for1 (F := fun f i (q : Int32 × Int32) => T_X11_leads_39 f (Int32.ofNat b) (Int32.ofNat p) q.1 q.2 (Int32.ofNat i) σ1) (P := fun i q => q = lsN g x b p i) (Q := fun r => ∃ σ', en_oi r = some (v', σ') ∧ CI σ' A' ∧ FrC σ0 σ') (N := 201) ?_ ?_ 201 0 en_FU (-1, 0) rfl (pl_FU (by omega)) rfl
      · rintro f i q hi rfl
        have ho := od8 hA i
        refine Or.inl ⟨lsN g x b p (i + 1), ?_, rfl⟩
        show T_X11_leads_39 (f + 1) _ _ _ _ _ σ1 = _
        rw [t_X11_leads_39, if_neg (show ¬ (200 : Int32) < Int32.ofNat i from fun q => by have := (pn_lt (a := 200) (by omega) (by omega)).mp q; omega), pn_ix hi (by omega), Option.bind_some, q_bellAt, Option.bind_some]
        dsimp only
        rw [e3 i (by omega), pba ho (by omega), pn_a1, pi_if (pn_eq (show odN g x i p < 2147483648 by have := ho p (by omega); omega) (by omega))]
        show _ = T_X11_leads_39 f (Int32.ofNat b) (Int32.ofNat p) (if odN g x i p = b then (if (lsN g x b p i).1 = -1 then Int32.ofNat i else (lsN g x b p i).1, (lsN g x b p i).2 + (if i < 200 then 1 else 0)) else lsN g x b p i).1 (if odN g x i p = b then (if (lsN g x b p i).1 = -1 then Int32.ofNat i else (lsN g x b p i).1, (lsN g x b p i).2 + (if i < 200 then 1 else 0)) else lsN g x b p i).2 _ σ1
        have h200 : (Int32.ofNat i < (200 : Int32)) = (i < 200) := pn_lt (b := 200) (by omega) (by omega)
        by_cases c1 : odN g x i p = b
        · rw [if_pos c1, if_pos c1]
          by_cases c2 : (lsN g x b p i).1 = -1
          · simp only [if_pos c2, pi_if h200]
            by_cases c3 : i < 200
            · simp only [if_pos c3]
            · simp only [if_neg c3]
          · simp only [if_neg c2, pi_if h200]
            by_cases c3 : i < 200
            · simp only [if_pos c3]
            · simp only [if_neg c3]
        · rw [if_neg c1, if_neg c1]
      · rintro f q rfl
        show ∃ σ', en_oi (T_X11_leads_39 (f + 1) _ _ _ _ _ σ1) = _ ∧ _
        rw [t_X11_leads_39, if_pos (show (200 : Int32) < Int32.ofNat 201 by decide)]
        by_cases c2 : (lsN g x b p 201).1 = -1
        · rw [if_pos c2]
          obtain ⟨rfl, rfl⟩ := f1 c2
          exact ⟨σ1, rfl, e2, e4⟩
        · rw [if_neg c2]
          obtain ⟨rfl, rfl⟩ := f2 c2
          obtain ⟨σ3, g1, g2, g3⟩ := CI.add (CI.begin e2) (by simp) (lsN g x b p 201).2
          rw [q_tbegin, Option.bind_some, g1, Option.bind_some]
          exact ⟨σ3, rfl, g2, fun c hc => by rw [g3 c (by omega) (by omega), pu_row (by omega), e4 c hc]⟩
    · have hM2 := hM.slot 11 0 (by omega)
      obtain ⟨τ1, e1, e2, e3, e4⟩ := m_lay hA (by omega) hM2 (m := 200) (by omega)
      have e1' : O_X12_layOrders [.inr (185, 12, 0, 0), .inl (200 : Int32)] (en_up τ 185 11 0) = some τ1 := e1
      have hfr : FrM τ τ1 := fun c hc => by rw [e4 c hc, pu_row (by omega)]
      rw [o_X12_leads, t_X12_leads_0, m_isOne_y hA hM2.1 ⟨b, hb, rfl⟩, Option.bind_some, if_neg (show ¬ (1 : Int32) = 0 by decide)]
      dsimp only
      rw [m_isOne_y hA hM2.1 ⟨p, hp, rfl⟩, Option.bind_some, if_neg (show ¬ (1 : Int32) = 0 by decide)]
      dsimp only
      rw [e1', Option.bind_some]
      refine pl_for1 (F := fun f i (q : Int32 × Int32) => T_X12_leads_38 f (Int32.ofNat b) (Int32.ofNat p) q.1 q.2 (Int32.ofNat i) τ1) (P := fun i q => q = lsN g x b p i) (Q := fun r => ∃ τ', en_oi r = some (v', τ') ∧ MI τ' A' ∧ FrM τ τ') (N := 201) ?_ ?_ 201 0 en_FU (-1, 0) rfl (pl_FU (by omega)) rfl
      · rintro f i q hi rfl
        have ho := od8 hA i
        refine Or.inl ⟨lsN g x b p (i + 1), ?_, rfl⟩
        show T_X12_leads_38 (f + 1) _ _ _ _ _ τ1 = _
        rw [t_X12_leads_38, if_neg (show ¬ (200 : Int32) < Int32.ofNat i from fun q => by have := (pn_lt (a := 200) (by omega) (by omega)).mp q; omega), show (7 : Int32) * Int32.ofNat i = Int32.ofNat (7 * i) from pn_mul 7 i, pn_add, pn_ix (by omega) (by omega), Option.bind_some, e3 i p (by omega) hp, pn_a1, pi_if (pn_eq (show odN g x i p < 2147483648 by have := ho p (by omega); omega) (by omega))]
        show _ = T_X12_leads_38 f (Int32.ofNat b) (Int32.ofNat p) (if odN g x i p = b then (if (lsN g x b p i).1 = -1 then Int32.ofNat i else (lsN g x b p i).1, (lsN g x b p i).2 + (if i < 200 then 1 else 0)) else lsN g x b p i).1 (if odN g x i p = b then (if (lsN g x b p i).1 = -1 then Int32.ofNat i else (lsN g x b p i).1, (lsN g x b p i).2 + (if i < 200 then 1 else 0)) else lsN g x b p i).2 _ τ1
        have h200 : (Int32.ofNat i < (200 : Int32)) = (i < 200) := pn_lt (b := 200) (by omega) (by omega)
        by_cases c1 : odN g x i p = b
        · rw [if_pos c1, if_pos c1]
          by_cases c2 : (lsN g x b p i).1 = -1
          · simp only [if_pos c2, pi_if h200]
            by_cases c3 : i < 200
            · simp only [if_pos c3]
            · simp only [if_neg c3]
          · simp only [if_neg c2, pi_if h200]
            by_cases c3 : i < 200
            · simp only [if_pos c3]
            · simp only [if_neg c3]
        · rw [if_neg c1, if_neg c1]
      · rintro f q rfl
        show ∃ τ', en_oi (T_X12_leads_38 (f + 1) _ _ _ _ _ τ1) = _ ∧ _
        rw [t_X12_leads_38, if_pos (show (200 : Int32) < Int32.ofNat 201 by decide)]
        by_cases c2 : (lsN g x b p 201).1 = -1
        · rw [if_pos c2]
          obtain ⟨rfl, rfl⟩ := f1 c2
          exact ⟨τ1, rfl, e2, hfr⟩
        · rw [if_neg c2]
          obtain ⟨rfl, rfl⟩ := f2 c2
          obtain ⟨τ3, g1, g2, g3, g4⟩ := MI.add (MI.begin e2) (by simp) (lsN g x b p 201).2
          rw [g1, Option.bind_some]
          exact ⟨τ3, rfl, g2, fun c hc => by rw [g3 c (by omega) (by omega), pu_row (by omega), hfr c hc]⟩
  · refine ⟨-1, (g, t, ro, x, us, kp), fun hC => ⟨σ0, ?_, hC, FrC.refl _⟩, fun τ hM => ⟨en_up τ 185 11 0, ?_, hM.slot 11 0 (by omega), FrM.up (by omega) (by omega)⟩, hA.mono (by omega)⟩
    · rw [o_X11_leads, t_X11_leads_0]
      by_cases h1 : isR (gN g) v
      · rw [k_hasRinger_y hA hC.1 h1, Option.bind_some, if_neg (show ¬ (1 : Int32) = 0 by decide)]
        dsimp only
        rw [k_hasRinger_n hA hC.1 (fun q => hv ⟨h1, q⟩), Option.bind_some, if_pos (show (0 : Int32) = 0 from rfl)]; rfl
      · rw [k_hasRinger_n hA hC.1 h1, Option.bind_some, if_pos (show (0 : Int32) = 0 from rfl)]; rfl
    · have hM2 := hM.slot 11 0 (by omega)
      rw [o_X12_leads, t_X12_leads_0]
      by_cases h1 : isR (gN g) v
      · rw [m_isOne_y hA hM2.1 h1, Option.bind_some, if_neg (show ¬ (1 : Int32) = 0 by decide)]
        dsimp only
        rw [m_isOne_n hA hM2.1 (fun q => hv ⟨h1, q⟩), Option.bind_some, if_pos (show (0 : Int32) = 0 from rfl)]; rfl
      · rw [m_isOne_n hA hM2.1 h1, Option.bind_some, if_pos (show (0 : Int32) = 0 from rfl)]; rfl
