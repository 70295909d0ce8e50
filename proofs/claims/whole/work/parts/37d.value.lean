/-! rule: the class reads and works it -/
theorem q_worked {s : Nat} (hs : s < 1000) (a b : Int32) (σ : en_M) : O_X6_worked [.inl (Int32.ofNat s), .inl a, .inl b] σ = some (wkV s a b, σ) := by
  have e : ∀ k : Nat, k < 1000 → (Int32.ofNat s = Int32.ofNat k) = (s = k) := fun k hk => pn_eq (by omega) (by omega)
  rw [o_X6_worked, t_X6_worked_0, pi_if (show (Int32.ofNat s = (42 : Int32)) = (s = 42) from e 42 (by omega)), pi_if (show (Int32.ofNat s = (43 : Int32)) = (s = 43) from e 43 (by omega)), pi_if (show (Int32.ofNat s = (45 : Int32)) = (s = 45) from e 45 (by omega)), pi_if (show (Int32.ofNat s = (47 : Int32)) = (s = 47) from e 47 (by omega)), pi_if (show (Int32.ofNat s = (60 : Int32)) = (s = 60) from e 60 (by omega)), pi_if (show (Int32.ofNat s = (62 : Int32)) = (s = 62) from e 62 (by omega))]
  unfold wkV
  by_cases c1 : s = 42
  · rw [if_pos c1, if_pos c1]; rfl
  rw [if_neg c1, if_neg c1]
  by_cases c2 : s = 43
  · rw [if_pos c2, if_pos c2]; rfl
  rw [if_neg c2, if_neg c2]
  by_cases c3 : s = 45
  · rw [if_pos c3, if_pos c3]; rfl
  rw [if_neg c3, if_neg c3]
  by_cases c4 : s = 47
  · rw [if_pos c4, if_pos c4]
    by_cases z : b = 0
    · rw [if_pos z, if_pos z]; rfl
    · rw [if_neg z, if_neg z, if_neg z]; rfl
  rw [if_neg c4, if_neg c4]
  by_cases c5 : s = 60
  · rw [if_pos c5, if_pos c5]
    by_cases z : a < b
    · rw [if_pos z, if_pos z]; rfl
    · rw [if_neg z, if_neg z]; rfl
  rw [if_neg c5, if_neg c5]
  by_cases c6 : s = 62
  · rw [if_pos c6, if_pos c6]
    by_cases z : b < a
    · rw [if_pos z, if_pos z]; rfl
    · rw [if_neg z, if_neg z]; rfl
  rw [if_neg c6, if_neg c6]
  by_cases z : a = b
  · rw [if_pos z, if_pos z]; rfl
  · rw [if_neg z, if_neg z]; rfl
theorem drop_rn {th : Nat → Int32} : ∀ (cs : List Nat) (k : Nat) (st : List Int32), k < cs.length → rnC th (cs.drop k) st = rnC th (cs.drop (k + 1)) (rn1 th (cs.getD k 0) st)
  | [], k, st, h => absurd h (Nat.not_lt_zero k)
  | c :: cs, 0, st, _ => rfl
  | c :: cs, k + 1, st, h => drop_rn cs k st (Nat.lt_of_succ_lt_succ h)
theorem q_value {cs : List Nat} {v : Int32} {σ1 : en_M} (hl : cs.length ≤ 40) (hc : ∀ j, j < cs.length → cs.getD j 0 < 1007 ∨ cs.getD j 0 = 1100 ∨ 2000 ≤ cs.getD j 0 ∧ cs.getD j 0 < 3000) (h4 : σ1 10 4 = Int32.ofNat cs.length) (h11 : ∀ j, j < cs.length → σ1 11 j = Int32.ofNat (cs.getD j 0)) (hv : rnC (σ1 14) cs [] = [v]) :
    ∃ row, O_X6_value [.inr (10, 6, 0, 0)] σ1 = some (v, pst σ1 13 row) := by
  have hFU := en_FU_ge
  have h0 : cs.length ≠ 0 := by
    intro z
    rw [List.eq_nil_of_length_eq_zero z] at hv
    cases hv
  have main : ∀ K k f (st : List Int32) row u, k + K = cs.length → K + 5 < f → st.length ≤ k → (∀ j, j < st.length → row (st.length - 1 - j) = st.getD j 0) → rnC (σ1 14) (cs.drop k) st = [v] → ∃ row', en_oi (T_X6_value_22 f (Int32.ofNat st.length) (Int32.ofNat k) u (pst σ1 13 row)) = some (v, pst σ1 13 row') := by
    intro K
    induction K with
    | zero =>
      intro k f st row u hk hf hst hrow he
      obtain ⟨f, rfl⟩ : ∃ j, f = j + 1 := Nat.exists_eq_succ_of_ne_zero (by omega)
      rw [List.drop_eq_nil_of_le (by omega)] at he
      have he : st = [v] := he
      subst he
      rw [t_X6_value_22, pst_ne (by omega), h4, if_neg (show ¬ Int32.ofNat k < Int32.ofNat cs.length from fun z => by have := (pn_lt (by omega) (by omega)).mp z; omega), show en_ix (0 : Int32) 40 = some 0 from pn_ix (k := 0) (by omega) (by omega), Option.bind_some, pst_same]
      have := hrow 0 (by show 0 < 1; omega)
      refine ⟨row, ?_⟩
      show some (row 0, _) = some (v, _)
      rw [show row 0 = v from this]
    | succ K ih =>
      intro k f st row u hk hf hst hrow he
      obtain ⟨f, rfl⟩ : ∃ j, f = j + 1 := Nat.exists_eq_succ_of_ne_zero (by omega)
      have hck := hc k (by omega)
      rw [drop_rn cs k st (by omega)] at he
      have r11 : (pst σ1 13 row) 11 k = Int32.ofNat (cs.getD k 0) := by rw [pst_ne (by omega)]; exact h11 k (by omega)
      rw [t_X6_value_22, show (pst σ1 13 row) 10 4 = Int32.ofNat cs.length from (by rw [pst_ne (by omega)]; exact h4), if_pos (show Int32.ofNat k < Int32.ofNat cs.length from (pn_lt (by omega) (by omega)).mpr (by omega)), pn_ix (show k < 40 by omega) (by omega), Option.bind_some, r11]
      generalize cs.getD k 0 = c at hck he ⊢
      have skip : ∀ u', rn1 (σ1 14) c st = st → ∃ row', en_oi (T_X6_value_22 f (Int32.ofNat st.length) (Int32.ofNat k + (1 : Int32)) u' (pst σ1 13 row)) = some (v, pst σ1 13 row') := fun u' hr => by
        rw [hr] at he
        rw [pn_a1]
        exact ih (k + 1) f st row u' (by omega) (by omega) (by omega) hrow he
      have push : ∀ val u', rn1 (σ1 14) c st = val :: st → ∃ row', en_oi (T_X6_value_22 f (Int32.ofNat st.length + (1 : Int32)) (Int32.ofNat k + (1 : Int32)) u' (en_up (pst σ1 13 row) 13 st.length val)) = some (v, pst σ1 13 row') := fun val u' hr => by
        rw [hr] at he
        rw [pn_a1, pn_a1, pst_up]
        refine ih (k + 1) f (val :: st) _ u' (by omega) (by omega) (by show st.length + 1 ≤ k + 1; omega) (fun j hj => ?_) he
        have hj : j < st.length + 1 := hj
        show pru row st.length val (st.length + 1 - 1 - j) = (val :: st).getD j 0
        cases j with
        | zero => rw [show st.length + 1 - 1 - 0 = st.length by omega, pru_same]; rfl
        | succ j =>
          rw [pru_ne (by omega), show st.length + 1 - 1 - (j + 1) = st.length - 1 - j by omega]
          exact hrow j (by omega)
      have h1100 : (Int32.ofNat c < (1100 : Int32)) = (c < 1100) := pn_lt (b := 1100) (by omega) (by omega)
      have h1000 : (Int32.ofNat c < (1000 : Int32)) = (c < 1000) := pn_lt (b := 1000) (by omega) (by omega)
      have h1100e : (Int32.ofNat c = (1100 : Int32)) = (c = 1100) := pn_eq (b := 1100) (by omega) (by omega)
      have hn2 : (Int32.ofNat st.length < (2 : Int32)) = (st.length < 2) := pn_lt (b := 2) (by omega) (by omega)
      have hn1 : (Int32.ofNat st.length < (1 : Int32)) = (st.length < 1) := pn_lt (b := 1) (by omega) (by omega)
      rw [pi_if h1100, pi_if h1000, pi_if h1100e, pi_if hn1, pi_if hn2]
      by_cases c1 : c < 1100
      · rw [if_pos c1]
        by_cases c2 : c < 1000
        · rw [if_pos c2, pn_ix (show st.length < 40 by omega) (by omega), Option.bind_some]
          refine push _ _ ?_
          unfold rn1
          rw [if_pos c2]
        · have e1 : Int32.ofNat c - (1000 : Int32) = Int32.ofNat (c - 1000) := pn_sub (b := 1000) (by omega)
          rw [if_neg c2, e1, pn_ix (show c - 1000 < 7 by omega) (by omega), Option.bind_some, pn_ix (show st.length < 40 by omega) (by omega), Option.bind_some, show (pst σ1 13 row) 14 (c - 1000) = σ1 14 (c - 1000) from by rw [pst_ne (by omega)]]
          refine push _ _ ?_
          unfold rn1
          rw [if_neg c2, if_pos c1]
      · rw [if_neg c1]
        by_cases c3 : c = 1100
        · rw [if_pos c3]
          match st, hst, hrow, skip, hn1, hn2, he with
          | [], hst, hrow, skip, hn1, hn2, he =>
            rw [if_pos (show ([] : List Int32).length < 1 from Nat.one_pos), if_pos (show ([] : List Int32).length < 2 by show 0 < 2; omega)]
            refine skip _ ?_
            unfold rn1
            rw [if_neg (by omega), if_neg c1, if_pos c3]
          | a :: r, hst, hrow, skip, hn1, hn2, he =>
            have hst : r.length + 1 ≤ k := hst
            have e1 : Int32.ofNat (a :: r).length - (1 : Int32) = Int32.ofNat r.length := pn_sub (a := r.length + 1) (b := 1) (by omega)
            have hra : row r.length = a := hrow 0 (by show 0 < r.length + 1; omega)
            rw [if_neg (show ¬ (a :: r).length < 1 by show ¬ r.length + 1 < 1; omega), e1, pn_ix (show r.length < 40 by omega) (by omega), Option.bind_some, Option.bind_some, pst_same, hra, pst_up, pn_a1]
            have hr1 : rn1 (σ1 14) c (a :: r) = -a :: r := by
              unfold rn1
              rw [if_neg (by omega), if_neg c1, if_pos c3]
            rw [hr1] at he
            refine ih (k + 1) f (-a :: r) _ _ (by omega) (by omega) (by show r.length + 1 ≤ k + 1; omega) (fun j hj => ?_) he
            have hj : j < r.length + 1 := hj
            show pru row r.length (-a) (r.length + 1 - 1 - j) = (-a :: r).getD j 0
            cases j with
            | zero => rw [show r.length + 1 - 1 - 0 = r.length by omega, pru_same]; rfl
            | succ j =>
              rw [pru_ne (by omega)]
              exact hrow (j + 1) hj
        · rw [if_neg c3]
          have e2 : Int32.ofNat c - (2000 : Int32) = Int32.ofNat (c - 2000) := pn_sub (b := 2000) (by omega)
          match st, hst, hrow, skip, hn1, hn2, he with
          | [], hst, hrow, skip, hn1, hn2, he =>
            rw [if_pos (show ([] : List Int32).length < 2 by show 0 < 2; omega)]
            refine skip _ ?_
            unfold rn1
            rw [if_neg (by omega), if_neg c1, if_neg c3]
          | [a], hst, hrow, skip, hn1, hn2, he =>
            rw [if_pos (show [a].length < 2 by show 1 < 2; omega)]
            refine skip _ ?_
            unfold rn1
            rw [if_neg (by omega), if_neg c1, if_neg c3]
          | b :: a :: r, hst, hrow, skip, hn1, hn2, he =>
            have hst : r.length + 2 ≤ k := hst
            have e0 : Int32.ofNat (b :: a :: r).length + (-1 : Int32) = Int32.ofNat (r.length + 1) := (Int32.sub_eq_add_neg _ _).symm.trans (pn_sub (a := r.length + 2) (b := 1) (by omega))
            have e1 : Int32.ofNat (r.length + 1) - (1 : Int32) = Int32.ofNat r.length := pn_sub (a := r.length + 1) (b := 1) (by omega)
            have hrb : row (r.length + 1) = b := hrow 0 (by show 0 < r.length + 2; omega)
            have hra : row r.length = a := hrow 1 (by show 1 < r.length + 2; omega)
            rw [if_neg (show ¬ (b :: a :: r).length < 2 by show ¬ r.length + 2 < 2; omega), e0, e1, pn_ix (show r.length < 40 by omega) (by omega), Option.bind_some, pn_ix (show r.length + 1 < 40 by omega) (by omega), Option.bind_some, pst_same, hra, hrb, e2, q_worked (by omega), Option.bind_some, Option.bind_some]
            dsimp only
            rw [pst_up, pn_a1]
            have hr1 : rn1 (σ1 14) c (b :: a :: r) = wkV (c - 2000) a b :: r := by
              unfold rn1
              rw [if_neg (by omega), if_neg c1, if_neg c3]
            rw [hr1] at he
            generalize wkV (c - 2000) a b = w at he ⊢
            refine ih (k + 1) f (w :: r) _ _ (by omega) (by omega) (by show r.length + 1 ≤ k + 1; omega) (fun j hj => ?_) he
            have hj : j < r.length + 1 := hj
            show pru row r.length w (r.length + 1 - 1 - j) = (w :: r).getD j 0
            cases j with
            | zero => rw [show r.length + 1 - 1 - 0 = r.length by omega, pru_same]; rfl
            | succ j =>
              rw [pru_ne (by omega)]
              have := hrow (j + 2) (by show j + 2 < r.length + 2; omega)
              exact (congrArg row (by show r.length + 1 - 1 - (j + 1) = r.length + 2 - 1 - (j + 2); omega)).trans this
  rw [o_X6_value, t_X6_value_0, h4, if_neg (by rw [pn_eq0 (by omega)]; exact h0)]
  have := main cs.length 0 en_FU [] (σ1 13) en_un (by omega) (by omega) (Nat.le_refl 0) (fun j hj => absurd hj (Nat.not_lt_zero j)) hv
  rw [pst_self] at this
  exact this
theorem q_read {L : Nat} {tx : Nat → Nat} {σ : en_M} (hT : CT σ L tx) (hL : L ≤ 80) (hb : ∀ j, tx j < 256) (h0 : 0 < L) :
    ((eeP L tx 4 0).1 = true ∧ L ≤ (eeP L tx 4 0).2.1 → ∃ σ', O_X6_read [.inr (10, 6, 0, 0), .inr (1, 8, 0, 0)] σ = some (0, σ') ∧ (∀ c, c ≠ 10 → c ≠ 11 → c ≠ 12 → σ' c = σ c) ∧ σ' 10 4 = Int32.ofNat (eeP L tx 4 0).2.2.1.length ∧ ∀ j, j < (eeP L tx 4 0).2.2.1.length → σ' 11 j = Int32.ofNat ((eeP L tx 4 0).2.2.1.getD j 0)) ∧
    (¬ ((eeP L tx 4 0).1 = true ∧ L ≤ (eeP L tx 4 0).2.1) → ∃ σ', O_X6_read [.inr (10, 6, 0, 0), .inr (1, 8, 0, 0)] σ = some (-1 - Int32.ofNat (eeP L tx 4 0).2.1, σ') ∧ (∀ c, c ≠ 10 → c ≠ 12 → σ' c = σ c) ∧ σ' 10 4 = σ 10 4) := by
  have hF0 : FW σ (en_up (en_up σ 10 6 0) 10 5 0) := ⟨fun c h1 _ => by rw [pu_row h1, pu_row h1], fun j h1 h2 => by rw [pu_slot h1, pu_slot h2]⟩
  obtain ⟨σ1, w1, e1, e2, e3, e4, e5, e6⟩ := c_ee hb hL 4 0 220 rfl (en_up (en_up σ 10 6 0) 10 5 0) 0 0 (hT.fw hF0) (by rw [pu_slot (by omega), pu_same]; rfl) (Nat.zero_le _) (pu_same _ _ _ _) (Nat.le_refl 0)
  obtain ⟨g1, g2, g3⟩ := GP_ee (L := L) hb 4 0 (Nat.zero_le _)
  have hF := hF0.trans e5
  have e1' : O_X6_readExpression [.inr (10, 6, 0, 0), .inr (1, 8, 0, 0), .inl (0 : Int32)] (en_up (en_up σ 10 6 0) 10 5 0) = some (if (eeP L tx 4 0).1 = true then 1 else 0, σ1) := by rw [oe_X6_readExpression]; exact e1
  have hS : O_X11_cannotStand [.inl (σ1 10 6)] σ1 = some (-1 - Int32.ofNat (eeP L tx 4 0).2.1, σ1) := by rw [o_X11_cannotStand, t_X11_cannotStand_0, e2]; rfl
  rw [o_X6_read, t_X6_read_0, show σ 1 1 = Int32.ofNat L from hT.1, if_neg (show ¬ Int32.ofNat L = 0 by rw [pn_eq0 (by omega)]; omega), e1', Option.bind_some]
  dsimp only
  generalize eeP L tx 4 0 = R at e1 e1' e2 e6 g1 g2 g3 hS ⊢
  by_cases cx : R.1 = true
  · rw [if_pos cx, if_neg (show ¬ (1 : Int32) = 0 by decide), q_peek (hT.fw hF) hL e2 g2, Option.bind_some]
    dsimp only
    have hpk : (sgn L 40 tx R.2.1 = (-1 : Int32)) = (L ≤ R.2.1) := by
      refine propext ?_
      unfold sgn
      by_cases z : R.2.1 < L
      · rw [if_pos z]
        by_cases z2 : R.2.1 < 40
        · have := hb R.2.1
          rw [if_pos z2]
          exact ⟨fun q => absurd q (pn_nm1 (by omega)), fun q => by omega⟩
        · rw [if_neg z2]
          exact ⟨fun q => absurd q (by decide), fun q => by omega⟩
      · rw [if_neg z]
        exact ⟨fun _ => by omega, fun _ => rfl⟩
    rw [pi_if hpk]
    by_cases cl : L ≤ R.2.1
    · obtain ⟨e7, e8⟩ := e6 cx
      obtain ⟨o1, o2, -⟩ := g3 cx
      refine ⟨fun _ => ?_, fun z => absurd ⟨cx, cl⟩ z⟩
      rw [if_pos cl, if_neg (by decide), if_pos (by decide), show (0 : Int32).toNatClampNeg = 0 by decide, show (40 : Int32).toNatClampNeg = 40 by decide, e3]
      have hlen : w1 = R.2.2.1.length := by omega
      refine ⟨_, rfl, fun c c1 c2 c3 => by rw [pu_row c1, pc_cell c2]; exact hF.1 c c1 c3, by rw [pu_same, hlen], fun j hj => ?_⟩
      rw [pu_cell (by omega), pc_dst _ _ _ _ _ (by omega)]
      have := e8.2 j hj
      rw [Nat.zero_add] at this
      exact this
    · refine ⟨fun z => absurd z.2 cl, fun _ => ?_⟩
      rw [if_neg cl, hS, Option.bind_some]
      exact ⟨σ1, rfl, hF.1, hF.2 4 (by omega) (by omega)⟩
  · refine ⟨fun z => absurd z.1 cx, fun _ => ?_⟩
    rw [if_neg cx, if_pos (show (0 : Int32) = 0 from rfl), hS, Option.bind_some]
    exact ⟨σ1, rfl, hF.1, hF.2 4 (by omega) (by omega)⟩
