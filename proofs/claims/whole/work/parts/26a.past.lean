/-! what can be undone -/
theorem MSr.congr {n : Nat} {row row' : Nat → Int32} {x : pS} (h : MSr n row x) (hn : n ≤ 7) (e : ∀ j, j < 53 → row' j = row j) : MSr n row' x := by
  obtain ⟨a1, a2, a3, a4, a5, a6, a7, a8⟩ := h
  exact ⟨fun p hp => by have := a1 p hp; rw [e _ (by omega)]; exact this, fun r hr => by rw [e _ (by omega), e _ (by omega), e _ (by omega)]; exact a2 r hr, by rw [e 28 (by omega)]; exact a3, by rw [e 29 (by omega)]; exact a4, by rw [e 30 (by omega)]; exact a5, by rw [e 31 (by omega)]; exact a6, by rw [e 32 (by omega)]; exact a7, fun j hj => by rw [e _ (by omega)]; exact a8 j hj⟩
def pushU (us : List pS) (x : pS) : List pS := (if us.length = 12 then us.drop 1 else us) ++ [x]
theorem pushU_len {us : List pS} (h : us.length ≤ 12) (x : pS) : (pushU us x).length ≤ 12 ∧ (pushU us x).length = (if us.length = 12 then 11 else us.length) + 1 := by
  unfold pushU
  by_cases e : us.length = 12
  · simp [e]
  · simp [e]; omega
theorem pushU_get (us : List pS) (x : pS) (i : Nat) (hi : i < (if us.length = 12 then 11 else us.length) + 1) : (pushU us x).getD i x0 = if i = (if us.length = 12 then 11 else us.length) then x else us.getD (if us.length = 12 then i + 1 else i) x0 := by
  unfold pushU
  by_cases e : us.length = 12
  · simp only [if_pos e] at hi ⊢
    have hl : (us.drop 1).length = 11 := by simp [e]
    by_cases h : i = 11
    · subst h
      rw [if_pos rfl, List.getD_eq_getElem?_getD, List.getElem?_append_right (by omega), hl]; rfl
    · rw [if_neg h, List.getD_eq_getElem?_getD, List.getElem?_append_left (by omega), List.getElem?_drop, List.getD_eq_getElem?_getD, Nat.add_comm 1 i]
  · simp only [if_neg e] at hi ⊢
    by_cases h : i = us.length
    · subst h
      rw [if_pos rfl, List.getD_eq_getElem?_getD, List.getElem?_append_right (by omega), Nat.sub_self]; rfl
    · rw [if_neg h, List.getD_eq_getElem?_getD, List.getElem?_append_left (by omega), List.getD_eq_getElem?_getD]
theorem pn_mod12 {N : Nat} (h : N < 2147483648) : Int32.ofNat N - Int32.ofNat N / (12 : Int32) * (12 : Int32) = Int32.ofNat (N % 12) := pn_mod (b := 12) h (by decide)
theorem q_push {σ : en_M} {us : List pS} {x : pS} (h : CU σ us) (hx : CS σ 15 x) (hl : us.length ≤ 12) : ∃ σ', O_X4_push [.inr (25, 4, 0, 0), .inr (15, 7, 0, 0)] σ = some σ' ∧ CU σ' (pushU us x) ∧ ∀ c, c ≠ 25 → c < 27 ∨ 87 ≤ c → σ' c = σ c := by
  obtain ⟨u1, fs, u2, u3, u4⟩ := h
  have hlen := pushU_len hl x
  rw [o_X4_push, t_X4_push_0, u1]
  by_cases e : us.length = 12
  · have hm := Nat.mod_lt (fs + 1) (show 12 > 0 by omega)
    rw [if_pos (by rw [e]; decide), if_neg (by decide), if_neg (by decide), u3, pn_a1, pn_mod12 (by omega), e, show (Int32.ofNat 12 - 1 : Int32) = Int32.ofNat 11 by decide, pn_add, pn_mod12 (by omega), pn_ix (Nat.mod_lt _ (by omega)) (by omega), Option.bind_some]
    obtain ⟨σ1, e1, e2, e3⟩ := q_copy (σ := en_up (en_up σ 25 1 (Int32.ofNat ((fs + 1) % 12))) 25 2 (Int32.ofNat 11)) (k0 := 26 + 1 + 5 * (((fs + 1) % 12 + 11) % 12)) (k1 := 15) (x := x) (hx.all (fun j hj => by rw [pu_row (by omega), pu_row (by omega)])) (by omega)
    rw [e1, Option.bind_some, e3 25 (by omega), pu_same, show (Int32.ofNat 11 + 1 : Int32) = Int32.ofNat 12 by decide]
    refine ⟨_, rfl, ⟨by rw [pu_same, hlen.2, if_pos e], (fs + 1) % 12, by omega, ?_, fun i hi => ?_⟩, fun c h1 h2 => ?_⟩
    · rw [pu_slot (by omega), e3 25 (by omega), pu_slot (by omega), pu_same]
    · rw [hlen.2] at hi
      rw [pushU_get us x i hi]
      rw [if_pos e] at hi
      simp only [if_pos e]
      by_cases hi11 : i = 11
      · subst hi11
        rw [if_pos rfl]
        exact e2.all (fun j hj => pu_row (by omega))
      · rw [if_neg hi11]
        have := u4 (i + 1) (by omega)
        rw [show (fs + (i + 1)) % 12 = ((fs + 1) % 12 + i) % 12 by omega] at this
        exact this.all (fun j hj => by rw [pu_row (by omega), e3 _ (by omega), pu_row (by omega), pu_row (by omega)])
    · rw [pu_row h1, e3 c (by omega), pu_row h1, pu_row h1]
  · rw [if_neg (show ¬ Int32.ofNat us.length = (12 : Int32) by rw [show (12 : Int32) = Int32.ofNat 12 from rfl, pn_eq (by omega) (by omega)]; exact e), if_neg (by decide), u3, pn_add, pn_mod12 (by omega), pn_ix (Nat.mod_lt _ (by omega)) (by omega), Option.bind_some]
    obtain ⟨σ1, e1, e2, e3⟩ := q_copy (σ := σ) (k0 := 26 + 1 + 5 * ((fs + us.length) % 12)) (k1 := 15) (x := x) hx (by omega)
    rw [e1, Option.bind_some, e3 25 (by omega), u1, pn_a1]
    refine ⟨_, rfl, ⟨by rw [pu_same, hlen.2, if_neg e], fs, u2, ?_, fun i hi => ?_⟩, fun c h1 h2 => ?_⟩
    · rw [pu_slot (by omega), e3 25 (by omega), u3]
    · rw [hlen.2] at hi
      rw [pushU_get us x i hi]
      rw [if_neg e] at hi
      simp only [if_neg e]
      by_cases hi11 : i = us.length
      · subst hi11
        rw [if_pos rfl]
        exact e2.all (fun j hj => pu_row (by omega))
      · rw [if_neg hi11]
        exact (u4 i (by omega)).all (fun j hj => by rw [pu_row (by omega), e3 _ (by omega)])
    · rw [pu_row h1, e3 c (by omega)]
/-- the reference's lay -/
theorem r_lay {σ : en_M} {k0 k1 n1 o : Nat} (hk : k0 ≠ k1) (ho : o + 53 ≤ n1) (hn : n1 < 2000) : O_X12_lay [.inr (k0, 20, 53, 0), .inr (k1, 20, n1, 0), .inl (Int32.ofNat o)] σ = some (pst σ k1 (fun i => if o ≤ i ∧ i < o + 53 then σ k0 (i - o) else σ k1 i)) := by
  rw [o_X12_lay, t_X12_lay_0]
  refine pl_for1 (F := fun m i (q : en_M) => T_X12_lay_2 m k0 k1 n1 (Int32.ofNat o) (Int32.ofNat i) q) (P := fun i q => q = pst σ k1 (fun j => if o ≤ j ∧ j < o + i then σ k0 (j - o) else σ k1 j)) (Q := fun r => en_ov r = some (pst σ k1 (fun i => if o ≤ i ∧ i < o + 53 then σ k0 (i - o) else σ k1 i))) (N := 53) ?_ ?_ 53 0 en_FU σ rfl (pl_FU (by omega)) ?_
  · rintro m i q hi rfl
    refine Or.inl ⟨_, ?_, rfl⟩
    show T_X12_lay_2 (m + 1) _ _ _ _ _ _ = _
    rw [t_X12_lay_2, if_pos (show Int32.ofNat i < (53 : Int32) from (pn_lt (b := 53) (by omega) (by omega)).mpr hi), pn_ix hi (by omega), Option.bind_some, pn_add, pn_ix (by omega) (by omega), Option.bind_some, pn_a1, pst_up, pst_ne hk]
    congr 1
    refine congrArg (pst σ k1) (funext fun j => ?_)
    unfold pru
    by_cases e : j = o + i
    · rw [if_pos e, if_pos (by omega), show j - o = i by omega]
    · rw [if_neg e]
      dsimp only
      by_cases h : o ≤ j ∧ j < o + i
      · rw [if_pos h, if_pos (by omega)]
      · rw [if_neg h, if_neg (by omega)]
  · rintro m q rfl
    show en_ov (T_X12_lay_2 (m + 1) _ _ _ _ _ _) = _
    rw [t_X12_lay_2, if_neg (show ¬ Int32.ofNat 53 < (53 : Int32) by decide)]; rfl
  · rw [show (fun j => if o ≤ j ∧ j < o + 0 then σ k0 (j - o) else σ k1 j) = σ k1 from funext fun j => if_neg (by omega), pst_self]
theorem r_remember {n k : Nat} {σ : en_M} {us : List pS} {x : pS} (hn : n ≤ 7) (hk : k = 186 ∨ k = 195) (h : MU n σ us) (hx : MSr n (σ k) x) (hl : us.length ≤ 12) : ∃ σ', O_X12_remember [.inr (185, 12, 0, 0), .inr (k, 20, 53, 0)] σ = some σ' ∧ MU n σ' (pushU us x) ∧ (∀ c, c ≠ 185 → c ≠ 194 → σ' c = σ c) ∧ ∀ j, j ≠ 23 → σ' 185 j = σ 185 j := by
  obtain ⟨u1, u2⟩ := h
  have hlen := pushU_len hl x
  rw [o_X12_remember, t_X12_remember_0, u1]
  by_cases e : us.length = 12
  · rw [if_pos (by rw [e]; decide)]
    refine pl_for (F := fun m i (q : en_M) => T_X12_remember_11 m k (Int32.ofNat i) q) (P := fun i q => q = pst σ 194 (fun j => if j < i then σ 194 (j + 53) else σ 194 j)) (Q := fun r => ∃ σ', en_ov r = some σ' ∧ MU n σ' (pushU us x) ∧ (∀ c, c ≠ 185 → c ≠ 194 → σ' c = σ c) ∧ ∀ j, j ≠ 23 → σ' 185 j = σ 185 j) (N := 583) (C := 1) (C0 := 1) ?_ ?_ 583 0 en_FU σ rfl (by have := en_FU_ge; omega) ?_
    · rintro m i q hi hm rfl
      obtain ⟨m, rfl⟩ : ∃ j, m = j + 1 := ⟨m - 1, by omega⟩
      refine Or.inl ⟨m, _, ?_, Nat.le_refl _, rfl⟩
      show T_X12_remember_11 (m + 1) _ _ _ = _
      rw [t_X12_remember_11, if_pos (show Int32.ofNat i < (583 : Int32) from (pn_lt (b := 583) (by omega) (by omega)).mpr hi), show (Int32.ofNat i + 53 : Int32) = Int32.ofNat (i + 53) from pn_add i 53, pn_ix (by omega) (by omega), Option.bind_some, pn_ix (by omega) (by omega), Option.bind_some, pn_a1, pst_up, pst_same]
      congr 1
      refine congrArg (pst σ 194) (funext fun j => ?_)
      unfold pru
      by_cases c : j = i
      · subst c
        rw [if_pos rfl]
        rw [if_neg (show ¬ j + 53 < j by omega), if_pos (show j < j + 1 by omega)]
      · rw [if_neg c]
        dsimp only
        by_cases h : j < i
        · rw [if_pos h, if_pos (by omega)]
        · rw [if_neg h, if_neg (by omega)]
    · rintro m q hm rfl
      obtain ⟨m, rfl⟩ : ∃ j, m = j + 1 := ⟨m - 1, by omega⟩
      show ∃ σ', en_ov (T_X12_remember_11 (m + 1) _ _ _) = some σ' ∧ _
      rw [t_X12_remember_11, if_neg (show ¬ Int32.ofNat 583 < (583 : Int32) by decide), pst_ne (by omega), u1, e, show (Int32.ofNat 12 - 1 : Int32) = Int32.ofNat 11 by decide, show (53 : Int32) * Int32.ofNat 11 = Int32.ofNat 583 by decide, r_lay (by omega) (by omega) (by omega), Option.bind_some]
      refine ⟨_, rfl, ⟨?_, fun i hi => ?_⟩, fun c h1 h2 => ?_, fun j hj => ?_⟩
      · rw [pu_same, pst_ne (by omega), pu_same, hlen.2, if_pos e]; rfl
      · rw [hlen.2] at hi
        rw [pushU_get us x i hi]
        rw [if_pos e] at hi
        simp only [if_pos e]
        by_cases hi11 : i = 11
        · subst hi11
          rw [if_pos rfl]
          refine hx.congr hn (fun j hj => ?_)
          rw [pu_cell (by omega), pst_same, if_pos (by omega), show 53 * 11 + j - 583 = j by omega, pu_cell (by omega), pst_ne (by omega)]
        · rw [if_neg hi11]
          refine (u2 (i + 1) (by omega)).congr hn (fun j hj => ?_)
          show _ = σ 194 (53 * (i + 1) + j)
          rw [pu_cell (by omega), pst_same, if_neg (by omega), pu_cell (by omega), pst_same, if_pos (by omega), show 53 * i + j + 53 = 53 * (i + 1) + j by omega]
      · rw [pu_row h1, pst_ne h2, pu_row h1, pst_ne h2]
      · rw [pu_slot hj, pst_ne (by omega), pu_slot hj, pst_ne (by omega)]
    · rw [show (fun j => if j < 0 then σ 194 (j + 53) else σ 194 j) = σ 194 from funext fun j => if_neg (by omega), pst_self]
  · rw [if_neg (show ¬ Int32.ofNat us.length = (12 : Int32) by rw [show (12 : Int32) = Int32.ofNat 12 from rfl, pn_eq (by omega) (by omega)]; exact e), show (53 : Int32) * Int32.ofNat us.length = Int32.ofNat (53 * us.length) from pn_mul 53 _, r_lay (by omega) (by omega) (by omega), Option.bind_some, pst_ne (by omega), u1, pn_a1]
    refine ⟨_, rfl, ⟨?_, fun i hi => ?_⟩, fun c h1 h2 => ?_, fun j hj => ?_⟩
    · rw [pu_same, hlen.2, if_neg e]
    · rw [hlen.2] at hi
      rw [pushU_get us x i hi]
      rw [if_neg e] at hi
      simp only [if_neg e]
      by_cases hi11 : i = us.length
      · subst hi11
        rw [if_pos rfl]
        refine hx.congr hn (fun j hj => ?_)
        rw [pu_cell (by omega), pst_same, if_pos (by omega), show 53 * us.length + j - 53 * us.length = j by omega]
      · rw [if_neg hi11]
        refine (u2 i (by omega)).congr hn (fun j hj => ?_)
        show _ = σ 194 (53 * i + j)
        rw [pu_cell (by omega), pst_same, if_neg (by omega)]
    · rw [pu_row h1, pst_ne h2]
    · rw [pu_slot hj, pst_ne (by omega)]
