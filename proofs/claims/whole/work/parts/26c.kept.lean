/-! keep, again, said, rounds -/
def pntz (x0 : Int32) : Int32 := (if 0 < ((x0 ^^^ (-1 : Int32)) &&& (x0 - (1 : Int32))) then (if (65536 : Int32) < ((x0 ^^^ (-1 : Int32)) &&& (x0 - (1 : Int32))) then (if (256 : Int32) < (en_ush ((x0 ^^^ (-1 : Int32)) &&& (x0 - (1 : Int32))) (16 : Int32)) then (if (16 : Int32) < (en_ush (en_ush ((x0 ^^^ (-1 : Int32)) &&& (x0 - (1 : Int32))) (16 : Int32)) (8 : Int32)) then (if (4 : Int32) < (en_ush (en_ush (en_ush ((x0 ^^^ (-1 : Int32)) &&& (x0 - (1 : Int32))) (16 : Int32)) (8 : Int32)) (4 : Int32)) then (((((((1 : Int32) + (16 : Int32)) + (8 : Int32)) + (4 : Int32)) + (2 : Int32)) + (en_ush (en_ush (en_ush (en_ush (en_ush ((x0 ^^^ (-1 : Int32)) &&& (x0 - (1 : Int32))) (16 : Int32)) (8 : Int32)) (4 : Int32)) (2 : Int32)) (1 : Int32)))) else ((((((1 : Int32) + (16 : Int32)) + (8 : Int32)) + (4 : Int32)) + (en_ush (en_ush (en_ush (en_ush ((x0 ^^^ (-1 : Int32)) &&& (x0 - (1 : Int32))) (16 : Int32)) (8 : Int32)) (4 : Int32)) (1 : Int32))))) else (if (4 : Int32) < (en_ush (en_ush ((x0 ^^^ (-1 : Int32)) &&& (x0 - (1 : Int32))) (16 : Int32)) (8 : Int32)) then ((((((1 : Int32) + (16 : Int32)) + (8 : Int32)) + (2 : Int32)) + (en_ush (en_ush (en_ush (en_ush ((x0 ^^^ (-1 : Int32)) &&& (x0 - (1 : Int32))) (16 : Int32)) (8 : Int32)) (2 : Int32)) (1 : Int32)))) else (((((1 : Int32) + (16 : Int32)) + (8 : Int32)) + (en_ush (en_ush (en_ush ((x0 ^^^ (-1 : Int32)) &&& (x0 - (1 : Int32))) (16 : Int32)) (8 : Int32)) (1 : Int32)))))) else (if (16 : Int32) < (en_ush ((x0 ^^^ (-1 : Int32)) &&& (x0 - (1 : Int32))) (16 : Int32)) then (if (4 : Int32) < (en_ush (en_ush ((x0 ^^^ (-1 : Int32)) &&& (x0 - (1 : Int32))) (16 : Int32)) (4 : Int32)) then ((((((1 : Int32) + (16 : Int32)) + (4 : Int32)) + (2 : Int32)) + (en_ush (en_ush (en_ush (en_ush ((x0 ^^^ (-1 : Int32)) &&& (x0 - (1 : Int32))) (16 : Int32)) (4 : Int32)) (2 : Int32)) (1 : Int32)))) else (((((1 : Int32) + (16 : Int32)) + (4 : Int32)) + (en_ush (en_ush (en_ush ((x0 ^^^ (-1 : Int32)) &&& (x0 - (1 : Int32))) (16 : Int32)) (4 : Int32)) (1 : Int32))))) else (if (4 : Int32) < (en_ush ((x0 ^^^ (-1 : Int32)) &&& (x0 - (1 : Int32))) (16 : Int32)) then (((((1 : Int32) + (16 : Int32)) + (2 : Int32)) + (en_ush (en_ush (en_ush ((x0 ^^^ (-1 : Int32)) &&& (x0 - (1 : Int32))) (16 : Int32)) (2 : Int32)) (1 : Int32)))) else ((((1 : Int32) + (16 : Int32)) + (en_ush (en_ush ((x0 ^^^ (-1 : Int32)) &&& (x0 - (1 : Int32))) (16 : Int32)) (1 : Int32))))))) else (if (256 : Int32) < ((x0 ^^^ (-1 : Int32)) &&& (x0 - (1 : Int32))) then (if (16 : Int32) < (en_ush ((x0 ^^^ (-1 : Int32)) &&& (x0 - (1 : Int32))) (8 : Int32)) then (if (4 : Int32) < (en_ush (en_ush ((x0 ^^^ (-1 : Int32)) &&& (x0 - (1 : Int32))) (8 : Int32)) (4 : Int32)) then ((((((1 : Int32) + (8 : Int32)) + (4 : Int32)) + (2 : Int32)) + (en_ush (en_ush (en_ush (en_ush ((x0 ^^^ (-1 : Int32)) &&& (x0 - (1 : Int32))) (8 : Int32)) (4 : Int32)) (2 : Int32)) (1 : Int32)))) else (((((1 : Int32) + (8 : Int32)) + (4 : Int32)) + (en_ush (en_ush (en_ush ((x0 ^^^ (-1 : Int32)) &&& (x0 - (1 : Int32))) (8 : Int32)) (4 : Int32)) (1 : Int32))))) else (if (4 : Int32) < (en_ush ((x0 ^^^ (-1 : Int32)) &&& (x0 - (1 : Int32))) (8 : Int32)) then (((((1 : Int32) + (8 : Int32)) + (2 : Int32)) + (en_ush (en_ush (en_ush ((x0 ^^^ (-1 : Int32)) &&& (x0 - (1 : Int32))) (8 : Int32)) (2 : Int32)) (1 : Int32)))) else ((((1 : Int32) + (8 : Int32)) + (en_ush (en_ush ((x0 ^^^ (-1 : Int32)) &&& (x0 - (1 : Int32))) (8 : Int32)) (1 : Int32)))))) else (if (16 : Int32) < ((x0 ^^^ (-1 : Int32)) &&& (x0 - (1 : Int32))) then (if (4 : Int32) < (en_ush ((x0 ^^^ (-1 : Int32)) &&& (x0 - (1 : Int32))) (4 : Int32)) then (((((1 : Int32) + (4 : Int32)) + (2 : Int32)) + (en_ush (en_ush (en_ush ((x0 ^^^ (-1 : Int32)) &&& (x0 - (1 : Int32))) (4 : Int32)) (2 : Int32)) (1 : Int32)))) else ((((1 : Int32) + (4 : Int32)) + (en_ush (en_ush ((x0 ^^^ (-1 : Int32)) &&& (x0 - (1 : Int32))) (4 : Int32)) (1 : Int32))))) else (if (4 : Int32) < ((x0 ^^^ (-1 : Int32)) &&& (x0 - (1 : Int32))) then ((((1 : Int32) + (2 : Int32)) + (en_ush (en_ush ((x0 ^^^ (-1 : Int32)) &&& (x0 - (1 : Int32))) (2 : Int32)) (1 : Int32)))) else (((1 : Int32) + (en_ush ((x0 ^^^ (-1 : Int32)) &&& (x0 - (1 : Int32))) (1 : Int32)))))))) else ((((x0 ^^^ (-1 : Int32)) &&& (x0 - (1 : Int32))) &&& (32 : Int32))))
theorem q_ntz (x0 : Int32) (σ : en_M) : O_J6_numberOfTrailingZeros_0f7a4 [.inl x0] σ = some (pntz x0, σ) := by
  rw [o_J6_numberOfTrailingZeros_0f7a4, t_J6_numberOfTrailingZeros_0f7a4_0]
  unfold pntz
  repeat' split
  all_goals rfl
/-- the first of a set, from i on -/
def fsI (s : Nat) : Nat → Nat → Int32
  | 0, _ => -1
  | k + 1, i => if s.testBit i = true then Int32.ofNat i else fsI s k (i + 1)
theorem q_firstOf {s : Nat} (hs : s < 2147483648) (σ : en_M) : O_X11_firstOf [.inl (Int32.ofNat s)] σ = some (fsI s 7 0, σ) := by
  rw [o_X11_firstOf, t_X11_firstOf_0]
  refine pl_for1 (F := fun m i (_ : Unit) => T_X11_firstOf_2 m (Int32.ofNat s) (Int32.ofNat i) σ) (P := fun i _ => fsI s 7 0 = fsI s (7 - i) i) (Q := fun r => en_oi r = some (fsI s 7 0, σ)) (N := 7) ?_ ?_ 7 0 en_FU () rfl (pl_FU (by omega)) rfl
  · intro m i _ hi hP
    have hP : fsI s 7 0 = fsI s (7 - i) i := hP
    show (∃ s' : Unit, T_X11_firstOf_2 (m + 1) _ _ σ = _ ∧ _) ∨ en_oi (T_X11_firstOf_2 (m + 1) _ _ σ) = _
    rw [t_X11_firstOf_2, if_pos (show Int32.ofNat i < (7 : Int32) from (pn_lt (b := 7) (by omega) (by omega)).mpr hi), q_bit, Option.bind_some, pn_a1]
    dsimp only
    rw [pi_if (pb_bit1 hs (by omega))]
    rw [show 7 - i = (7 - (i + 1)) + 1 by omega] at hP
    unfold fsI at hP
    by_cases hb : s.testBit i = true
    · rw [if_pos hb]
      rw [if_pos hb] at hP
      right
      rw [show fsI s 7 0 = Int32.ofNat i from hP]; rfl
    · rw [if_neg hb]
      rw [if_neg hb] at hP
      exact Or.inl ⟨(), rfl, hP⟩
  · intro m _ hP
    have hP : fsI s 7 0 = fsI s (7 - 7) 7 := hP
    show en_oi (T_X11_firstOf_2 (m + 1) _ _ σ) = _
    rw [t_X11_firstOf_2, if_neg (show ¬ Int32.ofNat 7 < (7 : Int32) by decide), hP]; rfl
theorem ntz_fs {s : Nat} (hs : s < 128) (h0 : s ≠ 0) : pntz (Int32.ofNat s) = fsI s 7 0 := (by decide +kernel : ∀ s < 128, s ≠ 0 → pntz (Int32.ofNat s) = fsI s 7 0) s hs h0
theorem fs_0 : fsI 0 7 0 = -1 := by decide
theorem p_keep : en_st_keep pInv := by
  intro c v hc
  refine p_two hc (fun A σ0 hA hB => ?_)
  obtain ⟨g, t, ro, x, us, kp⟩ := A
  have hn : gN g ≤ 7 := hA.1.1
  by_cases hv : isR 2 v
  · obtain ⟨i, hi, rfl⟩ := hv
    refine ⟨1, (g, t, ro, x, us, fun j => if j = i then (true, x) else kp j), fun hC => ?_, fun τ hM => ?_, hA.live (by omega) (hA.2.2.2.2.2.2.2.1.mono (by omega)) hA.2.2.2.2.2.2.2.2.1 (fun i hi => (hA.2.2.2.2.2.2.2.2.2.1 i hi).mono (by omega)) (fun j hj hk => ?_)⟩
    · obtain ⟨σ1, e1, e2, e3⟩ := q_copy (σ := σ0) (k0 := 88 + 2 + 5 * i) (k1 := 15) hC.2.2.2.1 (by omega)
      have hf : ∀ c, c < 90 ∨ 100 ≤ c → σ1 c = σ0 c := fun c h => e3 c (by omega)
      refine ⟨en_up σ1 89 i 1, ?_, hC.set (hC.2.2.2.1.all (fun j hj => by rw [pu_row (by omega), hf _ (by omega)])) (hC.2.2.2.2.1.fr (fun c h1 h2 => by rw [pu_row (by omega), hf c (by omega)])) (fun j hj => ?_) (fun c hc => by rw [pu_row (by omega), hf c (by omega)]), fun c hc => by rw [pu_row (by omega), hf c (by omega)]⟩
      · rw [o_X11_keep, t_X11_keep_0, o_X1_put, t_X1_put_0, if_neg (pn_nlt0 (by omega)), if_pos (show Int32.ofNat i < (2 : Int32) from (pn_lt (b := 2) (by omega) (by omega)).mpr hi), pn_ix hi (by omega), Option.bind_some, e1, Option.bind_some, Option.bind_some, if_pos (Or.inr rfl), po_ri, Option.bind_some, if_pos (Or.inr rfl)]; rfl
      · rw [pu_at]
        by_cases e : j = i
        · subst e
          rw [if_pos rfl, if_pos rfl]
          exact ⟨rfl, fun _ => e2.all (fun j' hj' => pu_row (by omega))⟩
        · rw [if_neg e, if_neg e, hf 89 (by omega)]
          exact ⟨(hC.2.2.2.2.2 j hj).1, fun hk => ((hC.2.2.2.2.2 j hj).2 hk).all (fun j' hj' => by rw [pu_row (by omega), e3 _ (by omega)])⟩
    · have hM2 := hM.slot 11 0 (by omega)
      have hl := r_lay (σ := en_up (en_up τ 185 11 0) 208 i 1) (k0 := 186) (k1 := 207) (n1 := 106) (o := 53 * i) (by omega) (by omega) (by omega)
      refine ⟨_, ?_, hM2.set (σ' := pst (en_up (en_up τ 185 11 0) 208 i 1) 207 (fun j => if 53 * i ≤ j ∧ j < 53 * i + 53 then (en_up (en_up τ 185 11 0) 208 i 1) 186 (j - 53 * i) else (en_up (en_up τ 185 11 0) 208 i 1) 207 j)) (by rw [pst_ne (by omega), pu_row (by omega)]; exact hM2.2.2.2.1) (hM2.2.2.2.2.1.fr (by rw [pst_ne (by omega), pu_cell (by omega)]) (by rw [pst_ne (by omega), pu_row (by omega)])) (fun j hj => ?_) (fun j hj => by rw [pst_ne (by omega), pu_cell (by omega)]) (fun c hc => by rw [pst_ne (by omega), pu_row (by omega)]), fun c hc => by rw [pst_ne (by omega), pu_row (by omega), pu_row (by omega)]⟩
      · have hb : vp_nar .boolean 1 = 1 := rfl
        rw [o_X12_keep, t_X12_keep_0, q_in, Option.bind_some]
        rw [if_neg (by dsimp only; rw [pb2_0]; exact fun q => q ((isR_iff2 (n := 2) (by omega) _).mp ⟨i, hi, rfl⟩)), pn_ix hi (by omega), Option.bind_some, hb, show (53 : Int32) * Int32.ofNat i = Int32.ofNat (53 * i) from pn_mul 53 _]
        dsimp only
        rw [hl, Option.bind_some, if_pos (Or.inr rfl)]; rfl
      · rw [pst_ne (show 208 ≠ 207 by omega), pu_at, pst_same]
        by_cases e : j = i
        · subst e
          rw [if_pos rfl, if_pos rfl]
          refine ⟨rfl, fun _ => hM2.2.2.2.1.congr hn (fun j' hj' => ?_)⟩
          rw [if_pos (by omega), pu_cell (by omega), show 53 * j + j' - 53 * j = j' by omega]
        · rw [if_neg e, if_neg e]
          refine ⟨(hM2.2.2.2.2.2 j hj).1, fun hk => ((hM2.2.2.2.2.2 j hj).2 hk).congr hn (fun j' hj' => ?_)⟩
          rw [if_neg (by omega), pu_cell (by omega)]
    · have hk : (if j = i then (true, x) else kp j).1 = true := hk
      show VS (gN g) (2000 * (c + 1)) (if j = i then (true, x) else kp j).2
      by_cases e : j = i
      · rw [if_pos e]; exact hA.2.2.2.2.2.2.2.1.mono (by omega)
      · rw [if_neg e] at hk ⊢
        exact (hA.2.2.2.2.2.2.2.2.2.2 j hj hk).mono (by omega)
  · refine ⟨0, (g, t, ro, x, us, kp), fun hC => ⟨σ0, ?_, hC, FrC.refl _⟩, fun τ hM => ⟨en_up τ 185 11 0, ?_, hM.slot 11 0 (by omega), FrM.up (by omega) (by omega)⟩, hA.mono (by omega)⟩
    · rw [o_X11_keep, t_X11_keep_0, o_X1_put, t_X1_put_0]
      by_cases v0 : v < 0
      · rw [if_pos v0, if_pos (Or.inl rfl), po_ri, Option.bind_some, if_pos (Or.inl rfl)]; rfl
      · rw [if_neg v0, if_neg (show ¬ v < (2 : Int32) from fun q => hv ((isR_iff (n := 2) (by omega) v).mpr ⟨v0, q⟩)), if_pos (Or.inl rfl), po_ri, Option.bind_some, if_pos (Or.inl rfl)]; rfl
    · rw [o_X12_keep, t_X12_keep_0, q_in, Option.bind_some]
      rw [if_pos (by dsimp only; rw [pb2_0]; exact fun q => hv ((isR_iff2 (n := 2) (by omega) v).mpr q)), if_pos (Or.inl rfl)]; rfl
theorem p_again : en_st_again pInv := by
  intro c v hc
  refine p_two hc (fun A σ0 hA hB => ?_)
  obtain ⟨g, t, ro, x, us, kp⟩ := A
  have hn : gN g ≤ 7 := hA.1.1
  by_cases hv : isR 2 v
  · obtain ⟨i, hi, rfl⟩ := hv
    by_cases hk : (kp i).1 = true
    · refine ⟨1, (g, t, ro, (kp i).2, [], kp), fun hC => ?_, fun τ hM => ?_, hA.live (by omega) ((hA.2.2.2.2.2.2.2.2.2.2 i hi hk).mono (by omega)) (by simp) (fun i hi => absurd hi (Nat.not_lt_zero i)) (fun j hj hk => (hA.2.2.2.2.2.2.2.2.2.2 j hj hk).mono (by omega))⟩
      · obtain ⟨σ1, e1, e2, e3⟩ := q_copy (σ := σ0) (k0 := 15) (k1 := 88 + 2 + 5 * i) ((hC.2.2.2.2.2 i hi).2 hk) (by omega)
        have h89 : σ0 89 i = 1 := by have := (hC.2.2.2.2.2 i hi).1; rw [this]; show (if (kp i).1 then (1 : Int32) else 0) = 1; rw [hk]; rfl
        obtain ⟨u1, fs, u2, u3, u4⟩ := hC.2.2.2.2.1
        refine ⟨en_up σ1 25 2 0, ?_, hC.set (e2.all (fun j hj => pu_row (by omega))) ⟨pu_same _ _ _ _, fs, u2, by rw [pu_slot (by omega), e3 25 (by omega)]; exact u3, fun i hi => absurd hi (Nat.not_lt_zero i)⟩ (hC.2.2.2.2.2.fr (fun c h1 h2 => by rw [pu_row (by omega), e3 c (by omega)])) (fun c hc => by rw [pu_row (by omega), e3 c (by omega)]), fun c hc => by rw [pu_row (by omega), e3 c (by omega)]⟩
        rw [o_X11_again, t_X11_again_0, o_X1_restore, t_X1_restore_0, if_neg (pn_nlt0 (by omega)), if_pos (show Int32.ofNat i < (2 : Int32) from (pn_lt (b := 2) (by omega) (by omega)).mpr hi), pn_ix hi (by omega), Option.bind_some, h89, if_neg (show ¬ (1 : Int32) = 0 by decide), Option.bind_some, e1, Option.bind_some, if_pos (Or.inr rfl), po_ri, Option.bind_some, if_neg (show ¬ (1 : Int32) = 0 by decide)]
        dsimp only
        rw [q_forget, Option.bind_some, if_pos (Or.inr rfl)]; rfl
      · have hM2 := hM.slot 11 0 (by omega)
        have h208 : en_up τ 185 11 0 208 i = 1 := by have := (hM2.2.2.2.2.2 i hi).1; rw [this]; show (if (kp i).1 then (1 : Int32) else 0) = 1; rw [hk]; rfl
        generalize hτ0 : en_up τ 185 11 0 = τ0 at hM2 h208
        have hf0 : ∀ c, c ≠ 185 → τ0 c = τ c := fun c h => by rw [← hτ0, pu_row h]
        rw [o_X12_again, t_X12_again_0, hτ0, q_in, Option.bind_some]
        rw [if_neg (by dsimp only; rw [pb2_0]; exact fun q => q ((isR_iff2 (n := 2) (by omega) _).mp ⟨i, hi, rfl⟩)), pn_ix hi (by omega), Option.bind_some]
        dsimp only
        rw [if_neg (show ¬ τ0 208 i = 0 by rw [h208]; decide)]
        refine pl_for1 (F := fun m j (q : en_M) => T_X12_again_27 m (Int32.ofNat i) (Int32.ofNat j) q) (P := fun j q => q = pst τ0 186 (fun k => if k < j then τ0 207 (53 * i + k) else τ0 186 k)) (Q := fun r => ∃ τ', en_oi r = some (1, τ') ∧ MI τ' (g, t, ro, (kp i).2, [], kp) ∧ FrM τ τ') (N := 53) ?_ ?_ 53 0 en_FU τ0 rfl (pl_FU (by omega)) ?_
        · rintro m j q hj rfl
          refine Or.inl ⟨_, ?_, rfl⟩
          show T_X12_again_27 (m + 1) _ _ _ = _
          rw [t_X12_again_27, if_pos (show Int32.ofNat j < (53 : Int32) from (pn_lt (b := 53) (by omega) (by omega)).mpr hj), show (53 : Int32) * Int32.ofNat i = Int32.ofNat (53 * i) from pn_mul 53 _, pn_add, pn_ix (by omega) (by omega), Option.bind_some, pn_ix (by omega) (by omega), Option.bind_some, pn_a1, pst_up, pst_ne (by omega)]
          congr 1
          refine congrArg (pst τ0 186) (funext fun k => ?_)
          unfold pru
          by_cases e : k = j
          · subst e; rw [if_pos rfl, if_pos (by omega)]
          · rw [if_neg e]
            dsimp only
            by_cases h : k < j
            · rw [if_pos h, if_pos (by omega)]
            · rw [if_neg h, if_neg (by omega)]
        · rintro m q rfl
          show ∃ τ', en_oi (T_X12_again_27 (m + 1) _ _ _) = _ ∧ _
          rw [t_X12_again_27, if_neg (show ¬ Int32.ofNat 53 < (53 : Int32) by decide), if_pos (Or.inr rfl)]
          refine ⟨_, rfl, hM2.set ?_ ⟨pu_same _ _ _ _, fun i hi => absurd hi (Nat.not_lt_zero i)⟩ (hM2.2.2.2.2.2.fr (by rw [pu_row (by omega), pst_ne (by omega)]) (by rw [pu_row (by omega), pst_ne (by omega)])) (fun j hj => by rw [pu_slot (by omega), pst_ne (by omega)]) (fun c hc => by rw [pu_row (by omega), pst_ne (by omega)]), fun c hc => by rw [pu_row (by omega), pst_ne (by omega), hf0 c (by omega)]⟩
          rw [pu_row (by omega), pst_same]
          refine ((hM2.2.2.2.2.2 i hi).2 hk).congr hn (fun j hj => ?_)
          rw [if_pos hj]
        · rw [show (fun k => if k < 0 then τ0 207 (53 * i + k) else τ0 186 k) = τ0 186 from funext fun k => if_neg (by omega), pst_self]
    · refine ⟨0, (g, t, ro, x, us, kp), fun hC => ⟨σ0, ?_, hC, FrC.refl _⟩, fun τ hM => ⟨en_up τ 185 11 0, ?_, hM.slot 11 0 (by omega), FrM.up (by omega) (by omega)⟩, hA.mono (by omega)⟩
      · have h89 : σ0 89 i = 0 := by have := (hC.2.2.2.2.2 i hi).1; rw [this]; exact if_neg hk
        rw [o_X11_again, t_X11_again_0, o_X1_restore, t_X1_restore_0, if_neg (pn_nlt0 (by omega)), if_pos (show Int32.ofNat i < (2 : Int32) from (pn_lt (b := 2) (by omega) (by omega)).mpr hi), pn_ix hi (by omega), Option.bind_some, h89, if_pos rfl, if_pos (Or.inl rfl), po_ri, Option.bind_some, if_pos (show (0 : Int32) = 0 from rfl), if_pos (Or.inl rfl)]; rfl
      · have hM2 := hM.slot 11 0 (by omega)
        have h208 : en_up τ 185 11 0 208 i = 0 := by have := (hM2.2.2.2.2.2 i hi).1; rw [this]; exact if_neg hk
        rw [o_X12_again, t_X12_again_0, q_in, Option.bind_some]
        rw [if_neg (by dsimp only; rw [pb2_0]; exact fun q => q ((isR_iff2 (n := 2) (by omega) _).mp ⟨i, hi, rfl⟩)), pn_ix hi (by omega), Option.bind_some]
        dsimp only
        rw [if_pos h208, if_pos (Or.inl rfl)]; rfl
  · refine ⟨0, (g, t, ro, x, us, kp), fun hC => ⟨σ0, ?_, hC, FrC.refl _⟩, fun τ hM => ⟨en_up τ 185 11 0, ?_, hM.slot 11 0 (by omega), FrM.up (by omega) (by omega)⟩, hA.mono (by omega)⟩
    · rw [o_X11_again, t_X11_again_0, o_X1_restore, t_X1_restore_0]
      by_cases v0 : v < 0
      · rw [if_pos v0, if_pos (Or.inl rfl), po_ri, Option.bind_some, if_pos (show (0 : Int32) = 0 from rfl), if_pos (Or.inl rfl)]; rfl
      · rw [if_neg v0, if_neg (show ¬ v < (2 : Int32) from fun q => hv ((isR_iff (n := 2) (by omega) v).mpr ⟨v0, q⟩)), if_pos (Or.inl rfl), po_ri, Option.bind_some, if_pos (show (0 : Int32) = 0 from rfl), if_pos (Or.inl rfl)]; rfl
    · rw [o_X12_again, t_X12_again_0, q_in, Option.bind_some]
      rw [if_pos (by dsimp only; rw [pb2_0]; exact fun q => hv ((isR_iff2 (n := 2) (by omega) v).mpr q)), if_pos (Or.inl rfl)]; rfl
