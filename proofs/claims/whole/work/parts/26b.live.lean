/-! undo, keep, again, beer, round -/
theorem CI.set {σ σ' : en_M} {g : pG} {t : Nat × (Nat → Nat)} {ro : List Int32} {x x' : pS} {us us' : List pS} {kp kp' : Nat → Bool × pS} (h : CI σ (g, t, ro, x, us, kp)) (hx : CS σ' 15 x') (hu : CU σ' us') (hk : CK σ' kp') (hf : ∀ c, c < 12 → σ' c = σ c) : CI σ' (g, t, ro, x', us', kp') := by
  obtain ⟨h1, h2, h3, h4, h5, h6⟩ := h
  exact ⟨h1.kept (hf 5 (by omega)) (hf 6 (by omega)) (hf 7 (by omega)) (hf 8 (by omega)) (by rw [hf 10 (by omega)]) (hf 11 (by omega)), h2.fr (hf 1 (by omega)) (hf 2 (by omega)), h3.fr (hf 3 (by omega)) (hf 4 (by omega)), hx, hu, hk⟩
theorem MI.set {σ σ' : en_M} {g : pG} {t : Nat × (Nat → Nat)} {ro : List Int32} {x x' : pS} {us us' : List pS} {kp kp' : Nat → Bool × pS} (h : MI σ (g, t, ro, x, us, kp)) (hx : MSr (gN g) (σ' 186) x') (hu : MU (gN g) σ' us') (hk : MK (gN g) σ' kp') (hs : ∀ j, j = 1 ∨ j = 4 ∨ j = 5 ∨ j = 6 ∨ j = 8 ∨ j = 10 ∨ j = 19 → σ' 185 j = σ 185 j) (hr : ∀ c, c = 187 ∨ c = 188 ∨ c = 189 ∨ c = 190 ∨ c = 192 → σ' c = σ c) : MI σ' (g, t, ro, x', us', kp') := by
  obtain ⟨h1, h2, h3, h4, h5, h6⟩ := h
  exact ⟨h1.keep (fun j hj => hs j (by omega)) (hr 187 (by omega)) (hr 188 (by omega)) (hr 192 (by omega)), h2.fr (hs 8 (by omega)) (hr 189 (by omega)), h3.fr (hs 10 (by omega)) (hr 190 (by omega)), hx, hu, hk⟩
theorem AV.live {B B' : Nat} {g : pG} {t : Nat × (Nat → Nat)} {ro : List Int32} {x x' : pS} {us us' : List pS} {kp kp' : Nat → Bool × pS} (h : AV B (g, t, ro, x, us, kp)) (hB : B ≤ B') (hx : VS (gN g) B' x') (hl : us'.length ≤ 12) (hu : ∀ i, i < us'.length → VS (gN g) B' (us'.getD i x0)) (hk : ∀ i, i < 2 → (kp' i).1 = true → VS (gN g) B' (kp' i).2) : AV B' (g, t, ro, x', us', kp') := by
  obtain ⟨a1, a2, a3, a4, a5, a6, a7, a8⟩ := h
  exact ⟨a1, a2, a3, a4, a5, a6, a7, hx, hl, hu, hk⟩
theorem getD_take {us : List pS} {k i : Nat} (h : i < k) : (us.take k).getD i x0 = us.getD i x0 := by
  rw [List.getD_eq_getElem?_getD, List.getD_eq_getElem?_getD, List.getElem?_take, if_pos h]
theorem p_undo : en_st_undo pInv := by
  intro c hc
  refine p_two hc (fun A σ0 hA hB => ?_)
  obtain ⟨g, t, ro, x, us, kp⟩ := A
  have hl : us.length ≤ 12 := hA.2.2.2.2.2.2.2.2.1
  have hn : gN g ≤ 7 := hA.1.1
  by_cases hz : us.length = 0
  · refine ⟨-1, (g, t, ro, x, us, kp), fun hC => ⟨σ0, ?_, hC, FrC.refl _⟩, fun τ hM => ⟨en_up τ 185 11 0, ?_, hM.slot 11 0 (by omega), FrM.up (by omega) (by omega)⟩, hA.mono (by omega)⟩
    · have h25 : σ0 25 2 = Int32.ofNat us.length := hC.2.2.2.2.1.1
      rw [o_X11_undo, t_X11_undo_0, o_X4_pop, t_X4_pop_0, h25, if_pos (by rw [hz]; decide), if_pos (Or.inl rfl), po_ri, Option.bind_some, if_pos rfl]; rfl
    · have h23 : τ 185 23 = Int32.ofNat us.length := hM.2.2.2.2.1.1
      rw [o_X12_undo, t_X12_undo_0, h23, if_pos (by rw [hz]; decide)]; rfl
  · have hlen : (us.take (us.length - 1)).length = us.length - 1 := by simp
    refine ⟨Int32.ofNat (us.length - 1), (g, t, ro, us.getD (us.length - 1) x0, us.take (us.length - 1), kp), fun hC => ?_, fun τ hM => ?_, hA.live (by omega) ((hA.2.2.2.2.2.2.2.2.2.1 _ (by show us.length - 1 < us.length; omega)).mono (by omega)) (by omega) (fun i hi => ?_) (fun i hi hk => (hA.2.2.2.2.2.2.2.2.2.2 i hi hk).mono (by omega))⟩
    · obtain ⟨u1, fs, u2, u3, u4⟩ := hC.2.2.2.2.1
      have u1 : σ0 25 2 = Int32.ofNat us.length := u1
      have hS := u4 (us.length - 1) (by show us.length - 1 < us.length; omega)
      obtain ⟨σ1, e1, e2, e3⟩ := q_copy (σ := en_up σ0 25 2 (Int32.ofNat (us.length - 1))) (k0 := 15) (k1 := 26 + 1 + 5 * ((fs + (us.length - 1)) % 12)) (hS.all (fun j hj => by rw [pu_row (by omega)])) (by omega)
      have h25 : σ1 25 2 = Int32.ofNat (us.length - 1) := by rw [e3 25 (by omega), pu_same]
      have hf : ∀ c, c ≠ 25 → c < 15 ∨ 20 ≤ c → σ1 c = σ0 c := fun c h1 h2 => by rw [e3 c (by omega), pu_row h1]
      refine ⟨σ1, ?_, hC.set e2 ⟨by rw [hlen]; exact h25, fs, u2, ?_, fun i hi => ?_⟩ (hC.2.2.2.2.2.fr (fun c _ _ => hf c (by omega) (by omega))) (fun c hc => hf c (by omega) (by omega)), fun c hc => hf c (by omega) (by omega)⟩
      · rw [o_X11_undo, t_X11_undo_0, o_X4_pop, t_X4_pop_0, u1, if_neg (by rw [pn_eq0 (by omega)]; exact hz), if_neg (by decide), u3, show (Int32.ofNat us.length - 1 : Int32) = Int32.ofNat (us.length - 1) by rw [show (1 : Int32) = Int32.ofNat 1 from rfl, pn_sub (by omega)], pn_add, pn_mod12 (by omega), pn_ix (Nat.mod_lt _ (by omega)) (by omega), Option.bind_some, e1, Option.bind_some, if_pos (Or.inr rfl), po_ri, Option.bind_some, if_neg (show ¬ (1 : Int32) = 0 by decide), po_ri]
        dsimp only
        rw [h25]
      · rw [e3 25 (by omega), pu_slot (by omega)]; exact u3
      · rw [hlen] at hi
        rw [getD_take hi]
        exact (u4 i (by show i < us.length; omega)).all (fun j hj => hf _ (by omega) (by omega))
    · have h23 : τ 185 23 = Int32.ofNat us.length := hM.2.2.2.2.1.1
      have hM2 := hM.slot 11 0 (by omega)
      rw [o_X12_undo, t_X12_undo_0, h23, if_neg (by rw [pn_eq0 (by omega)]; exact hz), show (Int32.ofNat us.length - 1 : Int32) = Int32.ofNat (us.length - 1) by rw [show (1 : Int32) = Int32.ofNat 1 from rfl, pn_sub (by omega)]]
      generalize hτ0 : en_up (en_up τ 185 11 0) 185 23 (Int32.ofNat (us.length - 1)) = τ0
      have h0 : τ0 185 23 = Int32.ofNat (us.length - 1) := by rw [← hτ0, pu_same]
      have hf0 : ∀ c, c ≠ 185 → τ0 c = τ c := fun c h => by rw [← hτ0, pu_row h, pu_row h]
      have hs0 : ∀ j, j ≠ 11 → j ≠ 23 → τ0 185 j = τ 185 j := fun j h1 h2 => by rw [← hτ0, pu_slot h2, pu_slot h1]
      refine pl_for1 (F := fun m i (q : en_M) => T_X12_undo_26 m (Int32.ofNat i) q) (P := fun i q => q = pst τ0 186 (fun j => if j < i then τ0 194 (53 * (us.length - 1) + j) else τ0 186 j)) (Q := fun r => ∃ τ', en_oi r = some (Int32.ofNat (us.length - 1), τ') ∧ MI τ' (g, t, ro, us.getD (us.length - 1) x0, us.take (us.length - 1), kp) ∧ FrM τ τ') (N := 53) ?_ ?_ 53 0 en_FU τ0 rfl (pl_FU (by omega)) ?_
      · rintro m i q hi rfl
        refine Or.inl ⟨_, ?_, rfl⟩
        show T_X12_undo_26 (m + 1) _ _ = _
        rw [t_X12_undo_26, if_pos (show Int32.ofNat i < (53 : Int32) from (pn_lt (b := 53) (by omega) (by omega)).mpr hi), pst_ne (by omega), h0, show (53 : Int32) * Int32.ofNat (us.length - 1) = Int32.ofNat (53 * (us.length - 1)) from pn_mul 53 _, pn_add, pn_ix (by omega) (by omega), Option.bind_some, pn_ix (by omega) (by omega), Option.bind_some, pn_a1, pst_up, pst_ne (by omega)]
        congr 1
        refine congrArg (pst τ0 186) (funext fun j => ?_)
        unfold pru
        by_cases e : j = i
        · subst e; rw [if_pos rfl, if_pos (by omega)]
        · rw [if_neg e]
          dsimp only
          by_cases h : j < i
          · rw [if_pos h, if_pos (by omega)]
          · rw [if_neg h, if_neg (by omega)]
      · rintro m q rfl
        show ∃ τ', en_oi (T_X12_undo_26 (m + 1) _ _) = _ ∧ _
        rw [t_X12_undo_26, if_neg (show ¬ Int32.ofNat 53 < (53 : Int32) by decide), po_ri, pst_ne (by omega), h0]
        refine ⟨_, rfl, hM.set ?_ ⟨by rw [pst_ne (by omega), h0, hlen], fun i hi => ?_⟩ (hM.2.2.2.2.2.fr (by rw [pst_ne (by omega), hf0 _ (by omega)]) (by rw [pst_ne (by omega), hf0 _ (by omega)])) (fun j hj => by rw [pst_ne (by omega), hs0 j (by omega) (by omega)]) (fun c hc => by rw [pst_ne (by omega), hf0 c (by omega)]), fun c hc => by rw [pst_ne (by omega), hf0 c (by omega)]⟩
        · rw [pst_same]
          refine (hM.2.2.2.2.1.2 (us.length - 1) (by show us.length - 1 < us.length; omega)).congr hn (fun j hj => ?_)
          rw [if_pos hj, hf0 194 (by omega)]
        · rw [hlen] at hi
          rw [getD_take hi, pst_ne (by omega), hf0 194 (by omega)]
          exact hM.2.2.2.2.1.2 i (by show i < us.length; omega)
      · rw [show (fun j => if j < 0 then τ0 194 (53 * (us.length - 1) + j) else τ0 186 j) = τ0 186 from funext fun j => if_neg (by omega), pst_self]
    · rw [hlen] at hi
      rw [getD_take hi]
      exact (hA.2.2.2.2.2.2.2.2.2.1 i (by show i < us.length; omega)).mono (by omega)
/-- a beer -/
def dk (v : Int32) : Int32 := if 0 < v - 10 then v - 10 else 0
def sDk (x : pS) (r : Nat) : pS := (sF x, sN x, sD x, sW x, sP x, (fun i => if i = r then dk (sT x i) else sT x i), sS x, sR x, sM x)
theorem sDk_VS {n B r : Nat} {x : pS} (h : VS n B x) (hr : r < n) : VS n B (sDk x r) := by
  obtain ⟨a1, a2, a3, a4, a5, a6⟩ := h
  refine ⟨a1, a2, a3, a4, a5, fun i h1 h2 => ⟨?_, (a6 i h1 h2).2⟩⟩
  show (if i = r then _ else sT x i) = 0
  rw [if_neg (by omega)]; exact (a6 i h1 h2).1
theorem q_drink {σ : en_M} {k r : Nat} {x : pS} (h : CS σ k x) (hr : r < 7) : O_X7_drink [.inr (k, 7, 0, 0), .inl (Int32.ofNat r)] σ = some (en_up σ (k + 1) r (dk (sT x r))) ∧ CS (en_up σ (k + 1) r (dk (sT x r))) k (sDk x r) := by
  constructor
  · rw [o_X7_drink, t_X7_drink_0, pn_ix hr (by omega), Option.bind_some, (h.2.2.2.2.2.1 r hr).1, q_max, Option.bind_some]; rfl
  · obtain ⟨a1, a2, a3, a4, a5, a6, a7⟩ := h
    refine ⟨by rw [pu_cell (by omega)]; exact a1, by rw [pu_cell (by omega)]; exact a2, by rw [pu_cell (by omega)]; exact a3, by rw [pu_cell (by omega)]; exact a4, by rw [pu_cell (by omega)]; exact a5, fun i hi => ⟨?_, by rw [pu_cell (by omega)]; exact (a6 i hi).2.1, by rw [pu_cell (by omega)]; exact (a6 i hi).2.2⟩, fun j h1 h2 => by rw [pu_cell (by omega)]; exact a7 j h1 h2⟩
    rw [pu_at]
    show _ = if i = r then dk (sT x i) else sT x i
    by_cases e : i = r
    · rw [if_pos e, if_pos e, e]
    · rw [if_neg e, if_neg e]; exact (a6 i hi).1
theorem r_drink {σ : en_M} {n k r : Nat} {x : pS} (h : MSr n (σ k) x) (hn : n ≤ 7) (hr : r < 7) : O_X12_drink [.inr (k, 20, 53, 0), .inl (Int32.ofNat r)] σ = some (dk (sT x r), en_up σ k (7 + r) (dk (sT x r))) ∧ MSr n ((en_up σ k (7 + r) (dk (sT x r))) k) (sDk x r) := by
  have i7 : en_ix (7 + Int32.ofNat r) 53 = some (7 + r) := by rw [show (7 : Int32) + Int32.ofNat r = Int32.ofNat (7 + r) from pn_add 7 r]; exact pn_ix (by omega) (by omega)
  obtain ⟨a1, a2, a3, a4, a5, a6, a7, a8⟩ := h
  constructor
  · rw [o_X12_drink, t_X12_drink_0]
    simp only [i7, Option.bind_some, (a2 r hr).1, q_max, pu_same]; rfl
  · refine ⟨fun p hp => by rw [pu_slot (by omega)]; exact a1 p hp, fun i hi => ⟨?_, by rw [pu_slot (by omega)]; exact (a2 i hi).2.1, by rw [pu_slot (by omega)]; exact (a2 i hi).2.2⟩, by rw [pu_slot (by omega)]; exact a3, by rw [pu_slot (by omega)]; exact a4, by rw [pu_slot (by omega)]; exact a5, by rw [pu_slot (by omega)]; exact a6, by rw [pu_slot (by omega)]; exact a7, fun j hj => by rw [pu_slot (by omega)]; exact a8 j hj⟩
    rw [pu_off]
    show _ = if i = r then dk (sT x i) else sT x i
    by_cases e : i = r
    · rw [if_pos e, if_pos e, e]
    · rw [if_neg e, if_neg e]; exact (a2 i hi).1
theorem push_VS {n B : Nat} {us : List pS} {x : pS} (hl : us.length ≤ 12) (hu : ∀ i, i < us.length → VS n B (us.getD i x0)) (hx : VS n B x) : ∀ i, i < (pushU us x).length → VS n B ((pushU us x).getD i x0) := by
  intro i hi
  have hlen := pushU_len hl x
  rw [hlen.2] at hi
  rw [pushU_get us x i hi]
  by_cases e : us.length = 12
  · simp only [if_pos e] at hi ⊢
    by_cases h : i = 11
    · rw [if_pos h]; exact hx
    · rw [if_neg h]; exact hu _ (by omega)
  · simp only [if_neg e] at hi ⊢
    by_cases h : i = us.length
    · rw [if_pos h]; exact hx
    · rw [if_neg h]; exact hu _ (by omega)
theorem p_beer : en_st_beer pInv := by
  intro c v hc
  refine p_two hc (fun A σ0 hA hB => ?_)
  obtain ⟨g, t, ro, x, us, kp⟩ := A
  have hl : us.length ≤ 12 := hA.2.2.2.2.2.2.2.2.1
  have hn : gN g ≤ 7 := hA.1.1
  by_cases hv : isR (gN g) v
  · obtain ⟨r, hr, rfl⟩ := hv
    refine ⟨dk (sT x r), (g, t, ro, sDk x r, pushU us x, kp), fun hC => ?_, fun τ hM => ?_, hA.live (by omega) ((sDk_VS hA.2.2.2.2.2.2.2.1 hr).mono (by omega)) (pushU_len hl x).1 (push_VS hl (fun i hi => (hA.2.2.2.2.2.2.2.2.2.1 i hi).mono (by omega)) (hA.2.2.2.2.2.2.2.1.mono (by omega))) (fun i hi hk => (hA.2.2.2.2.2.2.2.2.2.2 i hi hk).mono (by omega))⟩
    · obtain ⟨σ1, e1, e2, e3⟩ := q_push hC.2.2.2.2.1 hC.2.2.2.1 hl
      have hS : CS σ1 15 x := CS.all hC.2.2.2.1 (fun j hj => e3 _ (by omega) (by omega))
      obtain ⟨d1, d2⟩ := q_drink hS (show r < 7 by omega)
      refine ⟨_, ?_, hC.set d2 (e2.fr (fun c _ _ => pu_row (by omega))) (hC.2.2.2.2.2.fr (fun c h1 h2 => by rw [pu_row (by omega), e3 c (by omega) (by omega)])) (fun c hc => by rw [pu_row (by omega), e3 c (by omega) (by omega)]), fun c hc => by rw [pu_row (by omega), e3 c (by omega) (by omega)]⟩
      rw [o_X11_beer, t_X11_beer_0, k_hasRinger_y hA hC.1 ⟨r, hr, rfl⟩, Option.bind_some, if_neg (show ¬ (1 : Int32) = 0 by decide)]
      dsimp only
      rw [e1, Option.bind_some, d1, Option.bind_some, pn_ix (show r < 7 by omega) (by omega), Option.bind_some, pu_same]; rfl
    · have hM2 := hM.slot 11 0 (by omega)
      obtain ⟨τ1, e1, e2, e3, e4⟩ := r_remember (k := 186) hn (Or.inl rfl) hM2.2.2.2.2.1 hM2.2.2.2.1 hl
      have hS : MSr (gN g) (τ1 186) x := by rw [e3 186 (by omega) (by omega)]; exact hM2.2.2.2.1
      obtain ⟨d1, d2⟩ := r_drink hS hn (show r < 7 by omega)
      refine ⟨_, ?_, hM2.set d2 (e2.fr (by rw [pu_cell (by omega)]) (pu_row (by omega))) (hM2.2.2.2.2.2.fr (by rw [pu_row (by omega), e3 208 (by omega) (by omega)]) (by rw [pu_row (by omega), e3 207 (by omega) (by omega)])) (fun j hj => by rw [pu_cell (by omega), e4 j (by omega)]) (fun c hc => by rw [pu_row (by omega), e3 c (by omega) (by omega)]), fun c hc => by rw [pu_row (by omega), e3 c (by omega) (by omega), pu_row (by omega)]⟩
      rw [o_X12_beer, t_X12_beer_0, m_isOne_y hA hM2.1 ⟨r, hr, rfl⟩, Option.bind_some, if_neg (show ¬ (1 : Int32) = 0 by decide)]
      dsimp only
      rw [e1, Option.bind_some, d1, Option.bind_some]; rfl
  · refine ⟨-1, (g, t, ro, x, us, kp), fun hC => ⟨σ0, ?_, hC, FrC.refl _⟩, fun τ hM => ⟨en_up τ 185 11 0, ?_, hM.slot 11 0 (by omega), FrM.up (by omega) (by omega)⟩, hA.mono (by omega)⟩
    · rw [o_X11_beer, t_X11_beer_0, k_hasRinger_n hA hC.1 hv, Option.bind_some, if_pos (show (0 : Int32) = 0 from rfl)]; rfl
    · have hM2 := hM.slot 11 0 (by omega)
      rw [o_X12_beer, t_X12_beer_0, m_isOne_n hA hM2.1 hv, Option.bind_some, if_pos (show (0 : Int32) = 0 from rfl)]; rfl
theorem p_round : en_st_round pInv := by
  intro c v hc
  refine p_two hc (fun A σ0 hA hB => ?_)
  obtain ⟨g, t, ro, x, us, kp⟩ := A
  have hl : us.length ≤ 12 := hA.2.2.2.2.2.2.2.2.1
  have hn : gN g ≤ 7 := hA.1.1
  have same : ∀ w : Int32, (CI σ0 (g, t, ro, x, us, kp) → O_X11_round [.inr (0, 11, 0, 0), .inl v] σ0 = some (w, σ0)) → (∀ τ, MI τ (g, t, ro, x, us, kp) → O_X12_round [.inr (185, 12, 0, 0), .inl v] τ = some (w, en_up τ 185 11 0)) → ∃ v' A', (CI σ0 (g, t, ro, x, us, kp) → ∃ σ', O_X11_round [.inr (0, 11, 0, 0), .inl v] σ0 = some (v', σ') ∧ CI σ' A' ∧ FrC σ0 σ') ∧ (∀ τ, MI τ (g, t, ro, x, us, kp) → ∃ τ', O_X12_round [.inr (185, 12, 0, 0), .inl v] τ = some (v', τ') ∧ MI τ' A' ∧ FrM τ τ') ∧ AV (2000 * (c + 1)) A' :=
    fun w h1 h2 => ⟨w, _, fun hC => ⟨σ0, h1 hC, hC, FrC.refl _⟩, fun τ hM => ⟨_, h2 τ hM, hM.slot 11 0 (by omega), FrM.up (by omega) (by omega)⟩, hA.mono (by omega)⟩
  by_cases hz : gN g = 0
  · refine same (-2) (fun hC => ?_) (fun τ hM => ?_)
    · rw [o_X11_round, t_X11_round_0, show σ0 5 3 = Int32.ofNat (gN g) from hC.1.1, hz, if_pos (by decide)]; rfl
    · rw [o_X12_round, t_X12_round_0, show τ 185 1 = Int32.ofNat (gN g) from hM.1.1, hz, if_pos (by decide)]; rfl
  have nz : ¬ Int32.ofNat (gN g) = 0 := by rw [pn_eq0 (by omega)]; exact hz
  by_cases hv : isR (2 ^ gN g) v
  · obtain ⟨s, hs, rfl⟩ := hv
    have hVS : VS (gN g) (2000 * c) x := hA.2.2.2.2.2.2.2.1
    refine ⟨Int32.ofNat (lawS g x s), (g, t, [Int32.ofNat (plN (sF x) s (gN g)), Int32.ofNat (drN g x s (gN g))], nx g x s, pushU us x, kp), fun hC => ?_, fun τ hM => ?_, (hA.row (ro' := [Int32.ofNat (plN (sF x) s (gN g)), Int32.ofNat (drN g x s (gN g))]) (by simp)).live (by omega) ((nx_VS hA.1 hVS hs).mono (by omega)) (pushU_len hl x).1 (push_VS hl (fun i hi => (hA.2.2.2.2.2.2.2.2.2.1 i hi).mono (by omega)) (hVS.mono (by omega))) (fun i hi hk => (hA.2.2.2.2.2.2.2.2.2.2 i hi hk).mono (by omega))⟩
    · obtain ⟨σ1, e1, e2, e3⟩ := q_push hC.2.2.2.2.1 hC.2.2.2.1 hl
      have hC1 : CI σ1 (g, t, ro, x, pushU us x, kp) := hC.set (CS.all hC.2.2.2.1 (fun j hj => e3 _ (by omega) (by omega))) e2 (hC.2.2.2.2.2.fr (fun c h1 h2 => e3 c (by omega) (by omega))) (fun c hc => e3 c (by omega) (by omega))
      obtain ⟨σ2, f1, f2, f3, f4⟩ := q_ring (k := 15) hA.1 hC1.1 hC1.2.2.2.1 hVS (by omega) (Nat.pos_of_ne_zero hz) hs (by omega) (by omega)
      have hC2 : CI σ2 (g, t, ro, nx g x s, pushU us x, kp) := hC1.set f2 (hC1.2.2.2.2.1.fr (fun c h1 h2 => f4 c (by omega) (by omega) (by omega) (by omega) (by omega) (by omega) (by omega))) (hC1.2.2.2.2.2.fr (fun c h1 h2 => f4 c (by omega) (by omega) (by omega) (by omega) (by omega) (by omega) (by omega))) (fun c hc => f4 c (by omega) (by omega) (by omega) (by omega) (by omega) (by omega) (by omega))
      obtain ⟨σ3, g1, g2, g3⟩ := hC2.begin.add (by simp) (Int32.ofNat (plN (sF x) s (gN g)))
      obtain ⟨σ4, h1, h2, h3⟩ := g2.add (by simp) (Int32.ofNat (drN g x s (gN g)))
      refine ⟨σ4, ?_, h2, fun c hc => by rw [h3 c (by omega) (by omega), g3 c (by omega) (by omega), pu_row (by omega), f4 c (by omega) (by omega) (by omega) (by omega) (by omega) (by omega) (by omega), e3 c (by omega) (by omega)]⟩
      rw [o_X11_round, t_X11_round_0, show σ0 5 3 = Int32.ofNat (gN g) from hC.1.1, if_neg nz, k_hasAll_y hA hC ⟨s, hs, rfl⟩, Option.bind_some, if_neg (show ¬ (1 : Int32) = 0 by decide)]
      dsimp only
      rw [e1, Option.bind_some, f1, Option.bind_some]
      dsimp only
      rw [q_tbegin, Option.bind_some, show en_up σ2 3 1 0 15 8 = Int32.ofNat (plN (sF x) s (gN g)) by rw [pu_cell (by omega)]; exact f2.2.2.2.2.1, g1, Option.bind_some, show σ3 15 9 = Int32.ofNat (drN g x s (gN g)) by rw [g3 15 (by omega) (by omega), pu_cell (by omega)]; exact f3, h1, Option.bind_some]; rfl
    · have hM2 := hM.slot 11 0 (by omega)
      obtain ⟨τ1, e1, e2, e3, e4⟩ := r_remember (k := 186) hn (Or.inl rfl) hM2.2.2.2.2.1 hM2.2.2.2.1 hl
      have hM3 : MI τ1 (g, t, ro, x, pushU us x, kp) := hM2.set (by rw [e3 186 (by omega) (by omega)]; exact hM2.2.2.2.1) e2 (hM2.2.2.2.2.2.fr (e3 208 (by omega) (by omega)) (e3 207 (by omega) (by omega))) (fun j hj => e4 j (by omega)) (fun c hc => e3 c (by omega) (by omega))
      obtain ⟨τ2, f1, f2, f3, f4, f5⟩ := r_goRound (k := 186) hA.1 hM3.1 hM3.2.2.2.1 hVS (by omega) (Nat.pos_of_ne_zero hz) hs (Or.inl rfl)
      have hM4 : MI τ2 (g, t, ro, nx g x s, pushU us x, kp) := hM3.set f2 (hM3.2.2.2.2.1.fr (f5.2 23 (by omega) (by omega) (by omega) (by omega)) (f5.1 194 (by omega) (by omega) (by omega))) (hM3.2.2.2.2.2.fr (f5.1 208 (by omega) (by omega) (by omega)) (f5.1 207 (by omega) (by omega) (by omega))) (fun j hj => f5.2 j (by omega) (by omega) (by omega) (by omega)) (fun c hc => f5.1 c (by omega) (by omega) (by omega))
      obtain ⟨τ3, g1, g2, g3, g4⟩ := hM4.begin.add (by simp) (Int32.ofNat (plN (sF x) s (gN g)))
      obtain ⟨τ4, h1, h2, h3, h4⟩ := g2.add (by simp) (Int32.ofNat (drN g x s (gN g)))
      refine ⟨τ4, ?_, h2, fun c hc => by rw [h3 c (by omega) (by omega), g3 c (by omega) (by omega), pu_row (by omega), f5.1 c (by omega) (by omega) (by omega), e3 c (by omega) (by omega), pu_row (by omega)]⟩
      rw [o_X12_round, t_X12_round_0, show τ 185 1 = Int32.ofNat (gN g) from hM.1.1, if_neg nz, m_areThose_y hA hM2.1 ⟨s, hs, rfl⟩, Option.bind_some, if_neg (show ¬ (1 : Int32) = 0 by decide)]
      dsimp only
      rw [e1, Option.bind_some, f1, Option.bind_some, show en_ix 31 53 = some 31 from pn_ix (k := 31) (by omega) (by omega), Option.bind_some, show τ2 186 31 = Int32.ofNat (plN (sF x) s (gN g)) from f2.2.2.2.2.2.1, g1, Option.bind_some, show τ3 185 26 = Int32.ofNat (drN g x s (gN g)) by rw [g4 26 (by omega), pu_slot (by omega)]; exact f4, h1, Option.bind_some, po_ri, show τ4 185 25 = Int32.ofNat (lawS g x s) by rw [h4 25 (by omega), g4 25 (by omega), pu_slot (by omega)]; exact f3]
  · refine same (-1) (fun hC => ?_) (fun τ hM => ?_)
    · rw [o_X11_round, t_X11_round_0, show σ0 5 3 = Int32.ofNat (gN g) from hC.1.1, if_neg nz, k_hasAll_n hA hC hv, Option.bind_some, if_pos (show (0 : Int32) = 0 from rfl)]; rfl
    · have hM2 := hM.slot 11 0 (by omega)
      rw [o_X12_round, t_X12_round_0, show τ 185 1 = Int32.ofNat (gN g) from hM.1.1, if_neg nz, m_areThose_n hA hM2.1 hv, Option.bind_some, if_pos (show (0 : Int32) = 0 from rfl)]; rfl
