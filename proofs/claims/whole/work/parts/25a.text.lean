/-! what keeps the two sides; sign, end -/
theorem MG.keep {σ σ' : en_M} {g : pG} (h : MG σ g) (h0 : ∀ j, j = 1 ∨ j = 4 ∨ j = 5 ∨ j = 6 ∨ j = 19 → σ' 185 j = σ 185 j) (h187 : σ' 187 = σ 187) (h188 : σ' 188 = σ 188) (h192 : σ' 192 = σ 192) : MG σ' g := by
  obtain ⟨a1, a2, a3, a4, a5, a6, a7⟩ := h
  unfold MG
  rw [h0 1 (by omega), h0 5 (by omega), h0 6 (by omega), h0 4 (by omega), h187, h188]
  refine ⟨a1, a2, a3, a4, a5, a6, ?_⟩
  rcases a7 with ⟨b1, b2⟩ | ⟨b1, b2⟩
  · exact Or.inl ⟨by rw [h0 19 (by omega)]; exact b1, b2⟩
  · exact Or.inr ⟨by rw [h0 19 (by omega)]; exact b1, fun σ1 e1 e2 e3 e4 e5 e6 e7 e8 => b2 σ1 (by rw [e1, h0 19 (by omega)]) (by rw [e2, h192]) e3 e4 (by rw [e5, h0 19 (by omega)]) e6 e7 e8⟩
theorem MI.kept {σ σ' : en_M} {A : pI} (h : MI σ A) (hs : ∀ j, j = 1 ∨ j = 4 ∨ j = 5 ∨ j = 6 ∨ j = 8 ∨ j = 10 ∨ j = 19 ∨ j = 23 → σ' 185 j = σ 185 j) (hr : ∀ c, c = 186 ∨ c = 187 ∨ c = 188 ∨ c = 189 ∨ c = 190 ∨ c = 192 ∨ c = 194 ∨ c = 207 ∨ c = 208 → σ' c = σ c) : MI σ' A := by
  obtain ⟨h1, ⟨h2, h2'⟩, ⟨h3, h3'⟩, h4, ⟨h5, h6⟩, h9⟩ := h
  refine ⟨h1.keep (fun j hj => hs j (by omega)) (hr 187 (by omega)) (hr 188 (by omega)) (hr 192 (by omega)), ⟨by rw [hs 8 (by omega)]; exact h2, fun j hj => by rw [hr 189 (by omega)]; exact h2' j hj⟩, ⟨by rw [hs 10 (by omega)]; exact h3, fun j hj => by rw [hr 190 (by omega)]; exact h3' j hj⟩,
    by rw [hr 186 (by omega)]; exact h4, ⟨by rw [hs 23 (by omega)]; exact h5, fun i hi => by rw [hr 194 (by omega)]; exact h6 i hi⟩, fun i hi => by rw [hr 208 (by omega), hr 207 (by omega)]; exact h9 i hi⟩
theorem MI.slot {σ : en_M} {A : pI} (h : MI σ A) (j : Nat) (v : Int32) (hj : j ≠ 1 ∧ j ≠ 4 ∧ j ≠ 5 ∧ j ≠ 6 ∧ j ≠ 8 ∧ j ≠ 10 ∧ j ≠ 19 ∧ j ≠ 23) : MI (en_up σ 185 j v) A := h.kept (fun i hi => pu_slot (by omega)) (fun c hc => pu_row (by omega))
theorem CI.kept {σ σ' : en_M} {A : pI} (h : CI σ A) (hf : ∀ c, 1 ≤ c ∧ c ≤ 8 ∨ c = 11 ∨ 15 ≤ c ∧ c ≤ 19 ∨ 25 ≤ c ∧ c < 100 → σ' c = σ c) (h10 : σ' 10 4 = σ 10 4) : CI σ' A := by
  obtain ⟨h1, ⟨h2, h2'⟩, ⟨h3, h3'⟩, h4, ⟨h5, fs, h6, h7, h8⟩, h9⟩ := h
  refine ⟨h1.kept (hf 5 (by omega)) (hf 6 (by omega)) (hf 7 (by omega)) (hf 8 (by omega)) h10 (hf 11 (by omega)), ⟨by rw [hf 1 (by omega)]; exact h2, fun j hj => by rw [hf 2 (by omega)]; exact h2' j hj⟩, ⟨by rw [hf 3 (by omega)]; exact h3, fun j hj => by rw [hf 4 (by omega)]; exact h3' j hj⟩,
    h4.all (fun j hj => hf _ (by omega)), ⟨by rw [hf 25 (by omega)]; exact h5, fs, h6, by rw [hf 25 (by omega)]; exact h7, fun i hi => (h8 i hi).all (fun j hj => hf _ (by omega))⟩, fun i hi => ⟨by rw [hf 89 (by omega)]; exact (h9 i hi).1, fun hk => ((h9 i hi).2 hk).all (fun j hj => hf _ (by omega))⟩⟩
theorem i2b_and (x : Int32) : en_i2b (x &&& 255) = en_i2b x := by
  unfold en_i2b
  congr 1
  apply Int8.toBitVec.inj
  rw [Int32.toBitVec_toInt8, Int32.toBitVec_toInt8]
  apply BitVec.eq_of_getLsbD_eq
  intro i hi
  rw [BitVec.getLsbD_signExtend, BitVec.getLsbD_signExtend, if_pos (by omega), if_pos (by omega)]
  show (decide (i < 8) && (x.toBitVec &&& 255#32).getLsbD i) = _
  rw [BitVec.getLsbD_and, (by decide : ∀ i < 8, (255#32).getLsbD i = true) i hi, Bool.and_true]
theorem and255 (x : Int32) : ∃ b, b < 256 ∧ x &&& 255 = Int32.ofNat b := by
  refine ⟨(x.toBitVec &&& 255#32).toNat, ?_, ?_⟩
  · rw [BitVec.toNat_and]
    exact Nat.lt_of_le_of_lt Nat.and_le_right (by decide)
  · apply Int32.toBitVec.inj
    show x.toBitVec &&& 255#32 = BitVec.ofNat 32 (x.toBitVec &&& 255#32).toNat
    rw [BitVec.ofNat_toNat, BitVec.setWidth_eq]
theorem i2b_i2b (x : Int32) : en_i2b (en_i2b x) = en_i2b x := by
  unfold en_i2b; congr 1; simp
theorem nar_byte (x : Int32) : vp_nar .byte x = en_i2b x := rfl
/-- the byte of v at place j of four -/
def bNat (v : Int32) (j : Nat) : Nat := (en_shr v (Int32.ofNat (24 - 8 * j)) &&& 255).toNatClampNeg
theorem bNat_lt (v : Int32) (j : Nat) : bNat v j < 256 := by
  unfold bNat
  obtain ⟨b, hb, e⟩ := and255 (en_shr v (Int32.ofNat (24 - 8 * j)))
  rw [e, pn_toNat (by omega)]; exact hb
theorem bNat_e (v : Int32) (j : Nat) : en_shr v (Int32.ofNat (24 - 8 * j)) &&& 255 = Int32.ofNat (bNat v j) := by
  unfold bNat
  obtain ⟨b, hb, e⟩ := and255 (en_shr v (Int32.ofNat (24 - 8 * j)))
  rw [e, pn_toNat (by omega)]
theorem bNat_b (v : Int32) (j : Nat) : en_i2b (en_shr v (Int32.ofNat (24 - 8 * j))) = byt (bNat v j) := by
  unfold byt
  rw [← bNat_e, i2b_and]
def txA (L : Nat) (tx : Nat → Nat) (v : Int32) : Nat → Nat := fun j => if j < L then tx j else bNat v (j - L)
theorem q_addFour {σ : en_M} {L : Nat} {tx : Nat → Nat} (v : Int32) (h : CT σ L tx) (hL : L + 4 ≤ 80) : ∃ σ', O_X8_addFour [.inr (1, 8, 0, 0), .inl v] σ = some (1, σ') ∧ CT σ' (L + 4) (txA L tx v) ∧ ∀ c, c ≠ 1 → c ≠ 2 → σ' c = σ c := by
  rw [o_X8_addFour, t_X8_addFour_0, h.1, show (Int32.ofNat L + 4 : Int32) = Int32.ofNat (L + 4) from pn_add L 4, if_neg (show ¬ (80 : Int32) < Int32.ofNat (L + 4) from fun q => by have := (pn_lt (a := 80) (by omega) (by omega)).mp q; omega)]
  refine pl_for1 (F := fun m i (q : Int32 × en_M) => T_X8_addFour_16 m v q.1 q.2) (P := fun i q => (q.1 = if i < 4 then Int32.ofNat (24 - 8 * i) else -8) ∧ q.2 1 1 = Int32.ofNat (L + i) ∧ (∀ j, j < L + i → q.2 2 j = Int32.ofNat (txA L tx v j)) ∧ ∀ c, c ≠ 1 → c ≠ 2 → q.2 c = σ c)
    (Q := fun r => ∃ σ', en_oi r = some (1, σ') ∧ CT σ' (L + 4) (txA L tx v) ∧ ∀ c, c ≠ 1 → c ≠ 2 → σ' c = σ c) (N := 4) ?_ ?_ 4 0 en_FU (24, σ) rfl (pl_FU (by omega)) ⟨rfl, h.1, fun j hj => ?_, fun _ _ _ => rfl⟩
  · rintro m i ⟨y, τ⟩ hi ⟨p1, p2, p3, p4⟩
    dsimp only at p1 p2 p3 p4
    rw [if_pos hi] at p1
    subst p1
    refine Or.inl ⟨(Int32.ofNat (24 - 8 * i) + (-8), en_up (en_up τ 2 (L + i) (Int32.ofNat (bNat v i))) 1 1 (Int32.ofNat (L + i + 1))), ?_, ?_, ?_, fun j hj => ?_, fun c h1 h2 => ?_⟩
    · show T_X8_addFour_16 (m + 1) v (Int32.ofNat (24 - 8 * i)) τ = _
      rw [t_X8_addFour_16, if_neg (pn_nlt0 (by omega)), p2, pn_ix (by omega) (by omega), Option.bind_some, bNat_e, pn_a1]
    · show Int32.ofNat (24 - 8 * i) + (-8) = _
      exact (by decide : ∀ i < 4, Int32.ofNat (24 - 8 * i) + (-8) = if i + 1 < 4 then Int32.ofNat (24 - 8 * (i + 1)) else -8) i hi
    · dsimp only
      rw [pu_same]; rfl
    · dsimp only
      rw [pu_cell (by omega), pu_at]
      by_cases e : j = L + i
      · subst e
        rw [if_pos rfl]
        unfold txA
        rw [if_neg (by omega), Nat.add_sub_cancel_left]
      · rw [if_neg e]; exact p3 j (by omega)
    · dsimp only
      rw [pu_row h1, pu_row h2]; exact p4 c h1 h2
  · rintro m ⟨y, τ⟩ ⟨p1, p2, p3, p4⟩
    dsimp only at p1 p2 p3 p4
    rw [if_neg (by omega)] at p1
    subst p1
    show ∃ σ', en_oi (T_X8_addFour_16 (m + 1) v (-8) τ) = _ ∧ _
    rw [t_X8_addFour_16, if_pos (by decide), if_pos (by decide)]
    exact ⟨τ, rfl, ⟨p2, p3⟩, p4⟩
  · rw [show ((_, σ) : Int32 × en_M).2 = σ from rfl, h.2 j hj]
    unfold txA
    rw [if_pos (show j < L from hj)]
theorem r_sign {σ : en_M} {L : Nat} {tx : Nat → Nat} (v : Int32) (h : MT σ L tx) (hL : L + 4 ≤ 80) : ∃ σ', en_oi (T_X12_sign_20 en_FU v 3 σ) = some (Int32.ofNat (L + 4), σ') ∧ MT σ' (L + 4) (txA L tx v) ∧ (∀ c, c ≠ 185 → c ≠ 189 → σ' c = σ c) ∧ ∀ j, j ≠ 8 → σ' 185 j = σ 185 j := by
  refine pl_for1 (F := fun m i (q : Int32 × en_M) => T_X12_sign_20 m v q.1 q.2) (P := fun i q => (q.1 = if i < 4 then Int32.ofNat (3 - i) else -1) ∧ q.2 185 8 = Int32.ofNat (L + i) ∧ (∀ j, j < L + i → q.2 189 j = byt (txA L tx v j)) ∧ (∀ c, c ≠ 185 → c ≠ 189 → q.2 c = σ c) ∧ ∀ j, j ≠ 8 → q.2 185 j = σ 185 j)
    (Q := fun r => ∃ σ', en_oi r = some (Int32.ofNat (L + 4), σ') ∧ MT σ' (L + 4) (txA L tx v) ∧ (∀ c, c ≠ 185 → c ≠ 189 → σ' c = σ c) ∧ ∀ j, j ≠ 8 → σ' 185 j = σ 185 j) (N := 4) ?_ ?_ 4 0 en_FU (3, σ) rfl (pl_FU (by omega)) ⟨rfl, h.1, fun j hj => ?_, fun _ _ _ => rfl, fun _ _ => rfl⟩
  · rintro m i ⟨y, τ⟩ hi ⟨p1, p2, p3, p4, p5⟩
    dsimp only at p1 p2 p3 p4 p5
    rw [if_pos hi] at p1
    subst p1
    refine Or.inl ⟨(Int32.ofNat (3 - i) + (-1), en_up (en_up τ 185 8 (Int32.ofNat (L + i + 1))) 189 (L + i) (byt (bNat v i))), ?_, ?_, ?_, fun j hj => ?_, fun c h1 h2 => ?_, fun j hj => ?_⟩
    · show T_X12_sign_20 (m + 1) v (Int32.ofNat (3 - i)) τ = _
      rw [t_X12_sign_20, if_neg (pn_nlt0 (by omega)), p2, pn_ix (by omega) (by omega), Option.bind_some, pn_a1, show (8 : Int32) * Int32.ofNat (3 - i) = Int32.ofNat (24 - 8 * i) by rw [show (8 : Int32) * Int32.ofNat (3 - i) = Int32.ofNat (8 * (3 - i)) from pn_mul 8 _]; congr 1; omega, nar_byte, i2b_i2b, bNat_b]
    · show Int32.ofNat (3 - i) + (-1) = _
      exact (by decide : ∀ i < 4, Int32.ofNat (3 - i) + (-1) = if i + 1 < 4 then Int32.ofNat (3 - (i + 1)) else -1) i hi
    · dsimp only
      rw [pu_cell (by omega), pu_same]; rfl
    · dsimp only
      rw [pu_at]
      by_cases e : j = L + i
      · subst e
        rw [if_pos rfl]
        unfold txA
        rw [if_neg (by omega), Nat.add_sub_cancel_left]
      · rw [if_neg e, pu_cell (by omega)]; exact p3 j (by omega)
    · dsimp only
      rw [pu_row h2, pu_row h1]; exact p4 c h1 h2
    · dsimp only
      rw [pu_cell (by omega), pu_slot hj]; exact p5 j hj
  · rintro m ⟨y, τ⟩ ⟨p1, p2, p3, p4, p5⟩
    dsimp only at p1 p2 p3 p4 p5
    rw [if_neg (by omega)] at p1
    subst p1
    show ∃ σ', en_oi (T_X12_sign_20 (m + 1) v (-1) τ) = _ ∧ _
    rw [t_X12_sign_20, if_pos (by decide)]
    exact ⟨τ, by rw [po_ri, p2], ⟨p2, p3⟩, p4, p5⟩
  · rw [show ((_, σ) : Int32 × en_M).2 = σ from rfl, h.2 j hj]
    unfold txA
    rw [if_pos (show j < L from hj)]
theorem p_sign : en_st_sign pInv := by
  intro c v hc
  refine p_two hc (fun A σ0 hA hB => ?_)
  obtain ⟨g, ⟨L, tx⟩, ro, x, us, kp⟩ := A
  have hL : L ≤ 80 := hA.2.2.2.2.1
  by_cases h : L + 4 ≤ 80
  · refine ⟨Int32.ofNat (L + 4), (g, (L + 4, txA L tx v), ro, x, us, kp), fun hC => ?_, fun τ hM => ?_, ?_⟩
    · obtain ⟨h1, h2, h3, h4, h5, h6⟩ := id hC
      obtain ⟨σ', e1, e2, e3⟩ := q_addFour v h2 h
      have hk : CI σ' (g, (L + 4, txA L tx v), ro, x, us, kp) := by
        refine ⟨h1.kept (e3 5 (by omega) (by omega)) (e3 6 (by omega) (by omega)) (e3 7 (by omega) (by omega)) (e3 8 (by omega) (by omega)) (by rw [e3 10 (by omega) (by omega)]) (e3 11 (by omega) (by omega)), e2, ⟨by rw [e3 3 (by omega) (by omega)]; exact h3.1, fun j hj => by rw [e3 4 (by omega) (by omega)]; exact h3.2 j hj⟩, h4.all (fun j hj => e3 _ (by omega) (by omega)), ?_, fun i hi => ⟨by rw [e3 89 (by omega) (by omega)]; exact (h6 i hi).1, fun hk => ((h6 i hi).2 hk).all (fun j hj => e3 _ (by omega) (by omega))⟩⟩
        obtain ⟨u1, fs, u2, u3, u4⟩ := h5
        exact ⟨by rw [e3 25 (by omega) (by omega)]; exact u1, fs, u2, by rw [e3 25 (by omega) (by omega)]; exact u3, fun i hi => (u4 i hi).all (fun j hj => e3 _ (by omega) (by omega))⟩
      refine ⟨σ', ?_, hk, fun c hc => e3 c (by omega) (by omega)⟩
      rw [o_X11_sign, t_X11_sign_0, e1, Option.bind_some, if_neg (show ¬ (1 : Int32) = 0 by decide)]
      dsimp only
      rw [show σ' 1 1 = Int32.ofNat (L + 4) from e2.1]; rfl
    · obtain ⟨h1, h2, h3, h4, h5, h6⟩ := id (hM.slot 11 0 (by omega))
      obtain ⟨σ', e1, e2, e3, e4⟩ := r_sign v h2 h
      refine ⟨σ', ?_, ⟨h1.keep (fun j hj => e4 j (by omega)) (e3 187 (by omega) (by omega)) (e3 188 (by omega) (by omega)) (e3 192 (by omega) (by omega)), e2, ⟨by rw [e4 10 (by omega)]; exact h3.1, fun j hj => by rw [e3 190 (by omega) (by omega)]; exact h3.2 j hj⟩, by rw [e3 186 (by omega) (by omega)]; exact h4, ⟨by rw [e4 23 (by omega)]; exact h5.1, fun i hi => by rw [e3 194 (by omega) (by omega)]; exact h5.2 i hi⟩, fun i hi => by rw [e3 208 (by omega) (by omega), e3 207 (by omega) (by omega)]; exact h6 i hi⟩, fun c hc => ?_⟩
      · have h8 : τ 185 8 = Int32.ofNat L := hM.2.1.1
        rw [o_X12_sign, t_X12_sign_0, h8, show (Int32.ofNat L + 4 : Int32) = Int32.ofNat (L + 4) from pn_add L 4, if_neg (show ¬ (80 : Int32) < Int32.ofNat (L + 4) from fun q => by have := (pn_lt (a := 80) (by omega) (by omega)).mp q; omega)]
        exact e1
      · rw [e3 c (by omega) (by omega), pu_row (by omega)]
    · obtain ⟨a1, a2, a3, a4, a5, a6, a7⟩ := hA.mono (show 2000 * c ≤ 2000 * (c + 1) by omega)
      exact ⟨a1, a2, a3, a4, h, fun j => by show (if j < L then tx j else bNat v (j - L)) < 256; split; exact a6 j; exact bNat_lt _ _, a7⟩
  · refine ⟨-1, (g, (L, tx), ro, x, us, kp), fun hC => ⟨σ0, ?_, hC, FrC.refl _⟩, fun τ hM => ⟨en_up τ 185 11 0, ?_, hM.slot 11 0 (by omega), FrM.up (by omega) (by omega)⟩, hA.mono (by omega)⟩
    · have h8 : σ0 1 1 = Int32.ofNat L := hC.2.1.1
      rw [o_X11_sign, t_X11_sign_0, o_X8_addFour, t_X8_addFour_0, h8, show (Int32.ofNat L + 4 : Int32) = Int32.ofNat (L + 4) from pn_add L 4, if_pos (show (80 : Int32) < Int32.ofNat (L + 4) from (pn_lt (a := 80) (by omega) (by omega)).mpr (by omega)), if_pos (by decide), po_ri, Option.bind_some, if_pos rfl]; rfl
    · have h8 : τ 185 8 = Int32.ofNat L := hM.2.1.1
      rw [o_X12_sign, t_X12_sign_0, h8, show (Int32.ofNat L + 4 : Int32) = Int32.ofNat (L + 4) from pn_add L 4, if_pos (show (80 : Int32) < Int32.ofNat (L + 4) from (pn_lt (a := 80) (by omega) (by omega)).mpr (by omega))]; rfl
