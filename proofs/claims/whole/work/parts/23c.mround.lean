/-! a round in the reference -/
def MSr (n : Nat) (row : Nat → Int32) (x : pS) : Prop := FRow n row 0 (sF x) ∧ (∀ r, r < 7 → row (7 + r) = sT x r ∧ row (14 + r) = sS x r ∧ row (21 + r) = sR x r) ∧ row 28 = Int32.ofNat (sN x) ∧ row 29 = sD x ∧ row 30 = Int32.ofNat (sW x) ∧ row 31 = Int32.ofNat (sP x) ∧ row 32 = Int32.ofNat (min 20 (sN x)) ∧ ∀ j, j < 20 → row (33 + j) = Int32.ofNat (sM x j)
/-- the reference's rule: none, or what its reading at the things answers -/
def MRule (σ : en_M) (V : (Nat → Int32) → Int32) : Prop := (σ 185 19 = 0 ∧ ∀ th, V th = th 0 / 2 + 1) ∨ ((∃ z, 0 < z ∧ z ≤ 40 ∧ σ 185 19 = Int32.ofNat z) ∧ ∀ σ1 : en_M, σ1 185 19 = σ 185 19 → σ1 192 = σ 192 → σ1 185 20 = 1 → σ1 185 12 = 193 → σ1 185 13 = σ 185 19 → σ1 185 14 = 40 → σ1 185 15 = 0 → σ1 185 16 = -1 →
  ∃ σ2, O_X12_held [.inr (185, 12, 0, 0), .inl 0] σ1 = some (V (σ1 193), σ2) ∧ (∀ c, c ≠ 185 → σ2 c = σ1 c) ∧ ∀ j, j ≠ 15 → j ≠ 16 → σ2 185 j = σ1 185 j)
def MG (σ : en_M) (g : pG) : Prop := σ 185 1 = Int32.ofNat (gN g) ∧ (∀ r, r < gN g → σ 187 r = gW g r) ∧ σ 185 5 = Int32.ofNat (gT g) ∧ σ 185 6 = Int32.ofNat (gR g) ∧ σ 185 4 = Int32.ofNat (gM g) ∧ (∀ j, j < gM g → σ 188 j = Int32.ofNat (gC g j)) ∧ MRule σ (gV g)
theorem MG.kept {σ σ' : en_M} {g : pG} (h : MG σ g) (h0 : ∀ j, j < 8 → σ' 185 j = σ 185 j) (h19 : σ' 185 19 = σ 185 19) (h187 : σ' 187 = σ 187) (h188 : σ' 188 = σ 188) (h192 : σ' 192 = σ 192) : MG σ' g := by
  obtain ⟨a1, a2, a3, a4, a5, a6, a7⟩ := h
  unfold MG
  rw [h0 1 (by omega), h0 5 (by omega), h0 6 (by omega), h0 4 (by omega), h187, h188]
  refine ⟨a1, a2, a3, a4, a5, a6, ?_⟩
  rcases a7 with ⟨b1, b2⟩ | ⟨b1, b2⟩
  · exact Or.inl ⟨by rw [h19]; exact b1, b2⟩
  · exact Or.inr ⟨by rw [h19]; exact b1, fun σ1 e1 e2 e3 e4 e5 e6 e7 e8 => b2 σ1 (by rw [e1, h19]) (by rw [e2, h192]) e3 e4 (by rw [e5, h19]) e6 e7 e8⟩
theorem r_begin (k1 n1 : Nat) (x2 x3 : Int32) (σ : en_M) : O_X12_begin [.inr (185, 12, 0, 0), .inr (k1, 21, n1, 0), .inl x2, .inl x3] σ = some (en_up (en_up (en_up (en_up (en_up σ 185 12 (Int32.ofNat (k1 + 1))) 185 13 x2) 185 14 x3) 185 15 0) 185 16 (-1)) := by
  rw [o_X12_begin, t_X12_begin_0]; rfl
theorem r_tires {g : pG} {x : pS} {r many k : Nat} {σ : en_M} (hg : GV g) (hc : MG σ g) (hp : PMf (gN g) (sF x)) (hr : r < gN g) (hF : FRow (gN g) (σ k) 0 (sF x)) (hT : σ k (7 + r) = sT x r) (hN : σ k 28 = Int32.ofNat (sN x)) (hS : σ k (14 + r) = sS x r) (hk : k ≠ 185) (hk2 : k ≠ 193) :
    ∃ σ', O_X12_tires [.inr (185, 12, 0, 0), .inr (k, 20, 53, 0), .inl (Int32.ofNat r), .inl (Int32.ofNat many)] σ = some (tir g x r many, σ') ∧ (∀ c, c ≠ 185 → c ≠ 193 → σ' c = σ c) ∧ ∀ j, j < 12 ∨ 16 < j → j ≠ 20 → σ' 185 j = σ 185 j := by
  have hn := hg.1
  have hV := hg.2.2.2.2.2.2.2
  obtain ⟨c1, c2, c3, c4, c5, c6, c7⟩ := hc
  have ir := pn_ix (show r < 7 by omega) (show r < 2147483648 by omega)
  rw [o_X12_tires, t_X12_tires_0, ir, Option.bind_some, if_neg (by decide)]
  rcases c7 with ⟨b1, b2⟩ | ⟨⟨z, z1, z2, z3⟩, b2⟩
  · rw [b1, if_neg (by decide), q_min, Option.bind_some]
    dsimp only
    rw [q_max, Option.bind_some, c2 r hr]
    refine ⟨σ, ?_, fun _ _ _ => rfl, fun _ _ _ => rfl⟩
    show some ((pclamp (gW g r / 2 + 1), σ) : Int32 × en_M) = some (pclamp (gV g (thg g x r many)), σ)
    rw [b2]; rfl
  · have hq := plc_lt hp (show r < 7 by omega)
    have hqn := plc_ltn hp hn hr
    have i0 : en_ix 0 7 = some 0 := pn_ix (k := 0) (by omega) (by omega)
    have i1 : en_ix 1 7 = some 1 := pn_ix (k := 1) (by omega) (by omega)
    have i2 : en_ix 2 7 = some 2 := pn_ix (k := 2) (by omega) (by omega)
    have i3 : en_ix 3 7 = some 3 := pn_ix (k := 3) (by omega) (by omega)
    have i4 : en_ix 4 7 = some 4 := pn_ix (k := 4) (by omega) (by omega)
    have i5 : en_ix 5 7 = some 5 := pn_ix (k := 5) (by omega) (by omega)
    have i6 : en_ix 6 7 = some 6 := pn_ix (k := 6) (by omega) (by omega)
    have i28 : en_ix 28 53 = some 28 := pn_ix (k := 28) (by omega) (by omega)
    have i7r : en_ix (7 + Int32.ofNat r) 53 = some (7 + r) := by rw [show (7 : Int32) + Int32.ofNat r = Int32.ofNat (7 + r) from pn_add 7 r]; exact pn_ix (by omega) (by omega)
    have i14r : en_ix (14 + Int32.ofNat r) 53 = some (14 + r) := by rw [show (14 : Int32) + Int32.ofNat r = Int32.ofNat (14 + r) from pn_add 14 r]; exact pn_ix (by omega) (by omega)
    rw [z3, if_pos (by rw [show (0 : Int32) = Int32.ofNat 0 from rfl, pn_lt (by omega) (by omega)]; omega)]
    have hpl : ∀ τ : en_M, τ k = σ k → O_X12_placeOf [.inr (185, 12, 0, 0), .inr (k, 20, 53, 0), .inl (Int32.ofNat r)] τ = some (Int32.ofNat (plc (sF x) r), τ) := fun τ h => by
      have := r_placeOf (σ := τ) hp hn hqn (by rw [h]; exact hF)
      rwa [hq.2] at this
    simp only [ir, i0, i1, i2, i3, i4, i5, i6, i28, i7r, i14r, Option.bind_some]
    rw [hpl _ (by rw [pu_row hk2, pu_row hk2]), Option.bind_some]
    simp (disch := omega) only [pu_cell, c2 r hr, hT, hN, hS, z3]
    rw [r_begin, Option.bind_some, if_pos (by decide)]
    generalize hσ1 : en_up (en_up (en_up (en_up (en_up (en_up (en_up σ 193 0 (gW g r)) 193 1 (sT x r)) 193 2 (Int32.ofNat (plc (sF x) r))) 193 3 (Int32.ofNat (sN x))) 193 4 (Int32.ofNat r)) 193 5 (sS x r)) 193 6 (Int32.ofNat many) = σ1
    have hoff1 : ∀ c, c ≠ 193 → σ1 c = σ c := fun c h => by
      rw [← hσ1]
      simp only [pu_row h]
    generalize hσ2 : en_up (en_up (en_up (en_up (en_up (en_up σ1 185 12 (Int32.ofNat (192 + 1))) 185 13 (Int32.ofNat z)) 185 14 40) 185 15 0) 185 16 (-1)) 185 20 1 = σ2
    have hoff : ∀ c, c ≠ 193 → c ≠ 185 → σ2 c = σ c := fun c h h2 => by
      rw [← hσ2]
      simp only [pu_row h2]
      exact hoff1 c h
    have hth : gV g (σ2 193) = gV g (thg g x r many) := by
      refine hV _ _ (fun i hi => ?_)
      rw [← hσ2]
      simp (disch := omega) only [pu_cell]
      rw [← hσ1]
      match i, hi with
      | 0, _ => simp (disch := omega) only [pu_slot, pu_same]; rfl
      | 1, _ => simp (disch := omega) only [pu_slot, pu_same]; rfl
      | 2, _ => simp (disch := omega) only [pu_slot, pu_same]; rfl
      | 3, _ => simp (disch := omega) only [pu_slot, pu_same]; rfl
      | 4, _ => simp (disch := omega) only [pu_slot, pu_same]; rfl
      | 5, _ => simp (disch := omega) only [pu_slot, pu_same]; rfl
      | 6, _ => simp (disch := omega) only [pu_same]; rfl
    obtain ⟨σ3, hh1, hh2, hh3⟩ := b2 σ2 (by rw [← hσ2]; simp (disch := omega) only [pu_slot]; rw [hoff1 185 (by omega)]) (hoff 192 (by omega) (by omega)) (by rw [← hσ2, pu_same]) (by rw [← hσ2]; simp (disch := omega) only [pu_slot, pu_same]; rfl) (by rw [← hσ2]; simp (disch := omega) only [pu_slot, pu_same]; rw [z3]) (by rw [← hσ2]; simp (disch := omega) only [pu_slot, pu_same]) (by rw [← hσ2]; simp (disch := omega) only [pu_slot, pu_same]) (by rw [← hσ2]; simp (disch := omega) only [pu_slot, pu_same])
    rw [hh1, Option.bind_some, if_pos (by decide)]
    dsimp only
    rw [q_min, Option.bind_some]
    dsimp only
    rw [q_max, Option.bind_some]
    refine ⟨en_up σ3 185 20 0, ?_, fun c h1 h2 => ?_, fun j h1 h2 => ?_⟩
    · rw [hth]; rfl
    · rw [pu_row h1, hh2 c h1, hoff c h2 h1]
    · rw [pu_slot h2, hh3 j (by omega) (by omega), ← hσ2]
      simp (disch := omega) only [pu_slot]
      rw [hoff1 185 (by omega)]
/-- what a round leaves of the reference's memory -/
def MFr (k : Nat) (σ σ' : en_M) : Prop := (∀ c, c ≠ 185 → c ≠ 193 → c ≠ k → σ' c = σ c) ∧ ∀ j, j < 12 ∨ 16 < j → j ≠ 20 → j ≠ 25 → j ≠ 26 → σ' 185 j = σ 185 j
theorem MFr.refl (k : Nat) (σ : en_M) : MFr k σ σ := ⟨fun _ _ _ _ => rfl, fun _ _ _ _ _ => rfl⟩
theorem MFr.trans {k : Nat} {a b c : en_M} (h1 : MFr k a b) (h2 : MFr k b c) : MFr k a c := ⟨fun q x y z => (h2.1 q x y z).trans (h1.1 q x y z), fun j x y z w => (h2.2 j x y z w).trans (h1.2 j x y z w)⟩
theorem MG.fr {k : Nat} {σ σ' : en_M} {g : pG} (h : MG σ g) (hf : MFr k σ σ') (hk : k = 186 ∨ k = 198) : MG σ' g :=
  h.kept (fun j hj => hf.2 j (by omega) (by omega) (by omega) (by omega)) (hf.2 19 (by omega) (by omega) (by omega) (by omega)) (hf.1 187 (by omega) (by omega) (by omega)) (hf.1 188 (by omega) (by omega) (by omega)) (hf.1 192 (by omega) (by omega) (by omega))
theorem pu_off (σ : en_M) (k o i r : Nat) (v : Int32) : en_up σ k (o + i) v k (o + r) = if r = i then v else σ k (o + r) := by
  rw [pu_at]
  by_cases h : r = i
  · subst h; rw [if_pos rfl, if_pos rfl]
  · rw [if_neg h, if_neg (by omega)]
def n1T (g : pG) (x : pS) (s r : Nat) : Int32 := if s.testBit r = true then sT x r else nxT g x s r
/-- the first loop of the reference's round: those that ring -/
def RJ (g : pG) (x : pS) (s k : Nat) (σ : en_M) (i : Nat) (τ : en_M) : Prop :=
  MFr k σ τ ∧ τ 185 25 = σ 185 25 ∧ (∀ j, j < 7 ∨ 14 ≤ j ∧ j < 21 ∨ 28 ≤ j → τ k j = σ k j) ∧ τ 185 26 = Int32.ofNat (drN g x s i) ∧
  (∀ r, r < 7 → τ k (7 + r) = if r < i then n1T g x s r else sT x r) ∧ ∀ r, r < 7 → τ k (21 + r) = if r < i then nxR g x s r else sR x r
theorem r_round1 {g : pG} {x : pS} {s k : Nat} {σ : en_M} (hg : GV g) (hc : MG σ g) (hp : PMf (gN g) (sF x)) (hs : s < 2 ^ gN g) (hk : k = 186 ∨ k = 198) (hM : MSr (gN g) (σ k) x) {m i : Nat} (hi : i < gN g) (u : en_V) (τ : en_M) (hR : RJ g x s k σ i τ) :
    ∃ u' τ', T_X12_goRound_23 (m + 1) k (Int32.ofNat s) (Int32.ofNat (pcn s)) (Int32.ofNat i) u τ = T_X12_goRound_23 m k (Int32.ofNat s) (Int32.ofNat (pcn s)) (Int32.ofNat (i + 1)) u' τ' ∧ RJ g x s k σ (i + 1) τ' := by
  have hn := hg.1
  have h128 := p2lt hn
  obtain ⟨r1, r2, r3, r4, r5, r6⟩ := hR
  have hcτ : MG τ g := hc.fr r1 hk
  have t5 := r5 i (by omega)
  have t6 := r6 i (by omega)
  rw [if_neg (Nat.lt_irrefl i)] at t5 t6
  rw [t_X12_goRound_23, hcτ.1, if_pos ((pn_lt (by omega) (by omega)).mpr hi), q_has, Option.bind_some, pn_a1]
  simp only [pb2_0, pb_bit1 (show s < 2147483648 by omega) (show i < 32 by omega)]
  have i7 : en_ix (7 + Int32.ofNat i) 53 = some (7 + i) := by rw [show (7 : Int32) + Int32.ofNat i = Int32.ofNat (7 + i) from pn_add 7 i]; exact pn_ix (by omega) (by omega)
  have i21 : en_ix (21 + Int32.ofNat i) 53 = some (21 + i) := by rw [show (21 : Int32) + Int32.ofNat i = Int32.ofNat (21 + i) from pn_add 21 i]; exact pn_ix (by omega) (by omega)
  by_cases hb : s.testBit i = true
  · rw [if_neg (fun q => q hb)]
    refine ⟨_, _, rfl, r1, r2, r3, ?_, fun r hr => pt_no r5 (by unfold n1T; rw [if_pos hb]) r hr, fun r hr => pt_no r6 (by unfold nxR; rw [if_neg (fun q => q.1 hb)]) r hr⟩
    rw [r4, drN_s, if_neg (fun q => q.1 hb), Nat.or_zero]
  · rw [if_pos hb]
    obtain ⟨τ2, hm1, hm2, hm3⟩ := r_tires (many := pcn s) hg hcτ hp hi (k := k) (fun p hp' => by rw [Nat.zero_add, r3 p (by omega)]; have := hM.1 p hp'; rwa [Nat.zero_add] at this) t5 (by rw [r3 28 (by omega)]; exact hM.2.2.1) (by rw [r3 (14 + i) (by omega)]; exact (hM.2.1 i (by omega)).2.1) (by omega) (by omega)
    have f1 : τ2 k = τ k := hm2 k (by omega) (by omega)
    simp only [i7, i21, Option.bind_some, hm1, q_min, t5]
    have htv : sT x i + tir g x i (pcn s) = tiv g x s i := rfl
    simp only [htv]
    by_cases hd : 99 < tiv g x s i
    · simp only [if_pos hd]
      refine ⟨_, _, rfl, ⟨fun c h1 h2 h3 => ?_, fun j h1 h2 h3 h4 => ?_⟩, ?_, fun j hj => ?_, ?_, ?_, ?_⟩
      · rw [pu_row h3, pu_row h3, pu_row h1, hm2 c h1 h2]; exact r1.1 c h1 h2 h3
      · rw [pu_cell (by omega), pu_cell (by omega), pu_slot (by omega), hm3 j h1 h2]; exact r1.2 j h1 h2 h3 h4
      · rw [pu_cell (by omega), pu_cell (by omega), pu_slot (by omega), hm3 25 (by omega) (by omega)]; exact r2
      · rw [pu_slot (by omega), pu_slot (by omega), pu_cell (by omega), f1]; exact r3 j hj
      · rw [pu_cell (by omega), pu_cell (by omega), pu_same, hm3 26 (by omega) (by omega), r4, pb_1 (by omega), pn_or, drN_s, if_pos ⟨hb, hd⟩]
      · intro r hr
        rw [pu_off, pu_slot (by omega), pu_cell (by omega), f1]
        exact pt_set r5 (by unfold n1T nxT; rw [if_neg hb, if_neg hb]) r hr
      · intro r hr
        rw [pu_slot (by omega), pu_off, pu_cell (by omega), pu_cell (by omega), f1]
        exact pt_set r6 (by unfold nxR; rw [if_pos ⟨hb, hd⟩, t6]) r hr
    · simp only [if_neg hd]
      refine ⟨_, _, rfl, ⟨fun c h1 h2 h3 => ?_, fun j h1 h2 h3 h4 => ?_⟩, ?_, fun j hj => ?_, ?_, ?_, ?_⟩
      · rw [pu_row h3, hm2 c h1 h2]; exact r1.1 c h1 h2 h3
      · rw [pu_cell (by omega), hm3 j h1 h2]; exact r1.2 j h1 h2 h3 h4
      · rw [pu_cell (by omega), hm3 25 (by omega) (by omega)]; exact r2
      · rw [pu_slot (by omega), f1]; exact r3 j hj
      · rw [pu_cell (by omega), hm3 26 (by omega) (by omega), r4, drN_s, if_neg (fun q => hd q.2), Nat.or_zero]
      · intro r hr
        rw [pu_off, f1]
        exact pt_set r5 (by unfold n1T nxT; rw [if_neg hb, if_neg hb]) r hr
      · intro r hr
        rw [pu_slot (by omega), f1]
        exact pt_no r6 (by unfold nxR; rw [if_neg (fun q => hd q.2)]) r hr
/-- the second loop: those that miss -/
def RK (g : pG) (x : pS) (s k : Nat) (σ : en_M) (i : Nat) (τ : en_M) : Prop :=
  MFr k σ τ ∧ τ 185 25 = σ 185 25 ∧ τ 185 26 = σ 185 26 ∧ (∀ j, j < 7 ∨ 21 ≤ j → τ k j = σ k j) ∧
  (∀ r, r < 7 → τ k (7 + r) = if r < i then nxT g x s r else if r < gN g then n1T g x s r else sT x r) ∧ ∀ r, r < 7 → τ k (14 + r) = if r < i then nxS x s r else sS x r
theorem r_round2 {g : pG} {x : pS} {s k : Nat} {σ : en_M} (hg : GV g) (hc : MG σ g) (hs : s < 2 ^ gN g) (hk : k = 186 ∨ k = 198) (x3 : Int32) {m i : Nat} (hi : i < gN g) (u : en_V) (τ : en_M) (hR : RK g x s k σ i τ) :
    ∃ u' τ', T_X12_goRound_116 (m + 1) k (Int32.ofNat s) x3 (Int32.ofNat i) u τ = T_X12_goRound_116 m k (Int32.ofNat s) x3 (Int32.ofNat (i + 1)) u' τ' ∧ RK g x s k σ (i + 1) τ' := by
  have hn := hg.1
  have h128 := p2lt hn
  obtain ⟨r1, r2, r3, r4, r5, r6⟩ := hR
  have hcτ : MG τ g := hc.fr r1 hk
  have t5 := r5 i (by omega)
  have t6 := r6 i (by omega)
  rw [if_neg (Nat.lt_irrefl i)] at t5 t6
  rw [if_pos hi] at t5
  rw [t_X12_goRound_116, hcτ.1, if_pos ((pn_lt (by omega) (by omega)).mpr hi), q_has, Option.bind_some, pn_a1]
  simp only [pb2_0, pb_bit1 (show s < 2147483648 by omega) (show i < 32 by omega)]
  have i7 : en_ix (7 + Int32.ofNat i) 53 = some (7 + i) := by rw [show (7 : Int32) + Int32.ofNat i = Int32.ofNat (7 + i) from pn_add 7 i]; exact pn_ix (by omega) (by omega)
  have i14 : en_ix (14 + Int32.ofNat i) 53 = some (14 + i) := by rw [show (14 : Int32) + Int32.ofNat i = Int32.ofNat (14 + i) from pn_add 14 i]; exact pn_ix (by omega) (by omega)
  by_cases hb : s.testBit i = true
  · rw [if_neg (fun q => q hb)]
    have t7 : τ k (7 + i) = sT x i := by rw [t5]; unfold n1T; rw [if_pos hb]
    simp only [i7, i14, Option.bind_some, q_max]
    have e1 : en_up τ k (14 + i) (τ k (14 + i) + 1) k (7 + i) = sT x i := by rw [pu_slot (by omega), t7]
    have e2 : en_up τ k (14 + i) (τ k (14 + i) + 1) 185 6 = Int32.ofNat (gR g) := by rw [pu_cell (by omega)]; exact hcτ.2.2.2.1
    rw [e1, e2]
    refine ⟨_, _, rfl, ⟨fun c h1 h2 h3 => ?_, fun j h1 h2 h3 h4 => ?_⟩, ?_, ?_, fun j hj => ?_, ?_, ?_⟩
    · rw [pu_row h3, pu_row h3]; exact r1.1 c h1 h2 h3
    · rw [pu_cell (by omega), pu_cell (by omega)]; exact r1.2 j h1 h2 h3 h4
    · rw [pu_cell (by omega), pu_cell (by omega)]; exact r2
    · rw [pu_cell (by omega), pu_cell (by omega)]; exact r3
    · rw [pu_slot (by omega), pu_slot (by omega)]; exact r4 j hj
    · intro r hr
      rw [pu_off, pu_slot (by omega)]
      exact pt_set (old := fun r => if r < gN g then n1T g x s r else sT x r) r5 (by unfold nxT; rw [if_pos hb]) r hr
    · intro r hr
      rw [pu_slot (by omega), pu_off]
      exact pt_set r6 (by unfold nxS; rw [if_pos hb, t6]) r hr
  · rw [if_pos hb]
    refine ⟨_, _, rfl, r1, r2, r3, r4, fun r hr => pt_no (old := fun r => if r < gN g then n1T g x s r else sT x r) r5 (by show nxT g x s i = (if i < gN g then n1T g x s i else sT x i); rw [if_pos hi]; unfold n1T; rw [if_neg hb]) r hr, fun r hr => pt_no r6 (by unfold nxS; rw [if_neg hb]) r hr⟩
