/-! the abstract state: a night (order, now, deaths, who, where, tired, slept, drifts, missed) and a tower (bells, weights, changes, how many, most, rest, the rule) -/
abbrev pS : Type := (Nat → Nat) × Nat × Int32 × Nat × Nat × (Nat → Int32) × (Nat → Int32) × (Nat → Int32) × (Nat → Nat)
def sF (x : pS) : Nat → Nat := x.1
def sN (x : pS) : Nat := x.2.1
def sD (x : pS) : Int32 := x.2.2.1
def sW (x : pS) : Nat := x.2.2.2.1
def sP (x : pS) : Nat := x.2.2.2.2.1
def sT (x : pS) : Nat → Int32 := x.2.2.2.2.2.1
def sS (x : pS) : Nat → Int32 := x.2.2.2.2.2.2.1
def sR (x : pS) : Nat → Int32 := x.2.2.2.2.2.2.2.1
def sM (x : pS) : Nat → Nat := x.2.2.2.2.2.2.2.2
abbrev pG : Type := Nat × (Nat → Int32) × (Nat → Nat) × Nat × Nat × Nat × ((Nat → Int32) → Int32)
def gN (g : pG) : Nat := g.1
def gW (g : pG) : Nat → Int32 := g.2.1
def gC (g : pG) : Nat → Nat := g.2.2.1
def gM (g : pG) : Nat := g.2.2.2.1
def gT (g : pG) : Nat := g.2.2.2.2.1
def gR (g : pG) : Nat := g.2.2.2.2.2.1
def gV (g : pG) : (Nat → Int32) → Int32 := g.2.2.2.2.2.2
def VX (V : (Nat → Int32) → Int32) : Prop := ∀ a b : Nat → Int32, (∀ i, i < 7 → a i = b i) → V a = V b
def GV (g : pG) : Prop := gN g ≤ 7 ∧ 1 ≤ gM g ∧ gM g ≤ 20 ∧ (∀ j, j < gM g → gC g j < 128) ∧ 1 ≤ gT g ∧ gT g < 100 ∧ gR g < 100 ∧ VX (gV g)
def VS (n B : Nat) (x : pS) : Prop := PMf n (sF x) ∧ sN x ≤ B ∧ sW x < 2 ^ n ∧ sP x < 2 ^ n ∧ (∀ j, j < 20 → sM x j < 2 ^ n) ∧ ∀ r, n ≤ r → r < 7 → sT x r = 0 ∧ sS x r = 0 ∧ sR x r = 0
/-- the class's state object at cell k -/
def CS (σ : en_M) (k : Nat) (x : pS) : Prop := σ k 4 = Int32.ofNat (pkN (sF x)) ∧ σ k 5 = Int32.ofNat (sN x) ∧ σ k 6 = sD x ∧ σ k 7 = Int32.ofNat (sW x) ∧ σ k 8 = Int32.ofNat (sP x) ∧
  (∀ r, r < 7 → σ (k + 1) r = sT x r ∧ σ (k + 2) r = sS x r ∧ σ (k + 3) r = sR x r) ∧ ∀ j, j < 20 → j < sN x → σ (k + 4) ((sN x - 1 - j) % 20) = Int32.ofNat (sM x j)
theorem CS.kept {σ σ' : en_M} {k : Nat} {x : pS} (h : CS σ k x) (h0 : ∀ j, j < 9 → σ' k j = σ k j) (h1 : σ' (k + 1) = σ (k + 1)) (h2 : σ' (k + 2) = σ (k + 2)) (h3 : σ' (k + 3) = σ (k + 3)) (h4 : σ' (k + 4) = σ (k + 4)) : CS σ' k x := by
  obtain ⟨a1, a2, a3, a4, a5, a6, a7⟩ := h
  refine ⟨by rw [h0 4 (by omega)]; exact a1, by rw [h0 5 (by omega)]; exact a2, by rw [h0 6 (by omega)]; exact a3, by rw [h0 7 (by omega)]; exact a4, by rw [h0 8 (by omega)]; exact a5, fun r hr => ?_, fun j hj hj2 => ?_⟩
  · rw [h1, h2, h3]; exact a6 r hr
  · rw [h4]; exact a7 j hj hj2
/-- the class's rule -/
def CRule (σ : en_M) (V : (Nat → Int32) → Int32) : Prop := ∀ σ1 : en_M, σ1 10 4 = σ 10 4 → σ1 11 = σ 11 → ∃ row, O_X6_value [.inr (10, 6, 0, 0)] σ1 = some (V (σ1 14), pst σ1 13 row)
/-- the class's tower -/
def CG (σ : en_M) (g : pG) : Prop := σ 5 3 = Int32.ofNat (gN g) ∧ (∀ r, r < gN g → σ 6 r = gW g r) ∧ σ 5 4 = (if gN g = 0 then -1 else Int32.ofNat (tnN (gW g) (gN g))) ∧ σ 5 5 = Int32.ofNat (gT g) ∧ σ 5 6 = Int32.ofNat (gR g) ∧
  σ 7 2 = Int32.ofNat (gM g) ∧ (∀ j, j < gM g → σ 8 j = Int32.ofNat (gC g j)) ∧ CRule σ (gV g)
theorem CG.kept {σ σ' : en_M} {g : pG} (h : CG σ g) (h5 : σ' 5 = σ 5) (h6 : σ' 6 = σ 6) (h7 : σ' 7 = σ 7) (h8 : σ' 8 = σ 8) (h10 : σ' 10 4 = σ 10 4) (h11 : σ' 11 = σ 11) : CG σ' g := by
  obtain ⟨a1, a2, a3, a4, a5, a6, a7, a8⟩ := h
  unfold CG
  rw [h5, h6, h7, h8]
  exact ⟨a1, a2, a3, a4, a5, a6, a7, fun σ1 e1 e2 => a8 σ1 (by rw [e1, h10]) (by rw [e2, h11])⟩
/-- where bell b sounds -/
def plc (f : Nat → Nat) (b : Nat) : Nat := pwq f b 6 0
theorem plc_of {n : Nat} {f : Nat → Nat} {q : Nat} (hp : PMf n f) (hq : q < 7) : plc f (f q) = q :=
  pwq_at 6 0 (Nat.zero_le _) (by omega) rfl (fun r _ hr e => by have := hp.2.1 r q (by omega) hq e; omega)
theorem plc_lt {n : Nat} {f : Nat → Nat} {b : Nat} (hp : PMf n f) (hb : b < 7) : plc f b < 7 ∧ f (plc f b) = b := by
  obtain ⟨q, hq, e⟩ := hp.2.2.2 b hb
  subst e
  rw [plc_of hp hq]
  exact ⟨hq, rfl⟩
theorem plc_ltn {n : Nat} {f : Nat → Nat} {b : Nat} (hp : PMf n f) (hn : n ≤ 7) (hb : b < n) : plc f b < n := by
  have h := plc_lt hp (show b < 7 by omega)
  refine Nat.lt_of_not_le fun hc => ?_
  have := hp.2.2.1 _ hc h.1
  omega
/-- the rule's things of ringer r, when many miss -/
def thg (g : pG) (x : pS) (r many : Nat) : Nat → Int32 := fun i => if i = 0 then gW g r else if i = 1 then sT x r else if i = 2 then Int32.ofNat (plc (sF x) r) else if i = 3 then Int32.ofNat (sN x) else if i = 4 then Int32.ofNat r else if i = 5 then sS x r else Int32.ofNat many
def tir (g : pG) (x : pS) (r many : Nat) : Int32 := pclamp (gV g (thg g x r many))
/-- what a ringer's tired would be, before it is put to 99 -/
def tiv (g : pG) (x : pS) (s r : Nat) : Int32 := sT x r + tir g x r (pcn s)
/-- who drifts, among the first r -/
def drN (g : pG) (x : pS) (s : Nat) : Nat → Nat
  | 0 => 0
  | r + 1 => drN g x s r ||| (if ¬ s.testBit r = true ∧ 99 < tiv g x s r then 2 ^ r else 0)
def lawS (g : pG) (x : pS) (s : Nat) : Nat := lawN (gT g) (tnN (gW g) (gN g)) s (plN (sF x) s (gN g)) (sW x) (sP x) (sN x)
/-- the next order -/
def nxF (g : pG) (f : Nat → Nat) (N : Nat) : Nat → Nat := pch (gC g (N % gM g)) (gN g) 7 0 f
/-- the tired, slept, drifts of a ringer behind a round -/
def nxT (g : pG) (x : pS) (s r : Nat) : Int32 := if s.testBit r = true then (if 0 < sT x r - Int32.ofNat (gR g) then sT x r - Int32.ofNat (gR g) else 0) else if tiv g x s r < 99 then tiv g x s r else 99
def nxS (x : pS) (s r : Nat) : Int32 := if s.testBit r = true then sS x r + 1 else sS x r
def nxR (g : pG) (x : pS) (s r : Nat) : Int32 := if ¬ s.testBit r = true ∧ 99 < tiv g x s r then sR x r + 1 else sR x r
/-- a round goes by -/
def nx (g : pG) (x : pS) (s : Nat) : pS := (nxF g (sF x) (sN x), sN x + 1, sD x + (if lawS g x s = 0 then 0 else 1), s, plN (sF x) s (gN g), (fun r => if r < gN g then nxT g x s r else sT x r), (fun r => if r < gN g then nxS x s r else sS x r), (fun r => if r < gN g then nxR g x s r else sR x r), fun j => if j = 0 then s else sM x (j - 1))
theorem nx_VS {g : pG} {x : pS} {s B : Nat} (hg : GV g) (h : VS (gN g) B x) (hs : s < 2 ^ gN g) : VS (gN g) (B + 1) (nx g x s) := by
  obtain ⟨a1, a2, a3, a4, a5, a6⟩ := h
  refine ⟨pch_PMf hg.1 7 0 _ a1, Nat.succ_le_succ a2, hs, plN_lt _ _ _, fun j hj => ?_, fun r hr hr7 => ?_⟩
  · show (if j = 0 then s else sM x (j - 1)) < _
    split
    · exact hs
    · exact a5 _ (by omega)
  · have := a6 r hr hr7
    refine ⟨?_, ?_, ?_⟩
    · show (if r < gN g then _ else sT x r) = 0
      rw [if_neg (by omega)]; exact this.1
    · show (if r < gN g then _ else sS x r) = 0
      rw [if_neg (by omega)]; exact this.2.1
    · show (if r < gN g then _ else sR x r) = 0
      rw [if_neg (by omega)]; exact this.2.2
theorem q_moreTired {g : pG} {x : pS} {r many k : Nat} {σ : en_M} (hg : GV g) (hc : CG σ g) (a1 : σ k 4 = Int32.ofNat (pkN (sF x))) (a2 : σ k 5 = Int32.ofNat (sN x)) (hT : σ (k + 1) r = sT x r) (hS : σ (k + 2) r = sS x r) (hp : PMf (gN g) (sF x)) (hr : r < gN g) (hk : 14 < k) : ∃ σ', O_X10_moreTired [.inr (5, 10, 0, 0), .inr (k, 7, 0, 0), .inl (Int32.ofNat r), .inl (Int32.ofNat many)] σ = some (tir g x r many, σ') ∧ ∀ c, c ≠ 13 → c ≠ 14 → σ' c = σ c := by
  have hn := hg.1
  have hV := hg.2.2.2.2.2.2.2
  obtain ⟨c1, c2, c3, c4, c5, c6, c7, c8⟩ := hc
  have hq := plc_lt hp (show r < 7 by omega)
  have i0 : en_ix 0 7 = some 0 := pn_ix (k := 0) (by omega) (by omega)
  have i1 : en_ix 1 7 = some 1 := pn_ix (k := 1) (by omega) (by omega)
  have i2 : en_ix 2 7 = some 2 := pn_ix (k := 2) (by omega) (by omega)
  have i3 : en_ix 3 7 = some 3 := pn_ix (k := 3) (by omega) (by omega)
  have i4 : en_ix 4 7 = some 4 := pn_ix (k := 4) (by omega) (by omega)
  have i5 : en_ix 5 7 = some 5 := pn_ix (k := 5) (by omega) (by omega)
  have i6 : en_ix 6 7 = some 6 := pn_ix (k := 6) (by omega) (by omega)
  have hpl : ∀ τ : en_M, O_X11_placeOf [.inl (Int32.ofNat (pkN (sF x))), .inl (Int32.ofNat r)] τ = some (Int32.ofNat (plc (sF x) r), τ) := fun τ => by
    have := q_placeOf hp hq.1 τ
    rwa [hq.2] at this
  rw [o_X10_moreTired, t_X10_moreTired_0]
  simp only [pn_ix (show r < 7 by omega) (show r < 2147483648 by omega), i0, i1, i2, i3, i4, i5, i6, Option.bind_some]
  simp (disch := omega) only [pu_cell, c2 r hr, hT, hS, a1, a2, hpl, Option.bind_some]
  generalize hσ1 : en_up (en_up (en_up (en_up (en_up (en_up (en_up σ 14 0 (gW g r)) 14 1 (sT x r)) 14 2 (Int32.ofNat (plc (sF x) r))) 14 3 (Int32.ofNat (sN x))) 14 4 (Int32.ofNat r)) 14 5 (sS x r)) 14 6 (Int32.ofNat many) = σ1
  have hoff : ∀ c, c ≠ 14 → σ1 c = σ c := fun c h => by
    rw [← hσ1]
    simp only [pu_row h]
  have hth : gV g (σ1 14) = gV g (thg g x r many) := by
    refine hV _ _ (fun i hi => ?_)
    rw [← hσ1]
    match i, hi with
    | 0, _ => simp (disch := omega) only [pu_slot, pu_same]; rfl
    | 1, _ => simp (disch := omega) only [pu_slot, pu_same]; rfl
    | 2, _ => simp (disch := omega) only [pu_slot, pu_same]; rfl
    | 3, _ => simp (disch := omega) only [pu_slot, pu_same]; rfl
    | 4, _ => simp (disch := omega) only [pu_slot, pu_same]; rfl
    | 5, _ => simp (disch := omega) only [pu_slot, pu_same]; rfl
    | 6, _ => simp (disch := omega) only [pu_same]; rfl
  obtain ⟨row, hrow⟩ := c8 σ1 (by rw [hoff 10 (by omega)]) (hoff 11 (by omega))
  rw [hrow, Option.bind_some]
  dsimp only
  rw [q_put, Option.bind_some]
  refine ⟨pst σ1 13 row, ?_, fun c h13 h14 => ?_⟩
  · rw [hth]; rfl
  · rw [pst_ne h13, hoff c h14]
