/-! the whole of an object, abstractly: the tower, the text, the row, the night, what can be undone, what is kept -/
abbrev pI : Type := pG × (Nat × (Nat → Nat)) × List Int32 × pS × List pS × (Nat → Bool × pS)
def iG (A : pI) : pG := A.1
def iL (A : pI) : Nat := A.2.1.1
def iX (A : pI) : Nat → Nat := A.2.1.2
def iR (A : pI) : List Int32 := A.2.2.1
def iS (A : pI) : pS := A.2.2.2.1
def iU (A : pI) : List pS := A.2.2.2.2.1
def iK (A : pI) : Nat → Bool × pS := A.2.2.2.2.2
def x0 : pS := (fun p => p, 0, 0, 0, 0, fun _ => 0, fun _ => 0, fun _ => 0, fun _ => 0)
def AV (B : Nat) (A : pI) : Prop := GV (iG A) ∧ (gN (iG A) = 0 ∨ 3 ≤ gN (iG A)) ∧ gT (iG A) ≤ 3 ∧ 1 ≤ gR (iG A) ∧ iL A ≤ 80 ∧ (∀ j, iX A j < 256) ∧ (iR A).length ≤ 14 ∧ VS (gN (iG A)) B (iS A) ∧ (iU A).length ≤ 12 ∧ (∀ i, i < (iU A).length → VS (gN (iG A)) B ((iU A).getD i x0)) ∧ ∀ i, i < 2 → (iK A i).1 = true → VS (gN (iG A)) B (iK A i).2
/-- the class's text, row, past, kept -/
def CT (σ : en_M) (L : Nat) (tx : Nat → Nat) : Prop := σ 1 1 = Int32.ofNat L ∧ ∀ j, j < L → σ 2 j = Int32.ofNat (tx j)
def CR (σ : en_M) (ro : List Int32) : Prop := σ 3 1 = Int32.ofNat ro.length ∧ ∀ j, j < ro.length → σ 4 j = ro.getD j 0
def CU (σ : en_M) (us : List pS) : Prop := σ 25 2 = Int32.ofNat us.length ∧ ∃ fs, fs < 12 ∧ σ 25 1 = Int32.ofNat fs ∧ ∀ i, i < us.length → CS σ (27 + 5 * ((fs + i) % 12)) (us.getD i x0)
def CK (σ : en_M) (kp : Nat → Bool × pS) : Prop := ∀ i, i < 2 → σ 89 i = (if (kp i).1 then 1 else 0) ∧ ((kp i).1 = true → CS σ (90 + 5 * i) (kp i).2)
def CI (σ : en_M) (A : pI) : Prop := CG σ (iG A) ∧ CT σ (iL A) (iX A) ∧ CR σ (iR A) ∧ CS σ 15 (iS A) ∧ CU σ (iU A) ∧ CK σ (iK A)
/-- the reference's -/
def byt (u : Nat) : Int32 := en_i2b (Int32.ofNat u)
def MT (σ : en_M) (L : Nat) (tx : Nat → Nat) : Prop := σ 185 8 = Int32.ofNat L ∧ ∀ j, j < L → σ 189 j = byt (tx j)
def MR (σ : en_M) (ro : List Int32) : Prop := σ 185 10 = Int32.ofNat ro.length ∧ ∀ j, j < ro.length → σ 190 j = ro.getD j 0
def MU (n : Nat) (σ : en_M) (us : List pS) : Prop := σ 185 23 = Int32.ofNat us.length ∧ ∀ i, i < us.length → MSr n (fun j => σ 194 (53 * i + j)) (us.getD i x0)
def MK (n : Nat) (σ : en_M) (kp : Nat → Bool × pS) : Prop := ∀ i, i < 2 → σ 208 i = (if (kp i).1 then 1 else 0) ∧ ((kp i).1 = true → MSr n (fun j => σ 207 (53 * i + j)) (kp i).2)
def MI (σ : en_M) (A : pI) : Prop := MG σ (iG A) ∧ MT σ (iL A) (iX A) ∧ MR σ (iR A) ∧ MSr (gN (iG A)) (σ 186) (iS A) ∧ MU (gN (iG A)) σ (iU A) ∧ MK (gN (iG A)) σ (iK A)
def FrC (σ σ' : en_M) : Prop := ∀ c, 185 ≤ c ∨ c = 181 → σ' c = σ c
def FrM (σ σ' : en_M) : Prop := ∀ c, c < 185 ∨ 209 ≤ c → σ' c = σ c
theorem CS.all {σ σ' : en_M} {k : Nat} {x : pS} (h : CS σ k x) (hf : ∀ j, j < 5 → σ' (k + j) = σ (k + j)) : CS σ' k x :=
  h.kept (fun j _ => by have := hf 0 (by omega); rw [Nat.add_zero] at this; rw [this]) (hf 1 (by omega)) (hf 2 (by omega)) (hf 3 (by omega)) (hf 4 (by omega))
theorem CI.fr {σ σ' : en_M} {A : pI} (h : CI σ A) (hf : FrM σ σ') : CI σ' A := by
  obtain ⟨h1, ⟨h2, h2'⟩, ⟨h3, h3'⟩, h4, ⟨h5, fs, h6, h7, h8⟩, h9⟩ := h
  have e : ∀ c, c < 185 → σ' c = σ c := fun c hc => hf c (Or.inl hc)
  refine ⟨h1.kept (e 5 (by omega)) (e 6 (by omega)) (e 7 (by omega)) (e 8 (by omega)) (by rw [e 10 (by omega)]) (e 11 (by omega)), ⟨by rw [e 1 (by omega)]; exact h2, fun j hj => by rw [e 2 (by omega)]; exact h2' j hj⟩, ⟨by rw [e 3 (by omega)]; exact h3, fun j hj => by rw [e 4 (by omega)]; exact h3' j hj⟩,
    h4.all (fun j hj => e _ (by omega)), ⟨by rw [e 25 (by omega)]; exact h5, fs, h6, by rw [e 25 (by omega)]; exact h7, fun i hi => (h8 i hi).all (fun j hj => e _ (by omega))⟩, fun i hi => ⟨by rw [e 89 (by omega)]; exact (h9 i hi).1, fun hk => ((h9 i hi).2 hk).all (fun j hj => e _ (by omega))⟩⟩
theorem MI.fr {σ σ' : en_M} {A : pI} (h : MI σ A) (hf : FrC σ σ') : MI σ' A := by
  obtain ⟨h1, ⟨h2, h2'⟩, ⟨h3, h3'⟩, h4, ⟨h5, h6⟩, h9⟩ := h
  refine ⟨h1.kept (fun j _ => by rw [hf 185 (by omega)]) (by rw [hf 185 (by omega)]) (hf 187 (by omega)) (hf 188 (by omega)) (hf 192 (by omega)), ⟨by rw [hf 185 (by omega)]; exact h2, fun j hj => by rw [hf 189 (by omega)]; exact h2' j hj⟩, ⟨by rw [hf 185 (by omega)]; exact h3, fun j hj => by rw [hf 190 (by omega)]; exact h3' j hj⟩,
    by rw [hf 186 (by omega)]; exact h4, ⟨by rw [hf 185 (by omega)]; exact h5, fun i hi => by rw [hf 194 (by omega)]; exact h6 i hi⟩, fun i hi => by rw [hf 208 (by omega), hf 207 (by omega)]; exact h9 i hi⟩
theorem FrC.refl (σ : en_M) : FrC σ σ := fun _ _ => rfl
theorem FrC.trans {a b c : en_M} (h : FrC a b) (h2 : FrC b c) : FrC a c := fun q hq => (h2 q hq).trans (h q hq)
theorem FrM.refl (σ : en_M) : FrM σ σ := fun _ _ => rfl
theorem FrM.trans {a b c : en_M} (h : FrM a b) (h2 : FrM b c) : FrM a c := fun q hq => (h2 q hq).trans (h q hq)
theorem FrC.up {σ : en_M} {k j : Nat} {v : Int32} (h : k < 185 ∧ k ≠ 181) : FrC σ (en_up σ k j v) := fun c hc => pu_row (by omega)
theorem FrM.up {σ : en_M} {k j : Nat} {v : Int32} (h : 185 ≤ k) (h2 : k < 209) : FrM σ (en_up σ k j v) := fun c hc => pu_row (by omega)
/-- the invariant of the law's loop: so many calls done -/
def pInv (c : Nat) (σ : en_M) : Prop := ∃ A, AV (2000 * c) A ∧ CI σ A ∧ MI σ A ∧ σ 181 0 = 0
theorem VS.mono {n B B' : Nat} {x : pS} (h : VS n B x) (hB : B ≤ B') : VS n B' x := ⟨h.1, Nat.le_trans h.2.1 hB, h.2.2⟩
theorem AV.mono {B B' : Nat} {A : pI} (h : AV B A) (hB : B ≤ B') : AV B' A := by
  obtain ⟨a1, a2, a3, a4, a5, a6, a7, a8, a9, a10, a11⟩ := h
  exact ⟨a1, a2, a3, a4, a5, a6, a7, a8.mono hB, a9, fun i hi => (a10 i hi).mono hB, fun i hi hk => (a11 i hi hk).mono hB⟩
theorem pInv.mono {c : Nat} {σ : en_M} (h : pInv c σ) : pInv (c + 1) σ := by
  obtain ⟨A, h1, h2, h3⟩ := h
  exact ⟨A, h1.mono (by omega), h2, h3⟩
theorem MI.fr0 {σ σ' : en_M} {A : pI} (h : MI σ A) (hf : ∀ c, 185 ≤ c → σ' c = σ c) : MI σ' A := by
  obtain ⟨h1, ⟨h2, h2'⟩, ⟨h3, h3'⟩, h4, ⟨h5, h6⟩, h9⟩ := h
  refine ⟨h1.kept (fun j _ => by rw [hf 185 (by omega)]) (by rw [hf 185 (by omega)]) (hf 187 (by omega)) (hf 188 (by omega)) (hf 192 (by omega)), ⟨by rw [hf 185 (by omega)]; exact h2, fun j hj => by rw [hf 189 (by omega)]; exact h2' j hj⟩, ⟨by rw [hf 185 (by omega)]; exact h3, fun j hj => by rw [hf 190 (by omega)]; exact h3' j hj⟩,
    by rw [hf 186 (by omega)]; exact h4, ⟨by rw [hf 185 (by omega)]; exact h5, fun i hi => by rw [hf 194 (by omega)]; exact h6 i hi⟩, fun i hi => by rw [hf 208 (by omega), hf 207 (by omega)]; exact h9 i hi⟩
/-- a call, out of its two sides -/
theorem p_two0 {c : Nat} {f g : en_M → Option (Int32 × en_M)} (hc : c < 512) (h : ∀ (A : pI) (σ : en_M), AV (2000 * c) A → 2000 * c ≤ 2000000 → σ 181 0 = 0 → ∃ v A', (CI σ A → ∃ σ', f σ = some (v, σ') ∧ CI σ' A' ∧ (∀ c, 185 ≤ c → σ' c = σ c) ∧ σ' 181 0 = 0) ∧ (∀ τ, MI τ A → ∃ τ', g τ = some (v, τ') ∧ MI τ' A' ∧ FrM τ τ') ∧ AV (2000 * (c + 1)) A') : en_two pInv c f g := by
  rintro σ ⟨A, h1, h2, h3, h4⟩
  obtain ⟨v, A', hf, hg, hA⟩ := h A σ h1 (by omega) h4
  obtain ⟨σ1, e1, i1, f1, z1⟩ := hf h2
  obtain ⟨σ2, e2, i2, f2⟩ := hg σ1 (h3.fr0 f1)
  exact ⟨v, σ1, σ2, e1, e2, A', hA, i1.fr f2, i2, by rw [f2 181 (by omega)]; exact z1⟩
theorem p_two {c : Nat} {f g : en_M → Option (Int32 × en_M)} (hc : c < 512) (h : ∀ (A : pI) (σ : en_M), AV (2000 * c) A → 2000 * c ≤ 2000000 → ∃ v A', (CI σ A → ∃ σ', f σ = some (v, σ') ∧ CI σ' A' ∧ FrC σ σ') ∧ (∀ τ, MI τ A → ∃ τ', g τ = some (v, τ') ∧ MI τ' A' ∧ FrM τ τ') ∧ AV (2000 * (c + 1)) A') : en_two pInv c f g :=
  p_two0 hc (fun A σ hA hB h0 => by
    obtain ⟨v, A', hf, hg, hA'⟩ := h A σ hA hB
    refine ⟨v, A', fun hC => ?_, hg, hA'⟩
    obtain ⟨σ', e1, e2, e3⟩ := hf hC
    exact ⟨σ', e1, e2, fun c hc => e3 c (Or.inl hc), by rw [e3 181 (Or.inr rfl)]; exact h0⟩)
/-- State.copy -/
theorem pc_cell' {σ : en_M} {src dst sp dp n a i : Nat} (h : a ≠ dst) : en_cp σ src dst sp dp n a i = σ a i := by rw [pc_cell h]
theorem q_copy {σ : en_M} {k0 k1 : Nat} {x : pS} (h : CS σ k1 x) (hd : k0 + 5 ≤ k1 ∨ k1 + 5 ≤ k0) : ∃ σ', O_X7_copy [.inr (k0, 7, 0, 0), .inr (k1, 7, 0, 0)] σ = some σ' ∧ CS σ' k0 x ∧ ∀ c, c < k0 ∨ k0 + 5 ≤ c → σ' c = σ c := by
  obtain ⟨a1, a2, a3, a4, a5, a6, a7⟩ := h
  rw [o_X7_copy, t_X7_copy_0, if_neg (by decide), if_pos (by decide), if_neg (by decide), if_pos (by decide), if_neg (by decide), if_pos (by decide), if_neg (by decide), if_pos (by decide)]
  simp only [show (0 : Int32).toNatClampNeg = 0 from rfl, show (7 : Int32).toNatClampNeg = 7 from rfl, show (20 : Int32).toNatClampNeg = 20 from rfl]
  refine ⟨_, rfl, ⟨?_, ?_, ?_, ?_, ?_, fun r hr => ⟨?_, ?_, ?_⟩, fun j hj hj2 => ?_⟩, fun c hc => ?_⟩
  · simp (disch := omega) only [pu_cell, pu_slot, pu_same, pc_cell']; exact a1
  · simp (disch := omega) only [pu_cell, pu_slot, pu_same, pc_cell']; exact a2
  · simp (disch := omega) only [pu_cell, pu_slot, pu_same, pc_cell']; exact a3
  · simp (disch := omega) only [pu_cell, pu_slot, pu_same, pc_cell']; exact a4
  · simp (disch := omega) only [pu_cell, pu_slot, pu_same, pc_cell']; exact a5
  · simp (disch := omega) only [pu_cell, pc_cell', pc_dst]; exact (a6 r hr).1
  · simp (disch := omega) only [pu_cell, pc_cell', pc_dst]; exact (a6 r hr).2.1
  · simp (disch := omega) only [pu_cell, pc_cell', pc_dst]; exact (a6 r hr).2.2
  · have hm := Nat.mod_lt (sN x - 1 - j) (show 20 > 0 by omega)
    simp (disch := omega) only [pu_cell, pc_cell', pc_dst]; exact a7 j hj hj2
  · have h0 : c ≠ k0 := by omega
    have h1 : c ≠ k0 + 1 := by omega
    have h2 : c ≠ k0 + 2 := by omega
    have h3 : c ≠ k0 + 3 := by omega
    have h4 : c ≠ k0 + 4 := by omega
    rw [pu_row h0, pu_row h0, pu_row h0, pu_row h0, pu_row h0, pu_row h0, pc_cell h4, pc_cell h3, pc_cell h2, pc_cell h1]
