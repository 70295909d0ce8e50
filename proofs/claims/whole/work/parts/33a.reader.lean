/-! the reference's reader -/
def hr (L mx : Nat) (tx : Nat → Nat) (p : Nat) : Int32 := if p < L ∧ p < mx then Int32.ofNat (tx p) else -1
abbrev inS (L mx : Nat) (tx : Nat → Nat) (p a m : Nat) : Prop := p < L ∧ p < mx ∧ a ≤ tx p ∧ tx p < a + m
def RD (τ : en_M) (b L mx : Nat) (tx : Nat → Nat) (p : Nat) (e : Int32) : Prop := τ 185 12 = Int32.ofNat (b + 1) ∧ τ 185 13 = Int32.ofNat L ∧ τ 185 14 = Int32.ofNat mx ∧ τ 185 15 = Int32.ofNat p ∧ τ 185 16 = e ∧ (∀ j, j < L → τ b j = byt (tx j)) ∧ (∀ j, tx j < 256) ∧ b < 210 ∧ (en_ka b).1 = 21 ∧ L ≤ (en_ka b).2.1 ∧ L ≤ 80 ∧ mx ≤ 80 ∧ b ≠ 185
theorem RD.at {τ b L mx tx p e} (h : RD τ b L mx tx p e) (p' : Nat) : RD (en_up τ 185 15 (Int32.ofNat p')) b L mx tx p' e := by
  obtain ⟨h1, h2, h3, h4, h5, h6, h7, h8, h9, h10, h11, h12, h13⟩ := h
  exact ⟨by rw [pu_slot (by omega)]; exact h1, by rw [pu_slot (by omega)]; exact h2, by rw [pu_slot (by omega)]; exact h3, pu_same _ _ _ _, by rw [pu_slot (by omega)]; exact h5, fun j hj => by rw [pu_cell h13]; exact h6 j hj, h7, h8, h9, h10, h11, h12, h13⟩
theorem RD.flt {τ b L mx tx p e} (h : RD τ b L mx tx p e) (e' : Int32) : RD (en_up τ 185 16 e') b L mx tx p e' := by
  obtain ⟨h1, h2, h3, h4, h5, h6, h7, h8, h9, h10, h11, h12, h13⟩ := h
  exact ⟨by rw [pu_slot (by omega)]; exact h1, by rw [pu_slot (by omega)]; exact h2, by rw [pu_slot (by omega)]; exact h3, by rw [pu_slot (by omega)]; exact h4, pu_same _ _ _ _, fun j hj => by rw [pu_cell h13]; exact h6 j hj, h7, h8, h9, h10, h11, h12, h13⟩
theorem RD.fr {τ τ' b L mx tx p e} (h : RD τ b L mx tx p e) (h185 : ∀ j, 12 ≤ j → j ≤ 16 → τ' 185 j = τ 185 j) (hb : τ' b = τ b) : RD τ' b L mx tx p e := by
  obtain ⟨h1, h2, h3, h4, h5, h6, h7, h8, h9, h10, h11, h12, h13⟩ := h
  exact ⟨by rw [h185 12 (by omega) (by omega)]; exact h1, by rw [h185 13 (by omega) (by omega)]; exact h2, by rw [h185 14 (by omega) (by omega)]; exact h3, by rw [h185 15 (by omega) (by omega)]; exact h4, by rw [h185 16 (by omega) (by omega)]; exact h5, fun j hj => by rw [hb]; exact h6 j hj, h7, h8, h9, h10, h11, h12, h13⟩
theorem byt_and {u : Nat} (hu : u < 256) : byt u &&& 255 = Int32.ofNat u := (by decide +kernel : ∀ u < 256, byt u &&& 255 = Int32.ofNat u) u hu
theorem byt_128 {u : Nat} (hu : u < 128) : byt u = Int32.ofNat u := (by decide +kernel : ∀ u < 128, byt u = Int32.ofNat u) u hu
theorem m_here {τ b L mx tx p e} (h : RD τ b L mx tx p e) (hp : p < 1000) : O_X12_here [.inr (185, 12, 0, 0)] τ = some (hr L mx tx p, τ) := by
  obtain ⟨h1, h2, h3, h4, h5, h6, h7, h8, h9, h10, h11, h12, h13⟩ := h
  rw [o_X12_here, t_X12_here_0, h1, h2, h3, h4, pi_if (pn_lt (show p < 2147483648 by omega) (show L < 2147483648 by omega)), pi_if (pn_lt (show p < 2147483648 by omega) (show mx < 2147483648 by omega))]
  unfold hr
  by_cases c1 : p < L
  · rw [if_pos c1]
    by_cases c2 : p < mx
    · rw [if_pos c2, if_pos (show p < L ∧ p < mx from ⟨c1, c2⟩), if_neg (show ¬ Int32.ofNat (b + 1) = 0 by rw [pn_eq0 (by omega)]; omega), pn_toNat (by omega), Nat.add_sub_cancel, h9, show Nat.blt b 210 = true from Nat.ble_eq_true_of_le h8, pn_ix (show p < (en_ka b).2.1 by omega) (by omega), Option.bind_some, h6 p c1, byt_and (h7 p)]; rfl
    · rw [if_neg c2, if_neg (fun q => c2 q.2)]; rfl
  · rw [if_neg c1, if_neg (fun q => c1 q.1)]; rfl
theorem m_fine {τ : en_M} : O_X12_fine [.inr (185, 12, 0, 0)] τ = some (if τ 185 16 = -1 then 1 else 0, τ) := by
  rw [o_X12_fine, t_X12_fine_0, if_pos (show (1 : Int32) = 0 ∨ (1 : Int32) = 1 from Or.inr rfl), if_pos (show (0 : Int32) = 0 ∨ (0 : Int32) = 1 from Or.inl rfl)]
  split <;> rfl
theorem m_fine_y {τ b L mx tx p} (h : RD τ b L mx tx p (-1)) : O_X12_fine [.inr (185, 12, 0, 0)] τ = some (1, τ) := by
  rw [m_fine, if_pos h.2.2.2.2.1]
theorem m_fine_n {τ b L mx tx p} {q : Nat} (h : RD τ b L mx tx p (Int32.ofNat q)) (hq : q < 1000) : O_X12_fine [.inr (185, 12, 0, 0)] τ = some (0, τ) := by
  rw [m_fine, if_neg (by rw [h.2.2.2.2.1]; exact pn_nm1 (by omega))]
theorem m_passes {τ b L mx tx p} (h : RD τ b L mx tx p (-1)) (hp : p < 1000) (x : Int32) : O_X12_passes [.inr (185, 12, 0, 0), .inl x] τ = some (if hr L mx tx p = x then (1, en_up τ 185 15 (Int32.ofNat (p + 1))) else (0, τ)) := by
  rw [o_X12_passes, t_X12_passes_0, m_fine_y h, Option.bind_some]
  dsimp only
  rw [if_neg (show ¬ (1 : Int32) = 0 by decide), m_here h hp, Option.bind_some]
  dsimp only
  rw [if_pos (show (1 : Int32) = 0 ∨ (1 : Int32) = 1 from Or.inr rfl), if_pos (show (0 : Int32) = 0 ∨ (0 : Int32) = 1 from Or.inl rfl), h.2.2.2.1, pn_a1]
  split <;> rfl
theorem m_passes_n {τ b L mx tx p} {q : Nat} (h : RD τ b L mx tx p (Int32.ofNat q)) (hq : q < 1000) (x : Int32) : O_X12_passes [.inr (185, 12, 0, 0), .inl x] τ = some (0, τ) := by
  rw [o_X12_passes, t_X12_passes_0, m_fine_n h hq, Option.bind_some]
  dsimp only
  rw [if_pos (show (0 : Int32) = 0 from rfl), if_pos (show (0 : Int32) = 0 ∨ (0 : Int32) = 1 from Or.inl rfl)]; rfl
theorem m_fault {τ b L mx tx p} (h : RD τ b L mx tx p (-1)) (x : Int32) : O_X12_fault [.inr (185, 12, 0, 0), .inl x] τ = some (en_up τ 185 16 x) := by
  rw [o_X12_fault, t_X12_fault_0, m_fine_y h, Option.bind_some]
  dsimp only
  rw [if_neg (show ¬ (1 : Int32) = 0 by decide)]; rfl
theorem m_fault_n {τ b L mx tx p} {q : Nat} (h : RD τ b L mx tx p (Int32.ofNat q)) (hq : q < 1000) (x : Int32) : O_X12_fault [.inr (185, 12, 0, 0), .inl x] τ = some τ := by
  rw [o_X12_fault, t_X12_fault_0, m_fine_n h hq, Option.bind_some]
  dsimp only
  rw [if_pos (show (0 : Int32) = 0 from rfl)]; rfl
theorem hr_in {L mx : Nat} {tx : Nat → Nat} {p a m : Nat} (hb : ∀ j, tx j < 256) (ha : 1 ≤ a) (ham : a + m < 1000) : (¬ hr L mx tx p < Int32.ofNat a ∧ ¬ Int32.ofNat (a + m - 1) < hr L mx tx p) = inS L mx tx p a m := by
  have := hb p
  refine propext ?_
  unfold hr inS
  by_cases c : p < L ∧ p < mx
  · rw [if_pos c, pn_lt (by omega) (by omega), pn_lt (by omega) (by omega)]
    constructor
    · intro q; exact ⟨c.1, c.2, by omega, by omega⟩
    · intro q; exact ⟨by omega, by omega⟩
  · rw [if_neg c]
    constructor
    · intro q
      exact absurd (Int32.lt_of_lt_of_le (show (-1 : Int32) < 0 by decide) (pn_0le (show a < 2147483648 by omega))) q.1
    · intro q; exact absurd ⟨q.1, q.2.1⟩ c
theorem m_in {τ : en_M} {L mx : Nat} {tx : Nat → Nat} {p a m : Nat} {x : Int32} (hb : ∀ j, tx j < 256) (ha : 1 ≤ a) (ham : a + m < 1000) (hx : x = Int32.ofNat (a + m - 1)) : O_X12_in [.inl (hr L mx tx p), .inl (Int32.ofNat a), .inl x] τ = some (pb2 (inS L mx tx p a m), τ) := by
  subst hx
  rw [q_in, pb2_congr (iff_of_eq (hr_in hb ha ham))]
theorem m_oneOf {τ b L mx tx p} {a m : Nat} (h : RD τ b L mx tx p (-1)) (hp : p < 1000) (ha : 1 ≤ a) (ham : a + m ≤ 128) : O_X12_oneOf [.inr (185, 12, 0, 0), .inl (Int32.ofNat a), .inl (Int32.ofNat m)] τ = some (if inS L mx tx p a m then (Int32.ofNat (tx p - a), en_up τ 185 15 (Int32.ofNat (p + 1))) else (0, en_up τ 185 16 (Int32.ofNat p))) := by
  have hb := h.2.2.2.2.2.2.1
  rw [o_X12_oneOf, t_X12_oneOf_0, m_fine_y h, Option.bind_some]
  dsimp only
  rw [if_neg (show ¬ (1 : Int32) = 0 by decide), m_here h hp, Option.bind_some]
  dsimp only
  rw [m_in (m := m) hb ha (by omega) (by rw [pn_add]; exact pn_sub (b := 1) (by omega)), Option.bind_some]
  dsimp only
  rw [pi_if (pb2_0 (inS L mx tx p a m))]
  by_cases c : inS L mx tx p a m
  · obtain ⟨c1, c2, c3, c4⟩ := c
    obtain ⟨h1, h2, h3, h4, h5, h6, h7, h8, h9, h10, h11, h12, h13⟩ := h
    rw [if_neg (fun q => q ⟨c1, c2, c3, c4⟩), if_pos (show inS L mx tx p a m from ⟨c1, c2, c3, c4⟩), if_neg (show ¬ τ 185 12 = 0 by rw [h1, pn_eq0 (by omega)]; omega), h1, pn_toNat (by omega), Nat.add_sub_cancel, h9, show Nat.blt b 210 = true from Nat.ble_eq_true_of_le h8, h4, pn_a1, show Int32.ofNat (p + 1) - (1 : Int32) = Int32.ofNat p from pn_sub (b := 1) (by omega), pn_ix (show p < (en_ka b).2.1 by omega) (by omega), Option.bind_some, pu_cell h13, h6 p c1, byt_128 (by omega), pn_sub c3]; rfl
  · rw [if_pos c, if_neg c, h.2.2.2.1, m_fault h, Option.bind_some]; rfl
theorem m_oneOf_n {τ b L mx tx p} {q : Nat} (h : RD τ b L mx tx p (Int32.ofNat q)) (hq : q < 1000) (x y : Int32) : O_X12_oneOf [.inr (185, 12, 0, 0), .inl x, .inl y] τ = some (0, τ) := by
  rw [o_X12_oneOf, t_X12_oneOf_0, m_fine_n h hq, Option.bind_some]
  dsimp only
  rw [if_pos (show (0 : Int32) = 0 from rfl)]; rfl
theorem m_rbegin {b n1 L mx : Nat} (τ : en_M) : O_X12_begin [.inr (185, 12, 0, 0), .inr (b, 21, n1, 0), .inl (Int32.ofNat L), .inl (Int32.ofNat mx)] τ = some (en_up (en_up (en_up (en_up (en_up τ 185 12 (Int32.ofNat (b + 1))) 185 13 (Int32.ofNat L)) 185 14 (Int32.ofNat mx)) 185 15 0) 185 16 (-1)) := by
  rw [o_X12_begin, t_X12_begin_0]; rfl
theorem ka189 : (en_ka 189).1 = 21 ∧ (en_ka 189).2.1 = 80 := by decide +kernel
theorem ka192 : (en_ka 192).1 = 21 ∧ (en_ka 192).2.1 = 40 := by decide +kernel
theorem RD.new {L mx : Nat} {tx : Nat → Nat} {τ : en_M} (hT : ∀ j, j < L → τ 189 j = byt (tx j)) (hb : ∀ j, tx j < 256) (hL : L ≤ 80) (hm : mx ≤ 80) : RD (en_up (en_up (en_up (en_up (en_up τ 185 12 (Int32.ofNat (189 + 1))) 185 13 (Int32.ofNat L)) 185 14 (Int32.ofNat mx)) 185 15 0) 185 16 (-1)) 189 L mx tx 0 (-1) := by
  refine ⟨?_, ?_, ?_, ?_, ?_, fun j hj => ?_, hb, by omega, ka189.1, by rw [ka189.2]; omega, hL, hm, by omega⟩
  · rw [pu_slot (by omega), pu_slot (by omega), pu_slot (by omega), pu_slot (by omega), pu_same]
  · rw [pu_slot (by omega), pu_slot (by omega), pu_slot (by omega), pu_same]
  · rw [pu_slot (by omega), pu_slot (by omega), pu_same]
  · rw [pu_slot (by omega), pu_same]; rfl
  · rw [pu_same]
  · rw [pu_cell (by omega), pu_cell (by omega), pu_cell (by omega), pu_cell (by omega), pu_cell (by omega)]; exact hT j hj
