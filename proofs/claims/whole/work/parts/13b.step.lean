/-! the law's loop, over an abstract invariant: en_steps is what the pure part owes -/
def en_two (Inv : Nat → en_M → Prop) (c : Nat) (f g : en_M → Option (Int32 × en_M)) : Prop := ∀ σ, Inv c σ → ∃ v σ1 σ2, f σ = some (v, σ1) ∧ g σ1 = some (v, σ2) ∧ Inv (c + 1) σ2
def en_thr (Inv : Nat → en_M → Prop) (c : Nat) (f g : en_M → Option (Int32 × en_M)) : Prop := ∀ σ, Inv c σ → ∃ k σ1 v σ2 σ3, f σ = some (k, σ1) ∧ g σ1 = some (v, σ2) ∧ O_X12_thrown [.inr (185, 12, 0, 0)] σ2 = some (k, σ3) ∧ (k = 0 → σ3 209 0 = v) ∧ Inv (c + 1) σ3
def en_st_sign (Inv : Nat → en_M → Prop) : Prop := ∀ (c : Nat) (x1 : Int32), c < 512 → en_two Inv c (O_X11_sign [.inr (0, 11, 0, 0), .inl x1]) (O_X12_sign [.inr (185, 12, 0, 0), .inl x1])
def en_st_end (Inv : Nat → en_M → Prop) : Prop := ∀ (c : Nat) (x1 : Int32), c < 512 → en_two Inv c (O_X11_end [.inr (0, 11, 0, 0), .inl x1]) (O_X12_end [.inr (185, 12, 0, 0), .inl x1])
def en_st_tower (Inv : Nat → en_M → Prop) : Prop := ∀ (c : Nat), c < 512 → en_two Inv c (O_X11_tower [.inr (0, 11, 0, 0)]) (O_X12_tower [.inr (185, 12, 0, 0)])
def en_st_method (Inv : Nat → en_M → Prop) : Prop := ∀ (c : Nat), c < 512 → en_two Inv c (O_X11_method [.inr (0, 11, 0, 0)]) (O_X12_method [.inr (185, 12, 0, 0)])
def en_st_rule (Inv : Nat → en_M → Prop) : Prop := ∀ (c : Nat), c < 512 → en_two Inv c (O_X11_rule [.inr (0, 11, 0, 0)]) (O_X12_rule [.inr (185, 12, 0, 0)])
def en_st_ringer (Inv : Nat → en_M → Prop) : Prop := ∀ (c : Nat) (x1 : Int32) (x2 : Int32), c < 512 → en_thr Inv c (O_L_ringer [.inr (0, 11, 0, 0), .inl x1, .inl x2, .inr (209, 25, 1, 0)]) (O_X12_ringer [.inr (185, 12, 0, 0), .inl x1, .inl x2])
def en_st_bell (Inv : Nat → en_M → Prop) : Prop := ∀ (c : Nat) (x1 : Int32), c < 512 → en_thr Inv c (O_L_bell [.inr (0, 11, 0, 0), .inl x1, .inr (209, 25, 1, 0)]) (O_X12_bell [.inr (185, 12, 0, 0), .inl x1])
def en_st_set (Inv : Nat → en_M → Prop) : Prop := ∀ (c : Nat) (x1 : Int32) (x2 : Int32), c < 512 → en_two Inv c (O_X11_set [.inr (0, 11, 0, 0), .inl x1, .inl x2]) (O_X12_set [.inr (185, 12, 0, 0), .inl x1, .inl x2])
def en_st_sheet (Inv : Nat → en_M → Prop) : Prop := ∀ (c : Nat) (x1 : Int32) (x2 : Int32) (x3 : Int32) (x4 : Int32), c < 512 → en_two Inv c (O_X11_sheet [.inr (0, 11, 0, 0), .inl x1, .inl x2, .inl x3, .inl x4]) (O_X12_sheet [.inr (185, 12, 0, 0), .inl x1, .inl x2, .inl x3, .inl x4])
def en_st_round (Inv : Nat → en_M → Prop) : Prop := ∀ (c : Nat) (x1 : Int32), c < 512 → en_two Inv c (O_X11_round [.inr (0, 11, 0, 0), .inl x1]) (O_X12_round [.inr (185, 12, 0, 0), .inl x1])
def en_st_rounds (Inv : Nat → en_M → Prop) : Prop := ∀ (c : Nat) (x1 : Int32), c < 512 → en_two Inv c (O_X11_rounds [.inr (0, 11, 0, 0), .inl x1]) (O_X12_rounds [.inr (185, 12, 0, 0), .inl x1])
def en_st_beer (Inv : Nat → en_M → Prop) : Prop := ∀ (c : Nat) (x1 : Int32), c < 512 → en_two Inv c (O_X11_beer [.inr (0, 11, 0, 0), .inl x1]) (O_X12_beer [.inr (185, 12, 0, 0), .inl x1])
def en_st_night (Inv : Nat → en_M → Prop) : Prop := ∀ (c : Nat), c < 512 → en_two Inv c (O_X11_night [.inr (0, 11, 0, 0)]) (O_X12_night [.inr (185, 12, 0, 0)])
def en_st_undo (Inv : Nat → en_M → Prop) : Prop := ∀ (c : Nat), c < 512 → en_two Inv c (O_X11_undo [.inr (0, 11, 0, 0)]) (O_X12_undo [.inr (185, 12, 0, 0)])
def en_st_order (Inv : Nat → en_M → Prop) : Prop := ∀ (c : Nat) (x1 : Int32), c < 512 → en_two Inv c (O_X11_order [.inr (0, 11, 0, 0), .inl x1]) (O_X12_order [.inr (185, 12, 0, 0), .inl x1])
def en_st_truth (Inv : Nat → en_M → Prop) : Prop := ∀ (c : Nat), c < 512 → en_two Inv c (O_X11_truth [.inr (0, 11, 0, 0)]) (O_X12_truth [.inr (185, 12, 0, 0)])
def en_st_lead (Inv : Nat → en_M → Prop) : Prop := ∀ (c : Nat), c < 512 → en_two Inv c (O_X11_lead [.inr (0, 11, 0, 0)]) (O_X12_lead [.inr (185, 12, 0, 0)])
def en_st_leads (Inv : Nat → en_M → Prop) : Prop := ∀ (c : Nat) (x1 : Int32) (x2 : Int32), c < 512 → en_two Inv c (O_X11_leads [.inr (0, 11, 0, 0), .inl x1, .inl x2]) (O_X12_leads [.inr (185, 12, 0, 0), .inl x1, .inl x2])
def en_st_comes (Inv : Nat → en_M → Prop) : Prop := ∀ (c : Nat), c < 512 → en_two Inv c (O_X11_comes [.inr (0, 11, 0, 0)]) (O_X12_comes [.inr (185, 12, 0, 0)])
def en_st_course (Inv : Nat → en_M → Prop) : Prop := ∀ (c : Nat) (x1 : Int32) (x2 : Int32) (x3 : Int32), c < 512 → en_two Inv c (O_X11_course [.inr (0, 11, 0, 0), .inl x1, .inl x2, .inl x3]) (O_X12_course [.inr (185, 12, 0, 0), .inl x1, .inl x2, .inl x3])
def en_st_may (Inv : Nat → en_M → Prop) : Prop := ∀ (c : Nat) (x1 : Int32), c < 512 → en_two Inv c (O_X11_may [.inr (0, 11, 0, 0), .inl x1]) (O_X12_may [.inr (185, 12, 0, 0), .inl x1])
def en_st_lawful (Inv : Nat → en_M → Prop) : Prop := ∀ (c : Nat), c < 512 → en_two Inv c (O_X11_lawful [.inr (0, 11, 0, 0)]) (O_X12_lawful [.inr (185, 12, 0, 0)])
def en_st_covers (Inv : Nat → en_M → Prop) : Prop := ∀ (c : Nat) (x1 : Int32), c < 512 → en_two Inv c (O_X11_covers [.inr (0, 11, 0, 0), .inl x1]) (O_X12_covers [.inr (185, 12, 0, 0), .inl x1])
def en_st_rivals (Inv : Nat → en_M → Prop) : Prop := ∀ (c : Nat) (x1 : Int32) (x2 : Int32) (x3 : Int32), c < 512 → en_two Inv c (O_X11_rivals [.inr (0, 11, 0, 0), .inl x1, .inl x2, .inl x3]) (O_X12_rivals [.inr (185, 12, 0, 0), .inl x1, .inl x2, .inl x3])
def en_st_matches (Inv : Nat → en_M → Prop) : Prop := ∀ (c : Nat) (x1 : Int32) (x2 : Int32), c < 512 → en_two Inv c (O_X11_matches [.inr (0, 11, 0, 0), .inl x1, .inl x2]) (O_X12_matches [.inr (185, 12, 0, 0), .inl x1, .inl x2])
def en_st_sleeps (Inv : Nat → en_M → Prop) : Prop := ∀ (c : Nat) (x1 : Int32), c < 512 → en_two Inv c (O_X11_sleeps [.inr (0, 11, 0, 0), .inl x1]) (O_X12_sleeps [.inr (185, 12, 0, 0), .inl x1])
def en_st_naps (Inv : Nat → en_M → Prop) : Prop := ∀ (c : Nat) (x1 : Int32) (x2 : Int32), c < 512 → en_two Inv c (O_X11_naps [.inr (0, 11, 0, 0), .inl x1, .inl x2]) (O_X12_naps [.inr (185, 12, 0, 0), .inl x1, .inl x2])
def en_st_bound (Inv : Nat → en_M → Prop) : Prop := ∀ (c : Nat) (x1 : Int32), c < 512 → en_two Inv c (O_X11_bound [.inr (0, 11, 0, 0), .inl x1]) (O_X12_bound [.inr (185, 12, 0, 0), .inl x1])
def en_st_missed (Inv : Nat → en_M → Prop) : Prop := ∀ (c : Nat) (x1 : Int32), c < 512 → en_two Inv c (O_X11_missed [.inr (0, 11, 0, 0), .inl x1]) (O_X12_missed [.inr (185, 12, 0, 0), .inl x1])
def en_st_heard (Inv : Nat → en_M → Prop) : Prop := ∀ (c : Nat) (x1 : Int32) (x2 : Int32), c < 512 → en_two Inv c (O_X11_heard [.inr (0, 11, 0, 0), .inl x1, .inl x2]) (O_X12_heard [.inr (185, 12, 0, 0), .inl x1, .inl x2])
def en_st_reads (Inv : Nat → en_M → Prop) : Prop := ∀ (c : Nat), c < 512 → en_two Inv c (O_X11_reads [.inr (0, 11, 0, 0)]) (O_X12_reads [.inr (185, 12, 0, 0)])
def en_st_said (Inv : Nat → en_M → Prop) : Prop := ∀ (c : Nat) (x1 : Int32), c < 512 → en_two Inv c (O_X11_said [.inr (0, 11, 0, 0), .inl x1]) (O_X12_said [.inr (185, 12, 0, 0), .inl x1])
def en_st_says (Inv : Nat → en_M → Prop) : Prop := ∀ (c : Nat) (x1 : Int32) (x2 : Int32), c < 512 → en_two Inv c (O_X11_says [.inr (0, 11, 0, 0), .inl x1, .inl x2]) (O_X12_says [.inr (185, 12, 0, 0), .inl x1, .inl x2])
def en_st_fails (Inv : Nat → en_M → Prop) : Prop := ∀ (c : Nat), c < 512 → en_two Inv c (O_X11_fails [.inr (0, 11, 0, 0)]) (O_X12_fails [.inr (185, 12, 0, 0)])
def en_st_lasts (Inv : Nat → en_M → Prop) : Prop := ∀ (c : Nat), c < 512 → en_two Inv c (O_X11_lasts [.inr (0, 11, 0, 0)]) (O_X12_lasts [.inr (185, 12, 0, 0)])
def en_st_stout (Inv : Nat → en_M → Prop) : Prop := ∀ (c : Nat) (x1 : Int32), c < 512 → en_two Inv c (O_X11_stout [.inr (0, 11, 0, 0), .inl x1]) (O_X12_stout [.inr (185, 12, 0, 0), .inl x1])
def en_st_weariest (Inv : Nat → en_M → Prop) : Prop := ∀ (c : Nat) (x1 : Int32), c < 512 → en_two Inv c (O_X11_weariest [.inr (0, 11, 0, 0), .inl x1]) (O_X12_weariest [.inr (185, 12, 0, 0), .inl x1])
def en_st_coughs (Inv : Nat → en_M → Prop) : Prop := ∀ (c : Nat) (x1 : Int32) (x2 : Int32) (x3 : Int32), c < 512 → en_two Inv c (O_X11_coughs [.inr (0, 11, 0, 0), .inl x1, .inl x2, .inl x3]) (O_X12_coughs [.inr (185, 12, 0, 0), .inl x1, .inl x2, .inl x3])
def en_st_keep (Inv : Nat → en_M → Prop) : Prop := ∀ (c : Nat) (x1 : Int32), c < 512 → en_two Inv c (O_X11_keep [.inr (0, 11, 0, 0), .inl x1]) (O_X12_keep [.inr (185, 12, 0, 0), .inl x1])
def en_st_again (Inv : Nat → en_M → Prop) : Prop := ∀ (c : Nat) (x1 : Int32), c < 512 → en_two Inv c (O_X11_again [.inr (0, 11, 0, 0), .inl x1]) (O_X12_again [.inr (185, 12, 0, 0), .inl x1])
def en_st_count (Inv : Nat → en_M → Prop) : Prop := ∀ (c : Nat) (x1 : Int32), c < 512 → en_two Inv c (O_X11_count [.inr (0, 11, 0, 0), .inl x1]) (O_X12_count [.inr (185, 12, 0, 0), .inl x1])
def en_st_row (Inv : Nat → en_M → Prop) : Prop := ∀ (c : Nat) (x1 : Int32), c < 512 → en_thr Inv c (O_L_row [.inr (0, 11, 0, 0), .inl x1, .inr (209, 25, 1, 0)]) (O_X12_row [.inr (185, 12, 0, 0), .inl x1])
def en_steps (Inv : Nat → en_M → Prop) : Prop := (∀ c σ, Inv c σ → Inv (c + 1) σ) ∧ en_st_sign Inv ∧ en_st_end Inv ∧ en_st_tower Inv ∧ en_st_method Inv ∧ en_st_rule Inv ∧ en_st_ringer Inv ∧ en_st_bell Inv ∧ en_st_set Inv ∧ en_st_sheet Inv ∧ en_st_round Inv ∧ en_st_rounds Inv ∧ en_st_beer Inv ∧ en_st_night Inv ∧ en_st_undo Inv ∧ en_st_order Inv ∧ en_st_truth Inv ∧ en_st_lead Inv ∧ en_st_leads Inv ∧ en_st_comes Inv ∧ en_st_course Inv ∧ en_st_may Inv ∧ en_st_lawful Inv ∧ en_st_covers Inv ∧ en_st_rivals Inv ∧ en_st_matches Inv ∧ en_st_sleeps Inv ∧ en_st_naps Inv ∧ en_st_bound Inv ∧ en_st_missed Inv ∧ en_st_heard Inv ∧ en_st_reads Inv ∧ en_st_said Inv ∧ en_st_says Inv ∧ en_st_fails Inv ∧ en_st_lasts Inv ∧ en_st_stout Inv ∧ en_st_weariest Inv ∧ en_st_coughs Inv ∧ en_st_keep Inv ∧ en_st_again Inv ∧ en_st_count Inv ∧ en_st_row Inv
theorem en_ix_n {k n : Nat} (h : k < n) (h2 : k < 2 ^ 31) : en_ix (Int32.ofNat k) n = some k := by
  rw [en_ix_e]; unfold en_ixc
  have h0 : ¬ Int32.ofNat k < 0 := Int32.not_lt.mpr (Int32.zero_le_ofNat_of_lt h2)
  rw [if_neg h0, Int32.toNatClampNeg_ofNat_of_lt h2, if_pos h]
theorem en_bm {z : Int} (h1 : -2147483648 ≤ z) (h2 : z < 2147483648) : z.bmod (2 ^ 32) = z := by
  rw [Int.bmod_def]
  by_cases h : 0 ≤ z
  · rw [Int.emod_eq_of_lt h (by omega), if_pos (by omega)]
  · rw [show z % ((2 ^ 32 : Nat) : Int) = z + 2 ^ 32 by omega, if_neg (by omega)]
    omega
def en_L5 (len : Nat) (i : Int32) (u5 u6 : en_V) : List en_V := [.inr (0, 30, len, 0), .inr (0, 11, 0, 0), .inr (185, 12, 0, 0), .inr (209, 25, 1, 0), .inl i, u5, u6]
theorem en_law_end {xs : Nat → Int32} {len c : Nat} {u5 u6 : en_V} {z : en_Z} {σ : en_M} (hl : len ≤ 2560) (h : len < 5 * c + 5) (hc : c ≤ 512) : TZ_law_23 xs len (Int32.ofNat (5 * c)) u5 u6 z σ = en_riz z (1 : Int32) σ := by
  rw [tz_law_23, if_pos]
  rw [Int32.lt_iff_toInt_lt, Int32.toInt_sub, Int32.toInt_ofNat_of_lt (by omega), Int32.toInt_ofNat_of_lt (by omega), show (5 : Int32).toInt = 5 from rfl, en_bm (by omega) (by omega)]
  omega
theorem en_i1 (k j : Nat) : Int32.ofNat k + Int32.ofNat j = Int32.ofNat (k + j) := (Int32.ofNat_add k j).symm
def en_lawR (Inv : Nat → en_M → Prop) (c : Nat) (xs : Nat → Int32) (len : Nat) (u5 u6 : en_V) (σ : en_M) (r : en_Z → en_R) : Prop :=
  (∃ σ', (∀ z, r z = en_cuz z 23 (en_L5 len (Int32.ofNat (5 * (c + 1))) u5 u6) [] σ') ∧ Inv (c + 1) σ') ∨
  (∀ z, r z = en_cuz z 323 (en_L5 len (Int32.ofNat (5 * c)) u5 u6) [.inr (209, 25, 1, 0), .inl (xs (5 * c + 2)), .inl (xs (5 * c + 1)), .inr (0, 11, 0, 0)] σ) ∨
  (∀ z, r z = en_cuz z 385 (en_L5 len (Int32.ofNat (5 * c)) u5 u6) [.inr (209, 25, 1, 0), .inl (xs (5 * c + 1)), .inr (0, 11, 0, 0)] σ) ∨
  (∀ z, r z = en_cuz z 1363 (en_L5 len (Int32.ofNat (5 * c)) u5 u6) [.inr (209, 25, 1, 0), .inl (xs (5 * c + 1)), .inr (0, 11, 0, 0)] σ)
theorem en_peq {P : (en_Z → en_R) → Prop} {r r' : en_Z → en_R} (h : ∀ z, r z = r' z) (k : P r') : P r := by rw [funext h]; exact k
theorem en_pif {P : (en_Z → en_R) → Prop} {c : Prop} [Decidable c] {A B : en_Z → en_R} (ha : c → P A) (hb : ¬ c → P B) : P (fun z => if c then A z else B z) := by
  by_cases h : c
  · simp only [if_pos h]; exact ha h
  · simp only [if_neg h]; exact hb h
theorem en_pbind {P : (en_Z → en_R) → Prop} {a : Option Nat} {j : Nat} {F : en_Z → Nat → en_R} (h : a = some j) (k : P (fun z => F z j)) : P (fun z => a.bind (fun j => F z j)) := by subst h; exact k

set_option maxRecDepth 100000 in
set_option maxHeartbeats 40000000 in
theorem en_law_step {Inv : Nat → en_M → Prop} (hS : en_steps Inv) {xs : Nat → Int32} {len c : Nat} {u5 u6 : en_V} {σ : en_M} (hl : len ≤ 2560) (h : 5 * c + 5 ≤ len) (hI : Inv c σ) : en_lawR Inv c xs len u5 u6 σ (fun z => TZ_law_23 xs len (Int32.ofNat (5 * c)) u5 u6 z σ) := by
  have hc : c < 512 := by omega
  obtain ⟨hd, h_sign, h_end, h_tower, h_method, h_rule, h_ringer, h_bell, h_set, h_sheet, h_round, h_rounds, h_beer, h_night, h_undo, h_order, h_truth, h_lead, h_leads, h_comes, h_course, h_may, h_lawful, h_covers, h_rivals, h_matches, h_sleeps, h_naps, h_bound, h_missed, h_heard, h_reads, h_said, h_says, h_fails, h_lasts, h_stout, h_weariest, h_coughs, h_keep, h_again, h_count, h_row⟩ := hS
  have n0 : ¬ ((Int32.ofNat len) - (5 : Int32)) < Int32.ofNat (5 * c) := by
    rw [Int32.lt_iff_toInt_lt, Int32.toInt_sub, Int32.toInt_ofNat_of_lt (by omega), Int32.toInt_ofNat_of_lt (by omega), show (5 : Int32).toInt = 5 from rfl, en_bm (by omega) (by omega)]
    omega
  have j0 : en_ix (Int32.ofNat (5 * c)) len = some (5 * c) := en_ix_n (by omega) (by omega)
  have j1 : en_ix (Int32.ofNat (5 * c) + (1 : Int32)) len = some (5 * c + 1) := by rw [show (1 : Int32) = Int32.ofNat 1 from rfl, en_i1]; exact en_ix_n (by omega) (by omega)
  have j2 : en_ix (Int32.ofNat (5 * c) + (2 : Int32)) len = some (5 * c + 2) := by rw [show (2 : Int32) = Int32.ofNat 2 from rfl, en_i1]; exact en_ix_n (by omega) (by omega)
  have j3 : en_ix (Int32.ofNat (5 * c) + (3 : Int32)) len = some (5 * c + 3) := by rw [show (3 : Int32) = Int32.ofNat 3 from rfl, en_i1]; exact en_ix_n (by omega) (by omega)
  have j4 : en_ix (Int32.ofNat (5 * c) + (4 : Int32)) len = some (5 * c + 4) := by rw [show (4 : Int32) = Int32.ofNat 4 from rfl, en_i1]; exact en_ix_n (by omega) (by omega)
  have e5 : Int32.ofNat (5 * c) + (5 : Int32) = Int32.ofNat (5 * (c + 1)) := by rw [show (5 : Int32) = Int32.ofNat 5 from rfl, en_i1]; rfl
  refine en_peq (fun z => tz_law_23 xs len _ u5 u6 z σ) ?_
  refine en_pif (fun q => absurd q n0) (fun _ => ?_)
  refine en_pbind j0 ?_
  refine en_pif (fun _ => ?_) (fun _ => ?_)
  · obtain ⟨v, σ1, σ2, e1, e2, e3⟩ := h_sign c (xs (5 * c + 1)) hc σ hI
    exact Or.inl ⟨σ2, fun z => by simp only [j1, j2, j3, j4, Option.bind_some, e1, e2, if_true, e5]; rfl, e3⟩
  refine en_pif (fun _ => ?_) (fun _ => ?_)
  · obtain ⟨v, σ1, σ2, e1, e2, e3⟩ := h_end c (xs (5 * c + 1)) hc σ hI
    exact Or.inl ⟨σ2, fun z => by simp only [j1, j2, j3, j4, Option.bind_some, e1, e2, if_true, e5]; rfl, e3⟩
  refine en_pif (fun _ => ?_) (fun _ => ?_)
  · obtain ⟨v, σ1, σ2, e1, e2, e3⟩ := h_tower c  hc σ hI
    exact Or.inl ⟨σ2, fun z => by simp only [j1, j2, j3, j4, Option.bind_some, e1, e2, if_true, e5]; rfl, e3⟩
  refine en_pif (fun _ => ?_) (fun _ => ?_)
  · obtain ⟨v, σ1, σ2, e1, e2, e3⟩ := h_method c  hc σ hI
    exact Or.inl ⟨σ2, fun z => by simp only [j1, j2, j3, j4, Option.bind_some, e1, e2, if_true, e5]; rfl, e3⟩
  refine en_pif (fun _ => ?_) (fun _ => ?_)
  · obtain ⟨v, σ1, σ2, e1, e2, e3⟩ := h_rule c  hc σ hI
    exact Or.inl ⟨σ2, fun z => by simp only [j1, j2, j3, j4, Option.bind_some, e1, e2, if_true, e5]; rfl, e3⟩
  refine en_pif (fun _ => Or.inr (Or.inl (fun z => by simp only [j1, j2, Option.bind_some]; rfl))) (fun _ => ?_)
  refine en_pif (fun _ => Or.inr (Or.inr (Or.inl (fun z => by simp only [j1, j2, Option.bind_some]; rfl)))) (fun _ => ?_)
  refine en_pif (fun _ => ?_) (fun _ => ?_)
  · obtain ⟨v, σ1, σ2, e1, e2, e3⟩ := h_set c (xs (5 * c + 1)) (xs (5 * c + 2)) hc σ hI
    exact Or.inl ⟨σ2, fun z => by simp only [j1, j2, j3, j4, Option.bind_some, e1, e2, if_true, e5]; rfl, e3⟩
  refine en_pif (fun _ => ?_) (fun _ => ?_)
  · obtain ⟨v, σ1, σ2, e1, e2, e3⟩ := h_sheet c (xs (5 * c + 1)) (xs (5 * c + 2)) (xs (5 * c + 3)) (xs (5 * c + 4)) hc σ hI
    exact Or.inl ⟨σ2, fun z => by simp only [j1, j2, j3, j4, Option.bind_some, e1, e2, if_true, e5]; rfl, e3⟩
  refine en_pif (fun _ => ?_) (fun _ => ?_)
  · obtain ⟨v, σ1, σ2, e1, e2, e3⟩ := h_round c (xs (5 * c + 1)) hc σ hI
    exact Or.inl ⟨σ2, fun z => by simp only [j1, j2, j3, j4, Option.bind_some, e1, e2, if_true, e5]; rfl, e3⟩
  refine en_pif (fun _ => ?_) (fun _ => ?_)
  · obtain ⟨v, σ1, σ2, e1, e2, e3⟩ := h_rounds c (xs (5 * c + 1)) hc σ hI
    exact Or.inl ⟨σ2, fun z => by simp only [j1, j2, j3, j4, Option.bind_some, e1, e2, if_true, e5]; rfl, e3⟩
  refine en_pif (fun _ => ?_) (fun _ => ?_)
  · obtain ⟨v, σ1, σ2, e1, e2, e3⟩ := h_beer c (xs (5 * c + 1)) hc σ hI
    exact Or.inl ⟨σ2, fun z => by simp only [j1, j2, j3, j4, Option.bind_some, e1, e2, if_true, e5]; rfl, e3⟩
  refine en_pif (fun _ => ?_) (fun _ => ?_)
  · obtain ⟨v, σ1, σ2, e1, e2, e3⟩ := h_night c  hc σ hI
    exact Or.inl ⟨σ2, fun z => by simp only [j1, j2, j3, j4, Option.bind_some, e1, e2, if_true, e5]; rfl, e3⟩
  refine en_pif (fun _ => ?_) (fun _ => ?_)
  · obtain ⟨v, σ1, σ2, e1, e2, e3⟩ := h_undo c  hc σ hI
    exact Or.inl ⟨σ2, fun z => by simp only [j1, j2, j3, j4, Option.bind_some, e1, e2, if_true, e5]; rfl, e3⟩
  refine en_pif (fun _ => ?_) (fun _ => ?_)
  · obtain ⟨v, σ1, σ2, e1, e2, e3⟩ := h_order c (xs (5 * c + 1)) hc σ hI
    exact Or.inl ⟨σ2, fun z => by simp only [j1, j2, j3, j4, Option.bind_some, e1, e2, if_true, e5]; rfl, e3⟩
  refine en_pif (fun _ => ?_) (fun _ => ?_)
  · obtain ⟨v, σ1, σ2, e1, e2, e3⟩ := h_truth c  hc σ hI
    exact Or.inl ⟨σ2, fun z => by simp only [j1, j2, j3, j4, Option.bind_some, e1, e2, if_true, e5]; rfl, e3⟩
  refine en_pif (fun _ => ?_) (fun _ => ?_)
  · obtain ⟨v, σ1, σ2, e1, e2, e3⟩ := h_lead c  hc σ hI
    exact Or.inl ⟨σ2, fun z => by simp only [j1, j2, j3, j4, Option.bind_some, e1, e2, if_true, e5]; rfl, e3⟩
  refine en_pif (fun _ => ?_) (fun _ => ?_)
  · obtain ⟨v, σ1, σ2, e1, e2, e3⟩ := h_leads c (xs (5 * c + 1)) (xs (5 * c + 2)) hc σ hI
    exact Or.inl ⟨σ2, fun z => by simp only [j1, j2, j3, j4, Option.bind_some, e1, e2, if_true, e5]; rfl, e3⟩
  refine en_pif (fun _ => ?_) (fun _ => ?_)
  · obtain ⟨v, σ1, σ2, e1, e2, e3⟩ := h_comes c  hc σ hI
    exact Or.inl ⟨σ2, fun z => by simp only [j1, j2, j3, j4, Option.bind_some, e1, e2, if_true, e5]; rfl, e3⟩
  refine en_pif (fun _ => ?_) (fun _ => ?_)
  · obtain ⟨v, σ1, σ2, e1, e2, e3⟩ := h_course c (xs (5 * c + 1)) (xs (5 * c + 2)) (xs (5 * c + 3)) hc σ hI
    exact Or.inl ⟨σ2, fun z => by simp only [j1, j2, j3, j4, Option.bind_some, e1, e2, if_true, e5]; rfl, e3⟩
  refine en_pif (fun _ => ?_) (fun _ => ?_)
  · obtain ⟨v, σ1, σ2, e1, e2, e3⟩ := h_may c (xs (5 * c + 1)) hc σ hI
    exact Or.inl ⟨σ2, fun z => by simp only [j1, j2, j3, j4, Option.bind_some, e1, e2, if_true, e5]; rfl, e3⟩
  refine en_pif (fun _ => ?_) (fun _ => ?_)
  · obtain ⟨v, σ1, σ2, e1, e2, e3⟩ := h_lawful c  hc σ hI
    exact Or.inl ⟨σ2, fun z => by simp only [j1, j2, j3, j4, Option.bind_some, e1, e2, if_true, e5]; rfl, e3⟩
  refine en_pif (fun _ => ?_) (fun _ => ?_)
  · obtain ⟨v, σ1, σ2, e1, e2, e3⟩ := h_covers c (xs (5 * c + 1)) hc σ hI
    exact Or.inl ⟨σ2, fun z => by simp only [j1, j2, j3, j4, Option.bind_some, e1, e2, if_true, e5]; rfl, e3⟩
  refine en_pif (fun _ => ?_) (fun _ => ?_)
  · obtain ⟨v, σ1, σ2, e1, e2, e3⟩ := h_rivals c (xs (5 * c + 1)) (xs (5 * c + 2)) (xs (5 * c + 3)) hc σ hI
    exact Or.inl ⟨σ2, fun z => by simp only [j1, j2, j3, j4, Option.bind_some, e1, e2, if_true, e5]; rfl, e3⟩
  refine en_pif (fun _ => ?_) (fun _ => ?_)
  · obtain ⟨v, σ1, σ2, e1, e2, e3⟩ := h_matches c (xs (5 * c + 1)) (xs (5 * c + 2)) hc σ hI
    exact Or.inl ⟨σ2, fun z => by simp only [j1, j2, j3, j4, Option.bind_some, e1, e2, if_true, e5]; rfl, e3⟩
  refine en_pif (fun _ => ?_) (fun _ => ?_)
  · obtain ⟨v, σ1, σ2, e1, e2, e3⟩ := h_sleeps c (xs (5 * c + 1)) hc σ hI
    exact Or.inl ⟨σ2, fun z => by simp only [j1, j2, j3, j4, Option.bind_some, e1, e2, if_true, e5]; rfl, e3⟩
  refine en_pif (fun _ => ?_) (fun _ => ?_)
  · obtain ⟨v, σ1, σ2, e1, e2, e3⟩ := h_naps c (xs (5 * c + 1)) (xs (5 * c + 2)) hc σ hI
    exact Or.inl ⟨σ2, fun z => by simp only [j1, j2, j3, j4, Option.bind_some, e1, e2, if_true, e5]; rfl, e3⟩
  refine en_pif (fun _ => ?_) (fun _ => ?_)
  · obtain ⟨v, σ1, σ2, e1, e2, e3⟩ := h_bound c (xs (5 * c + 1)) hc σ hI
    exact Or.inl ⟨σ2, fun z => by simp only [j1, j2, j3, j4, Option.bind_some, e1, e2, if_true, e5]; rfl, e3⟩
  refine en_pif (fun _ => ?_) (fun _ => ?_)
  · obtain ⟨v, σ1, σ2, e1, e2, e3⟩ := h_missed c (xs (5 * c + 1)) hc σ hI
    exact Or.inl ⟨σ2, fun z => by simp only [j1, j2, j3, j4, Option.bind_some, e1, e2, if_true, e5]; rfl, e3⟩
  refine en_pif (fun _ => ?_) (fun _ => ?_)
  · obtain ⟨v, σ1, σ2, e1, e2, e3⟩ := h_heard c (xs (5 * c + 1)) (xs (5 * c + 2)) hc σ hI
    exact Or.inl ⟨σ2, fun z => by simp only [j1, j2, j3, j4, Option.bind_some, e1, e2, if_true, e5]; rfl, e3⟩
  refine en_pif (fun _ => ?_) (fun _ => ?_)
  · obtain ⟨v, σ1, σ2, e1, e2, e3⟩ := h_reads c  hc σ hI
    exact Or.inl ⟨σ2, fun z => by simp only [j1, j2, j3, j4, Option.bind_some, e1, e2, if_true, e5]; rfl, e3⟩
  refine en_pif (fun _ => ?_) (fun _ => ?_)
  · obtain ⟨v, σ1, σ2, e1, e2, e3⟩ := h_said c (xs (5 * c + 1)) hc σ hI
    exact Or.inl ⟨σ2, fun z => by simp only [j1, j2, j3, j4, Option.bind_some, e1, e2, if_true, e5]; rfl, e3⟩
  refine en_pif (fun _ => ?_) (fun _ => ?_)
  · obtain ⟨v, σ1, σ2, e1, e2, e3⟩ := h_says c (xs (5 * c + 1)) (xs (5 * c + 2)) hc σ hI
    exact Or.inl ⟨σ2, fun z => by simp only [j1, j2, j3, j4, Option.bind_some, e1, e2, if_true, e5]; rfl, e3⟩
  refine en_pif (fun _ => ?_) (fun _ => ?_)
  · obtain ⟨v, σ1, σ2, e1, e2, e3⟩ := h_fails c  hc σ hI
    exact Or.inl ⟨σ2, fun z => by simp only [j1, j2, j3, j4, Option.bind_some, e1, e2, if_true, e5]; rfl, e3⟩
  refine en_pif (fun _ => ?_) (fun _ => ?_)
  · obtain ⟨v, σ1, σ2, e1, e2, e3⟩ := h_lasts c  hc σ hI
    exact Or.inl ⟨σ2, fun z => by simp only [j1, j2, j3, j4, Option.bind_some, e1, e2, if_true, e5]; rfl, e3⟩
  refine en_pif (fun _ => ?_) (fun _ => ?_)
  · obtain ⟨v, σ1, σ2, e1, e2, e3⟩ := h_stout c (xs (5 * c + 1)) hc σ hI
    exact Or.inl ⟨σ2, fun z => by simp only [j1, j2, j3, j4, Option.bind_some, e1, e2, if_true, e5]; rfl, e3⟩
  refine en_pif (fun _ => ?_) (fun _ => ?_)
  · obtain ⟨v, σ1, σ2, e1, e2, e3⟩ := h_weariest c (xs (5 * c + 1)) hc σ hI
    exact Or.inl ⟨σ2, fun z => by simp only [j1, j2, j3, j4, Option.bind_some, e1, e2, if_true, e5]; rfl, e3⟩
  refine en_pif (fun _ => ?_) (fun _ => ?_)
  · obtain ⟨v, σ1, σ2, e1, e2, e3⟩ := h_coughs c (xs (5 * c + 1)) (xs (5 * c + 2)) (xs (5 * c + 3)) hc σ hI
    exact Or.inl ⟨σ2, fun z => by simp only [j1, j2, j3, j4, Option.bind_some, e1, e2, if_true, e5]; rfl, e3⟩
  refine en_pif (fun _ => ?_) (fun _ => ?_)
  · obtain ⟨v, σ1, σ2, e1, e2, e3⟩ := h_keep c (xs (5 * c + 1)) hc σ hI
    exact Or.inl ⟨σ2, fun z => by simp only [j1, j2, j3, j4, Option.bind_some, e1, e2, if_true, e5]; rfl, e3⟩
  refine en_pif (fun _ => ?_) (fun _ => ?_)
  · obtain ⟨v, σ1, σ2, e1, e2, e3⟩ := h_again c (xs (5 * c + 1)) hc σ hI
    exact Or.inl ⟨σ2, fun z => by simp only [j1, j2, j3, j4, Option.bind_some, e1, e2, if_true, e5]; rfl, e3⟩
  refine en_pif (fun _ => ?_) (fun _ => ?_)
  · obtain ⟨v, σ1, σ2, e1, e2, e3⟩ := h_count c (xs (5 * c + 1)) hc σ hI
    exact Or.inl ⟨σ2, fun z => by simp only [j1, j2, j3, j4, Option.bind_some, e1, e2, if_true, e5]; rfl, e3⟩
  refine en_pif (fun _ => Or.inr (Or.inr (Or.inr (fun z => by simp only [j1, j2, Option.bind_some]; rfl)))) (fun _ => ?_)
  exact Or.inl ⟨σ, fun z => by simp only [e5]; rfl, hd c σ hI⟩
theorem h_ringer {Inv : Nat → en_M → Prop} (hS : en_steps Inv) : en_st_ringer Inv := by
  obtain ⟨hd, h_sign, h_end, h_tower, h_method, h_rule, h_ringer, h_bell, h_set, h_sheet, h_round, h_rounds, h_beer, h_night, h_undo, h_order, h_truth, h_lead, h_leads, h_comes, h_course, h_may, h_lawful, h_covers, h_rivals, h_matches, h_sleeps, h_naps, h_bound, h_missed, h_heard, h_reads, h_said, h_says, h_fails, h_lasts, h_stout, h_weariest, h_coughs, h_keep, h_again, h_count, h_row⟩ := hS
  exact h_ringer
theorem h_bell {Inv : Nat → en_M → Prop} (hS : en_steps Inv) : en_st_bell Inv := by
  obtain ⟨hd, h_sign, h_end, h_tower, h_method, h_rule, h_ringer, h_bell, h_set, h_sheet, h_round, h_rounds, h_beer, h_night, h_undo, h_order, h_truth, h_lead, h_leads, h_comes, h_course, h_may, h_lawful, h_covers, h_rivals, h_matches, h_sleeps, h_naps, h_bound, h_missed, h_heard, h_reads, h_said, h_says, h_fails, h_lasts, h_stout, h_weariest, h_coughs, h_keep, h_again, h_count, h_row⟩ := hS
  exact h_bell
theorem h_row {Inv : Nat → en_M → Prop} (hS : en_steps Inv) : en_st_row Inv := by
  obtain ⟨hd, h_sign, h_end, h_tower, h_method, h_rule, h_ringer, h_bell, h_set, h_sheet, h_round, h_rounds, h_beer, h_night, h_undo, h_order, h_truth, h_lead, h_leads, h_comes, h_course, h_may, h_lawful, h_covers, h_rivals, h_matches, h_sleeps, h_naps, h_bound, h_missed, h_heard, h_reads, h_said, h_says, h_fails, h_lasts, h_stout, h_weariest, h_coughs, h_keep, h_again, h_count, h_row⟩ := hS
  exact h_row
