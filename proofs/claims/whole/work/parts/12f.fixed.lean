/-! the law: at the loop's first head every fixed reference is where the layout says -/
def en_okf (σ : en_M) (k : Nat) : Bool := (List.range (en_FT.getD (en_ka k).1 []).length).all fun j => !(Nat.beq (en_fk (en_ka k).1 j).1 1) || decide (σ k j = Int32.ofNat (k + (en_fk (en_ka k).1 j).2 + 1))
def en_okr (σ : en_M) (k : Nat) : Bool := !(Nat.beq (en_ka k).1 23 || Nat.beq (en_ka k).1 24) || (List.range (en_ka k).2.1).all fun j => decide (σ k j = Int32.ofNat ((if (en_ka k).1 = 23 then k + 1 + j else k + (en_ka k).2.2 + 5 * j) + 1))
theorem en_okf1 : (List.range 210).all (fun k => !(Nat.blt (en_ka k).1 20) || en_okf en_s1 k) = true := by decide +kernel
theorem en_okr1 : (List.range 210).all (en_okr en_s1) = true := by decide +kernel
theorem en_dr_of {b x : Nat} {v : Int32} (hx : x < 210) (hv : v = Int32.ofNat (x + 1)) : en_dr b v = .ref (b + x) ∧ en_dq b v = some (b + x) := by
  obtain ⟨h1, h2⟩ := en_code (x := x) hx
  subst hv
  unfold en_dr en_dq
  rw [if_neg h1, if_neg h1, h2]
  exact ⟨rfl, rfl⟩
theorem en_okl : (List.range 210).all (fun k => (List.range (en_FT.getD (en_ka k).1 []).length).all fun j => !(Nat.beq (en_fk (en_ka k).1 j).1 1) || Nat.blt (k + (en_fk (en_ka k).1 j).2) 210) = true := by decide +kernel
theorem en_okm : (List.range 210).all (fun k => !(Nat.beq (en_ka k).1 23 || Nat.beq (en_ka k).1 24) || (List.range (en_ka k).2.1).all fun j => Nat.blt (if (en_ka k).1 = 23 then k + 1 + j else k + (en_ka k).2.2 + 5 * j) 210) = true := by decide +kernel
theorem en_fix_o {b k : Nat} (hk : k < 210) (hc : (en_ka k).1 < 20) : (List.range (en_FT.getD (en_ka k).1 []).length).map (en_fv b true en_s1 k (en_ka k).1) = (List.range (en_FT.getD (en_ka k).1 []).length).map (en_fv b false en_s1 k (en_ka k).1) := by
  refine List.map_congr_left fun j hj => ?_
  unfold en_fv
  by_cases h0 : (en_fk (en_ka k).1 j).1 = 0
  · rw [if_pos h0, if_pos h0]
  · rw [if_neg h0, if_neg h0, if_neg (show ¬ ((en_fk (en_ka k).1 j).1 = 1 ∧ false = true) from fun q => by cases q.2)]
    by_cases h1 : (en_fk (en_ka k).1 j).1 = 1
    · rw [if_pos ⟨h1, rfl⟩]
      have a1 := List.all_eq_true.mp en_okf1 k (List.mem_range.mpr hk)
      have hb : Nat.blt (en_ka k).1 20 = true := Nat.ble_eq_true_of_le hc
      rw [hb] at a1
      have a2 : en_okf en_s1 k = true := a1
      have a3 := List.all_eq_true.mp a2 j hj
      have hb1 : Nat.beq (en_fk (en_ka k).1 j).1 1 = true := by rw [h1]; rfl
      rw [hb1] at a3
      have a4 : decide (en_s1 k j = Int32.ofNat (k + (en_fk (en_ka k).1 j).2 + 1)) = true := a3
      have l1 := List.all_eq_true.mp (List.all_eq_true.mp en_okl k (List.mem_range.mpr hk)) j hj
      rw [hb1] at l1
      have l2 : Nat.blt (k + (en_fk (en_ka k).1 j).2) 210 = true := l1
      exact (en_dr_of (Nat.le_of_ble_eq_true l2) (of_decide_eq_true a4)).1.symm
    · rw [if_neg (fun q => h1 q.1)]
theorem en_fix_r {b k j : Nat} (hk : k < 210) (hc : (en_ka k).1 = 23 ∨ (en_ka k).1 = 24) (hj : j < (en_ka k).2.1) : en_aq b true en_s1 k (en_ka k) j = en_aq b false en_s1 k (en_ka k) j := by
  have e1 : en_aq b true en_s1 k (en_ka k) j = some (b + (if (en_ka k).1 = 23 then k + 1 + j else k + (en_ka k).2.2 + 5 * j)) := rfl
  have e2 : en_aq b false en_s1 k (en_ka k) j = en_dq b (en_s1 k j) := rfl
  rw [e1, e2]
  have hb : (Nat.beq (en_ka k).1 23 || Nat.beq (en_ka k).1 24) = true := by
    rcases hc with h | h <;> rw [h] <;> rfl
  have a1 := List.all_eq_true.mp en_okr1 k (List.mem_range.mpr hk)
  unfold en_okr at a1
  rw [hb] at a1
  have a2 := List.all_eq_true.mp (show ((List.range (en_ka k).2.1).all fun j => decide (en_s1 k j = Int32.ofNat ((if (en_ka k).1 = 23 then k + 1 + j else k + (en_ka k).2.2 + 5 * j) + 1))) = true from a1) j (List.mem_range.mpr hj)
  have l1 := List.all_eq_true.mp en_okm k (List.mem_range.mpr hk)
  rw [hb] at l1
  have l2 := List.all_eq_true.mp (show ((List.range (en_ka k).2.1).all fun j => Nat.blt (if (en_ka k).1 = 23 then k + 1 + j else k + (en_ka k).2.2 + 5 * j) 210) = true from l1) j (List.mem_range.mpr hj)
  exact (en_dr_of (Nat.le_of_ble_eq_true l2) (of_decide_eq_true a2)).2.symm
/-- the world as the constructors left it is the world with its fixed references -/
theorem en_fix {D : va_G} {b : Nat} {cy : Nat → ClassId} {H : Heap} (h : va_P D en_cl (en_W b cy false 210 en_s1) H) : va_P D en_cl (en_W b cy true 210 en_s1) H := by
  intro k q hq
  obtain ⟨hk, rfl⟩ := en_W_inv hq
  have h0 := h k _ (en_W_get hk)
  have e : ∀ (st : Bool), (en_ka k).1 < 20 → en_ce b cy st en_s1 k (en_ka k) = .inr ((en_ka k).1, (List.range (en_FT.getD (en_ka k).1 []).length).map (en_fv b st en_s1 k (en_ka k).1)) := fun st hc => by unfold en_ce; rw [if_pos hc]
  by_cases hc : (en_ka k).1 < 20
  · rw [e true hc, en_fix_o hk hc, ← e false hc]; exact h0
  · by_cases hr : (en_ka k).1 = 23 ∨ (en_ka k).1 = 24
    · have e2 : ∀ (st : Bool), en_ce b cy st en_s1 k (en_ka k) = .inl (cy (en_ka k).1, (en_ka k).2.1, .inr (.inr (.inr (.inr (en_aq b st en_s1 k (en_ka k)))))) := fun st => by
        unfold en_ce; rw [if_neg hc, if_neg (by omega), if_neg (by omega)]
      rw [e2] at h0 ⊢
      have h1 : H[b + k]? = some (vp_cell (cy (en_ka k).1) ((en_ka k).2.1, .inr (.inr (.inr (.inr (en_aq b false en_s1 k (en_ka k))))))) := h0
      show H[b + k]? = some (vp_cell (cy (en_ka k).1) ((en_ka k).2.1, .inr (.inr (.inr (.inr (en_aq b true en_s1 k (en_ka k)))))))
      rw [h1]
      refine congrArg some ?_
      unfold vp_cell
      dsimp only
      have hf : ∀ j, j < (en_ka k).2.1 → va_rf (en_aq b false en_s1 k (en_ka k) j) = va_rf (en_aq b true en_s1 k (en_ka k) j) := fun j hj => congrArg va_rf (en_fix_r hk hr hj).symm
      unfold arrV
      refine congrArg (fun a : Array Value => ({ cls := cy (en_ka k).1, slots := a } : Cell)) ?_
      apply Array.ext
      · simp
      · intro i h1 h2
        simp only [List.size_toArray, List.length_map, List.length_range, Array.size_ofFn] at h1
        simp [hf i h1]
    · have e3 : en_ce b cy true en_s1 k (en_ka k) = en_ce b cy false en_s1 k (en_ka k) := by
        unfold en_ce
        rw [if_neg hc, if_neg hc]
        by_cases h2 : (en_ka k).1 < 23
        · rw [if_pos h2, if_pos h2]
        · have h5 : (en_ka k).1 = 25 := by
            have := List.all_eq_true.mp (show (List.range 210).all (fun k => Nat.blt (en_ka k).1 26) = true by decide +kernel) k (List.mem_range.mpr hk)
            have h6 : (en_ka k).1 < 26 := Nat.le_of_ble_eq_true this
            omega
          rw [if_neg h2, if_neg h2, if_pos h5, if_pos h5]
      rw [e3]; exact h0
