/-! the invariant at the first call -/
def g0 : pG := (0, fun _ => 0, fun _ => 0, 1, 1, 9, fun th => th 0 / 2 + 1)
def A0 : pI := (g0, (0, fun _ => 0), [], x0, [], fun _ => (false, x0))
set_option maxRecDepth 100000 in
theorem s1_c : (en_s1 5 3 = 0 ∧ en_s1 5 4 = -1 ∧ en_s1 5 5 = 1 ∧ en_s1 5 6 = 9 ∧ en_s1 7 2 = 1 ∧ en_s1 8 0 = 0 ∧ en_s1 10 4 = 0 ∧ en_s1 1 1 = 0 ∧ en_s1 3 1 = 0 ∧ en_s1 25 1 = 0 ∧ en_s1 25 2 = 0 ∧ en_s1 89 0 = 0 ∧ en_s1 89 1 = 0) ∧
    (en_s1 15 4 = Int32.ofNat (pkN (fun p => p)) ∧ en_s1 15 5 = 0 ∧ en_s1 15 6 = 0 ∧ en_s1 15 7 = 0 ∧ en_s1 15 8 = 0 ∧ ∀ r, r < 7 → en_s1 16 r = 0 ∧ en_s1 17 r = 0 ∧ en_s1 18 r = 0) := by decide +kernel
set_option maxRecDepth 100000 in
theorem s1_m : (en_s1 185 1 = 0 ∧ en_s1 185 5 = 1 ∧ en_s1 185 6 = 9 ∧ en_s1 185 4 = 1 ∧ en_s1 188 0 = 0 ∧ en_s1 185 19 = 0 ∧ en_s1 185 8 = 0 ∧ en_s1 185 10 = 0 ∧ en_s1 185 23 = 0 ∧ en_s1 208 0 = 0 ∧ en_s1 208 1 = 0) ∧ ∀ r, r < 53 → en_s1 186 r = 0 := by decide +kernel
set_option maxRecDepth 100000 in
theorem s1_181 : en_s1 181 0 = 0 := by decide +kernel
theorem PMf_id (n : Nat) : PMf n (fun p => p) := ⟨fun _ h => h, fun _ _ _ _ h => h, fun _ _ _ => rfl, fun b h => ⟨b, h, rfl⟩⟩
theorem VS_x0 (n B : Nat) : VS n B x0 := ⟨PMf_id n, Nat.zero_le _, Nat.two_pow_pos n, Nat.two_pow_pos n, fun _ _ => Nat.two_pow_pos n, fun _ _ _ => ⟨rfl, rfl, rfl⟩⟩
theorem AV_A0 : AV 0 A0 := ⟨⟨by decide, by decide, by decide, fun _ _ => by show 0 < 128; omega, by decide, by decide, by decide, fun a b h => by show a 0 / 2 + 1 = b 0 / 2 + 1; rw [h 0 (by omega)]⟩, Or.inl rfl, by decide, by decide, by decide, fun _ => by show 0 < 256; omega, by decide, VS_x0 _ _, by decide, fun i hi => absurd hi (Nat.not_lt_zero i), fun i hi hk => by cases hk⟩
theorem CRule_none {σ : en_M} (h : σ 10 4 = 0) : CRule σ (fun th => th 0 / 2 + 1) := fun σ1 e1 _ => ⟨σ1 13, by
  rw [o_X6_value, t_X6_value_0, e1, h, if_pos rfl, show en_ix 0 7 = some 0 from pn_ix (k := 0) (by omega) (by omega), Option.bind_some, if_neg (by decide), pst_self]; rfl⟩
theorem pInv_0 : pInv 0 en_s1 := by
  obtain ⟨⟨c1, c2, c3, c4, c5, c6, c7, c8, c9, c10, c11, c12, c13⟩, d1, d2, d3, d4, d5, d6⟩ := s1_c
  obtain ⟨⟨m1, m2, m3, m4, m5, m6, m7, m8, m9, m10, m11⟩, m12⟩ := s1_m
  refine ⟨A0, AV_A0, ⟨⟨c1, fun r hr => absurd hr (Nat.not_lt_zero r), c2, c3, c4, c5, fun j hj => ?_, CRule_none c7⟩, ⟨c8, fun j hj => absurd hj (Nat.not_lt_zero j)⟩, ⟨c9, fun j hj => absurd hj (Nat.not_lt_zero j)⟩, ⟨d1, d2, d3, d4, d5, d6, fun j _ hj => absurd hj (Nat.not_lt_zero j)⟩,
      ⟨c11, 0, by omega, c10, fun i hi => absurd hi (Nat.not_lt_zero i)⟩, fun i hi => ⟨?_, fun h => by cases h⟩⟩,
    ⟨⟨m1, fun r hr => absurd hr (Nat.not_lt_zero r), m2, m3, m4, fun j hj => ?_, Or.inl ⟨m6, fun _ => rfl⟩⟩, ⟨m7, fun j hj => absurd hj (Nat.not_lt_zero j)⟩, ⟨m8, fun j hj => absurd hj (Nat.not_lt_zero j)⟩,
      ⟨fun p hp => absurd hp (Nat.not_lt_zero p), fun r hr => ⟨m12 _ (by omega), m12 _ (by omega), m12 _ (by omega)⟩, m12 28 (by omega), m12 29 (by omega), m12 30 (by omega), m12 31 (by omega), m12 32 (by omega), fun j hj => m12 _ (by omega)⟩, ⟨m9, fun i hi => absurd hi (Nat.not_lt_zero i)⟩, fun i hi => ⟨?_, fun h => by cases h⟩⟩, s1_181⟩
  · have hj : j < 1 := hj
    rw [show j = 0 by omega]; exact c6
  · rcases (show i = 0 ∨ i = 1 by omega) with rfl | rfl
    · exact c12
    · exact c13
  · have hj : j < 1 := hj
    rw [show j = 0 by omega]; exact m5
  · rcases (show i = 0 ∨ i = 1 by omega) with rfl | rfl
    · exact m10
    · exact m11
