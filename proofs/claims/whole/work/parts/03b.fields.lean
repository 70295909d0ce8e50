/-! fields and arrays -/
def en_cf (ci : Nat) (C : String) (T : u_T) (N : Nat) (ty : Nat → FieldType) : Prop :=
  en_cl[ci]? = some (C, T, N) ∧ (∀ w ∈ u_ws C T N, w ∈ en_wl) ∧ (∀ k, k < N → parseFieldDescriptor (T k).2.2.1 = some (ty k)) ∧ (∀ a, a < N → ∀ b, b < N → a ≠ b → (T a).2.1 ≠ (T b).2.1) ∧ (en_FT.getD ci []).length = N ∧ ci < 20 ∧ ∀ k, k < N → (T k).1 = C
theorem en_ce_o {b : Nat} {cy : Nat → ClassId} {st : Bool} {σ : en_M} {k : Nat} {kd : en_K} {ci : Nat} (h : kd.1 = ci) (hc : ci < 20) : en_ce b cy st σ k kd = .inr (ci, (List.range (en_FT.getD ci []).length).map (en_fv b st σ k ci)) := by
  subst h
  simp only [en_ce, if_pos hc]
theorem en_ce_n {b : Nat} {cy : Nat → ClassId} {st : Bool} {σ : en_M} {k : Nat} {kd : en_K} {t : Nat} (h : kd.1 = t) (h1 : ¬ t < 20) (h2 : t < 23) : en_ce b cy st σ k kd = .inl (cy t, kd.2.1, .inl (σ k)) := by
  subst h
  simp only [en_ce, if_neg h1, if_pos h2]
theorem en_ce_q {b : Nat} {cy : Nat → ClassId} {st : Bool} {σ : en_M} {k : Nat} {kd : en_K} {t : Nat} (h : kd.1 = t) (h1 : ¬ t < 23) (h2 : t ≠ 25) : en_ce b cy st σ k kd = .inl (cy t, kd.2.1, .inr (.inr (.inr (.inr (en_aq b st σ k kd))))) := by
  subst h
  simp only [en_ce, if_neg h1, if_neg h2]
  rw [if_neg (by omega)]
theorem en_fs_get {b : Nat} {st : Bool} {σ : en_M} {k ci n j : Nat} (hj : j < n) : ((List.range n).map (en_fv b st σ k ci))[j]? = some (en_fv b st σ k ci j) := by
  rw [List.getElem?_map, List.getElem?_range hj]; rfl
theorem en_fs_set {b : Nat} {st : Bool} {σ σ' : en_M} {k ci n j : Nat} {v : Value} (hv : en_fv b st σ' k ci j = v) (h : ∀ i, i ≠ j → σ' k i = σ k i) : ((List.range n).map (en_fv b st σ k ci)).set j v = (List.range n).map (en_fv b st σ' k ci) := by
  apply List.ext_getElem?
  intro i
  rw [List.getElem?_set]
  by_cases hi : j = i
  · subst hi
    by_cases hk : j < n
    · rw [if_pos rfl, if_pos (by simpa using hk), en_fs_get hk, hv]
    · rw [if_pos rfl, if_neg (by simpa using hk)]
      symm
      apply List.getElem?_eq_none
      simpa using Nat.not_lt.mp hk
  · rw [if_neg hi]
    by_cases hk : i < n
    · rw [en_fs_get hk, en_fs_get hk]
      simp only [en_fv, h i (Ne.symm hi)]
    · rw [List.getElem?_eq_none (by simpa using Nat.not_lt.mp hk), List.getElem?_eq_none (by simpa using Nat.not_lt.mp hk)]
theorem en_up_off {σ : en_M} {k j : Nat} {v : Int32} : ∀ i, i ≠ k → ∀ q, en_up σ k j v i q = σ i q := fun i h q => if_neg h
theorem en_up_in {σ : en_M} {k j : Nat} {v : Int32} : en_up σ k j v k j = v := by simp [en_up]
theorem en_up_ne {σ : en_M} {k j : Nat} {v : Int32} : ∀ i, i ≠ j → en_up σ k j v k i = σ k i := fun i h => by simp [en_up, h]
theorem en_KLn : en_KL.length = 210 := by decide +kernel
theorem en_code {x : Nat} (h : x < en_KL.length) : ¬ Int32.ofNat (x + 1) = 0 ∧ (Int32.ofNat (x + 1)).toNatClampNeg = x + 1 := by
  have h2 : x < 210 := Nat.lt_of_lt_of_eq h en_KLn
  have h3 : (Int32.ofNat (x + 1)).toNatClampNeg = x + 1 := nI_clamp (by omega)
  refine ⟨fun q => ?_, h3⟩
  rw [q] at h3
  exact absurd h3 (by intro r; have r : (0 : Int32).toNatClampNeg = x + 1 := r; simp at r)
theorem en_in {k : Nat} {kd : en_K} (h : en_ka k = kd) (ht : kd.1 ≤ 29) : k < en_KL.length := by
  rcases Nat.lt_or_ge k en_KL.length with q | q
  · exact q
  · exfalso
    have : en_ka k = (99, 0, 0) := by unfold en_ka; rw [List.getD_eq_getElem?_getD, List.getElem?_eq_none q]; rfl
    rw [← h, this] at ht
    exact absurd ht (by decide)
theorem en_dr_code {b x : Nat} (h : x < en_KL.length) : en_dr b (Int32.ofNat (x + 1)) = .ref (b + x) := by
  unfold en_dr
  rw [if_neg (en_code h).1, (en_code h).2]
  rfl
theorem en_dq_code {b x : Nat} (h : x < en_KL.length) : en_dq b (Int32.ofNat (x + 1)) = some (b + x) := by
  unfold en_dq
  rw [if_neg (en_code h).1, (en_code h).2]
  rfl
theorem en_upd {σ : en_M} {k j : Nat} {x : Int32} : upd (σ k) j x = en_up σ k j x k := by
  funext i
  simp [upd, en_up]

theorem en_c0 : en_cf 0 RX0 TX0 3 tyX0 := ⟨rfl, en_u0, tyX0_ok, nmX0, rfl, Nat.le_of_ble_eq_true rfl, by decide +kernel⟩
theorem en_c1 : en_cf 1 RX1 TX1 2 tyX1 := ⟨rfl, en_u1, tyX1_ok, nmX1, rfl, Nat.le_of_ble_eq_true rfl, by decide +kernel⟩
theorem en_c2 : en_cf 2 RX2 TX2 3 tyX2 := ⟨rfl, en_u2, tyX2_ok, nmX2, rfl, Nat.le_of_ble_eq_true rfl, by decide +kernel⟩
theorem en_c3 : en_cf 3 RX3 TX3 3 tyX3 := ⟨rfl, en_u3, tyX3_ok, nmX3, rfl, Nat.le_of_ble_eq_true rfl, by decide +kernel⟩
theorem en_c4 : en_cf 4 RX4 TX4 3 tyX4 := ⟨rfl, en_u4, tyX4_ok, nmX4, rfl, Nat.le_of_ble_eq_true rfl, by decide +kernel⟩
theorem en_c5 : en_cf 5 RX5 TX5 7 tyX5 := ⟨rfl, en_u5, tyX5_ok, nmX5, rfl, Nat.le_of_ble_eq_true rfl, by decide +kernel⟩
theorem en_c6 : en_cf 6 RX6 TX6 7 tyX6 := ⟨rfl, en_u6, tyX6_ok, nmX6, rfl, Nat.le_of_ble_eq_true rfl, by decide +kernel⟩
theorem en_c7 : en_cf 7 RX7 TX7 10 tyX7 := ⟨rfl, en_u7, tyX7_ok, nmX7, rfl, Nat.le_of_ble_eq_true rfl, by decide +kernel⟩
theorem en_c8 : en_cf 8 RX8 TX8 2 tyX8 := ⟨rfl, en_u8, tyX8_ok, nmX8, rfl, Nat.le_of_ble_eq_true rfl, by decide +kernel⟩
theorem en_c9 : en_cf 9 RX9 TX9 2 tyX9 := ⟨rfl, en_u9, tyX9_ok, nmX9, rfl, Nat.le_of_ble_eq_true rfl, by decide +kernel⟩
theorem en_c10 : en_cf 10 RX10 TX10 7 tyX10 := ⟨rfl, en_u10, tyX10_ok, nmX10, rfl, Nat.le_of_ble_eq_true rfl, by decide +kernel⟩
theorem en_c11 : en_cf 11 RX11 TX11 14 tyX11 := ⟨rfl, en_u11, tyX11_ok, nmX11, rfl, Nat.le_of_ble_eq_true rfl, by decide +kernel⟩
theorem en_c12 : en_cf 12 RX12 TX12 44 tyX12 := ⟨rfl, en_u12, tyX12_ok, nmX12, rfl, Nat.le_of_ble_eq_true rfl, by decide +kernel⟩
