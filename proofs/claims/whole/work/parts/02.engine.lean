def en_KL : List (Nat × Nat × Nat) := [(11, 0, 0), (8, 0, 0), (20, 80, 0), (9, 0, 0), (20, 16, 0), (10, 0, 0), (20, 7, 0), (0, 0, 0), (20, 20, 0), (20, 20, 0), (6, 0, 0), (20, 40, 0), (20, 40, 0), (20, 40, 0), (20, 7, 0), (7, 0, 0), (20, 7, 0), (20, 7, 0), (20, 7, 0), (20, 20, 0), (7, 0, 0), (20, 7, 0), (20, 7, 0), (20, 7, 0), (20, 20, 0), (4, 0, 0), (24, 12, 1), (7, 0, 0), (20, 7, 0), (20, 7, 0), (20, 7, 0), (20, 20, 0), (7, 0, 0), (20, 7, 0), (20, 7, 0), (20, 7, 0), (20, 20, 0), (7, 0, 0), (20, 7, 0), (20, 7, 0), (20, 7, 0), (20, 20, 0), (7, 0, 0), (20, 7, 0), (20, 7, 0), (20, 7, 0), (20, 20, 0), (7, 0, 0), (20, 7, 0), (20, 7, 0), (20, 7, 0), (20, 20, 0), (7, 0, 0), (20, 7, 0), (20, 7, 0), (20, 7, 0), (20, 20, 0), (7, 0, 0), (20, 7, 0), (20, 7, 0), (20, 7, 0), (20, 20, 0), (7, 0, 0), (20, 7, 0), (20, 7, 0), (20, 7, 0), (20, 20, 0), (7, 0, 0), (20, 7, 0), (20, 7, 0), (20, 7, 0), (20, 20, 0), (7, 0, 0), (20, 7, 0), (20, 7, 0), (20, 7, 0), (20, 20, 0), (7, 0, 0), (20, 7, 0), (20, 7, 0), (20, 7, 0), (20, 20, 0), (7, 0, 0), (20, 7, 0), (20, 7, 0), (20, 7, 0), (20, 20, 0), (1, 0, 0), (24, 2, 2), (22, 2, 0), (7, 0, 0), (20, 7, 0), (20, 7, 0), (20, 7, 0), (20, 20, 0), (7, 0, 0), (20, 7, 0), (20, 7, 0), (20, 7, 0), (20, 20, 0), (2, 0, 0), (20, 30, 0), (20, 30, 0), (5, 0, 0), (23, 12, 128), (20, 128, 0), (20, 128, 0), (20, 128, 0), (20, 128, 0), (20, 128, 0), (20, 128, 0), (20, 128, 0), (20, 128, 0), (20, 128, 0), (20, 128, 0), (20, 128, 0), (20, 128, 0), (20, 12, 0), (23, 12, 128), (20, 128, 0), (20, 128, 0), (20, 128, 0), (20, 128, 0), (20, 128, 0), (20, 128, 0), (20, 128, 0), (20, 128, 0), (20, 128, 0), (20, 128, 0), (20, 128, 0), (20, 128, 0), (23, 13, 128), (20, 128, 0), (20, 128, 0), (20, 128, 0), (20, 128, 0), (20, 128, 0), (20, 128, 0), (20, 128, 0), (20, 128, 0), (20, 128, 0), (20, 128, 0), (20, 128, 0), (20, 128, 0), (20, 128, 0), (23, 13, 1024), (20, 1024, 0), (20, 1024, 0), (20, 1024, 0), (20, 1024, 0), (20, 1024, 0), (20, 1024, 0), (20, 1024, 0), (20, 1024, 0), (20, 1024, 0), (20, 1024, 0), (20, 1024, 0), (20, 1024, 0), (20, 1024, 0), (23, 12, 32), (20, 32, 0), (20, 32, 0), (20, 32, 0), (20, 32, 0), (20, 32, 0), (20, 32, 0), (20, 32, 0), (20, 32, 0), (20, 32, 0), (20, 32, 0), (20, 32, 0), (20, 32, 0), (3, 0, 0), (23, 7, 7), (20, 7, 0), (20, 7, 0), (20, 7, 0), (20, 7, 0), (20, 7, 0), (20, 7, 0), (20, 7, 0), (20, 128, 0), (20, 201, 0), (20, 60, 0), (20, 7, 0), (12, 0, 0), (20, 53, 0), (20, 7, 0), (20, 20, 0), (21, 80, 0), (20, 20, 0), (20, 20, 0), (21, 40, 0), (20, 7, 0), (20, 636, 0), (20, 53, 0), (20, 160, 0), (20, 1484, 0), (20, 53, 0), (20, 7, 0), (20, 7, 0), (20, 7, 0), (20, 1664, 0), (20, 3159, 0), (20, 3159, 0), (20, 9, 0), (20, 7, 0), (20, 106, 0), (22, 2, 0), (25, 1, 0)]
def en_FT : List (List (Nat × Nat)) := [[(1, 1), (1, 2), (0, 0)], [(1, 1), (1, 2)], [(1, 1), (1, 2), (0, 0)], [(1, 1), (1, 9), (0, 0)], [(1, 1), (0, 0), (0, 0)], [(1, 1), (1, 14), (1, 15), (1, 28), (1, 42), (1, 56), (0, 0)], [(1, 1), (1, 2), (1, 3), (1, 4), (0, 0), (0, 0), (0, 0)], [(1, 1), (1, 2), (1, 3), (1, 4), (0, 0), (0, 0), (0, 0), (0, 0), (0, 0), (0, 0)], [(1, 1), (0, 0)], [(1, 1), (0, 0)], [(1, 1), (1, 2), (1, 5), (0, 0), (0, 0), (0, 0), (0, 0)], [(1, 1), (1, 3), (1, 5), (1, 15), (1, 20), (1, 25), (1, 87), (1, 100), (1, 103), (1, 172), (1, 182), (1, 183), (1, 184), (0, 0)], [(1, 1), (0, 0), (1, 2), (1, 3), (0, 0), (0, 0), (0, 0), (1, 4), (0, 0), (1, 5), (0, 0), (0, 0), (2, 0), (0, 0), (0, 0), (0, 0), (0, 0), (1, 6), (1, 7), (0, 0), (0, 0), (1, 8), (1, 9), (0, 0), (1, 10), (0, 0), (0, 0), (0, 0), (0, 0), (1, 11), (1, 12), (1, 13), (1, 14), (0, 0), (1, 15), (1, 16), (0, 0), (1, 17), (1, 18), (1, 19), (1, 20), (1, 21), (1, 22), (1, 23)]]
abbrev en_cl : List vw_C := [(RX0, TX0, 3), (RX1, TX1, 2), (RX2, TX2, 3), (RX3, TX3, 3), (RX4, TX4, 3), (RX5, TX5, 7), (RX6, TX6, 7), (RX7, TX7, 10), (RX8, TX8, 2), (RX9, TX9, 2), (RX10, TX10, 7), (RX11, TX11, 14), (RX12, TX12, 44)]
/-! THE ENGINE: methods as functions over a memory of numbers, of which the machine's heap is a picture -/
abbrev en_K : Type := Nat × Nat × Nat
abbrev en_V : Type := Int32 ⊕ (Nat × en_K)
abbrev en_M : Type := Nat → Nat → Int32
abbrev en_Z : Type := Nat × Nat × Nat
abbrev en_T : Type := Option Int32 × en_Z × en_M
abbrev en_C : Type := Nat × List en_V × List en_V × en_Z × en_M
abbrev en_R : Type := Option (en_T ⊕ en_C)
abbrev en_B : Type := List en_V → List en_V → en_Z → en_M → en_R
abbrev en_F : Type := List en_V → en_Z → en_M → Option en_T
def en_ka (k : Nat) : en_K := en_KL.getD k (99, 0, 0)
def en_fk (ci j : Nat) : Nat × Nat := (en_FT.getD ci []).getD j (0, 0)
def en_dr (b : Nat) (x : Int32) : Value := if x = 0 then .null else .ref (b + (x.toNatClampNeg - 1))
def en_dq (b : Nat) (x : Int32) : Option Nat := if x = 0 then none else some (b + (x.toNatClampNeg - 1))
def en_fv (b : Nat) (st : Bool) (σ : en_M) (k ci j : Nat) : Value :=
  if (en_fk ci j).1 = 0 then .int (σ k j) else if (en_fk ci j).1 = 1 ∧ st = true then .ref (b + (k + (en_fk ci j).2)) else en_dr b (σ k j)
def en_aq (b : Nat) (st : Bool) (σ : en_M) (k : Nat) (kd : en_K) (j : Nat) : Option Nat :=
  if st = true then some (b + (if kd.1 = 23 then k + 1 + j else k + kd.2.2 + 5 * j)) else en_dq b (σ k j)
def en_ce (b : Nat) (cy : Nat → ClassId) (st : Bool) (σ : en_M) (k : Nat) (kd : en_K) : va_E :=
  if kd.1 < 20 then .inr (kd.1, (List.range (en_FT.getD kd.1 []).length).map (en_fv b st σ k kd.1))
  else if kd.1 < 23 then .inl (cy kd.1, kd.2.1, .inl (σ k))
  else if kd.1 = 25 then .inl (cy 25, kd.2.1, .inr (.inl (fun j => (σ k j).toInt64)))
  else .inl (cy kd.1, kd.2.1, .inr (.inr (.inr (.inr (en_aq b st σ k kd)))))
def en_W (b : Nat) (cy : Nat → ClassId) (st : Bool) (sz : Nat) (σ : en_M) : va_W := (List.range sz).map (fun k => (b + k, en_ce b cy st σ k (en_ka k)))
def en_ty (cy : Nat → ClassId) : List (ClassId × FieldType) := [(cy 20, .int), (cy 21, .byte), (cy 22, .boolean), (cy 23, .array .int), (cy 24, .object RX7), (cy 25, .long)]
theorem en_W_get {b : Nat} {cy : Nat → ClassId} {st : Bool} {sz : Nat} {σ : en_M} {k : Nat} (h : k < sz) : (en_W b cy st sz σ)[k]? = some (b + k, en_ce b cy st σ k (en_ka k)) := by
  unfold en_W
  rw [List.getElem?_map, List.getElem?_range h]
  rfl
theorem en_W_inv {b : Nat} {cy : Nat → ClassId} {st : Bool} {sz : Nat} {σ : en_M} {k : Nat} {q : Nat × va_E} (h : (en_W b cy st sz σ)[k]? = some q) : k < sz ∧ q = (b + k, en_ce b cy st σ k (en_ka k)) := by
  have hk : k < sz := by
    have := (List.getElem?_eq_some_iff.mp h).1
    simpa [en_W] using this
  rw [en_W_get hk] at h
  exact ⟨hk, (Option.some.inj h).symm⟩
theorem en_W_D {b : Nat} {cy : Nat → ClassId} {st : Bool} {sz : Nat} {σ : en_M} : va_D (fun q => b ≤ q) (en_W b cy st sz σ) := by
  refine ⟨fun i j p q hp hq e => ?_, fun k q hk => ?_⟩
  · have h1 := (en_W_inv hp).2
    have h2 := (en_W_inv hq).2
    rw [h1, h2] at e
    have e : b + i = b + j := e
    omega
  · rw [(en_W_inv hk).2]
    exact Nat.le_add_right _ _
theorem en_ce_off {b : Nat} {cy : Nat → ClassId} {st : Bool} {σ σ' : en_M} {k : Nat} {kd : en_K} (h : ∀ j, σ' k j = σ k j) : en_ce b cy st σ' k kd = en_ce b cy st σ k kd := by
  have e : σ' k = σ k := funext h
  have e1 : en_fv b st σ' k kd.1 = en_fv b st σ k kd.1 := by funext j; simp only [en_fv, h]
  have e2 : en_aq b st σ' k kd = en_aq b st σ k kd := by funext j; simp only [en_aq, h]
  simp only [en_ce, e, e1, e2]
theorem en_W_set {b : Nat} {cy : Nat → ClassId} {st : Bool} {sz : Nat} {σ σ' : en_M} {k : Nat} {e : va_E} (he : e = en_ce b cy st σ' k (en_ka k)) (h : ∀ i, i ≠ k → ∀ j, σ' i j = σ i j) : (en_W b cy st sz σ).set k (b + k, e) = en_W b cy st sz σ' := by
  apply List.ext_getElem?
  intro i
  rw [List.getElem?_set]
  by_cases hi : k = i
  · subst hi
    by_cases hk : k < sz
    · rw [if_pos rfl, if_pos (by simpa [en_W] using hk), en_W_get hk, he]
    · rw [if_pos rfl, if_neg (by simpa [en_W] using hk)]
      symm
      apply List.getElem?_eq_none
      simpa [en_W] using Nat.not_lt.mp hk
  · rw [if_neg hi]
    by_cases hk : i < sz
    · rw [en_W_get hk, en_W_get hk, en_ce_off (h i (Ne.symm hi))]
    · rw [List.getElem?_eq_none (by simpa [en_W] using Nat.not_lt.mp hk), List.getElem?_eq_none (by simpa [en_W] using Nat.not_lt.mp hk)]
/-- one number written -/
def en_up (σ : en_M) (k j : Nat) (v : Int32) : en_M := fun a i => if a = k then (if i = j then v else σ a i) else σ a i
/-- a new row of noughts -/
def en_nr (σ : en_M) (k : Nat) : en_M := fun a i => if a = k then 0 else σ a i
/-- a row copied in part -/
def en_cp (σ : en_M) (src dst sp dp n : Nat) : en_M := fun a i => if a = dst then (if dp ≤ i ∧ i < dp + n then σ src (sp + (i - dp)) else σ a i) else σ a i
def en_ixc (i : Int32) (n : Nat) : Option Nat := if i < 0 then none else if i.toNatClampNeg < n then some i.toNatClampNeg else none
theorem en_ixx : ∃ f, f = en_ixc := ⟨_, rfl⟩
noncomputable def en_ix : Int32 → Nat → Option Nat := Classical.choose en_ixx
theorem en_ix_e : en_ix = en_ixc := Classical.choose_spec en_ixx
theorem en_ixc_in {i : Int32} {n j : Nat} (h : en_ixc i n = some j) : vp_in i n ∧ j = i.toNatClampNeg ∧ j < n := by
  unfold en_ixc at h
  by_cases h0 : i < 0
  · rw [if_pos h0] at h; cases h
  · rw [if_neg h0] at h
    by_cases h1 : i.toNatClampNeg < n
    · rw [if_pos h1] at h
      cases h
      exact ⟨fun q => q.elim h0 (fun z => absurd h1 (Nat.not_lt.mpr z)), rfl, h1⟩
    · rw [if_neg h1] at h; cases h
theorem en_ix_in {i : Int32} {n j : Nat} (h : en_ix i n = some j) : vp_in i n ∧ j = i.toNatClampNeg ∧ j < n := en_ixc_in (by rw [← en_ix_e]; exact h)
def en_shl (x y : Int32) : Int32 := x <<< (y &&& 31)
def en_shr (x y : Int32) : Int32 := x >>> (y &&& 31)
def en_ush (x y : Int32) : Int32 := (x.toUInt32 >>> (y.toUInt32 &&& Int32.toUInt32 31)).toInt32
def en_i2b (x : Int32) : Int32 := x.toInt8.toInt32
def en_i2s (x : Int32) : Int32 := x.toInt16.toInt32
def en_i2c (x : Int32) : Int32 := (x.toUInt32 % 65536).toInt32
-- OPS
def op_const (v : Int32) (k : en_B) : en_B := fun L S z σ => k L (.inl v :: S) z σ
def op_iload (i : Nat) (k : en_B) : en_B := fun L S z σ => match L[i]? with
  | some (.inl x) => k L (.inl x :: S) z σ
  | _ => none
def op_aload (i : Nat) (k : en_B) : en_B := fun L S z σ => match L[i]? with
  | some (.inr v) => cond (Nat.ble v.2.1 32) (k L (.inr v :: S) z σ) none
  | _ => none
def op_istore (i : Nat) (k : en_B) : en_B := fun L S z σ => match S with
  | .inl x :: S' => k (L.set i (.inl x)) S' z σ
  | _ => none
def op_astore (i : Nat) (k : en_B) : en_B := fun L S z σ => match S with
  | .inr v :: S' => k (L.set i (.inr v)) S' z σ
  | _ => none
def op_iinc (i : Nat) (n : Int32) (k : en_B) : en_B := fun L S z σ => match L[i]? with
  | some (.inl x) => k (L.set i (.inl (x + n))) S z σ
  | _ => none
def op_bin (f : Int32 → Int32 → Int32) (k : en_B) : en_B := fun L S z σ => match S with
  | .inl y :: .inl x :: S' => k L (.inl (f x y) :: S') z σ
  | _ => none
def op_div (f : Int32 → Int32 → Int32) (k : en_B) : en_B := fun L S z σ => match S with
  | .inl y :: .inl x :: S' => if y = 0 then none else k L (.inl (f x y) :: S') z σ
  | _ => none
def op_un (f : Int32 → Int32) (k : en_B) : en_B := fun L S z σ => match S with
  | .inl x :: S' => k L (.inl (f x) :: S') z σ
  | _ => none
def op_dup (k : en_B) : en_B := fun L S z σ => match S with
  | v :: S' => k L (v :: v :: S') z σ
  | _ => none
def op_dup2 (k : en_B) : en_B := fun L S z σ => match S with
  | v :: w :: S' => k L (v :: w :: v :: w :: S') z σ
  | _ => none
def op_dupx1 (k : en_B) : en_B := fun L S z σ => match S with
  | v :: w :: S' => k L (v :: w :: v :: S') z σ
  | _ => none
def op_pop (k : en_B) : en_B := fun L S z σ => match S with
  | _ :: S' => k L S' z σ
  | _ => none
/-- one number against nought: x = 0, x < 0, 0 < x; taken (t) or not (k) -/
def op_ifeq (t k : en_B) : en_B := fun L S z σ => match S with
  | .inl x :: S' => if x = 0 then t L S' z σ else k L S' z σ
  | _ => none
def op_iflt (t k : en_B) : en_B := fun L S z σ => match S with
  | .inl x :: S' => if x < 0 then t L S' z σ else k L S' z σ
  | _ => none
def op_ifgt (t k : en_B) : en_B := fun L S z σ => match S with
  | .inl x :: S' => if 0 < x then t L S' z σ else k L S' z σ
  | _ => none
def op_iceq (t k : en_B) : en_B := fun L S z σ => match S with
  | .inl y :: .inl x :: S' => if x = y then t L S' z σ else k L S' z σ
  | _ => none
def op_iclt (t k : en_B) : en_B := fun L S z σ => match S with
  | .inl y :: .inl x :: S' => if x < y then t L S' z σ else k L S' z σ
  | _ => none
def op_icgt (t k : en_B) : en_B := fun L S z σ => match S with
  | .inl y :: .inl x :: S' => if y < x then t L S' z σ else k L S' z σ
  | _ => none
def op_cut (pc : Nat) : en_B := fun L S z σ => some (.inr (pc, L, S, z, σ))
/-- a switch: the numbers from n on, in their order -/
def op_sw : List (Int32 × en_B) → en_B → en_B
  | [], d => fun L S z σ => match S with
    | .inl _ :: S' => d L S' z σ
    | _ => none
  | t :: ts, d => fun L S z σ => match S with
    | .inl x :: S' => if x = t.1 then t.2 L S' z σ else op_sw ts d L S z σ
    | _ => none
/-- fields: numbers, fixed references, moving references -/
def op_geti (ci j : Nat) (k : en_B) : en_B := fun L S z σ => match S with
  | .inr v :: S' => cond (Nat.beq v.2.1 ci) (k L (.inl (σ v.1 j) :: S') z σ) none
  | _ => none
def op_gets (ci off : Nat) (kd : en_K) (k : en_B) : en_B := fun L S z σ => match S with
  | .inr v :: S' => cond (Nat.beq v.2.1 ci) (k L (.inr (v.1 + off, kd) :: S') z σ) none
  | _ => none
def op_getd (ci j : Nat) (k : en_B) : en_B := fun L S z σ => match S with
  | .inr v :: S' => cond (Nat.beq v.2.1 ci) (if σ v.1 j = 0 then none else cond (Nat.blt ((σ v.1 j).toNatClampNeg - 1) z.1) (k L (.inr ((σ v.1 j).toNatClampNeg - 1, en_ka ((σ v.1 j).toNatClampNeg - 1)) :: S') z σ) none) none
  | _ => none
def op_puti (ci j : Nat) (k : en_B) : en_B := fun L S z σ => match S with
  | .inl x :: .inr v :: S' => cond (Nat.beq v.2.1 ci) (k L S' z (en_up σ v.1 j x)) none
  | _ => none
def op_putz (ci j : Nat) (k : en_B) : en_B := fun L S z σ => match S with
  | .inl x :: .inr v :: S' => cond (Nat.beq v.2.1 ci) (if x = 0 ∨ x = 1 then k L S' z (en_up σ v.1 j x) else none) none
  | _ => none
def op_putr (ci j : Nat) (k : en_B) : en_B := fun L S z σ => match S with
  | .inr w :: .inr v :: S' => cond (Nat.beq v.2.1 ci && Nat.ble w.2.1 29) (k L S' z (en_up σ v.1 j (Int32.ofNat (w.1 + 1)))) none
  | _ => none
/-- arrays of numbers -/
noncomputable def op_ald (tag : Nat) (k : en_B) : en_B := fun L S z σ => match S with
  | .inl i :: .inr v :: S' => cond (Nat.beq v.2.1 tag) ((en_ix i v.2.2.1).bind fun j => k L (.inl (σ v.1 j) :: S') z σ) none
  | _ => none
noncomputable def op_ast (tag : Nat) (f : Int32 → Int32) (k : en_B) : en_B := fun L S z σ => match S with
  | .inl x :: .inl i :: .inr v :: S' => cond (Nat.beq v.2.1 tag) ((en_ix i v.2.2.1).bind fun j => k L S' z (en_up σ v.1 j (f x))) none
  | _ => none
def op_alen (k : en_B) : en_B := fun L S z σ => match S with
  | .inr v :: S' => cond (Nat.beq v.2.1 20) (k L (.inl (Int32.ofNat v.2.2.1) :: S') z σ) none
  | _ => none
/-- arrays of rows, of states -/
noncomputable def op_aldM (k : en_B) : en_B := fun L S z σ => match S with
  | .inl i :: .inr v :: S' => cond (Nat.beq v.2.1 23) ((en_ix i v.2.2.1).bind fun j => k L (.inr (v.1 + 1 + j, (20, v.2.2.2, 0)) :: S') z σ) none
  | _ => none
noncomputable def op_aldS (k : en_B) : en_B := fun L S z σ => match S with
  | .inl i :: .inr v :: S' => cond (Nat.beq v.2.1 24) ((en_ix i v.2.2.1).bind fun j => k L (.inr (v.1 + v.2.2.2 + 5 * j, (7, 0, 0)) :: S') z σ) none
  | _ => none
/-- the law's script -/
noncomputable def op_sld (xs : Nat → Int32) (k : en_B) : en_B := fun L S z σ => match S with
  | .inl i :: .inr v :: S' => cond (Nat.beq v.2.1 30) ((en_ix i v.2.2.1).bind fun j => k L (.inl (xs j) :: S') z σ) none
  | _ => none
def op_slen (k : en_B) : en_B := fun L S z σ => match S with
  | .inr v :: S' => cond (Nat.beq v.2.1 30) (k L (.inl (Int32.ofNat v.2.2.1) :: S') z σ) none
  | _ => none
/-- the String constant "wtprism", its bytes; a static number -/
def en_wt (j : Nat) : Int32 := ([119, 116, 112, 114, 105, 115, 109] : List Int32).getD j 0
def op_lds (k : en_B) : en_B := fun L S z σ => k L (.inr (0, (31, 0, 0)) :: S) z σ
def op_stv (k : en_B) : en_B := fun L S z σ => match S with
  | .inr v :: S' => cond (Nat.beq v.2.1 31) (k L (.inr (0, (32, 7, 0)) :: S') z σ) none
  | _ => none
def op_stc (k : en_B) : en_B := fun L S z σ => match S with
  | .inr v :: S' => cond (Nat.beq v.2.1 31) (k L (.inl 0 :: S') z σ) none
  | _ => none
noncomputable def op_sbl (k : en_B) : en_B := fun L S z σ => match S with
  | .inl i :: .inr v :: S' => cond (Nat.beq v.2.1 32) ((en_ix i 7).bind fun j => k L (.inl (en_wt j) :: S') z σ) none
  | _ => none
def op_sbn (k : en_B) : en_B := fun L S z σ => match S with
  | .inr v :: S' => cond (Nat.beq v.2.1 32) (k L (.inl 7 :: S') z σ) none
  | _ => none
/-- ends -/
def op_iret : en_B := fun _ S z σ => match S with
  | [.inl x] => some (.inl (some x, z, σ))
  | _ => none
def op_zret : en_B := fun _ S z σ => match S with
  | [.inl x] => if x = 0 ∨ x = 1 then some (.inl (some x, z, σ)) else none
  | _ => none
def op_vret : en_B := fun _ S z σ => match S with
  | [] => some (.inl (none, z, σ))
  | _ => none
/-- a call: n arguments; a callee that may make mc cells of ms slots; one that makes none, and answers a number (its memory too; no other memory), or nothing -/
def en_pl (v : en_V) : Bool := match v with
  | .inl _ => true
  | .inr w => Nat.ble w.2.1 29 || Nat.beq w.2.1 31 || Nat.beq w.2.1 32
def en_rd (n : Nat) (S : List en_V) : Bool := Nat.ble n S.length && (S.take n).all en_pl && Nat.ble (S.drop n).length 8
def op_call (f : en_F) (n mc ms : Nat) (k : en_B) : en_B := fun L S z σ =>
  cond (en_rd n S && Nat.ble mc z.2.1 && Nat.ble ms z.2.2)
    ((f (S.take n).reverse (z.1, mc, ms) σ).bind fun r => cond (Nat.beq r.2.1.1 (z.1 + mc)) (k L (match r.1 with | some x => .inl x :: S.drop n | none => S.drop n) (r.2.1.1, z.2.1 - mc, z.2.2 - ms) r.2.2) none) none
def op_calli (f : List en_V → en_M → Option (Int32 × en_M)) (n : Nat) (k : en_B) : en_B := fun L S z σ =>
  cond (en_rd n S) ((f (S.take n).reverse σ).bind fun r => k L (.inl r.1 :: S.drop n) z r.2) none
def op_callp (f : List en_V → en_M → Option Int32) (n : Nat) (k : en_B) : en_B := fun L S z σ =>
  cond (en_rd n S) ((f (S.take n).reverse σ).bind fun r => k L (.inl r :: S.drop n) z σ) none
def op_callv (f : List en_V → en_M → Option en_M) (n : Nat) (k : en_B) : en_B := fun L S z σ =>
  cond (en_rd n S) ((f (S.take n).reverse σ).bind fun r => k L (S.drop n) z r) none
def en_wi (f : List en_V → en_M → Option (Int32 × en_M)) : en_F := fun av z σ => (f av σ).map fun r => (some r.1, z, r.2)
def en_wp (f : List en_V → en_M → Option Int32) : en_F := fun av z σ => (f av σ).map fun r => (some r, z, σ)
def en_wv (f : List en_V → en_M → Option en_M) : en_F := fun av z σ => (f av σ).map fun r => (none, z, r)
/-- Object's own constructor -/
def op_obj (k : en_B) : en_B := fun L S z σ => match S with
  | .inr v :: S' => cond (Nat.ble v.2.1 20 && Nat.ble S'.length 8) (k L S' z σ) none
  | _ => none
def op_copy (k : en_B) : en_B := fun L S z σ => match S with
  | .inl n :: .inl dp :: .inr w :: .inl sp :: .inr v :: S' =>
    cond (Nat.beq v.2.1 20 && Nat.beq w.2.1 20 && Nat.ble S'.length 8) (if n < 0 ∨ dp < 0 ∨ sp < 0 then none else if sp.toNatClampNeg + n.toNatClampNeg ≤ v.2.2.1 ∧ dp.toNatClampNeg + n.toNatClampNeg ≤ w.2.2.1 then k L S' z (en_cp σ v.1 w.1 sp.toNatClampNeg dp.toNatClampNeg n.toNatClampNeg) else none) none
  | _ => none
/-- what is made: an object, an array of numbers or references, an array of rows -/
def op_new (ci nf : Nat) (k : en_B) : en_B := fun L S z σ =>
  cond (Nat.beq (en_ka z.1).1 ci && Nat.blt 0 z.2.1 && Nat.ble nf z.2.2) (k L (.inr (z.1, (ci, 0, 0)) :: S) (z.1 + 1, z.2.1 - 1, z.2.2 - nf) (en_nr σ z.1)) none
def op_newa (tag : Nat) (k : en_B) : en_B := fun L S z σ => match S with
  | .inl n :: S' => cond (Nat.beq (en_ka z.1).1 tag && Nat.beq (en_ka z.1).2.1 n.toNatClampNeg && Nat.blt 0 z.2.1 && Nat.ble n.toNatClampNeg z.2.2) (if n < 0 then none else k L (.inr (z.1, en_ka z.1) :: S') (z.1 + 1, z.2.1 - 1, z.2.2 - n.toNatClampNeg) (en_nr σ z.1)) none
  | _ => none

