/-! switches -/
theorem op_sw_out {d : en_B} {L S : List en_V} {z : en_Z} {σ : en_M} {x : Int32} : ∀ {ts : List (Int32 × en_B)}, (∀ t ∈ ts, x ≠ t.1) → op_sw ts d L (.inl x :: S) z σ = d L S z σ
  | [], _ => rfl
  | t :: ts, h => by
    show (if x = t.1 then _ else op_sw ts d L (.inl x :: S) z σ) = _
    rw [if_neg (h t List.mem_cons_self)]
    exact op_sw_out (fun u hu => h u (List.mem_cons_of_mem _ hu))
theorem op_sw_at {d : en_B} {L S : List en_V} {z : en_Z} {σ : en_M} {x : Int32} : ∀ {ts : List (Int32 × en_B)} {i : Nat} (hi : i < ts.length), x = (ts[i]).1 → (∀ j (hj : j < i), x ≠ (ts[j]'(Nat.lt_trans hj hi)).1) → op_sw ts d L (.inl x :: S) z σ = (ts[i]).2 L S z σ
  | t :: ts, 0, hi, h, _ => by
    show (if x = t.1 then t.2 L S z σ else op_sw ts d L (.inl x :: S) z σ) = _
    rw [if_pos (show x = t.1 from h)]
    rfl
  | t :: ts, i + 1, hi, h, hn => by
    show (if x = t.1 then t.2 L S z σ else op_sw ts d L (.inl x :: S) z σ) = _
    rw [if_neg (show x ≠ t.1 from hn 0 (Nat.succ_pos i))]
    exact op_sw_at (i := i) (Nat.lt_of_succ_lt_succ hi) h (fun j hj => hn (j + 1) (Nat.succ_lt_succ hj))
theorem sn_tsw {G : en_G} {M : en_Me} {pc : Nat} {ts : List (Int32 × en_B)} {d : en_B} {dflt hi : Int} {offs : Array Int} {len dt : Nat} (hd : decode M.1 pc = .ok (.tableswitch dflt 0 hi offs, len)) (hn : hi = (ts.length : Int) - 1) (hlt : ts.length < 2 ^ 31) (hdt : (pc : Int) + dflt = (dt : Int)) (hdS : en_Snd G M dt d)
    (ht : ∀ (i : Nat) (h : i < ts.length), (ts[i]).1 = nI i ∧ ∃ (off : Int) (tgt : Nat), offs[i]? = some off ∧ (pc : Int) + off = (tgt : Int) ∧ en_Snd G M tgt (ts[i]).2) : en_Snd G M pc (op_sw ts d) := by
  intro L S z σ rr h p ee R s m args below meth c al Q X Dn H locs cells slots ls hH hL hS
  match S, h, hS with
  | [], h, _ => unfold op_sw at h; split at h <;> cases h
  | .inr v :: S', h, _ => unfold op_sw at h; split at h <;> cases h
  | .inl x :: S', h, hS =>
    by_cases hx : x.toInt < 0 ∨ hi < x.toInt
    · rw [op_sw_out (fun t htm => by
        obtain ⟨i, hi2, he⟩ := List.mem_iff_getElem.mp htm
        intro e
        rw [← he, (ht i hi2).1] at e
        have h2 := nI_toInt (n := i) (by omega)
        rw [← e] at h2
        omega)] at h
      exact lv_tableOut X.1 X.2.1 hd hx hdt (hdS L S' z σ rr h p ee R s m args below meth c al Q X Dn H locs cells slots ls hH hL (en_tl hS))
    · have h1 : ¬ x.toInt < 0 := fun q => hx (Or.inl q)
      have h2 : ¬ hi < x.toInt := fun q => hx (Or.inr q)
      obtain ⟨i, hi2⟩ : ∃ i : Nat, x.toInt = (i : Int) := ⟨x.toInt.toNat, by omega⟩
      have hil : i < ts.length := by omega
      have hxi : x = nI i := Int32.toInt_inj.mp (by rw [hi2, nI_toInt (by omega)])
      obtain ⟨k1, off, tgt, k2, k3, k4⟩ := ht i hil
      rw [op_sw_at hil (by rw [hxi, k1]) (fun j hj e => by
        rw [(ht j (by omega)).1, hxi] at e
        have := (nI_eq (by omega) (by omega)).mp e
        omega)] at h
      exact lv_tableIn X.1 X.2.1 hd h1 h2 (by rw [hi2]; simpa using k2) k3 (k4 L S' z σ rr h p ee R s m args below meth c al Q X Dn H locs cells slots ls hH hL (en_tl hS))
def en_zz : en_Z := (210, 0, 0)
def en_ri (x : Int32) (σ : en_M) : en_R := some (.inl (some x, en_zz, σ))
def en_rv (σ : en_M) : en_R := some (.inl (none, en_zz, σ))
def en_oi (r : en_R) : Option (Int32 × en_M) := match r with
  | some (.inl (some x, (210, 0, 0), σ)) => some (x, σ)
  | _ => none
def en_ov (r : en_R) : Option en_M := match r with
  | some (.inl (none, (210, 0, 0), σ)) => some σ
  | _ => none
def en_no : en_B := fun _ _ _ _ => none
theorem sn_no {G : en_G} {M : en_Me} {pc : Nat} : en_Snd G M pc en_no := fun _ _ _ _ _ h => by cases h
theorem en_FUx : ∃ n : Nat, 1000000 ≤ n := ⟨1000000, Nat.le_refl _⟩
noncomputable def en_FU : Nat := Classical.choose en_FUx
theorem en_FU_ge : 1000000 ≤ en_FU := Classical.choose_spec en_FUx
/-- a method that makes nothing, out of its first block -/
theorem en_of_i {G : en_G} {M : en_Me} {y : MethodName} {maxL : Nat} {ret : Option FieldType} {f : List en_V → en_M → Option (Int32 × en_M)} {B : en_B} (hst : G.2.2.2.2.2 = true) (hB : en_Snd G M 0 B) (hcls : plainFor y = true) (hown : M.2.1 = y.cls) (hml : M.2.2.1 = maxL) (hini : M.2.2.2.1 = false)
    (hret : (ret = some .int ∧ M.2.2.2.2.2 = false) ∨ ((ret = some .boolean ∨ ret = some .byte) ∧ M.2.2.2.2.2 = true))
    (hf : ∀ av σ x σ', f av σ = some (x, σ') → av.length ≤ maxL ∧ B (en_pad maxL av) [] en_zz σ = some (.inl (some x, en_zz, σ'))) : en_I G M.2.2.2.2.1 y M.1 maxL ret 0 0 (en_wi f) := by
  refine en_impl hcls hown hml (fun q => by rw [hini] at q; cases q) (by rcases hret with q | q; exact Or.inl q; exact Or.inr (Or.inl q)) ?_
  intro av sz σ r hs h
  have hs := hs hst
  unfold en_wi at h
  cases hr : f av σ with
  | none => rw [hr] at h; cases h
  | some q =>
    obtain ⟨x, σ'⟩ := q
    rw [hr] at h
    cases h
    obtain ⟨h1, h2⟩ := hf av σ x σ' hr
    have e : ((sz, 0, 0) : en_Z) = en_zz := by rw [hs, en_KLn]; rfl
    refine ⟨h1, (fun q => by rcases hret with ⟨z, -⟩ | ⟨z | z, -⟩ <;> (rw [z] at q; cases q)), (fun _ => ⟨x, rfl⟩), ?_⟩
    rw [e]
    exact hB _ _ _ _ _ h2
theorem en_of_v {G : en_G} {M : en_Me} {y : MethodName} {maxL : Nat} {f : List en_V → en_M → Option en_M} {B : en_B} (hst : G.2.2.2.2.2 = true) (hB : en_Snd G M 0 B) (hcls : plainFor y = true) (hown : M.2.1 = y.cls) (hml : M.2.2.1 = maxL) (hini : M.2.2.2.1 = false)
    (hf : ∀ av σ σ', f av σ = some σ' → av.length ≤ maxL ∧ B (en_pad maxL av) [] en_zz σ = some (.inl (none, en_zz, σ'))) : en_I G M.2.2.2.2.1 y M.1 maxL none 0 0 (en_wv f) := by
  refine en_impl hcls hown hml (fun q => by rw [hini] at q; cases q) (Or.inr (Or.inr rfl)) ?_
  intro av sz σ r hs h
  have hs := hs hst
  unfold en_wv at h
  cases hr : f av σ with
  | none => rw [hr] at h; cases h
  | some σ' =>
    rw [hr] at h
    cases h
    obtain ⟨h1, h2⟩ := hf av σ σ' hr
    have e : ((sz, 0, 0) : en_Z) = en_zz := by rw [hs, en_KLn]; rfl
    refine ⟨h1, (fun _ => rfl), (fun q => absurd rfl q), ?_⟩
    rw [e]
    exact hB _ _ _ _ _ h2
theorem en_oi_some {r : en_R} {x : Int32} {σ : en_M} (h : en_oi r = some (x, σ)) : r = some (.inl (some x, en_zz, σ)) := by
  unfold en_oi at h
  split at h
  · cases h; rfl
  · cases h
theorem en_ov_some {r : en_R} {σ : en_M} (h : en_ov r = some σ) : r = some (.inl (none, en_zz, σ)) := by
  unfold en_ov at h
  split at h
  · cases h; rfl
  · cases h
def en_sws (G : en_G) (M : en_Me) (pc : Nat) : List (Int × Int) → List (Int32 × en_B) → Prop
  | [], [] => True
  | a :: ps, t :: ts => (t.1.toInt = a.1 ∧ ∃ tgt : Nat, (pc : Int) + a.2 = (tgt : Int) ∧ en_Snd G M tgt t.2) ∧ en_sws G M pc ps ts
  | _, _ => False
theorem en_sws_at {G : en_G} {M : en_Me} {pc dt : Nat} {d : en_B} {dflt : Int} (hdt : (pc : Int) + dflt = (dt : Int)) (hd : en_Snd G M dt d) {L S : List en_V} {z : en_Z} {σ : en_M} {x : Int32} :
    ∀ (ps : List (Int × Int)) (ts : List (Int32 × en_B)), en_sws G M pc ps ts → ∃ (off : Int) (tgt : Nat) (B : en_B), Op.lookupswitch.offset ps dflt x.toInt = off ∧ (pc : Int) + off = (tgt : Int) ∧ en_Snd G M tgt B ∧ op_sw ts d L (.inl x :: S) z σ = B L S z σ
  | [], [], _ => ⟨dflt, dt, d, rfl, hdt, hd, rfl⟩
  | a :: ps, t :: ts, h => by
    obtain ⟨⟨h1, tgt, h2, h3⟩, h4⟩ := h
    by_cases hx : x = t.1
    · refine ⟨a.2, tgt, t.2, ?_, h2, h3, ?_⟩
      · show Op.lookupswitch.offset ((a.1, a.2) :: ps) dflt x.toInt = a.2
        rw [Op.lookupswitch.offset_cons, if_pos (by rw [hx, h1])]
      · show (if x = t.1 then _ else _) = _
        rw [if_pos hx]
    · obtain ⟨off, tgt2, B, k1, k2, k3, k4⟩ := en_sws_at hdt hd ps ts h4
      refine ⟨off, tgt2, B, ?_, k2, k3, ?_⟩
      · show Op.lookupswitch.offset ((a.1, a.2) :: ps) dflt x.toInt = off
        rw [Op.lookupswitch.offset_cons, if_neg (by rw [← h1]; intro q; exact hx (Int32.toInt_inj.mp q.symm)), k1]
      · show (if x = t.1 then _ else _) = _
        rw [if_neg hx, k4]
  | [], _ :: _, h => h.elim
  | _ :: _, [], h => h.elim
theorem sn_lsw {G : en_G} {M : en_Me} {pc : Nat} {ts : List (Int32 × en_B)} {d : en_B} (ks : List (Int × Int)) {dflt : Int} {ps : Array (Int × Int)} {len dt : Nat} (hd : decode M.1 pc = .ok (.lookupswitch dflt ps, len)) (hp : (ps.toList.zip (ps.toList.drop 1)).all (fun (a, next) => a.1 < next.1) = true) (hks : ps.toList = ks) (hdt : (pc : Int) + dflt = (dt : Int))
    (h : en_Snd G M dt d ∧ en_sws G M pc ks ts) : en_Snd G M pc (op_sw ts d) := by
  intro L S z σ rr h0 p ee R s m args below meth c al Q X Dn H locs cells slots ls hH hL hS
  match S, h0, hS with
  | [], h0, _ => unfold op_sw at h0; split at h0 <;> cases h0
  | .inr v :: S', h0, _ => unfold op_sw at h0; split at h0 <;> cases h0
  | .inl x :: S', h0, hS =>
    obtain ⟨off, tgt, B, k1, k2, k3, k4⟩ := en_sws_at (L := L) (S := S') (z := z) (σ := σ) (x := x) hdt h.1 ks ts h.2
    rw [k4] at h0
    exact lv_lookup X.1 X.2.1 hd hp (by rw [hks]; exact k1) k2 (k3 L S' z σ rr h0 p ee R s m args below meth c al Q X Dn H locs cells slots ls hH hL (en_tl hS))
theorem en_none_i {G : en_G} {d : Nat} {y : MethodName} {bytes : ByteArray} {maxL : Nat} {ret : Option FieldType} : en_I G d y bytes maxL ret 0 0 (en_wi fun _ _ => none) := fun _ _ _ _ _ _ _ _ h => by cases h
theorem en_none_v {G : en_G} {d : Nat} {y : MethodName} {bytes : ByteArray} {maxL : Nat} {ret : Option FieldType} : en_I G d y bytes maxL ret 0 0 (en_wv fun _ _ => none) := fun _ _ _ _ _ _ _ _ h => by cases h
/-- the place of a letter in "wtprism" -/
def en_find (c : Int32) : Int32 := if c = 119 then 0 else if c = 116 then 1 else if c = 112 then 2 else if c = 114 then 3 else if c = 105 then 4 else if c = 115 then 5 else if c = 109 then 6 else -1
