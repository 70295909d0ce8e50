/-- the receiver's kind -/
def en_rcv (ci n : Nat) (S : List en_V) : Bool := match S[n]? with
  | some (.inr w) => Nat.beq w.2.1 ci
  | _ => false
def op_rcv (ci n : Nat) (k : en_B) : en_B := fun L S z σ => cond (en_rcv ci n S) (k L S z σ) none
theorem en_rcv_of {ci n : Nat} {S : List en_V} (h : en_rcv ci n S = true) : ∃ w : Nat × en_K, S[n]? = some (.inr w) ∧ w.2.1 = ci := by
  unfold en_rcv at h
  split at h
  · rename_i w hw
    exact ⟨w, hw, Nat.eq_of_beq_eq_true h⟩
  · cases h
theorem en_At.cut {G : en_G} {M : en_Me} {pc : Nat} {L S : List en_V} {z : en_Z} {σ : en_M} {rr : en_T ⊕ en_C} {q : en_C} (h1 : en_At G M pc L S z σ (.inr q)) (h2 : en_At G M q.1 q.2.1 q.2.2.1 q.2.2.2.1 q.2.2.2.2 rr) : en_At G M pc L S z σ rr :=
  fun p ee R s m args below meth c al Q X Dn H locs cells slots ls hH hL hS => h1 p ee R s m args below meth c al Q X (fun H locs cells slots ls a b c9 => h2 p ee R s m args below meth c al Q X Dn H locs cells slots ls a b c9) H locs cells slots ls hH hL hS
theorem sn_callSi {G : en_G} {M : en_Me} {pc : Nat} {k : en_B} {idx n d maxL : Nat} {y : MethodName} {bytes : ByteArray} {ret : Option FieldType} {f : List en_V → en_M → Option (Int32 × en_M)} (hI : en_I G d y bytes maxL ret 0 0 (en_wi f)) (hdp : d + 1 ≤ M.2.2.2.2.1) (hcs : en_cs y bytes maxL ret n) (hlk : en_lkS M.2.1 idx y)  (hd : decode M.1 pc = .ok (.invokestatic idx, 3)) (hk : en_Snd G M (pc + 3) k) : en_Snd G M pc (op_calli f n k) := by
  intro L S z σ rr h
  unfold op_calli at h
  cases hrd : en_rd n S with
  | false => rw [hrd] at h; cases h
  | true =>
  rw [hrd, cond_true] at h
  cases hf : f (S.take n).reverse σ with
  | none => rw [hf] at h; cases h
  | some r =>
  rw [hf, Option.bind_some] at h
  exact en_callS hI hdp hcs hlk hd hrd (Nat.zero_le _) (Nat.zero_le _) (r := (some r.1, (z.1, 0, 0), r.2)) (by simp [en_wi, hf]) (fun q => q) rfl (hk _ _ _ _ _ h)
theorem sn_callSp {G : en_G} {M : en_Me} {pc : Nat} {k : en_B} {idx n d maxL : Nat} {y : MethodName} {bytes : ByteArray} {ret : Option FieldType} {f : List en_V → en_M → Option Int32} (hI : en_I G d y bytes maxL ret 0 0 (en_wp f)) (hdp : d + 1 ≤ M.2.2.2.2.1) (hcs : en_cs y bytes maxL ret n) (hlk : en_lkS M.2.1 idx y)  (hd : decode M.1 pc = .ok (.invokestatic idx, 3)) (hk : en_Snd G M (pc + 3) k) : en_Snd G M pc (op_callp f n k) := by
  intro L S z σ rr h
  unfold op_callp at h
  cases hrd : en_rd n S with
  | false => rw [hrd] at h; cases h
  | true =>
  rw [hrd, cond_true] at h
  cases hf : f (S.take n).reverse σ with
  | none => rw [hf] at h; cases h
  | some r =>
  rw [hf, Option.bind_some] at h
  exact en_callS hI hdp hcs hlk hd hrd (Nat.zero_le _) (Nat.zero_le _) (r := (some r, (z.1, 0, 0), σ)) (by simp [en_wp, hf]) (fun q => q) rfl (hk _ _ _ _ _ h)
theorem sn_callSv {G : en_G} {M : en_Me} {pc : Nat} {k : en_B} {idx n d maxL : Nat} {y : MethodName} {bytes : ByteArray} {ret : Option FieldType} {f : List en_V → en_M → Option en_M} (hI : en_I G d y bytes maxL ret 0 0 (en_wv f)) (hdp : d + 1 ≤ M.2.2.2.2.1) (hcs : en_cs y bytes maxL ret n) (hlk : en_lkS M.2.1 idx y)  (hd : decode M.1 pc = .ok (.invokestatic idx, 3)) (hk : en_Snd G M (pc + 3) k) : en_Snd G M pc (op_callv f n k) := by
  intro L S z σ rr h
  unfold op_callv at h
  cases hrd : en_rd n S with
  | false => rw [hrd] at h; cases h
  | true =>
  rw [hrd, cond_true] at h
  cases hf : f (S.take n).reverse σ with
  | none => rw [hf] at h; cases h
  | some r =>
  rw [hf, Option.bind_some] at h
  exact en_callS hI hdp hcs hlk hd hrd (Nat.zero_le _) (Nat.zero_le _) (r := (none, (z.1, 0, 0), r)) (by simp [en_wv, hf]) (fun q => q) rfl (hk _ _ _ _ _ h)
theorem sn_callVi {G : en_G} {M : en_Me} {pc : Nat} {k : en_B} {idx n d maxL : Nat} {y : MethodName} {bytes : ByteArray} {ret : Option FieldType} {f : List en_V → en_M → Option (Int32 × en_M)} (hI : en_I G d y bytes maxL ret 0 0 (en_wi f)) (hdp : d + 1 ≤ M.2.2.2.2.1) (hcs : en_cs y bytes maxL ret n) (hlk : en_lkV M.2.1 idx y) {ci : Nat} (hcc : (∃ q : vw_C, en_cl[ci]? = some q ∧ q.1 = y.cls) ∧ ci < 20) (hd : decode M.1 pc = .ok (.invokevirtual idx, 3)) (hk : en_Snd G M (pc + 3) k) : en_Snd G M pc (op_rcv ci n (op_calli f (n + 1) k)) := by
  intro L S z σ rr h
  unfold op_rcv at h
  cases hrc : en_rcv ci n S with
  | false => rw [hrc] at h; cases h
  | true =>
  rw [hrc, cond_true] at h
  unfold op_calli at h
  cases hrd : en_rd (n + 1) S with
  | false => rw [hrd] at h; cases h
  | true =>
  rw [hrd, cond_true] at h
  cases hf : f (S.take (n + 1)).reverse σ with
  | none => rw [hf] at h; cases h
  | some r =>
  rw [hf, Option.bind_some] at h
  exact en_callV hI hdp hcs hlk hd hcc (en_rcv_of hrc) hrd (Nat.zero_le _) (Nat.zero_le _) (r := (some r.1, (z.1, 0, 0), r.2)) (by simp [en_wi, hf]) (fun q => q) rfl (hk _ _ _ _ _ h)
theorem sn_callVp {G : en_G} {M : en_Me} {pc : Nat} {k : en_B} {idx n d maxL : Nat} {y : MethodName} {bytes : ByteArray} {ret : Option FieldType} {f : List en_V → en_M → Option Int32} (hI : en_I G d y bytes maxL ret 0 0 (en_wp f)) (hdp : d + 1 ≤ M.2.2.2.2.1) (hcs : en_cs y bytes maxL ret n) (hlk : en_lkV M.2.1 idx y) {ci : Nat} (hcc : (∃ q : vw_C, en_cl[ci]? = some q ∧ q.1 = y.cls) ∧ ci < 20) (hd : decode M.1 pc = .ok (.invokevirtual idx, 3)) (hk : en_Snd G M (pc + 3) k) : en_Snd G M pc (op_rcv ci n (op_callp f (n + 1) k)) := by
  intro L S z σ rr h
  unfold op_rcv at h
  cases hrc : en_rcv ci n S with
  | false => rw [hrc] at h; cases h
  | true =>
  rw [hrc, cond_true] at h
  unfold op_callp at h
  cases hrd : en_rd (n + 1) S with
  | false => rw [hrd] at h; cases h
  | true =>
  rw [hrd, cond_true] at h
  cases hf : f (S.take (n + 1)).reverse σ with
  | none => rw [hf] at h; cases h
  | some r =>
  rw [hf, Option.bind_some] at h
  exact en_callV hI hdp hcs hlk hd hcc (en_rcv_of hrc) hrd (Nat.zero_le _) (Nat.zero_le _) (r := (some r, (z.1, 0, 0), σ)) (by simp [en_wp, hf]) (fun q => q) rfl (hk _ _ _ _ _ h)
theorem sn_callVv {G : en_G} {M : en_Me} {pc : Nat} {k : en_B} {idx n d maxL : Nat} {y : MethodName} {bytes : ByteArray} {ret : Option FieldType} {f : List en_V → en_M → Option en_M} (hI : en_I G d y bytes maxL ret 0 0 (en_wv f)) (hdp : d + 1 ≤ M.2.2.2.2.1) (hcs : en_cs y bytes maxL ret n) (hlk : en_lkV M.2.1 idx y) {ci : Nat} (hcc : (∃ q : vw_C, en_cl[ci]? = some q ∧ q.1 = y.cls) ∧ ci < 20) (hd : decode M.1 pc = .ok (.invokevirtual idx, 3)) (hk : en_Snd G M (pc + 3) k) : en_Snd G M pc (op_rcv ci n (op_callv f (n + 1) k)) := by
  intro L S z σ rr h
  unfold op_rcv at h
  cases hrc : en_rcv ci n S with
  | false => rw [hrc] at h; cases h
  | true =>
  rw [hrc, cond_true] at h
  unfold op_callv at h
  cases hrd : en_rd (n + 1) S with
  | false => rw [hrd] at h; cases h
  | true =>
  rw [hrd, cond_true] at h
  cases hf : f (S.take (n + 1)).reverse σ with
  | none => rw [hf] at h; cases h
  | some r =>
  rw [hf, Option.bind_some] at h
  exact en_callV hI hdp hcs hlk hd hcc (en_rcv_of hrc) hrd (Nat.zero_le _) (Nat.zero_le _) (r := (none, (z.1, 0, 0), r)) (by simp [en_wv, hf]) (fun q => q) rfl (hk _ _ _ _ _ h)
theorem sn_callIv {G : en_G} {M : en_Me} {pc : Nat} {k : en_B} {idx n d maxL : Nat} {y : MethodName} {bytes : ByteArray} {f : List en_V → en_M → Option en_M} (hI : en_I G d y bytes maxL none 0 0 (en_wv f)) (hdp : d + 1 ≤ M.2.2.2.2.1) (hcs : en_cs y bytes maxL none n) (hlk : en_lkI M.2.1 idx y) {ci : Nat} (hcc : (∃ q : vw_C, en_cl[ci]? = some q ∧ q.1 = y.cls) ∧ ci < 20) (hd : decode M.1 pc = .ok (.invokespecial idx, 3)) (hk : en_Snd G M (pc + 3) k) : en_Snd G M pc (op_rcv ci n (op_callv f (n + 1) k)) := by
  intro L S z σ rr h
  unfold op_rcv at h
  cases hrc : en_rcv ci n S with
  | false => rw [hrc] at h; cases h
  | true =>
  rw [hrc, cond_true] at h
  unfold op_callv at h
  cases hrd : en_rd (n + 1) S with
  | false => rw [hrd] at h; cases h
  | true =>
  rw [hrd, cond_true] at h
  cases hf : f (S.take (n + 1)).reverse σ with
  | none => rw [hf] at h; cases h
  | some r =>
  rw [hf, Option.bind_some] at h
  exact en_callI hI hdp hcs hlk hd hcc (en_rcv_of hrc) rfl hrd (Nat.zero_le _) (Nat.zero_le _) (r := (none, (z.1, 0, 0), r)) (by simp [en_wv, hf]) (fun q => q) rfl (hk _ _ _ _ _ h)
theorem sn_callI {G : en_G} {M : en_Me} {pc : Nat} {k : en_B} {idx n mc ms d maxL : Nat} {y : MethodName} {bytes : ByteArray} {f : en_F} (hst : G.2.2.2.2.2 = false) (hI : en_I G d y bytes maxL none mc ms f) (hdp : d + 1 ≤ M.2.2.2.2.1) (hcs : en_cs y bytes maxL none n) (hlk : en_lkI M.2.1 idx y) {ci : Nat} (hcc : (∃ q : vw_C, en_cl[ci]? = some q ∧ q.1 = y.cls) ∧ ci < 20) (hd : decode M.1 pc = .ok (.invokespecial idx, 3)) (hk : en_Snd G M (pc + 3) k) : en_Snd G M pc (op_rcv ci n (op_call f (n + 1) mc ms k)) := by
  intro L S z σ rr h
  unfold op_rcv at h
  cases hrc : en_rcv ci n S with
  | false => rw [hrc] at h; cases h
  | true =>
  rw [hrc, cond_true] at h
  unfold op_call at h
  cases hb : (en_rd (n + 1) S && Nat.ble mc z.2.1 && Nat.ble ms z.2.2) with
  | false => rw [hb] at h; cases h
  | true =>
  rw [hb, cond_true] at h
  have h1 := Bool.and_eq_true_iff.mp hb
  have h2 := Bool.and_eq_true_iff.mp h1.1
  cases hf : f (S.take (n + 1)).reverse (z.1, mc, ms) σ with
  | none => rw [hf] at h; cases h
  | some r =>
  rw [hf, Option.bind_some] at h
  cases hz : Nat.beq r.2.1.1 (z.1 + mc) with
  | false => rw [hz] at h; cases h
  | true =>
  rw [hz, cond_true] at h
  refine en_callI hI hdp hcs hlk hd hcc (en_rcv_of hrc) rfl h2.1 (Nat.le_of_ble_eq_true h2.2) (Nat.le_of_ble_eq_true h1.2) (r := r) hf (fun _ q => by rw [hst] at q; cases q) (Nat.eq_of_beq_eq_true hz) ?_
  cases hr : r.1 with
  | none => rw [hr] at h; exact hk _ _ _ _ _ h
  | some x => rw [hr] at h; exact hk _ _ _ _ _ h
theorem sn_callTi {G : en_G} {M : en_Me} {pc : Nat} {k : en_B} {idx n d maxL : Nat} {y : MethodName} {bytes : ByteArray} {ret : Option FieldType} {f : List en_V → en_M → Option (Int32 × en_M)} (hI : en_I G d y bytes maxL ret 0 0 (en_wi f)) (hdp : d + 1 ≤ M.2.2.2.2.1) (hcs : en_cs y bytes maxL ret n) (hlk : en_lkV M.2.1 idx y) {ci : Nat} (hcc : ci = 31 ∧ y.cls = "java/lang/String") (hd : decode M.1 pc = .ok (.invokevirtual idx, 3)) (hk : en_Snd G M (pc + 3) k) : en_Snd G M pc (op_rcv ci n (op_calli f (n + 1) k)) := by
  intro L S z σ rr h
  unfold op_rcv at h
  cases hrc : en_rcv ci n S with
  | false => rw [hrc] at h; cases h
  | true =>
  rw [hrc, cond_true] at h
  unfold op_calli at h
  cases hrd : en_rd (n + 1) S with
  | false => rw [hrd] at h; cases h
  | true =>
  rw [hrd, cond_true] at h
  cases hf : f (S.take (n + 1)).reverse σ with
  | none => rw [hf] at h; cases h
  | some r =>
  rw [hf, Option.bind_some] at h
  exact en_callT hI hdp hcs hlk hd hcc (en_rcv_of hrc) hrd (Nat.zero_le _) (Nat.zero_le _) (r := (some r.1, (z.1, 0, 0), r.2)) (by simp [en_wi, hf]) (fun q => q) rfl (hk _ _ _ _ _ h)
theorem sn_callTp {G : en_G} {M : en_Me} {pc : Nat} {k : en_B} {idx n d maxL : Nat} {y : MethodName} {bytes : ByteArray} {ret : Option FieldType} {f : List en_V → en_M → Option Int32} (hI : en_I G d y bytes maxL ret 0 0 (en_wp f)) (hdp : d + 1 ≤ M.2.2.2.2.1) (hcs : en_cs y bytes maxL ret n) (hlk : en_lkV M.2.1 idx y) {ci : Nat} (hcc : ci = 31 ∧ y.cls = "java/lang/String") (hd : decode M.1 pc = .ok (.invokevirtual idx, 3)) (hk : en_Snd G M (pc + 3) k) : en_Snd G M pc (op_rcv ci n (op_callp f (n + 1) k)) := by
  intro L S z σ rr h
  unfold op_rcv at h
  cases hrc : en_rcv ci n S with
  | false => rw [hrc] at h; cases h
  | true =>
  rw [hrc, cond_true] at h
  unfold op_callp at h
  cases hrd : en_rd (n + 1) S with
  | false => rw [hrd] at h; cases h
  | true =>
  rw [hrd, cond_true] at h
  cases hf : f (S.take (n + 1)).reverse σ with
  | none => rw [hf] at h; cases h
  | some r =>
  rw [hf, Option.bind_some] at h
  exact en_callT hI hdp hcs hlk hd hcc (en_rcv_of hrc) hrd (Nat.zero_le _) (Nat.zero_le _) (r := (some r, (z.1, 0, 0), σ)) (by simp [en_wp, hf]) (fun q => q) rfl (hk _ _ _ _ _ h)
theorem sn_callTv {G : en_G} {M : en_Me} {pc : Nat} {k : en_B} {idx n d maxL : Nat} {y : MethodName} {bytes : ByteArray} {ret : Option FieldType} {f : List en_V → en_M → Option en_M} (hI : en_I G d y bytes maxL ret 0 0 (en_wv f)) (hdp : d + 1 ≤ M.2.2.2.2.1) (hcs : en_cs y bytes maxL ret n) (hlk : en_lkV M.2.1 idx y) {ci : Nat} (hcc : ci = 31 ∧ y.cls = "java/lang/String") (hd : decode M.1 pc = .ok (.invokevirtual idx, 3)) (hk : en_Snd G M (pc + 3) k) : en_Snd G M pc (op_rcv ci n (op_callv f (n + 1) k)) := by
  intro L S z σ rr h
  unfold op_rcv at h
  cases hrc : en_rcv ci n S with
  | false => rw [hrc] at h; cases h
  | true =>
  rw [hrc, cond_true] at h
  unfold op_callv at h
  cases hrd : en_rd (n + 1) S with
  | false => rw [hrd] at h; cases h
  | true =>
  rw [hrd, cond_true] at h
  cases hf : f (S.take (n + 1)).reverse σ with
  | none => rw [hf] at h; cases h
  | some r =>
  rw [hf, Option.bind_some] at h
  exact en_callT hI hdp hcs hlk hd hcc (en_rcv_of hrc) hrd (Nat.zero_le _) (Nat.zero_le _) (r := (none, (z.1, 0, 0), r)) (by simp [en_wv, hf]) (fun q => q) rfl (hk _ _ _ _ _ h)
theorem sn_callT {G : en_G} {M : en_Me} {pc : Nat} {k : en_B} {idx n mc ms d maxL : Nat} {y : MethodName} {bytes : ByteArray} {ret : Option FieldType} {f : en_F} (hst : G.2.2.2.2.2 = false) (hI : en_I G d y bytes maxL ret mc ms f) (hdp : d + 1 ≤ M.2.2.2.2.1) (hcs : en_cs y bytes maxL ret n) (hlk : en_lkV M.2.1 idx y) {ci : Nat} (hcc : ci = 31 ∧ y.cls = "java/lang/String") (hd : decode M.1 pc = .ok (.invokevirtual idx, 3)) (hk : en_Snd G M (pc + 3) k) : en_Snd G M pc (op_rcv ci n (op_call f (n + 1) mc ms k)) := by
  intro L S z σ rr h
  unfold op_rcv at h
  cases hrc : en_rcv ci n S with
  | false => rw [hrc] at h; cases h
  | true =>
  rw [hrc, cond_true] at h
  unfold op_call at h
  cases hb : (en_rd (n + 1) S && Nat.ble mc z.2.1 && Nat.ble ms z.2.2) with
  | false => rw [hb] at h; cases h
  | true =>
  rw [hb, cond_true] at h
  have h1 := Bool.and_eq_true_iff.mp hb
  have h2 := Bool.and_eq_true_iff.mp h1.1
  cases hf : f (S.take (n + 1)).reverse (z.1, mc, ms) σ with
  | none => rw [hf] at h; cases h
  | some r =>
  rw [hf, Option.bind_some] at h
  cases hz : Nat.beq r.2.1.1 (z.1 + mc) with
  | false => rw [hz] at h; cases h
  | true =>
  rw [hz, cond_true] at h
  refine en_callT hI hdp hcs hlk hd hcc (en_rcv_of hrc) h2.1 (Nat.le_of_ble_eq_true h2.2) (Nat.le_of_ble_eq_true h1.2) (r := r) hf (fun _ q => by rw [hst] at q; cases q) (Nat.eq_of_beq_eq_true hz) ?_
  cases hr : r.1 with
  | none => rw [hr] at h; exact hk _ _ _ _ _ h
  | some x => rw [hr] at h; exact hk _ _ _ _ _ h
theorem en_ofW {l : Launch} {y : MethodName} {ws ws' : List Cond} {rm : Room} {Pc : Array Value → State → Prop} {Qc : Array Value → State → Outcome → State → Prop} {mc ms : Nat} {free : Addr → Prop} {cc : ByteArray} {maxL : Nat} {ret : Option FieldType}
    (hy : plainFor y = true) (hw : ws = Cond.code y cc maxL ret :: ws')
    (body : ∀ p e s m args below meth c s₁, BodyLoose p l y (headSpec ws rm) cc maxL ret e s m args below meth c s₁ → c.maxLocals = maxL → Pc args s →
      W p l e (headSpec ws rm).room s m args below meth c s.heap [] 0 0 (MQ below Qc args s mc ms free) (entryFrame m args maxL)) : Met l y ws rm Pc Qc mc ms free := by
  refine MetFree.of_bodySF (code := cc) (maxLocals := maxL) (ret := ret) hy ?_ ?_
  · intro args s m h hn
    obtain ⟨meth, c, h1, h2, h3, h4, h5, h6, -, -⟩ := Cond.code_spec hn (atoms_spec (ws := ws) h _ (by rw [hw]; exact List.mem_cons_self))
    exact ⟨meth, c, h1, h2, h3, h4, h5, h6⟩
  · intro p e s m args below meth c s₁ B hml hP _
    have hh0 : s₁.heap = s.heap := by rw [B.state]; rfl
    obtain ⟨t, a1, o, b1, b2, b3⟩ := body p e s m args below meth c s₁ B hml hP s₁ hh0 (Stand.of_body B)
    exact ⟨t, o, a1, b1, b2, ⟨b3.1, b3.2⟩⟩
/-- unset locals -/
def en_un : en_V := .inr (0, (99, 0, 0))
def en_pad (nL : Nat) (av : List en_V) : List en_V := av ++ List.replicate (nL - av.length) en_un
theorem en_lg {G : en_G} {av : List en_V} : lg_sl (av.map (en_ev G)) = (av.map (en_ev G)).map Slot.val := by
  unfold lg_sl
  induction av with
  | nil => rfl
  | cons v l ih =>
    rw [List.map_cons, List.flatMap_cons, ih, en_cat]
    rfl
theorem en_lvargs {G : en_G} {v : en_V} : ∀ {av : List en_V} {i k : Nat}, av[i]? = some v → (k + i, en_ev G v) ∈ lv_args k (av.map (en_ev G)) := by
  intro av
  induction av with
  | nil => intro i k h; simp at h
  | cons u l ih =>
    intro i k h
    cases i with
    | zero =>
      cases h
      rw [List.map_cons]
      unfold lv_args
      exact List.mem_cons_self
    | succ i =>
      rw [List.map_cons]
      unfold lv_args
      refine List.mem_cons_of_mem _ ?_
      rw [en_cat]
      have := ih (i := i) (k := k + 1) h
      rwa [show k + 1 + i = k + (i + 1) by omega] at this
/-- a method out of its code: its ends by the kind of its answer -/
theorem en_impl {G : en_G} {M : en_Me} {y : MethodName} {maxL mc ms : Nat} {ret : Option FieldType} {f : en_F} (hcls : plainFor y = true) (hown : M.2.1 = y.cls) (hml : M.2.2.1 = maxL) (hini : M.2.2.2.1 = true → y.name = "<init>")
    (hret : (ret = some .int ∧ M.2.2.2.2.2 = false) ∨ ((ret = some .boolean ∨ ret = some .byte) ∧ M.2.2.2.2.2 = true) ∨ ret = none)
    (h : ∀ av sz σ r, (G.2.2.2.2.2 = true → sz = en_KL.length) → f av (sz, mc, ms) σ = some r → av.length ≤ maxL ∧ (ret = none → r.1 = none) ∧ (ret ≠ none → ∃ x, r.1 = some x) ∧ en_At G M 0 (en_pad maxL av) [] (sz, mc, ms) σ (.inl r)) : en_I G M.2.2.2.2.1 y M.1 maxL ret mc ms f := by
  intro al av sz σ r hal hsz hst hf hav
  obtain ⟨hlen, hr0, hr1, hAt⟩ := h av sz σ r hst hf
  refine en_ofW (cc := M.1) (maxL := maxL) (ret := ret) hcls rfl ?_
  intro p e s m args below meth c s₁ B hmlc hv
  obtain ⟨rfl, hP, hK, hN, hb, ha⟩ := hv
  have hts := atoms_spec (ws := .code y M.1 maxL ret :: en_wl) B.pre
  have hownc : s.vm.findClass y.cls = some m.cls := findClass_of_methodNamed B.named
  have hX : en_X G M p { frames := M.2.2.2.2.1, cells := mc, slots := ms, locals := 40 * M.2.2.2.2.1 } s m (av.map (en_ev G)).toArray meth c :=
    ⟨B.exec, B.bytes, by rw [hml]; exact hmlc, by rw [hown]; exact hownc, fun w hw => hts w (List.mem_cons_of_mem _ hw), fun q => by rw [← hini q]; exact (name_of_methodNamed B.named B.method).1, hb, hK, hN, Nat.le_refl _, Nat.le_refl _⟩
  have hle : (lg_sl (av.map (en_ev G))).length ≤ maxL := by rw [en_lg]; simpa using hlen
  have hl := lv_entry (av.map (en_ev G)) (n := maxL) hle
  rw [lg_entry_eq]
  have hlocks := B.notSynchronized
  refine hAt p e _ s m _ below meth c al _ hX ?_ s.heap [] 0 0 _ ⟨hP, va_S.rf, fun q => by rw [Nat.add_zero]; exact ha q, Nat.le_of_eq (Nat.zero_add _), Nat.le_of_eq (Nat.zero_add _), hal, hst⟩ ?_ (fun _ q => by cases q)
  · intro H locs cells slots ls pc hH
    refine ⟨fun x hx hd hzb => ?_, fun hx hd => ?_⟩
    · rcases hret with ⟨q1, q2⟩ | ⟨q1, q2⟩ | q1
      · subst q1
        refine W.widen (k := mc) (n := ms) (Nat.le_trans (Nat.le_add_right _ _) hH.2.2.2.1) (Nat.le_trans (Nat.le_add_right _ _) hH.2.2.2.2.1) ?_
        exact W.iret (v := x) B.exec B.bytes B.returns (fun t ht hW => ⟨by rw [hx]; rfl, by rw [ht]; exact hH.1, hH.2.1.F ht⟩) hH.2.1.2.2 hd
      · refine W.widen (k := mc) (n := ms) (Nat.le_trans (Nat.le_add_right _ _) hH.2.2.2.1) (Nat.le_trans (Nat.le_add_right _ _) hH.2.2.2.2.1) ?_
        rcases q1 with q1 | q1 <;> subst q1 <;> exact W.zret (v := x) B.exec B.bytes B.returns (by rcases hzb q2 with q | q <;> rw [q] <;> rfl) (fun t ht hW => ⟨by rw [hx]; rfl, by rw [ht]; exact hH.1, hH.2.1.F ht⟩) hH.2.1.2.2 hd
      · rw [hr0 q1] at hx; cases hx
    · by_cases q1 : ret = none
      · subst q1
        refine W.widen (k := mc) (n := ms) (Nat.le_trans (Nat.le_add_right _ _) hH.2.2.2.1) (Nat.le_trans (Nat.le_add_right _ _) hH.2.2.2.2.1) ?_
        exact W.vret B.exec B.bytes B.returns (fun t ht hW => ⟨by rw [hx]; rfl, by rw [ht]; exact hH.1, hH.2.1.F ht⟩) hH.2.1.2.2 hd
      · obtain ⟨x, hx2⟩ := hr1 q1
        rw [hx] at hx2; cases hx2
  · rw [hml]
    refine ⟨hl.1, hl.2.1, by unfold en_pad; rw [List.length_append, List.length_replicate]; omega, fun i v hi => ?_⟩
    unfold en_pad at hi
    by_cases hlt : i < av.length
    · rw [List.getElem?_append_left hlt] at hi
      have hm := hav v (List.mem_of_getElem? hi)
      refine Or.inr ⟨?_, hl.2.2 (i, en_ev G v) (by have := en_lvargs (G := G) (k := 0) hi; rwa [Nat.zero_add] at this)⟩
      cases v with
      | inl x => trivial
      | inr w => exact Or.inr hm.1
    · rw [List.getElem?_append_right (Nat.not_lt.mp hlt)] at hi
      have := List.mem_of_getElem? hi
      rw [List.eq_of_mem_replicate this]
      exact Or.inl ⟨_, rfl, rfl⟩
