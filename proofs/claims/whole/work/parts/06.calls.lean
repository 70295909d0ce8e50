/-! calls, and methods as functions -/
def en_P (G : en_G) (al : Bool) (sz : Nat) (σ : en_M) (U : State) : Prop :=
  va_P G.2.2.1 en_cl (en_W G.2.1 G.2.2.2.1 G.2.2.2.2.2 sz σ) U.heap ∧ va_K G.2.2.1 en_cl (en_ty G.2.2.2.1) U ∧ en_N G U ∧ G.2.1 ≤ U.heap.size ∧ (al = true → U.heap.size = G.2.1 + sz)
def en_Q (G : en_G) (r : en_T) : Array Value → State → Outcome → State → Prop := fun _ st o t =>
  o = .returned (r.1.map Value.int) ∧ va_P G.2.2.1 en_cl (en_W G.2.1 G.2.2.2.1 G.2.2.2.2.2 r.2.1.1 r.2.2) t.heap ∧ va_F (fun q => G.2.1 ≤ q) st t
/-- the method y is the function f: at most d frames deep, mc cells of ms slots made -/
def en_I (G : en_G) (d : Nat) (y : MethodName) (bytes : ByteArray) (maxL : Nat) (ret : Option FieldType) (mc ms : Nat) (f : en_F) : Prop :=
  ∀ (al : Bool) (av : List en_V) (sz : Nat) (σ : en_M) (r : en_T), (G.2.2.2.2.2 = false → al = true) → (al = true → r.2.1.1 = sz + mc) → (G.2.2.2.2.2 = true → sz = en_KL.length) → f av (sz, mc, ms) σ = some r → (∀ v ∈ av, en_okv sz v ∧ en_pl v = true) →
    Met G.1 y (.code y bytes maxL ret :: en_wl) { frames := d, cells := mc, slots := ms, locals := 40 * d } (va_Pc (av.map (en_ev G)) (en_P G al sz σ)) (en_Q G r) mc ms (fun q => G.2.1 ≤ q)
theorem en_blind {G : en_G} {al : Bool} {sz : Nat} {σ : en_M} {av : List Value} : FrameBlind (va_Pc av (en_P G al sz σ)) := by
  intro a U g mk q
  obtain ⟨q0, q1, q2, q3, q4, q5⟩ := q
  exact ⟨q0, q1, va_K.moved (u := U) (U := U.calling g mk a) (Vm.Alike.refl U.vm) q2, en_N.at (s := U) (U := U.calling g mk a) (State.WarmedH.refl U) (fun _ _ _ => rfl) q3, q4, q5⟩
theorem en_szle {G : en_G} {al : Bool} {R : Room} {s : State} {z : en_Z} {σ : en_M} {H : Heap} {locs : List Loc} {cells slots : Nat} (hb : G.2.1 ≤ s.heap.size) (h : en_Hp G al R s z σ H locs cells slots) : G.2.1 + z.1 ≤ H.size := by
  cases hz : z.1 with
  | zero => exact Nat.le_trans hb h.2.1.1
  | succ n =>
    have hg := en_W_get (b := G.2.1) (cy := G.2.2.2.1) (st := G.2.2.2.2.2) (σ := σ) (sz := z.1) (k := n) (by omega)
    have := (h.1 n _ hg).lt
    have this : G.2.1 + n < H.size := this
    omega
theorem en_size {G : en_G} {al : Bool} {p : Program} {e : Env} {R : Room} {s : State} {m : MethodId} {args : Array Value} {below : List Frame} {meth : Method} {c : Code} {z : en_Z} {σ : en_M} {H : Heap} {locs : List Loc} {cells slots : Nat} {Q : State → Prop} {g : JFrame} (hb : G.2.1 ≤ s.heap.size) (h : en_Hp G al R s z σ H locs cells slots)
    (k : (al = true → H.size = G.2.1 + z.1) → W p G.1 e R s m args below meth c H locs cells slots Q g) : W p G.1 e R s m args below meth c H locs cells slots Q g := by
  intro T hT X
  refine k (fun ha => ?_) T hT X
  have h1 := X.heapSize
  rw [hT] at h1
  have h2 := en_szle hb h
  have h3 := h.2.2.1 ha
  omega
/-- behind a call -/
theorem en_back {G : en_G} {al : Bool} {p : Program} {e : Env} {R : Room} {s : State} {m : MethodId} {args : Array Value} {below : List Frame} {meth : Method} {c : Code} {z : en_Z} {σ : en_M} {H : Heap} {locs : List Loc} {cells slots mc ms : Nat} {Q : State → Prop} {pc : Nat} {ls : Array Slot} {st0 rest : List Value} {a : Array Value} {r : en_T}
    (hr : va_Run p G.1 e R s m args below meth c H locs cells slots mc ms (F0 m pc ls st0) rest (en_Q G r a) (fun q => G.2.1 ≤ q)) (h : en_Hp G al R s z σ H locs cells slots)
    (hmc : mc ≤ z.2.1) (hms : ms ≤ z.2.2) (hz : al = true → r.2.1.1 = z.1 + mc) (hst : G.2.2.2.2.2 = true → r.2.1.1 = en_KL.length)
    (kk : ∀ (H1 : Heap) (locs1 : List Loc), en_Hp G al R s (r.2.1.1, z.2.1 - mc, z.2.2 - ms) r.2.2 H1 locs1 (cells + mc) (slots + ms) → W p G.1 e R s m args below meth c H1 locs1 (cells + mc) (slots + ms) Q (F0 m (pc + 3) ls ((r.1.map Value.int).toList ++ rest))) :
    W p G.1 e R s m args below meth c H locs cells slots Q (F0 m pc ls st0) := by
  intro T hT X
  obtain ⟨v, st₀, t, T', L, h0, X', hL, e1, e2, ⟨hv, hP, hz1, hk⟩, st⟩ := hr T hT X
  cases hv
  rw [h0] at hz1 hk
  obtain ⟨t2, a1, b1⟩ := kk T'.heap (locs ++ L) ⟨by rw [e1]; exact hP, ⟨Nat.le_trans h.2.1.1 (by rw [e1]; exact hz1), fun q h1 h2 => by rw [e1, hk q (Nat.lt_of_lt_of_le h1 h.2.1.1) h2]; exact h.2.1.2.1 q h1 h2, fun q hq => by
      rcases List.mem_append.mp hq with g | g
      · exact h.2.1.2.2 q g
      · exact hL q g⟩, (fun ha => by have := h.2.2.1 ha; have := hz ha; show s.heap.size + (cells + mc) = G.2.1 + r.2.1.1; omega), (by have := h.2.2.2.1; show cells + mc + (z.2.1 - mc) ≤ R.cells; omega), (by have := h.2.2.2.2.1; show slots + ms + (z.2.2 - ms) ≤ R.slots; omega), h.2.2.2.2.2.1, hst⟩ T' rfl X'
  exact ⟨t2, st t2 a1, b1⟩
theorem en_args {P : Prop} {n sz : Nat} {l : List en_V} (h : ∀ v ∈ l, en_ok P n sz v) (hp : l.all en_pl = true) : ∀ v ∈ l.reverse, en_okv sz v ∧ en_pl v = true := by
  intro v hv
  have hv := List.mem_reverse.mp hv
  have h1 := List.all_eq_true.mp hp v hv
  refine ⟨?_, h1⟩
  cases v with
  | inl x => trivial
  | inr w =>
    rcases h _ hv with ⟨q, -⟩ | q
    · have h1 : (Nat.ble w.2.1 29 || Nat.beq w.2.1 31 || Nat.beq w.2.1 32) = true := h1
      rw [show w.2.1 = 30 by rw [q]] at h1
      exact absurd h1 (by decide)
    · exact q
theorem en_goodin {y : MethodName} {bytes : ByteArray} {maxL : Nat} {ret : Option FieldType} (h : (.code y bytes maxL ret : Cond) ∈ en_wl) : GoodIn en_wl (.code y bytes maxL ret :: en_wl) := by
  intro w hw
  rcases List.mem_cons.mp hw with q | q
  · rw [q]; exact ⟨h, en_wl_good _ h⟩
  · exact ⟨q, en_wl_good _ q⟩
/-- the words of a call -/
def en_cs (y : MethodName) (bytes : ByteArray) (maxL : Nat) (ret : Option FieldType) (n : Nat) : Prop :=
  (.code y bytes maxL ret : Cond) ∈ en_wl ∧ (.initialized y.cls : Cond) ∈ en_wl ∧ (y.cls ≠ "java/lang/invoke/MethodHandle" ∧ y.cls ≠ "java/lang/invoke/VarHandle" ∧ (parseMethodDescriptor y.desc).map (fun d => d.parameters.length) = some n) ∧ maxL ≤ 21
theorem en_split {n : Nat} {S : List en_V} {G : en_G} : S.map (en_ev G) = ((S.take n).reverse.map (en_ev G)).reverse ++ (S.drop n).map (en_ev G) := by
  rw [← List.map_reverse, List.reverse_reverse, ← List.map_append, List.take_append_drop]
theorem en_rest {G : en_G} {S : List en_V} {m : MethodId} {pc : Nat} {ls : Array Slot} {st : List Value} (h : S.length ≤ 8) : 2 * (F0 m pc ls st).monitorRoom + ((S.map (en_ev G)).map fun v => v.category).sum ≤ 8 := lv_room (by rw [en_sum]; exact h)
/-- a call of a static method -/
def en_lkS (own : String) (idx : Nat) (y : MethodName) : Prop := (.static y : Cond) ∈ en_wl ∧ ((.methodLink own idx y : Cond) ∈ en_wl ∨ (own, idx, y) ∈ en_nst)
def en_lkV (own : String) (idx : Nat) (y : MethodName) : Prop := (.instanceMethod y : Cond) ∈ en_wl ∧ (.selects y.cls y y : Cond) ∈ en_wl ∧ (.methodLink own idx y : Cond) ∈ en_wl
def en_lkI (own : String) (idx : Nat) (y : MethodName) : Prop := (.instanceMethod y : Cond) ∈ en_wl ∧ y.name = "<init>" ∧ ((.methodLink own idx y : Cond) ∈ en_wl ∨ (own, idx, y) ∈ en_nst)
theorem en_callS {G : en_G} {M : en_Me} {pc : Nat} {L S : List en_V} {z : en_Z} {σ : en_M} {rr : en_T ⊕ en_C} {idx n mc ms d maxL : Nat} {y : MethodName} {bytes : ByteArray} {ret : Option FieldType} {f : en_F} {r : en_T} (hI : en_I G d y bytes maxL ret mc ms f) (hdp : d + 1 ≤ M.2.2.2.2.1) (hcs : en_cs y bytes maxL ret n) (hlk : en_lkS M.2.1 idx y) (hd : decode M.1 pc = .ok (.invokestatic idx, 3)) 
    (hrd : en_rd n S = true) (hmc : mc ≤ z.2.1) (hms : ms ≤ z.2.2) (hf : f (S.take n).reverse (z.1, mc, ms) σ = some r) (hst : (G.2.2.2.2.2 = true → z.1 = en_KL.length) → G.2.2.2.2.2 = true → r.2.1.1 = en_KL.length) (hall : r.2.1.1 = z.1 + mc)
    (hk : en_At G M (pc + 3) L ((match r.1 with | some x => [.inl x] | none => []) ++ S.drop n) (r.2.1.1, z.2.1 - mc, z.2.2 - ms) r.2.2 rr) : en_At G M pc L S z σ rr := by
  intro p ee R s m args below meth c al Q X Dn H locs cells slots ls hH hL hS
  have hr1 := Bool.and_eq_true_iff.mp hrd
  have hr2 := Bool.and_eq_true_iff.mp hr1.1
  have hn : n ≤ S.length := Nat.le_of_ble_eq_true hr2.1
  have h8 : (S.drop n).length ≤ 8 := Nat.le_of_ble_eq_true hr1.2
  have hav := en_args (fun v hv => hS v (List.mem_of_mem_take hv)) hr2.2
  refine en_size X.2.2.2.2.2.2.1 hH (fun hsz => ?_)
  have hM := hI al (S.take n).reverse z.1 σ r hH.2.2.2.2.2.1 (fun _ => hall) hH.2.2.2.2.2.2 hf hav
  have hgo := pay_in X.2.2.2.2.1 (en_goodin hcs.1)
  have hRf := X.2.2.2.2.2.2.2.2.2.1
  have hRl := X.2.2.2.2.2.2.2.2.2.2
  have hml := hcs.2.2.2
  have hw := fun w h => X.2.2.2.2.1 w h
  rw [en_split (n := n)]
  have hrun : va_Run p G.1 ee R s m args below meth c H locs cells slots mc ms (F0 m pc ls (((S.take n).reverse.map (en_ev G)).reverse ++ (S.drop n).map (en_ev G))) ((S.drop n).map (en_ev G)) (en_Q G r ((S.take n).reverse.map (en_ev G)).toArray) (fun q => G.2.1 ≤ q) := by
    rcases hlk.2 with hlk2 | hlk2
    · exact va_runS (As := (S.take n).reverse.map (en_ev G)) (rest := (S.drop n).map (en_ev G)) (cc := M.1) (nL := M.2.2.1) ⟨X.1, X.2.1, X.2.2.1, X.2.2.2.1, hw⟩ hM ⟨callB_of n hw (en_goodin hcs.1) rfl rfl rfl (hw _ hcs.2.1) (hw _ hlk2) hcs.2.2.1 ⟨(by show d + 1 ≤ R.frames; omega), (by show 8 + (maxL + 11) + 40 * d ≤ R.locals; omega)⟩, hw _ hlk.1⟩ ⟨en_blind, fun U hU hW => ⟨rfl, by rw [hU]; exact hH.1, va_K.moved hW.alike X.2.2.2.2.2.2.2.1, en_N.at hW (by rw [hU]; exact hH.2.1.2.1) X.2.2.2.2.2.2.2.2.1, by rw [hU]; exact Nat.le_trans X.2.2.2.2.2.2.1 hH.2.1.1, fun ha => by rw [hU]; exact hsz ha⟩⟩ rfl (by simp; omega) hL.1 rfl (en_rest h8) hd ⟨(by have := hH.2.2.2.1; omega), (by have := hH.2.2.2.2.1; omega)⟩
    · exact va_runSN (As := (S.take n).reverse.map (en_ev G)) (rest := (S.drop n).map (en_ev G)) (cc := M.1) (nL := M.2.2.1) ⟨X.1, X.2.1, X.2.2.1, X.2.2.2.1, hw⟩ hM ⟨va_cnB n hw (en_goodin hcs.1) rfl rfl rfl (X.2.2.2.2.2.2.2.2.1.1 _ hlk2) (hw _ hcs.2.1) hcs.2.2.1 ⟨(by show d + 1 ≤ R.frames; omega), (by show 8 + (maxL + 11) + 40 * d ≤ R.locals; omega)⟩, hw _ hlk.1, trivial⟩ ⟨en_blind, fun U hU hW => ⟨rfl, by rw [hU]; exact hH.1, va_K.moved hW.alike X.2.2.2.2.2.2.2.1, en_N.at hW (by rw [hU]; exact hH.2.1.2.1) X.2.2.2.2.2.2.2.2.1, by rw [hU]; exact Nat.le_trans X.2.2.2.2.2.2.1 hH.2.1.1, fun ha => by rw [hU]; exact hsz ha⟩⟩ rfl (by simp; omega) hL.1 rfl (en_rest h8) hd ⟨(by have := hH.2.2.2.1; omega), (by have := hH.2.2.2.2.1; omega)⟩
  have hle : z.1 ≤ r.2.1.1 := by rw [hall]; exact Nat.le_add_right _ _
  refine en_back hrun hH hmc hms (fun _ => hall) (hst hH.2.2.2.2.2.2) (fun H1 locs1 hH1 => ?_)
  have hres := hk p ee R s m args below meth c al Q X Dn H1 locs1 (cells + mc) (slots + ms) ls hH1 (hL.grow hle) (fun v hv => by
    rcases List.mem_append.mp hv with q | q
    · cases hr : r.1 with
      | none => rw [hr] at q; cases q
      | some x => rw [hr] at q; rw [List.mem_singleton.mp q]; trivial
    · exact en_grow (hS v (List.mem_of_mem_drop q)) hle)
  rw [List.map_append] at hres
  have hsame : (match r.1 with | some x => [.inl x] | none => [] : List en_V).map (en_ev G) = (r.1.map Value.int).toList := by
    cases r.1 <;> rfl
  rw [hsame] at hres
  exact hres
theorem en_callV {G : en_G} {M : en_Me} {pc : Nat} {L S : List en_V} {z : en_Z} {σ : en_M} {rr : en_T ⊕ en_C} {idx n mc ms d maxL : Nat} {y : MethodName} {bytes : ByteArray} {ret : Option FieldType} {f : en_F} {r : en_T} (hI : en_I G d y bytes maxL ret mc ms f) (hdp : d + 1 ≤ M.2.2.2.2.1) (hcs : en_cs y bytes maxL ret n) (hlk : en_lkV M.2.1 idx y) (hd : decode M.1 pc = .ok (.invokevirtual idx, 3)) {ci : Nat} (hcc : (∃ q : vw_C, en_cl[ci]? = some q ∧ q.1 = y.cls) ∧ ci < 20) (hrc : ∃ w : Nat × en_K, S[n]? = some (.inr w) ∧ w.2.1 = ci)
    (hrd : en_rd (n + 1) S = true) (hmc : mc ≤ z.2.1) (hms : ms ≤ z.2.2) (hf : f (S.take (n + 1)).reverse (z.1, mc, ms) σ = some r) (hst : (G.2.2.2.2.2 = true → z.1 = en_KL.length) → G.2.2.2.2.2 = true → r.2.1.1 = en_KL.length) (hall : r.2.1.1 = z.1 + mc)
    (hk : en_At G M (pc + 3) L ((match r.1 with | some x => [.inl x] | none => []) ++ S.drop (n + 1)) (r.2.1.1, z.2.1 - mc, z.2.2 - ms) r.2.2 rr) : en_At G M pc L S z σ rr := by
  intro p ee R s m args below meth c al Q X Dn H locs cells slots ls hH hL hS
  have hr1 := Bool.and_eq_true_iff.mp hrd
  have hr2 := Bool.and_eq_true_iff.mp hr1.1
  have hn : (n + 1) ≤ S.length := Nat.le_of_ble_eq_true hr2.1
  have h8 : (S.drop (n + 1)).length ≤ 8 := Nat.le_of_ble_eq_true hr1.2
  have hav := en_args (fun v hv => hS v (List.mem_of_mem_take hv)) hr2.2
  refine en_size X.2.2.2.2.2.2.1 hH (fun hsz => ?_)
  have hM := hI al (S.take (n + 1)).reverse z.1 σ r hH.2.2.2.2.2.1 (fun _ => hall) hH.2.2.2.2.2.2 hf hav
  have hgo := pay_in X.2.2.2.2.1 (en_goodin hcs.1)
  have hRf := X.2.2.2.2.2.2.2.2.2.1
  have hRl := X.2.2.2.2.2.2.2.2.2.2
  have hml := hcs.2.2.2
  have hw := fun w h => X.2.2.2.2.1 w h
  rw [en_split (n := (n + 1))]
  obtain ⟨w, As, hAs, hwt⟩ : ∃ (w : Nat × en_K) (As : List en_V), (S.take (n + 1)).reverse = .inr w :: As ∧ w.2.1 = ci := by
    obtain ⟨w, hw1, hw2⟩ := hrc
    have hl : (S.take (n + 1)).length = n + 1 := by rw [List.length_take]; omega
    have hne : S.take (n + 1) = S.take n ++ [.inr w] := by
      have hlt : n < S.length := by omega
      rw [List.take_succ_eq_append_getElem hlt]
      rw [List.getElem?_eq_getElem hlt] at hw1
      rw [Option.some.inj hw1]
    exact ⟨w, (S.take n).reverse, by rw [hne, List.reverse_append]; rfl, hw2⟩
  have hAl : As.length = n := by
    have h1 := congrArg List.length hAs
    rw [List.length_reverse, List.length_take, List.length_cons] at h1
    omega
  rw [hAs] at hM hav ⊢
  have hci : ci < 20 := hcc.2
  have hwv := en_wvw (List.forall_mem_cons.mp hav).1.1 (by omega)
  have hev := en_evr (G := G) (w := w) (by omega)
  have hg := en_W_get (b := G.2.1) (cy := G.2.2.2.1) (st := G.2.2.2.2.2) (σ := σ) hwv.1
  rw [en_ce_o (by rw [hwv.2]; exact hwt) hci] at hg
  obtain ⟨q9, hq9, hq8⟩ := hcc.1
  have hrv := va_recv X.2.2.2.2.2.2.2.1 hH.1 hq9 hg
  rw [hq8] at hrv
  have hst9 : (((.inr w :: As : List en_V).map (en_ev G)).reverse ++ (S.drop (n + 1)).map (en_ev G)) = (As.map (en_ev G)).reverse ++ .ref (G.2.1 + w.1) :: (S.drop (n + 1)).map (en_ev G) := by
    rw [List.map_cons, List.reverse_cons, List.append_assoc, hev]; rfl
  rw [List.map_cons, hev] at hM
  rw [hst9]
  have hrun : va_Run p G.1 ee R s m args below meth c H locs cells slots mc ms (F0 m pc ls ((As.map (en_ev G)).reverse ++ .ref (G.2.1 + w.1) :: (S.drop (n + 1)).map (en_ev G))) ((S.drop (n + 1)).map (en_ev G)) (en_Q G r (.ref (G.2.1 + w.1) :: As.map (en_ev G)).toArray) (fun q => G.2.1 ≤ q) :=
    va_runV (As := As.map (en_ev G)) (rest := (S.drop (n + 1)).map (en_ev G)) (cc := M.1) (nL := M.2.2.1) ⟨X.1, X.2.1, X.2.2.1, X.2.2.2.1, hw⟩ hM ⟨callB_of n hw (en_goodin hcs.1) rfl rfl rfl (hw _ hcs.2.1) (hw _ hlk.2.2) hcs.2.2.1 ⟨(by show d + 1 ≤ R.frames; omega), (by show 8 + (maxL + 11) + 40 * d ≤ R.locals; omega)⟩, hw _ hlk.1, hw _ hlk.2.1⟩ ⟨en_blind, hrv, fun U hU hW => ⟨rfl, by rw [hU]; exact hH.1, va_K.moved hW.alike X.2.2.2.2.2.2.2.1, en_N.at hW (by rw [hU]; exact hH.2.1.2.1) X.2.2.2.2.2.2.2.2.1, by rw [hU]; exact Nat.le_trans X.2.2.2.2.2.2.1 hH.2.1.1, fun ha => by rw [hU]; exact hsz ha⟩⟩ rfl (by rw [List.length_map]; exact hAl) hL.1 rfl (en_rest h8) hd ⟨(by have := hH.2.2.2.1; omega), (by have := hH.2.2.2.2.1; omega)⟩
  have hle : z.1 ≤ r.2.1.1 := by rw [hall]; exact Nat.le_add_right _ _
  refine en_back hrun hH hmc hms (fun _ => hall) (hst hH.2.2.2.2.2.2) (fun H1 locs1 hH1 => ?_)
  have hres := hk p ee R s m args below meth c al Q X Dn H1 locs1 (cells + mc) (slots + ms) ls hH1 (hL.grow hle) (fun v hv => by
    rcases List.mem_append.mp hv with q | q
    · cases hr : r.1 with
      | none => rw [hr] at q; cases q
      | some x => rw [hr] at q; rw [List.mem_singleton.mp q]; trivial
    · exact en_grow (hS v (List.mem_of_mem_drop q)) hle)
  rw [List.map_append] at hres
  have hsame : (match r.1 with | some x => [.inl x] | none => [] : List en_V).map (en_ev G) = (r.1.map Value.int).toList := by
    cases r.1 <;> rfl
  rw [hsame] at hres
  exact hres
theorem en_callI {G : en_G} {M : en_Me} {pc : Nat} {L S : List en_V} {z : en_Z} {σ : en_M} {rr : en_T ⊕ en_C} {idx n mc ms d maxL : Nat} {y : MethodName} {bytes : ByteArray} {ret : Option FieldType} {f : en_F} {r : en_T} (hI : en_I G d y bytes maxL ret mc ms f) (hdp : d + 1 ≤ M.2.2.2.2.1) (hcs : en_cs y bytes maxL ret n) (hlk : en_lkI M.2.1 idx y) (hd : decode M.1 pc = .ok (.invokespecial idx, 3)) {ci : Nat} (hcc : (∃ q : vw_C, en_cl[ci]? = some q ∧ q.1 = y.cls) ∧ ci < 20) (hrc : ∃ w : Nat × en_K, S[n]? = some (.inr w) ∧ w.2.1 = ci) (hret : ret = none)
    (hrd : en_rd (n + 1) S = true) (hmc : mc ≤ z.2.1) (hms : ms ≤ z.2.2) (hf : f (S.take (n + 1)).reverse (z.1, mc, ms) σ = some r) (hst : (G.2.2.2.2.2 = true → z.1 = en_KL.length) → G.2.2.2.2.2 = true → r.2.1.1 = en_KL.length) (hall : r.2.1.1 = z.1 + mc)
    (hk : en_At G M (pc + 3) L ((match r.1 with | some x => [.inl x] | none => []) ++ S.drop (n + 1)) (r.2.1.1, z.2.1 - mc, z.2.2 - ms) r.2.2 rr) : en_At G M pc L S z σ rr := by
  intro p ee R s m args below meth c al Q X Dn H locs cells slots ls hH hL hS
  have hr1 := Bool.and_eq_true_iff.mp hrd
  have hr2 := Bool.and_eq_true_iff.mp hr1.1
  have hn : (n + 1) ≤ S.length := Nat.le_of_ble_eq_true hr2.1
  have h8 : (S.drop (n + 1)).length ≤ 8 := Nat.le_of_ble_eq_true hr1.2
  have hav := en_args (fun v hv => hS v (List.mem_of_mem_take hv)) hr2.2
  refine en_size X.2.2.2.2.2.2.1 hH (fun hsz => ?_)
  have hM := hI al (S.take (n + 1)).reverse z.1 σ r hH.2.2.2.2.2.1 (fun _ => hall) hH.2.2.2.2.2.2 hf hav
  have hgo := pay_in X.2.2.2.2.1 (en_goodin hcs.1)
  have hRf := X.2.2.2.2.2.2.2.2.2.1
  have hRl := X.2.2.2.2.2.2.2.2.2.2
  have hml := hcs.2.2.2
  have hw := fun w h => X.2.2.2.2.1 w h
  rw [en_split (n := (n + 1))]
  obtain ⟨w, As, hAs, hwt⟩ : ∃ (w : Nat × en_K) (As : List en_V), (S.take (n + 1)).reverse = .inr w :: As ∧ w.2.1 = ci := by
    obtain ⟨w, hw1, hw2⟩ := hrc
    have hl : (S.take (n + 1)).length = n + 1 := by rw [List.length_take]; omega
    have hne : S.take (n + 1) = S.take n ++ [.inr w] := by
      have hlt : n < S.length := by omega
      rw [List.take_succ_eq_append_getElem hlt]
      rw [List.getElem?_eq_getElem hlt] at hw1
      rw [Option.some.inj hw1]
    exact ⟨w, (S.take n).reverse, by rw [hne, List.reverse_append]; rfl, hw2⟩
  have hAl : As.length = n := by
    have h1 := congrArg List.length hAs
    rw [List.length_reverse, List.length_take, List.length_cons] at h1
    omega
  rw [hAs] at hM hav ⊢
  have hci : ci < 20 := hcc.2
  have hwv := en_wvw (List.forall_mem_cons.mp hav).1.1 (by omega)
  have hev := en_evr (G := G) (w := w) (by omega)
  have hg := en_W_get (b := G.2.1) (cy := G.2.2.2.1) (st := G.2.2.2.2.2) (σ := σ) hwv.1
  rw [en_ce_o (by rw [hwv.2]; exact hwt) hci] at hg
  obtain ⟨q9, hq9, hq8⟩ := hcc.1
  have hrv := va_recv X.2.2.2.2.2.2.2.1 hH.1 hq9 hg
  rw [hq8] at hrv
  have hst9 : (((.inr w :: As : List en_V).map (en_ev G)).reverse ++ (S.drop (n + 1)).map (en_ev G)) = (As.map (en_ev G)).reverse ++ .ref (G.2.1 + w.1) :: (S.drop (n + 1)).map (en_ev G) := by
    rw [List.map_cons, List.reverse_cons, List.append_assoc, hev]; rfl
  rw [List.map_cons, hev] at hM
  rw [hst9]
  have hrun : va_Run p G.1 ee R s m args below meth c H locs cells slots mc ms (F0 m pc ls ((As.map (en_ev G)).reverse ++ .ref (G.2.1 + w.1) :: (S.drop (n + 1)).map (en_ev G))) ((S.drop (n + 1)).map (en_ev G)) (en_Q G r (.ref (G.2.1 + w.1) :: As.map (en_ev G)).toArray) (fun q => G.2.1 ≤ q) := by
    subst hret
    rcases hlk.2.2 with hlk2 | hlk2
    · exact va_runI (As := As.map (en_ev G)) (rest := (S.drop (n + 1)).map (en_ev G)) (cc := M.1) (nL := M.2.2.1) ⟨X.1, X.2.1, X.2.2.1, X.2.2.2.1, hw⟩ hM (cwI n hw (en_goodin hcs.1) rfl rfl rfl (hw _ hcs.2.1) (hw _ hlk2) (hw _ hlk.1) hlk.2.1 hcs.2.2.1 ⟨(by show d + 1 ≤ R.frames; omega), (by show 8 + (maxL + 11) + 40 * d ≤ R.locals; omega)⟩) ⟨en_blind, fun U hU hW => ⟨rfl, by rw [hU]; exact hH.1, va_K.moved hW.alike X.2.2.2.2.2.2.2.1, en_N.at hW (by rw [hU]; exact hH.2.1.2.1) X.2.2.2.2.2.2.2.2.1, by rw [hU]; exact Nat.le_trans X.2.2.2.2.2.2.1 hH.2.1.1, fun ha => by rw [hU]; exact hsz ha⟩⟩ rfl (by rw [List.length_map]; exact hAl) hL.1 rfl (en_rest h8) hd ⟨(by have := hH.2.2.2.1; omega), (by have := hH.2.2.2.2.1; omega)⟩
    · exact va_runIN (As := As.map (en_ev G)) (rest := (S.drop (n + 1)).map (en_ev G)) (cc := M.1) (nL := M.2.2.1) ⟨X.1, X.2.1, X.2.2.1, X.2.2.2.1, hw⟩ hM ⟨va_cnB n hw (en_goodin hcs.1) rfl rfl rfl (X.2.2.2.2.2.2.2.2.1.1 _ hlk2) (hw _ hcs.2.1) hcs.2.2.1 ⟨(by show d + 1 ≤ R.frames; omega), (by show 8 + (maxL + 11) + 40 * d ≤ R.locals; omega)⟩, hlk.2.1, hw _ hlk.1⟩ ⟨en_blind, fun U hU hW => ⟨rfl, by rw [hU]; exact hH.1, va_K.moved hW.alike X.2.2.2.2.2.2.2.1, en_N.at hW (by rw [hU]; exact hH.2.1.2.1) X.2.2.2.2.2.2.2.2.1, by rw [hU]; exact Nat.le_trans X.2.2.2.2.2.2.1 hH.2.1.1, fun ha => by rw [hU]; exact hsz ha⟩⟩ rfl (by rw [List.length_map]; exact hAl) hL.1 rfl (en_rest h8) hd ⟨(by have := hH.2.2.2.1; omega), (by have := hH.2.2.2.2.1; omega)⟩
  have hle : z.1 ≤ r.2.1.1 := by rw [hall]; exact Nat.le_add_right _ _
  refine en_back hrun hH hmc hms (fun _ => hall) (hst hH.2.2.2.2.2.2) (fun H1 locs1 hH1 => ?_)
  have hres := hk p ee R s m args below meth c al Q X Dn H1 locs1 (cells + mc) (slots + ms) ls hH1 (hL.grow hle) (fun v hv => by
    rcases List.mem_append.mp hv with q | q
    · cases hr : r.1 with
      | none => rw [hr] at q; cases q
      | some x => rw [hr] at q; rw [List.mem_singleton.mp q]; trivial
    · exact en_grow (hS v (List.mem_of_mem_drop q)) hle)
  rw [List.map_append] at hres
  have hsame : (match r.1 with | some x => [.inl x] | none => [] : List en_V).map (en_ev G) = (r.1.map Value.int).toList := by
    cases r.1 <;> rfl
  rw [hsame] at hres
  exact hres
