def en_nst : List (String × Nat × MethodName) := [(RX11, 9, yX8_init), (RX11, 18, yX9_init), (RX11, 25, yX10_init), (RX11, 32, yX7_init), (RX11, 32, yX7_init), (RX11, 56, yX2_init), (RX11, 63, yX5_init), (RX11, 70, yX3_init), (RX0, 34, yX11_cannotStand), (RX0, 34, yX11_cannotStand), (RX0, 34, yX11_cannotStand), (RX0, 59, yX11_bellAt), (RX0, 59, yX11_bellAt), (RX0, 62, yX11_withBell), (RX0, 62, yX11_withBell), (RX1, 19, yX7_init), (RX2, 35, yX11_cannotStand), (RX2, 35, yX11_cannotStand), (RX2, 35, yX11_cannotStand), (RX2, 35, yX11_cannotStand), (RX2, 53, yX11_bit), (RX2, 35, yX11_cannotStand), (RX2, 35, yX11_cannotStand), (RX3, 24, yX11_bit), (RX3, 24, yX11_bit), (RX3, 24, yX11_bit), (RX3, 24, yX11_bit), (RX3, 37, yX11_bellAt), (RX3, 47, yX11_withBell), (RX3, 51, yX11_firstOf), (RX3, 24, yX11_bit), (RX4, 17, yX7_init), (RX5, 42, yX11_placesOf), (RX5, 119, yX11_bit), (RX5, 119, yX11_bit), (RX6, 52, yX11_cannotStand), (RX7, 24, yX11_inPlaceOrder), (RX7, 24, yX11_inPlaceOrder), (RX7, 65, yX11_bit), (RX10, 17, yX0_init), (RX10, 24, yX6_init), (RX10, 45, yX11_cannotStand), (RX10, 64, yX11_placesOf), (RX10, 67, yX11_bit), (RX10, 81, yX11_placeOf), (RX10, 94, yX11_put), (RX10, 67, yX11_bit), (RX10, 64, yX11_placesOf)]
/-! what it means that a piece of code does what an op-term says -/
abbrev en_G : Type := Launch × Nat × va_G × (Nat → ClassId) × (Nat × Nat × (Nat → Int32)) × Bool
abbrev en_Me : Type := ByteArray × String × Nat × Bool × Nat × Bool
def en_stv (w : Nat × en_K) : Prop := w = (0, (31, 0, 0)) ∨ w = (0, (32, 7, 0))
def en_okv (sz : Nat) (v : en_V) : Prop := match v with
  | .inl _ => True
  | .inr w => en_stv w ∨ (w.1 < sz ∧ en_ka w.1 = w.2)
def en_ok (P : Prop) (n sz : Nat) (v : en_V) : Prop := match v with
  | .inl _ => True
  | .inr w => (w.2 = (30, n, 0) ∧ P) ∨ en_okv sz (.inr w)
def en_ev (G : en_G) (v : en_V) : Value := match v with
  | .inl x => .int x
  | .inr w => if w.2.1 = 30 then .ref G.2.2.2.2.1.1 else if w.2.1 = 31 then .ref (G.2.2.2.1 31) else if w.2.1 = 32 then .ref (G.2.2.2.1 32) else .ref (G.2.1 + w.1)
theorem en_evref (G : en_G) (w : Nat × en_K) : ∃ a, en_ev G (.inr w) = .ref a := by
  simp only [en_ev]
  repeat' split
  all_goals exact ⟨_, rfl⟩
def en_fo (G : en_G) (s : State) : Prop := va_X G.2.2.2.2.1.1 G.2.2.2.2.1.2.1 G.2.2.2.2.1.2.2 s s.heap ∧ G.2.2.2.2.1.1 < s.heap.size ∧ G.2.2.2.2.1.1 < G.2.1
def en_dn : List String := ["java/lang/RuntimeException", "java/lang/Exception", "java/lang/Throwable"]
def en_xw : List Cond := vx_atS RX11 138 "java/util/NoSuchElementException" ["java/lang/RuntimeException", "java/lang/Exception"]
/-- what holds of the JDK's things that lie outside the world: the constants, the statics, the words of a throw -/
def en_E (G : en_G) (U : State) (H : Heap) : Prop :=
  (vk_R RX6 19 "wtprism" (G.2.2.2.1 31) U ∧ (∃ a, vk_R RX11 136 "no such ringer" a U) ∧ (∃ a, vk_R RX11 170 "nothing such of a ringer" a U) ∧ (∃ a, vk_R RX11 172 "no such place" a U) ∧ (∃ a, vk_R RX11 338 "no such number in the row" a U)) ∧
  vk_S 1 [7] [[119, 116, 112, 114, 105, 115, 109]] (fun _ => G.2.2.2.1 31) (fun _ => G.2.2.2.1 32) (fun q => G.2.1 ≤ q) U H ∧
  va_Z "java/lang/String" "COMPACT_STRINGS" "Z" (.int 1) (fun q => G.2.1 ≤ q) U H ∧
  vx_Zq Bundle.tN "UNASSIGNED_STACK" Bundle.steD (fun q => G.2.1 ≤ q) U H ∧ vx_Zq Bundle.tN "SUPPRESSED_SENTINEL" Bundle.listD (fun q => G.2.1 ≤ q) U H ∧
  va_Nw (.castable "java/util/NoSuchElementException" "java/util/NoSuchElementException") U ∧ (∀ Y ∈ en_dn, va_Nw (.declares (Bundle.initS Y)) U)
def en_N (G : en_G) (U : State) : Prop := (∀ q ∈ en_nst, va_Nw (.methodLinkNest q.1 q.2.1 q.2.2 RX11) U) ∧ va_AO RX7 U ∧ va_Nw (.arrayOver (.array .int)) U ∧ en_E G U U.heap
def en_Ls (G : en_G) (P : Prop) (nL sz : Nat) (L : List en_V) (ls : Array Slot) : Prop :=
  ls.size = nL ∧ lv_wf ls ∧ L.length = nL ∧ ∀ (i : Nat) (v : en_V), L[i]? = some v → (∃ w, v = .inr w ∧ w.2.1 = 99) ∨ (en_ok P G.2.2.2.2.1.2.1 sz v ∧ ls[i]? = some (.val (en_ev G v)))
def en_Hp (G : en_G) (al : Bool) (R : Room) (s : State) (z : en_Z) (σ : en_M) (H : Heap) (locs : List Loc) (cells slots : Nat) : Prop :=
  va_P G.2.2.1 en_cl (en_W G.2.1 G.2.2.2.1 G.2.2.2.2.2 z.1 σ) H ∧ va_S (fun q => G.2.1 ≤ q) s.heap H locs ∧ (al = true → s.heap.size + cells = G.2.1 + z.1) ∧ cells + z.2.1 ≤ R.cells ∧ slots + z.2.2 ≤ R.slots ∧ (G.2.2.2.2.2 = false → al = true) ∧ (G.2.2.2.2.2 = true → z.1 = en_KL.length)
def en_X (G : en_G) (M : en_Me) (p : Program) (R : Room) (s : State) (m : MethodId) (args : Array Value) (meth : Method) (c : Code) : Prop :=
  p.tables.exec = Jvm.exec ∧ c.code = M.1 ∧ c.maxLocals = M.2.2.1 ∧ s.vm.findClass M.2.1 = some m.cls ∧ (∀ w ∈ en_wl, w.before args s = true) ∧ (M.2.2.2.1 = true → meth.name = "<init>") ∧ G.2.1 ≤ s.heap.size ∧ va_K G.2.2.1 en_cl (en_ty G.2.2.2.1) s ∧ en_N G s ∧ M.2.2.2.2.1 ≤ R.frames ∧ 40 * M.2.2.2.2.1 ≤ R.locals
def en_Dn (G : en_G) (M : en_Me) (p : Program) (e : Env) (R : Room) (s : State) (m : MethodId) (args : Array Value) (below : List Frame) (meth : Method) (c : Code) (al : Bool) (Q : State → Prop) (rr : en_T ⊕ en_C) : Prop := match rr with
  | .inl r => ∀ (H : Heap) (locs : List Loc) (cells slots : Nat) (ls : Array Slot) (pc : Nat), en_Hp G al R s r.2.1 r.2.2 H locs cells slots →
      (∀ x, r.1 = some x → decode M.1 pc = .ok (.ireturn, 1) → (M.2.2.2.2.2 = true → x = 0 ∨ x = 1) → W p G.1 e R s m args below meth c H locs cells slots Q (F0 m pc ls [.int x])) ∧
      (r.1 = none → decode M.1 pc = .ok (.return_, 1) → W p G.1 e R s m args below meth c H locs cells slots Q (F0 m pc ls []))
  | .inr q => ∀ (H : Heap) (locs : List Loc) (cells slots : Nat) (ls : Array Slot), en_Hp G al R s q.2.2.2.1 q.2.2.2.2 H locs cells slots → en_Ls G (en_fo G s) M.2.2.1 q.2.2.2.1.1 q.2.1 ls → (∀ v ∈ q.2.2.1, en_ok (en_fo G s) G.2.2.2.2.1.2.1 q.2.2.2.1.1 v) → W p G.1 e R s m args below meth c H locs cells slots Q (F0 m q.1 ls (q.2.2.1.map (en_ev G)))
def en_At (G : en_G) (M : en_Me) (pc : Nat) (L S : List en_V) (z : en_Z) (σ : en_M) (rr : en_T ⊕ en_C) : Prop :=
  ∀ (p : Program) (e : Env) (R : Room) (s : State) (m : MethodId) (args : Array Value) (below : List Frame) (meth : Method) (c : Code) (al : Bool) (Q : State → Prop), en_X G M p R s m args meth c → en_Dn G M p e R s m args below meth c al Q rr →
  ∀ (H : Heap) (locs : List Loc) (cells slots : Nat) (ls : Array Slot), en_Hp G al R s z σ H locs cells slots → en_Ls G (en_fo G s) M.2.2.1 z.1 L ls → (∀ v ∈ S, en_ok (en_fo G s) G.2.2.2.2.1.2.1 z.1 v) → W p G.1 e R s m args below meth c H locs cells slots Q (F0 m pc ls (S.map (en_ev G)))
def en_Snd (G : en_G) (M : en_Me) (pc : Nat) (B : en_B) : Prop := ∀ L S z σ rr, B L S z σ = some rr → en_At G M pc L S z σ rr
theorem en_i {P : Prop} {n sz : Nat} {x : Int32} {S : List en_V} (h : ∀ v ∈ S, en_ok P n sz v) : ∀ v ∈ (.inl x :: S : List en_V), en_ok P n sz v := List.forall_mem_cons.mpr ⟨trivial, h⟩
theorem en_v {P : Prop} {n sz : Nat} {x : en_V} {S : List en_V} (hx : en_ok P n sz x) (h : ∀ v ∈ S, en_ok P n sz v) : ∀ v ∈ (x :: S : List en_V), en_ok P n sz v := List.forall_mem_cons.mpr ⟨hx, h⟩
theorem en_h {P : Prop} {n sz : Nat} {x : en_V} {S : List en_V} (h : ∀ v ∈ (x :: S : List en_V), en_ok P n sz v) : en_ok P n sz x := (List.forall_mem_cons.mp h).1
theorem en_tl {P : Prop} {n sz : Nat} {x : en_V} {S : List en_V} (h : ∀ v ∈ (x :: S : List en_V), en_ok P n sz v) : ∀ v ∈ S, en_ok P n sz v := (List.forall_mem_cons.mp h).2
theorem en_cat (G : en_G) (v : en_V) : (en_ev G v).category = 1 := by
  cases v with
  | inl x => rfl
  | inr w =>
    obtain ⟨a, ha⟩ := en_evref G w
    rw [ha]; rfl
theorem en_ka_tag (k : Nat) : (en_ka k).1 < 30 ∨ 90 < (en_ka k).1 := by
  unfold en_ka
  by_cases h : k < en_KL.length
  · rw [List.getD_eq_getElem?_getD, List.getElem?_eq_getElem h, Option.getD_some]
    exact (by decide +kernel : ∀ v ∈ en_KL, v.1 < 30 ∨ 90 < v.1) _ (List.getElem_mem h)
  · rw [List.getD_eq_getElem?_getD, List.getElem?_eq_none (Nat.not_lt.mp h)]
    decide
/-- a world's reference, by its kind -/
theorem en_wvw {sz : Nat} {w : Nat × en_K} (h : en_okv sz (.inr w)) (hk : w.2.1 < 30) : w.1 < sz ∧ en_ka w.1 = w.2 := by
  rcases h with (h | h) | h
  · rw [h] at hk; exact absurd hk (by decide)
  · rw [h] at hk; exact absurd hk (by decide)
  · exact h
theorem en_wr {P : Prop} {n sz : Nat} {w : Nat × en_K} (h : en_ok P n sz (.inr w)) (hk : w.2.1 < 30) : w.1 < sz ∧ en_ka w.1 = w.2 := by
  rcases h with ⟨h, -⟩ | h
  · rw [h] at hk; exact absurd hk (by decide : ¬ (30 < 30))
  · exact en_wvw h hk
theorem en_evr {G : en_G} {w : Nat × en_K} (hk : w.2.1 < 30 ∨ 90 < w.2.1) : en_ev G (.inr w) = .ref (G.2.1 + w.1) := by
  simp only [en_ev]
  rw [if_neg (by omega), if_neg (by omega), if_neg (by omega)]
theorem en_world {P : Prop} {n sz : Nat} {w : Nat × en_K} (h : w.1 < sz ∧ en_ka w.1 = w.2) : en_ok P n sz (.inr w) := Or.inr (Or.inr h)
/-- locals -/
theorem en_Ls.get {G : en_G} {P : Prop} {nL sz : Nat} {L : List en_V} {ls : Array Slot} (h : en_Ls G P nL sz L ls) {i : Nat} {v : en_V} (hv : L[i]? = some v) (hu : ∀ w, v = .inr w → w.2.1 ≠ 99) : en_ok P G.2.2.2.2.1.2.1 sz v ∧ ls[i]? = some (.val (en_ev G v)) := by
  rcases h.2.2.2 i v hv with ⟨w, e, q⟩ | q
  · exact absurd q (hu w e)
  · exact q
theorem en_Ls.lt {G : en_G} {P : Prop} {nL sz : Nat} {L : List en_V} {ls : Array Slot} (h : en_Ls G P nL sz L ls) {i : Nat} {v : en_V} (hv : L[i]? = some v) : i < nL := by
  rw [← h.2.2.1]
  exact (List.getElem?_eq_some_iff.mp hv).1
theorem en_grow {P : Prop} {n sz sz' : Nat} {v : en_V} (q : en_ok P n sz v) (hs : sz ≤ sz') : en_ok P n sz' v := by
  cases v with
  | inl x => trivial
  | inr w =>
    rcases q with q | q | q
    · exact Or.inl q
    · exact Or.inr (Or.inl q)
    · exact Or.inr (Or.inr ⟨Nat.lt_of_lt_of_le q.1 hs, q.2⟩)
theorem en_Ls.grow {G : en_G} {P : Prop} {nL sz sz' : Nat} {L : List en_V} {ls : Array Slot} (h : en_Ls G P nL sz L ls) (hs : sz ≤ sz') : en_Ls G P nL sz' L ls := by
  refine ⟨h.1, h.2.1, h.2.2.1, fun i v hv => ?_⟩
  rcases h.2.2.2 i v hv with q | ⟨q, r⟩
  · exact Or.inl q
  · exact Or.inr ⟨en_grow q hs, r⟩
/-- all the locals that are set, as the kit's list -/
def en_ll (G : en_G) (L : List en_V) : List (Nat × Value) := L.zipIdx.filterMap fun q => match q.1 with
  | .inl x => some (q.2, .int x)
  | .inr w => if w.2.1 = 99 then none else some (q.2, en_ev G (.inr w))
theorem en_ll_in {G : en_G} {L : List en_V} {i : Nat} {v : en_V} (hv : L[i]? = some v) (hu : ∀ w, v = .inr w → w.2.1 ≠ 99) : (i, en_ev G v) ∈ en_ll G L := by
  refine List.mem_filterMap.mpr ⟨(v, i), ?_, ?_⟩
  · rw [List.mem_zipIdx_iff_getElem?]; exact hv
  · cases v with
    | inl x => rfl
    | inr w => exact if_neg (hu w rfl)
theorem en_ll_of {G : en_G} {L : List en_V} {q : Nat × Value} (h : q ∈ en_ll G L) : ∃ v : en_V, L[q.1]? = some v ∧ (∀ w, v = .inr w → w.2.1 ≠ 99) ∧ q.2 = en_ev G v := by
  obtain ⟨r, hr, he⟩ := List.mem_filterMap.mp h
  obtain ⟨v, i⟩ := r
  rw [List.mem_zipIdx_iff_getElem?] at hr
  cases v with
  | inl x =>
    cases he
    exact ⟨.inl x, hr, (fun w e => nomatch e), rfl⟩
  | inr w =>
    by_cases h9 : w.2.1 = 99
    · simp [h9] at he
    · simp only [h9, if_false, Option.some.injEq] at he
      subst he
      exact ⟨.inr w, hr, (fun w' e => by cases e; exact h9), rfl⟩
theorem en_Ls.has {G : en_G} {P : Prop} {nL sz : Nat} {L : List en_V} {ls : Array Slot} (h : en_Ls G P nL sz L ls) : lv_has ls nL (en_ll G L) := by
  refine ⟨h.1, h.2.1, fun q hq => ?_⟩
  obtain ⟨v, h1, h2, h3⟩ := en_ll_of hq
  rw [h3]
  exact (h.get h1 h2).2
theorem en_Ls.set {G : en_G} {P : Prop} {nL sz : Nat} {L : List en_V} {ls ls' : Array Slot} {i : Nat} {v : en_V} (h : en_Ls G P nL sz L ls) (hv : en_ok P G.2.2.2.2.1.2.1 sz v)
    (h' : lv_has ls' nL ((i, en_ev G v) :: (en_ll G L).filter (fun q => !(q.1 == i) && !(q.1 + 1 == i && q.2.category == 2)))) : en_Ls G P nL sz (L.set i v) ls' := by
  refine ⟨h'.1, h'.2.1, by rw [List.length_set]; exact h.2.2.1, fun j u hu => ?_⟩
  rw [List.getElem?_set] at hu
  by_cases e : i = j
  · subst e
    rw [if_pos rfl] at hu
    by_cases hl : i < L.length
    · rw [if_pos hl] at hu
      cases hu
      exact Or.inr ⟨hv, h'.2.2 _ List.mem_cons_self⟩
    · rw [if_neg hl] at hu; cases hu
  · rw [if_neg e] at hu
    by_cases hw : ∃ w, u = .inr w ∧ w.2.1 = 99
    · exact Or.inl hw
    · have hu9 : ∀ w, u = .inr w → w.2.1 ≠ 99 := fun w a b => hw ⟨w, a, b⟩
      refine Or.inr ⟨(h.get hu hu9).1, h'.2.2 (j, en_ev G u) (List.mem_cons_of_mem _ (List.mem_filter.mpr ⟨en_ll_in hu hu9, ?_⟩))⟩
      have e2 : (j == i) = false := by simpa using fun q => e (Eq.symm q)
      simp [e2, en_cat]
theorem en_AOA {u U : State} (hvm : u.vm.Alike U.vm) (h : va_Nw (.arrayOver (.array .int)) u) : va_Nw (.arrayOver (.array .int)) U := by
  unfold va_Nw Cond.before Cond.holds at h ⊢
  simp only [Cond.value, beq_iff_eq, Option.bind_eq_some_iff, Option.map_eq_some_iff] at h ⊢
  obtain ⟨comp, h1, c, h2, k, h3, h4⟩ := h
  obtain ⟨k', hk', he⟩ := hvm.2.2 _ _ h3
  have a1 := va_idx_bare U.vm comp
  have a2 := va_idx_bare u.vm comp
  have hb : U.vm.bare = u.vm.bare := by first | exact hvm.bare_eq | exact hvm.bare_eq.symm
  rw [hb] at a1
  have hi := (a1.symm.trans a2).trans h2
  refine ⟨comp, by rw [hvm.findClass]; exact h1, c, hi, k', hk', ?_⟩
  have hkind : k'.kind = k.kind := by rw [he]
  rw [hkind, hvm.findClass]
  exact h4
theorem en_E.at {G : en_G} {s U : State} {H H1 : Heap} (hW : s.WarmedH U.vm) (hq : ∀ a : Nat, a < H.size → ¬ G.2.1 ≤ a → H1[a]? = H[a]?) (h : en_E G s H) : en_E G U H1 := by
  obtain ⟨⟨a1, ⟨b2, a2⟩, ⟨b3, a3⟩, ⟨b4, a4⟩, ⟨b5, a5⟩⟩, h2, h3, h4, h5, h6, h7⟩ := h
  exact ⟨⟨vk_R.warm hW a1, ⟨b2, vk_R.warm hW a2⟩, ⟨b3, vk_R.warm hW a3⟩, ⟨b4, vk_R.warm hW a4⟩, ⟨b5, vk_R.warm hW a5⟩⟩, vk_S.kept (vk_S.moved hW.alike h2) hq, va_Z.kept (va_Z.moved hW.alike h3) hq, vx_Zq.kept (vx_Zq.moved hW.alike h4) hq, vx_Zq.kept (vx_Zq.moved hW.alike h5) hq, va_Nw.warmC hW h6, fun Y hY => va_Nw.warmD hW (h7 Y hY)⟩
theorem en_N.at {G : en_G} {s U : State} (hW : s.WarmedH U.vm) (hq : ∀ a : Nat, a < s.heap.size → ¬ G.2.1 ≤ a → U.heap[a]? = s.heap[a]?) (h : en_N G s) : en_N G U := ⟨fun q hq => va_Nw.warmM hW (h.1 q hq), va_AO.moved hW.alike h.2.1, en_AOA hW.alike h.2.2.1, en_E.at hW hq h.2.2.2⟩

