/-! the law's entry: what the engine wants, out of what the Statement gives -/
def R_law : String := "EachMayMissOneLaw"
def lw_P (b : Addr) (xs : List Int32) (args : Array Value) (s : State) : Prop := args = #[.ref b] ∧ s.IntsAt b xs ∧ xs.length ≤ 2560 ∧ (Jvm.Cond.and given_1 narrow_1).before args s = true
def lw_Q (_ : Array Value) (s : State) (o : Outcome) (t : State) : Prop := o = .returned (some (.int 1)) ∧ Framed s o t [] 601024 7293034
def lw_Z (below : List Frame) (a : Array Value) (s : State) : State → Prop := fun t => ∃ o, t.status = .running ∧ Ended t below o ∧ lw_Q a s o t
/-- the law's own end, with 1 on the stack, nothing written that was there before, its room as the claim has it -/
theorem lw_ret {p : Program} {l : Launch} {e : Env} {s : State} {m : MethodId} {below : List Frame} {meth : Method} {c : Code} {b : Nat} (hx : p.tables.exec = Jvm.exec) (hb : c.code = code) (hr : meth.sig.returnType = ret) (hlocks : meth.locks = false) {pc : Nat} {H : Heap} {ls : Array Slot} (hdg : decode code pc = .ok (.ireturn, 1)) : W p l e room_1 s m #[Value.ref b] below meth c H [] 601024 7293034 (lw_Z below #[Value.ref b] s) (F0 m pc ls [.int 1]) := by
  intro T hT X
  obtain ⟨fs, hret, hrun, hended, hW, hframe⟩ := X.leave (v := some (.int 1)) (hlocks := hlocks) (fun h => by rw [hr] at h; cases h)
  have hmeth' : T.vm.method? m = some meth := X.method'
  refine ⟨T.setFrames fs, ?_, .returned (some (.int 1)), hrun, hended, rfl, ⟨_, rfl⟩, hW, hframe⟩
  jvm_step X.here [X.here.top, hx, hb, hdg, hmeth', hr, ret, narrow_b1]
  (try refine ⟨rfl, ?_⟩); (try refine ⟨rfl, ?_⟩)
  first | (intro acts; rw [hret _ acts rfl rfl rfl]) | rw [hret _ _ rfl rfl rfl]
  exact Steps.refl _
/-- what holds at the law's entry: the machine, the code, the tables' words (any of lw_tbl by 'hts w (by decide +kernel)'), the script of L ints xs at the cell b, what the Statement gives of the start (any of its parts by flat_of_before) -/
def lw_At (p : Program) (s : State) (m : MethodId) (meth : Method) (c : Code) (b L : Nat) (xs : Nat → Int32) : Prop :=
  p.tables.exec = Jvm.exec ∧ c.code = code ∧ meth.sig.returnType = ret ∧ c.maxLocals = 7 ∧ s.vm.findClass R_law = some m.cls ∧ (∀ w ∈ lw_tbl, w.before #[Value.ref b] s = true) ∧ va_X b L xs s s.heap ∧ b < s.heap.size ∧ meth.locks = false ∧ (Jvm.Cond.and given_1 narrow_1).before #[Value.ref b] s = true
theorem wz_nst : ∀ q ∈ en_nst, (.methodLinkNest q.1 q.2.1 q.2.2 RX11 : Cond) ∈ lw_tbl := by
  unfold en_nst
  exact List.forall_mem_cons.mpr ⟨wm_7, List.forall_mem_cons.mpr ⟨wm_12, List.forall_mem_cons.mpr ⟨wm_17, List.forall_mem_cons.mpr ⟨wm_22, List.forall_mem_cons.mpr ⟨wm_22, List.forall_mem_cons.mpr ⟨wm_38, List.forall_mem_cons.mpr ⟨wm_43, List.forall_mem_cons.mpr ⟨wm_48, List.forall_mem_cons.mpr ⟨wm_734, List.forall_mem_cons.mpr ⟨wm_734, List.forall_mem_cons.mpr ⟨wm_734, List.forall_mem_cons.mpr ⟨wm_760, List.forall_mem_cons.mpr ⟨wm_760, List.forall_mem_cons.mpr ⟨wm_761, List.forall_mem_cons.mpr ⟨wm_761, List.forall_mem_cons.mpr ⟨wm_768, List.forall_mem_cons.mpr ⟨wm_791, List.forall_mem_cons.mpr ⟨wm_791, List.forall_mem_cons.mpr ⟨wm_791, List.forall_mem_cons.mpr ⟨wm_791, List.forall_mem_cons.mpr ⟨wm_805, List.forall_mem_cons.mpr ⟨wm_791, List.forall_mem_cons.mpr ⟨wm_791, List.forall_mem_cons.mpr ⟨wm_824, List.forall_mem_cons.mpr ⟨wm_824, List.forall_mem_cons.mpr ⟨wm_824, List.forall_mem_cons.mpr ⟨wm_824, List.forall_mem_cons.mpr ⟨wm_833, List.forall_mem_cons.mpr ⟨wm_836, List.forall_mem_cons.mpr ⟨wm_840, List.forall_mem_cons.mpr ⟨wm_824, List.forall_mem_cons.mpr ⟨wm_855, List.forall_mem_cons.mpr ⟨wm_883, List.forall_mem_cons.mpr ⟨wm_942, List.forall_mem_cons.mpr ⟨wm_942, List.forall_mem_cons.mpr ⟨wm_976, List.forall_mem_cons.mpr ⟨wm_1030, List.forall_mem_cons.mpr ⟨wm_1030, List.forall_mem_cons.mpr ⟨wm_1052, List.forall_mem_cons.mpr ⟨wm_1098, List.forall_mem_cons.mpr ⟨wm_1102, List.forall_mem_cons.mpr ⟨wm_1111, List.forall_mem_cons.mpr ⟨wm_1128, List.forall_mem_cons.mpr ⟨wm_1129, List.forall_mem_cons.mpr ⟨wm_1136, List.forall_mem_cons.mpr ⟨wm_1140, List.forall_mem_cons.mpr ⟨wm_1129, List.forall_mem_cons.mpr ⟨wm_1128, fun _ h => absurd h List.not_mem_nil⟩⟩⟩⟩⟩⟩⟩⟩⟩⟩⟩⟩⟩⟩⟩⟩⟩⟩⟩⟩⟩⟩⟩⟩⟩⟩⟩⟩⟩⟩⟩⟩⟩⟩⟩⟩⟩⟩⟩⟩⟩⟩⟩⟩⟩⟩⟩⟩
theorem ez_arrc {args : Array Value} {s : State} {ty : FieldType} (h : (Cond.arrayClass ty).before args s = true) : ∃ cA, ArrOfT s cA ty ∧ s.vm.findClass ("[" ++ ty.toString) = some cA := by
  obtain ⟨c, k, comp, h1, h2, h3⟩ := Cond.arrayClass_spec h
  exact ⟨c, fun N z => ⟨(fun k h => by cases h), k, h2, comp, h3⟩, h1⟩
theorem ez_arrS {args : Array Value} {s : State} {C : String} (h : (Cond.arrayOver (.object C)).before args s = true) : ∃ cA, ArrOfT s cA (.object C) ∧ va_RA s cA (.object C) := by
  obtain ⟨comp, c, k, h1, h2, h3, h4, h5⟩ := Cond.arrayOver_spec h
  exact ⟨c, fun N z => ⟨(fun k h => by cases h), k, h3, comp, h4⟩, k, comp, h3, h4, h1, h5⟩
theorem ez_arrM {args : Array Value} {s : State} {t : FieldType} (h : (Cond.arrayOver (.array t)).before args s = true) : ∃ cA, ArrOfT s cA (.array t) ∧ s.vm.findClass ("[" ++ (FieldType.array t).toString) = some cA := by
  simp only [Cond.before, Cond.holds, Cond.value, beq_iff_eq] at h
  cases hc : s.vm.findClass (FieldType.array t).toString with
  | none => simp [hc] at h
  | some comp =>
    simp only [hc, Option.bind_some, Option.bind_eq_some_iff, Option.map_eq_some_iff] at h
    obtain ⟨c, hi, k, hk, hb⟩ := h
    obtain ⟨hlt, hp, -⟩ := Array.findIdx?_eq_some_iff_getElem.mp hi
    have hkk : s.vm.classes[c] = k := (Array.getElem?_eq_some_iff.mp hk).2
    rw [hkk] at hp
    cases hkind : k.kind with
    | array component ty =>
      rw [hkind] at hb hp
      simp at hb hp
      exact ⟨c, fun N z => ⟨(fun k h => by cases h), k, hk, component, by rw [hkind, hb.1]⟩, hb.2⟩
    | _ => rw [hkind] at hb; simp at hb
theorem ez_kn {s : State} {args : Array Value} (hts : ∀ w ∈ en_wl, w.before args s = true) : ∀ k : Nat, ∃ q : ClassId × (Nat → Nat), ∀ c : vw_C, en_cl[k]? = some c → u_Kn s c.1 c.2.1 c.2.2 q.1 q.2 := by
  intro k
  match k with
  | 0 =>
    obtain ⟨c, i, h⟩ := u_known (C := RX0) (T := TX0) (N := 3) (n := 3) hts en_u0 (hts _ wm_1097)
    exact ⟨(c, i), fun q hq => by cases hq; exact h⟩
  | 1 =>
    obtain ⟨c, i, h⟩ := u_known (C := RX1) (T := TX1) (N := 2) (n := 2) hts en_u1 (hts _ wm_31)
    exact ⟨(c, i), fun q hq => by cases hq; exact h⟩
  | 2 =>
    obtain ⟨c, i, h⟩ := u_known (C := RX2) (T := TX2) (N := 3) (n := 3) hts en_u2 (hts _ wm_36)
    exact ⟨(c, i), fun q hq => by cases hq; exact h⟩
  | 3 =>
    obtain ⟨c, i, h⟩ := u_known (C := RX3) (T := TX3) (N := 3) (n := 3) hts en_u3 (hts _ wm_46)
    exact ⟨(c, i), fun q hq => by cases hq; exact h⟩
  | 4 =>
    obtain ⟨c, i, h⟩ := u_known (C := RX4) (T := TX4) (N := 3) (n := 3) hts en_u4 (hts _ wm_26)
    exact ⟨(c, i), fun q hq => by cases hq; exact h⟩
  | 5 =>
    obtain ⟨c, i, h⟩ := u_known (C := RX5) (T := TX5) (N := 7) (n := 7) hts en_u5 (hts _ wm_41)
    exact ⟨(c, i), fun q hq => by cases hq; exact h⟩
  | 6 =>
    obtain ⟨c, i, h⟩ := u_known (C := RX6) (T := TX6) (N := 7) (n := 7) hts en_u6 (hts _ wm_1101)
    exact ⟨(c, i), fun q hq => by cases hq; exact h⟩
  | 7 =>
    obtain ⟨c, i, h⟩ := u_known (C := RX7) (T := TX7) (N := 10) (n := 10) hts en_u7 (hts _ wm_20)
    exact ⟨(c, i), fun q hq => by cases hq; exact h⟩
  | 8 =>
    obtain ⟨c, i, h⟩ := u_known (C := RX8) (T := TX8) (N := 2) (n := 2) hts en_u8 (hts _ wm_5)
    exact ⟨(c, i), fun q hq => by cases hq; exact h⟩
  | 9 =>
    obtain ⟨c, i, h⟩ := u_known (C := RX9) (T := TX9) (N := 2) (n := 2) hts en_u9 (hts _ wm_10)
    exact ⟨(c, i), fun q hq => by cases hq; exact h⟩
  | 10 =>
    obtain ⟨c, i, h⟩ := u_known (C := RX10) (T := TX10) (N := 7) (n := 7) hts en_u10 (hts _ wm_15)
    exact ⟨(c, i), fun q hq => by cases hq; exact h⟩
  | 11 =>
    obtain ⟨c, i, h⟩ := u_known (C := RX11) (T := TX11) (N := 14) (n := 14) hts en_u11 (hts _ wy_2)
    exact ⟨(c, i), fun q hq => by cases hq; exact h⟩
  | 12 =>
    obtain ⟨c, i, h⟩ := u_known (C := RX12) (T := TX12) (N := 44) (n := 44) hts en_u12 (hts _ wy_5)
    exact ⟨(c, i), fun q hq => by cases hq; exact h⟩
  | k + 13 => exact ⟨(0, fun _ => 0), fun q hq => by simp [en_cl] at hq⟩
theorem ez_sref {args : Array Value} {s : State} {own tx : String} {k : Nat} (h1 : (Cond.stringRef own k tx).before args s = true) (h2 : (Cond.exactly (.string own k) "java/lang/String").before args s = true) : ∃ a, vk_R own k tx a s := by
  obtain ⟨a, c, cA, kA, q1, -⟩ := Cond.exactly_spec (args := args) (first := s) (o := none) (s := s) (idx := []) (t := .string own k) (cls := "java/lang/String") h2
  exact ⟨a, vk_R.of (A := args) h1 q1⟩
theorem ez_start {p : Program} {s : State} {m : MethodId} {meth : Method} {c : Code} {b L : Nat} {xs : Nat → Int32} (l : Launch) (C0 : lw_At p s m meth c b L xs) :
    ∃ (D : va_G) (cy : Nat → ClassId), ∀ st : Bool, en_X (l, s.heap.size, D, cy, (b, L, xs), st) M_law p room_1 s m #[Value.ref b] meth c := by
  obtain ⟨hx, hb, hr, hml, hown, hts, hX, hbl, hlocks, hgv⟩ := id C0
  have hs := flat_of_before _ hgv
  have hw : ∀ w ∈ en_wl, w.before #[Value.ref b] s = true := fun w h => hts w (en_wl_in w h)
  have hA : ∀ a : Nat, a < s.heap.size → ¬ (fun q : Nat => s.heap.size ≤ q) a := fun a h => Nat.not_le.mpr h
  obtain ⟨dk, hdk⟩ := Classical.axiomOfChoice (ez_kn hw)
  obtain ⟨c20, i20, f20⟩ := ez_arrc (hw _ wm_1284)
  obtain ⟨c21, i21, f21⟩ := ez_arrc (hw _ wm_1285)
  obtain ⟨c22, i22, f22⟩ := ez_arrc (hw _ wm_1286)
  obtain ⟨c23, i23, f23⟩ := ez_arrM (hts _ wm_1294)
  obtain ⟨c24, i24, f24⟩ := ez_arrS (hts _ wm_1293)
  obtain ⟨c25, i25, f25⟩ := ez_arrc (hw _ wm_1287)
  obtain ⟨adK, adV, hS, hR⟩ := vk_Sof (args := #[Value.ref b]) (s := s) (N := 1) (tm := fun _ => .string RX6 19) (len := [7]) (byt := [[119, 116, 112, 114, 105, 115, 109]]) (A := fun q : Nat => s.heap.size ≤ q)
    (fun i hi => by rw [show i = 0 by omega]; decide)
    (fun i hi => hs _ (by decide +kernel)) (fun i hi => hs _ (by decide +kernel)) (fun i hi => hs _ (by decide +kernel))
    (fun i hi => by rw [show i = 0 by omega]; exact hs _ (by decide +kernel))
    (fun i hi j hj => by
      rw [show i = 0 by omega] at hj ⊢
      have hj : j < 7 := hj
      match j, hj with
      | 0, _ => exact hs _ (by decide +kernel)
      | 1, _ => exact hs _ (by decide +kernel)
      | 2, _ => exact hs _ (by decide +kernel)
      | 3, _ => exact hs _ (by decide +kernel)
      | 4, _ => exact hs _ (by decide +kernel)
      | 5, _ => exact hs _ (by decide +kernel)
      | 6, _ => exact hs _ (by decide +kernel))
    (fun i j hi hj h => absurd (show i = j by omega) h) hA
  refine ⟨(fun k => (dk k).1, fun k => (dk k).2), fun k => match k with
    | 20 => c20 | 21 => c21 | 22 => c22 | 23 => c23 | 24 => c24 | 25 => c25 | 31 => adK 0 | 32 => adV 0 | _ => 0, fun st => ⟨hx, hb, hml, hown, hw, (fun h => by cases h), Nat.le_refl _, ⟨fun k q hq => hdk k q hq, fun k q hq => ?_⟩, ⟨fun q hq => va_Nw.of rfl (hts _ (wz_nst q hq)), hts _ wm_1293, hts _ wm_1294, ?_⟩, Nat.le_of_ble_eq_true rfl, Nat.le_of_ble_eq_true rfl⟩⟩
  · match k, hq with
    | 0, hq => cases hq; exact ⟨i20, f20⟩
    | 1, hq => cases hq; exact ⟨i21, f21⟩
    | 2, hq => cases hq; exact ⟨i22, f22⟩
    | 3, hq => cases hq; exact ⟨i23, f23⟩
    | 4, hq => cases hq; exact ⟨i24, f24⟩
    | 5, hq => cases hq; exact ⟨i25, f25⟩
    | k + 6, hq => simp [en_ty] at hq
  · refine ⟨⟨vk_R.of (A := #[Value.ref b]) (hts _ (en_t1 (List.mem_of_getElem? (i := 97) rfl))) (hR 0 (by omega)), ez_sref (hts _ (en_t5 (List.mem_of_getElem? (i := 131) rfl))) (hs _ (by decide +kernel)), ez_sref (hts _ (en_t5 (List.mem_of_getElem? (i := 158) rfl))) (hs _ (by decide +kernel)), ez_sref (hts _ (en_t5 (List.mem_of_getElem? (i := 166) rfl))) (hs _ (by decide +kernel)), ez_sref (hts _ (en_t5 (List.mem_of_getElem? (i := 174) rfl))) (hs _ (by decide +kernel))⟩, ⟨fun i hi => ?_, fun i j hi hj _ => by omega⟩,
      va_Zof (hts _ (en_t1 (List.mem_of_getElem? (i := 107) rfl))) (hts _ (en_t1 (List.mem_of_getElem? (i := 7) rfl))) (va_eqt (hs (Cond.eq (.static "java/lang/String" "COMPACT_STRINGS" "Z") (.int 1)) (by decide +kernel))) hA,
      vx_Zqof (hts _ (en_t5 (List.mem_of_getElem? (i := 119) rfl))) (hts _ (en_t1 (List.mem_of_getElem? (i := 22) rfl))) (hs _ (by decide +kernel)) hA, vx_Zqof (hts _ (en_t5 (List.mem_of_getElem? (i := 121) rfl))) (hts _ (en_t1 (List.mem_of_getElem? (i := 22) rfl))) (hs _ (by decide +kernel)) hA,
      va_Nw.of rfl (hts _ (en_t5 (List.mem_of_getElem? (i := 94) rfl))), ?_⟩
    · have h := hS.1 0 (by omega)
      rw [show i = 0 by omega]
      exact h
    · unfold en_dn
      exact List.forall_mem_cons.mpr ⟨va_Nw.of rfl (hts _ (en_t5 (List.mem_of_getElem? (i := 96) rfl))), List.forall_mem_cons.mpr ⟨va_Nw.of rfl (hts _ (en_t5 (List.mem_of_getElem? (i := 98) rfl))), List.forall_mem_cons.mpr ⟨va_Nw.of rfl (hts _ (en_t5 (List.mem_of_getElem? (i := 100) rfl))), fun _ h => absurd h List.not_mem_nil⟩⟩⟩
