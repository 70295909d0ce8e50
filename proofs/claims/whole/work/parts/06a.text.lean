theorem en_is31 {P : Prop} {n sz : Nat} {w : Nat × en_K} (h : en_ok P n sz (.inr w)) (hk : w.2.1 = 31) : w = (0, (31, 0, 0)) := by
  rcases h with ⟨h, -⟩ | (h | h) | h
  · rw [h] at hk; exact absurd hk (by decide : ¬ (30 = 31))
  · exact h
  · rw [h] at hk; exact absurd hk (by decide)
  · rw [← h.2] at hk; have := en_ka_tag w.1; omega
theorem en_is32 {P : Prop} {n sz : Nat} {w : Nat × en_K} (h : en_ok P n sz (.inr w)) (hk : w.2.1 = 32) : w = (0, (32, 7, 0)) := by
  rcases h with ⟨h, -⟩ | (h | h) | h
  · rw [h] at hk; exact absurd hk (by decide : ¬ (30 = 32))
  · rw [h] at hk; exact absurd hk (by decide)
  · exact h
  · rw [← h.2] at hk; have := en_ka_tag w.1; omega
theorem sn_lds {G : en_G} {M : en_Me} {pc : Nat} {k : en_B} (ho : M.2.1 = RX6) (hd : decode M.1 pc = .ok (.ldc 19, 2)) (hk : en_Snd G M (pc + 2) k) : en_Snd G M pc (op_lds k) := by
  intro L S z σ rr h p ee R s m args below meth c al Q X Dn H locs cells slots ls hH hL hS
  exact va_ldcS X.1 X.2.1 X.2.2.2.1 (by rw [ho]; exact X.2.2.2.2.2.2.2.2.1.2.2.2.1.1) hd (hk L (.inr (0, (31, 0, 0)) :: S) z σ rr h p ee R s m args below meth c al Q X Dn H locs cells slots ls hH hL (en_v (Or.inr (Or.inl (Or.inl rfl))) hS))
theorem sn_stv {G : en_G} {M : en_Me} {pc : Nat} {k : en_B} {idx : Nat} (hw : (.fieldLink M.2.1 idx "java/lang/String" "value" "[B" : Cond) ∈ en_wl) (hd : decode M.1 pc = .ok (.getfield idx, 3)) (hk : en_Snd G M (pc + 3) k) : en_Snd G M pc (op_stv k) := by
  intro L S z σ rr h p ee R s m args below meth c al Q X Dn H locs cells slots ls hH hL hS
  unfold op_stv at h
  split at h
  · rename_i v S'
    cases hb : Nat.beq v.2.1 31 with
    | false => rw [hb] at h; cases h
    | true =>
      rw [hb, cond_true] at h
      have e := en_is31 (en_h hS) (Nat.eq_of_beq_eq_true hb)
      subst e
      exact vk_getf X.1 X.2.1 (X.2.2.2.2.2.2.2.2.1.2.2.2.2.1.1 0 (Nat.succ_pos 0)).2.2.1 hH.2.1 X.2.2.2.1 (X.2.2.2.2.1 _ hw) (fun _ h9 => h9) hd (hk L (.inr (0, (32, 7, 0)) :: S') z σ rr h p ee R s m args below meth c al Q X Dn H locs cells slots ls hH hL (en_v (Or.inr (Or.inl (Or.inr rfl))) (en_tl hS)))
  · cases h
theorem sn_stc {G : en_G} {M : en_Me} {pc : Nat} {k : en_B} {idx : Nat} (hw : (.fieldLink M.2.1 idx "java/lang/String" "coder" "B" : Cond) ∈ en_wl) (hd : decode M.1 pc = .ok (.getfield idx, 3)) (hk : en_Snd G M (pc + 3) k) : en_Snd G M pc (op_stc k) := by
  intro L S z σ rr h p ee R s m args below meth c al Q X Dn H locs cells slots ls hH hL hS
  unfold op_stc at h
  split at h
  · rename_i v S'
    cases hb : Nat.beq v.2.1 31 with
    | false => rw [hb] at h; cases h
    | true =>
      rw [hb, cond_true] at h
      have e := en_is31 (en_h hS) (Nat.eq_of_beq_eq_true hb)
      subst e
      exact vk_getf X.1 X.2.1 (X.2.2.2.2.2.2.2.2.1.2.2.2.2.1.1 0 (Nat.succ_pos 0)).2.1 hH.2.1 X.2.2.2.1 (X.2.2.2.2.1 _ hw) (fun _ h9 => h9) hd (hk L (.inl 0 :: S') z σ rr h p ee R s m args below meth c al Q X Dn H locs cells slots ls hH hL (en_i (en_tl hS)))
  · cases h
theorem sn_gst {G : en_G} {M : en_Me} {pc : Nat} {k : en_B} {idx : Nat} (hw : (.fieldLink M.2.1 idx "java/lang/String" "COMPACT_STRINGS" "Z" : Cond) ∈ en_wl) (hd : decode M.1 pc = .ok (.getstatic idx, 3)) (hk : en_Snd G M (pc + 3) k) : en_Snd G M pc (op_const (1 : Int32) k) := by
  intro L S z σ rr h p ee R s m args below meth c al Q X Dn H locs cells slots ls hH hL hS
  exact va_gets X.1 X.2.1 X.2.2.2.2.2.2.2.2.1.2.2.2.2.2.1 hH.2.1 X.2.2.2.1 (X.2.2.2.2.1 _ hw) (fun _ h9 => h9) hd (hk L (.inl 1 :: S) z σ rr h p ee R s m args below meth c al Q X Dn H locs cells slots ls hH hL (en_i hS))
theorem sn_sbl {G : en_G} {M : en_Me} {pc : Nat} {k : en_B} (hd : decode M.1 pc = .ok (.baload, 1)) (hk : en_Snd G M (pc + 1) k) : en_Snd G M pc (op_sbl k) := by
  intro L S z σ rr h p ee R s m args below meth c al Q X Dn H locs cells slots ls hH hL hS
  unfold op_sbl at h
  split at h
  · rename_i i v S'
    cases hb : Nat.beq v.2.1 32 with
    | false => rw [hb] at h; cases h
    | true =>
      rw [hb, cond_true] at h
      have e := en_is32 (en_h (en_tl hS)) (Nat.eq_of_beq_eq_true hb)
      subst e
      cases hi : en_ix i 7 with
      | none => rw [hi] at h; cases h
      | some j =>
        rw [hi, Option.bind_some] at h
        obtain ⟨hin, hj, -⟩ := en_ix_in hi
        subst hj
        exact va_tb X.1 X.2.1 (X.2.2.2.2.2.2.2.2.1.2.2.2.2.1.1 0 (Nat.succ_pos 0)).2.2.2 hH.2.1 hin rfl hd (hk L (.inl (en_wt i.toNatClampNeg) :: S') z σ rr h p ee R s m args below meth c al Q X Dn H locs cells slots ls hH hL (en_i (en_tl (en_tl hS))))
  · cases h
theorem sn_sbn {G : en_G} {M : en_Me} {pc : Nat} {k : en_B} (hd : decode M.1 pc = .ok (.arraylength, 1)) (hk : en_Snd G M (pc + 1) k) : en_Snd G M pc (op_sbn k) := by
  intro L S z σ rr h p ee R s m args below meth c al Q X Dn H locs cells slots ls hH hL hS
  unfold op_sbn at h
  split at h
  · rename_i v S'
    cases hb : Nat.beq v.2.1 32 with
    | false => rw [hb] at h; cases h
    | true =>
      rw [hb, cond_true] at h
      have e := en_is32 (en_h hS) (Nat.eq_of_beq_eq_true hb)
      subst e
      exact va_tlen X.1 X.2.1 (X.2.2.2.2.2.2.2.2.1.2.2.2.2.1.1 0 (Nat.succ_pos 0)).2.2.2 hH.2.1 rfl hd (hk L (.inl 7 :: S') z σ rr h p ee R s m args below meth c al Q X Dn H locs cells slots ls hH hL (en_i (en_tl hS)))
  · cases h
theorem en_callT {G : en_G} {M : en_Me} {pc : Nat} {L S : List en_V} {z : en_Z} {σ : en_M} {rr : en_T ⊕ en_C} {idx n mc ms d maxL : Nat} {y : MethodName} {bytes : ByteArray} {ret : Option FieldType} {f : en_F} {r : en_T} (hI : en_I G d y bytes maxL ret mc ms f) (hdp : d + 1 ≤ M.2.2.2.2.1) (hcs : en_cs y bytes maxL ret n) (hlk : en_lkV M.2.1 idx y) (hd : decode M.1 pc = .ok (.invokevirtual idx, 3)) {ci : Nat} (hcc : ci = 31 ∧ y.cls = "java/lang/String") (hrc : ∃ w : Nat × en_K, S[n]? = some (.inr w) ∧ w.2.1 = ci)
    (hrd : en_rd (n + 1) S = true) (hmc : mc ≤ z.2.1) (hms : ms ≤ z.2.2) (hf : f (S.take (n + 1)).reverse (z.1, mc, ms) σ = some r) (hst : (G.2.2.2.2.2 = true → z.1 = en_KL.length) → G.2.2.2.2.2 = true → r.2.1.1 = en_KL.length) (hall : r.2.1.1 = z.1 + mc)
    (hk : en_At G M (pc + 3) L ((match r.1 with | some x => [.inl x] | none => []) ++ S.drop (n + 1)) (r.2.1.1, z.2.1 - mc, z.2.2 - ms) r.2.2 rr) : en_At G M pc L S z σ rr := by
  intro p ee R s m args below meth c al Q X Dn H locs cells slots ls hH hL hS
  have hr1 := Bool.and_eq_true_iff.mp hrd
  have hr2 := Bool.and_eq_true_iff.mp hr1.1
  have hn : (n + 1) ≤ S.length := Nat.le_of_ble_eq_true hr2.1
  have h8 : (S.drop (n + 1)).length ≤ 8 := Nat.le_of_ble_eq_true hr1.2
  have hav := en_args (fun v hv => hS v (List.mem_of_mem_take hv)) hr2.2
  refine en_size X.2.2.2.2.2.2.1 hH (fun hsz => ?_)
  have hM := hI al (S.take (n + 1)).reverse z.1 σ r hH.2.2.2.2.2.1 (fun _ => hall) hH.2.2.2.2.2.2 hf hav
  have hgo := pay_in X.2.2.2.2.1 (en_goodin hcs.1)
  have hRf := X.2.2.2.2.2.2.2.2.2.1
  have hRl := X.2.2.2.2.2.2.2.2.2.2
  have hml := hcs.2.2.2
  have hw := fun w h => X.2.2.2.2.1 w h
  rw [en_split (n := (n + 1))]
  obtain ⟨w, As, hAs, hwt⟩ : ∃ (w : Nat × en_K) (As : List en_V), (S.take (n + 1)).reverse = .inr w :: As ∧ w.2.1 = ci := by
    obtain ⟨w, hw1, hw2⟩ := hrc
    have hl : (S.take (n + 1)).length = n + 1 := by rw [List.length_take]; omega
    have hne : S.take (n + 1) = S.take n ++ [.inr w] := by
      have hlt : n < S.length := by omega
      rw [List.take_succ_eq_append_getElem hlt]
      rw [List.getElem?_eq_getElem hlt] at hw1
      rw [Option.some.inj hw1]
    exact ⟨w, (S.take n).reverse, by rw [hne, List.reverse_append]; rfl, hw2⟩
  have hAl : As.length = n := by
    have h1 := congrArg List.length hAs
    rw [List.length_reverse, List.length_take, List.length_cons] at h1
    omega
  rw [hAs] at hM hav ⊢
  have hwv := en_is31 (P := True) (n := 0) (Or.inr (List.forall_mem_cons.mp hav).1.1) (hwt.trans hcc.1)
  subst hwv
  have hev : en_ev G (.inr (0, (31, 0, 0))) = .ref (G.2.2.2.1 31) := rfl
  have hrv := vk_recv X.2.2.2.2.2.2.2.2.1.2.2.2.2.1 (Nat.succ_pos 0) hH.2.1
  have hst9 : (((.inr (0, (31, 0, 0)) :: As : List en_V).map (en_ev G)).reverse ++ (S.drop (n + 1)).map (en_ev G)) = (As.map (en_ev G)).reverse ++ .ref (G.2.2.2.1 31) :: (S.drop (n + 1)).map (en_ev G) := by
    rw [List.map_cons, List.reverse_cons, List.append_assoc, hev]; rfl
  rw [List.map_cons, hev] at hM
  rw [hst9]
  have hrun : va_Run p G.1 ee R s m args below meth c H locs cells slots mc ms (F0 m pc ls ((As.map (en_ev G)).reverse ++ .ref (G.2.2.2.1 31) :: (S.drop (n + 1)).map (en_ev G))) ((S.drop (n + 1)).map (en_ev G)) (en_Q G r (.ref (G.2.2.2.1 31) :: As.map (en_ev G)).toArray) (fun q => G.2.1 ≤ q) :=
    va_runV (C := y.cls) (As := As.map (en_ev G)) (rest := (S.drop (n + 1)).map (en_ev G)) (cc := M.1) (nL := M.2.2.1) ⟨X.1, X.2.1, X.2.2.1, X.2.2.2.1, hw⟩ hM ⟨callB_of n hw (en_goodin hcs.1) rfl rfl rfl (hw _ hcs.2.1) (hw _ hlk.2.2) hcs.2.2.1 ⟨(by show d + 1 ≤ R.frames; omega), (by show 8 + (maxL + 11) + 40 * d ≤ R.locals; omega)⟩, hw _ hlk.1, hw _ hlk.2.1⟩ ⟨en_blind, (by rw [hcc.2]; exact hrv), fun U hU hW => ⟨rfl, by rw [hU]; exact hH.1, va_K.moved hW.alike X.2.2.2.2.2.2.2.1, en_N.at hW (by rw [hU]; exact hH.2.1.2.1) X.2.2.2.2.2.2.2.2.1, by rw [hU]; exact Nat.le_trans X.2.2.2.2.2.2.1 hH.2.1.1, fun ha => by rw [hU]; exact hsz ha⟩⟩ rfl (by rw [List.length_map]; exact hAl) hL.1 rfl (en_rest h8) hd ⟨(by have := hH.2.2.2.1; omega), (by have := hH.2.2.2.2.1; omega)⟩
  have hle : z.1 ≤ r.2.1.1 := by rw [hall]; exact Nat.le_add_right _ _
  refine en_back hrun hH hmc hms (fun _ => hall) (hst hH.2.2.2.2.2.2) (fun H1 locs1 hH1 => ?_)
  have hres := hk p ee R s m args below meth c al Q X Dn H1 locs1 (cells + mc) (slots + ms) ls hH1 (hL.grow hle) (fun v hv => by
    rcases List.mem_append.mp hv with q | q
    · cases hr : r.1 with
      | none => rw [hr] at q; cases q
      | some x => rw [hr] at q; rw [List.mem_singleton.mp q]; trivial
    · exact en_grow (hS v (List.mem_of_mem_drop q)) hle)
  rw [List.map_append] at hres
  have hsame : (match r.1 with | some x => [.inl x] | none => [] : List en_V).map (en_ev G) = (r.1.map Value.int).toList := by
    cases r.1 <;> rfl
  rw [hsame] at hres
  exact hres
