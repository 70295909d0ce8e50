/-! the law: the answer in the long[1] held against the reference's -/
theorem en_lcmpW {p : Program} {l : Launch} {e : Env} {R : Room} {s : State} {m : MethodId} {args : Array Value} {below : List Frame} {meth : Method} {c : Code} {H : Heap} {locs : List Loc} {cells slots : Nat} {ls : Array Slot} {Q : State → Prop} {cc : ByteArray} {pc : Nat} {rest : List Value} (hexec : p.tables.exec = Jvm.exec) (hb : c.code = cc) {x : Int64} (hdg : decode cc pc = .ok (.lcmp, 1))
    (k : W p l e R s m args below meth c H locs cells slots Q (F0 m (pc + 1) ls (.int 0 :: rest))) : W p l e R s m args below meth c H locs cells slots Q (F0 m pc ls (.long x :: .long x :: rest)) := by
  intro T hT X
  obtain ⟨t, a, b⟩ := k T hT X
  refine ⟨t, ?_, b⟩
  have h1 : ¬ x > x := Int64.lt_irrefl
  jvm_step X.here [X.here.top, hexec, hb, hdg]
  exact a
theorem en_lqW {G : en_G} {M : en_Me} {p : Program} {ee : Env} {R : Room} {s : State} {m : MethodId} {args : Array Value} {below : List Frame} {meth : Method} {c : Code} {H : Heap} {locs : List Loc} {cells slots : Nat} {ls : Array Slot} {Q : State → Prop} {L : List en_V} {σ : en_M} {x : Int32} {pc tgt : Nat} {off : Int} (X : en_X G M p R s m args meth c)
    (hH : en_Hp G false R s en_zz σ H locs cells slots) (hL : en_Ls G (en_fo G s) M.2.2.1 210 L ls) (h3 : L[3]? = some (.inr (209, 25, 1, 0))) (h6 : L[6]? = some (.inl x)) (hx : σ 209 0 = x)
    (d0 : decode M.1 pc = .ok (.aload_n 3, 1)) (d1 : decode M.1 (pc + 1) = .ok (.iconst 0, 1)) (d2 : decode M.1 (pc + 2) = .ok (.laload, 1)) (d3 : decode M.1 (pc + 3) = .ok (.iload 6, 2)) (d5 : decode M.1 (pc + 5) = .ok (.i2l, 1)) (d6 : decode M.1 (pc + 6) = .ok (.lcmp, 1)) (d7 : decode M.1 (pc + 7) = .ok (.ifCond .eq off, 3)) (ht : ((pc + 7 : Nat) : Int) + off = (tgt : Int))
    (k : W p G.1 ee R s m args below meth c H locs cells slots Q (F0 m tgt ls [])) : W p G.1 ee R s m args below meth c H locs cells slots Q (F0 m pc ls []) := by
  have l3 : ls[3]? = some (.val (.ref (G.2.1 + 209))) := by
    rcases hL.2.2.2 3 _ h3 with ⟨w, h, h9⟩ | h
    · cases h; cases h9
    · exact h.2
  have l6 : ls[6]? = some (.val (.int x)) := by
    rcases hL.2.2.2 6 _ h6 with ⟨w, h, h9⟩ | h
    · cases h
    · exact h.2
  have hg2 := en_W_get (b := G.2.1) (cy := G.2.2.2.1) (st := G.2.2.2.2.2) (σ := σ) (sz := 210) (k := 209) (by decide)
  rw [en_ce_l (by rw [en_ka209]), en_ka209] at hg2
  refine lv_aload_n X.1 X.2.1 d0 rfl l3 ?_
  refine lv_iconst (v := 0) X.1 X.2.1 d1 (by decide) ?_
  refine va_lald X.1 X.2.1 X.2.2.2.2.2.2.2.1 hH.1 209 5 hg2 rfl (i := 0) (by unfold vp_in; decide) d2 ?_
  refine lv_iload X.1 X.2.1 d3 l6 ?_
  refine lv_i2l (v := x.toInt64) X.1 X.2.1 d5 rfl ?_
  rw [show (0 : Int32).toNatClampNeg = 0 from rfl, hx]
  refine en_lcmpW X.1 X.2.1 d6 ?_
  exact lv_if_eq X.1 X.2.1 d7 ht (fun _ => k) (fun q => absurd rfl q)
