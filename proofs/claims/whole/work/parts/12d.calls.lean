/-! the law: its three static calls -/
theorem en_goodS {own : String} {idx : Nat} {y : MethodName} {ws : List Cond} (h1 : (.methodLink own idx y : Cond) ∈ en_wl) (h2 : (.static y : Cond) ∈ en_wl) (h3 : (.initialized y.cls : Cond) ∈ en_wl) (h : GoodIn en_wl ws) : GoodIn en_wl (va_wsS own idx y ws) := by
  intro w hw
  unfold va_wsS at hw
  rcases List.mem_append.mp hw with q | q
  · simp only [List.mem_cons, List.not_mem_nil, or_false] at q
    rcases q with rfl | rfl | rfl
    · exact ⟨h1, en_wl_good _ h1⟩
    · exact ⟨h2, en_wl_good _ h2⟩
    · exact ⟨h3, en_wl_good _ h3⟩
  · exact h w q
theorem en_catW {G : en_G} {M : en_Me} {p : Program} {ee : Env} {R : Room} {s : State} {m : MethodId} {args : Array Value} {below : List Frame} {meth : Method} {c : Code} {H : Heap} {locs : List Loc} {cells slots : Nat} {ls : Array Slot} {Q : State → Prop} {S : List en_V} {σ : en_M} {r : Int32 × en_M}
    {d maxL n idx pc : Nat} {y : MethodName} {bytes : ByteArray} {hh : List (Nat × Nat × Nat × Nat)} {f : List en_V → en_M → Option (Int32 × en_M)} (X : en_X G M p R s m args meth c) (hst : G.2.2.2.2.2 = true) (hI : en_IC G d y bytes maxL hh f) (hdp : d + 1 ≤ M.2.2.2.2.1)
    (hcw : (.codeWith y bytes maxL (some .int) hh : Cond) ∈ en_wl) (hlk : (.methodLink M.2.1 idx y : Cond) ∈ en_wl) (hstt : (.static y : Cond) ∈ en_wl) (hini : (.initialized y.cls : Cond) ∈ en_wl) (hml : 8 + (maxL + 11) ≤ 40)
    (hnm : y.cls ≠ "java/lang/invoke/MethodHandle" ∧ y.cls ≠ "java/lang/invoke/VarHandle" ∧ (parseMethodDescriptor y.desc).map (fun d => d.parameters.length) = some n) (hd : decode M.1 pc = .ok (.invokestatic idx, 3))
    (hrd : en_rd n S = true) (hf : f (S.take n).reverse σ = some r) (hH : en_Hp G false R s en_zz σ H locs cells slots) (hc : cells + 1 ≤ R.cells) (hs : slots + 6 ≤ R.slots) (hls : ls.size = M.2.2.1) (hS : ∀ v ∈ S, en_ok (en_fo G s) G.2.2.2.2.1.2.1 210 v)
    (k : ∀ (H1 : Heap) (locs1 : List Loc), en_Hp G false R s en_zz r.2 H1 locs1 (cells + 1) (slots + 6) → W p G.1 ee R s m args below meth c H1 locs1 (cells + 1) (slots + 6) Q (F0 m (pc + 3) ls ((.inl r.1 :: S.drop n : List en_V).map (en_ev G)))) :
    W p G.1 ee R s m args below meth c H locs cells slots Q (F0 m pc ls (S.map (en_ev G))) := by
  have hr1 := Bool.and_eq_true_iff.mp hrd
  have hr2 := Bool.and_eq_true_iff.mp hr1.1
  have hn : n ≤ S.length := Nat.le_of_ble_eq_true hr2.1
  have h8 : (S.drop n).length ≤ 8 := Nat.le_of_ble_eq_true hr1.2
  have hav := en_args (fun v hv => hS v (List.mem_of_mem_take hv)) hr2.2
  have hM := hI (S.take n).reverse σ r hf hav
  have hw := fun w h => X.2.2.2.2.1 w h
  have hRf := X.2.2.2.2.2.2.2.2.2.1
  have hRl := X.2.2.2.2.2.2.2.2.2.2
  have hg : GoodIn en_wl (.codeWith y bytes maxL (some .int) hh :: en_wl) := fun w hw9 => (List.mem_cons.mp hw9).elim (fun q => q ▸ ⟨hcw, en_wl_good _ hcw⟩) (fun q => ⟨q, en_wl_good _ q⟩)
  rw [en_split (n := n)]
  have hrun : va_Run p G.1 ee R s m args below meth c H locs cells slots 1 6 (F0 m pc ls (((S.take n).reverse.map (en_ev G)).reverse ++ (S.drop n).map (en_ev G))) ((S.drop n).map (en_ev G)) (en_Q G (some r.1, en_zz, r.2) ((S.take n).reverse.map (en_ev G)).toArray) (fun q => G.2.1 ≤ q) :=
    vx_runSW (As := (S.take n).reverse.map (en_ev G)) (rest := (S.drop n).map (en_ev G)) (cc := M.1) (nL := M.2.2.1) (n := n) (Ts := en_wl) (own := M.2.1) ⟨X.1, X.2.1, X.2.2.1, X.2.2.2.1, hw⟩ hM
      (vx_cwSW n hw (en_goodS hlk hstt hini hg) rfl rfl rfl hnm ⟨(by show d + 1 ≤ R.frames; omega), (by show 8 + (maxL + 11) + 40 * d ≤ R.locals; omega)⟩)
      ⟨en_blind, fun U hU hW => ⟨rfl, by rw [hU]; exact hH.1, va_K.moved hW.alike X.2.2.2.2.2.2.2.1, en_N.at hW (by rw [hU]; exact hH.2.1.2.1) X.2.2.2.2.2.2.2.2.1, by rw [hU]; exact Nat.le_trans X.2.2.2.2.2.2.1 hH.2.1.1, fun ha => by cases ha⟩⟩ rfl (by simp; omega) hls rfl (en_rest h8) hd ⟨hc, hs⟩
  have hH6 : en_Hp G false R s (210, 1, 6) σ H locs cells slots := ⟨hH.1, hH.2.1, (fun q => by cases q), hc, hs, (fun q => by rw [hst] at q; cases q), fun _ => rfl⟩
  exact en_back (r := (some r.1, en_zz, r.2)) hrun hH6 (Nat.le_refl _) (Nat.le_refl _) (fun q => by cases q) (fun _ => rfl) (fun H1 locs1 hH1 => k H1 locs1 hH1)
