/-! the reference's round, to its end -/
theorem r_broken {g : pG} {x : pS} {s k : Nat} {σ : en_M} (hg : GV g) (hc : MG σ g) (hM : MSr (gN g) (σ k) x) (hp : PMf (gN g) (sF x)) (hN : sN x < 2147483648) (hn0 : 0 < gN g) (hs : s < 2 ^ gN g) : O_X12_broken [.inr (185, 12, 0, 0), .inr (k, 20, 53, 0), .inl (Int32.ofNat s)] σ = some (Int32.ofNat (lawS g x s), σ) := by
  have hn := hg.1
  have h128 := p2lt hn
  obtain ⟨m1, m2, m3, m4, m5, m6, m7, m8⟩ := hM
  rw [o_X12_broken, t_X12_broken_0, r_placesOf hp hn hs hc.1 m1, Option.bind_some]
  dsimp only
  rw [show en_ix 30 53 = some 30 from pn_ix (k := 30) (by omega) (by omega), Option.bind_some, show en_ix 31 53 = some 31 from pn_ix (k := 31) (by omega) (by omega), Option.bind_some, show en_ix 28 53 = some 28 from pn_ix (k := 28) (by omega) (by omega), Option.bind_some, m3, m5, m6,
    r_brokenBy hn hn0 hs (Nat.lt_of_lt_of_le (plN_lt _ _ _) h128) hg.2.2.2.2.2.1 hN hc.1 hc.2.1 hc.2.2.1, Option.bind_some]
  rfl
def RSh (k : Nat) (σ : en_M) (i : Nat) (τ : en_M) : Prop := MFr k σ τ ∧ τ 185 25 = σ 185 25 ∧ τ 185 26 = σ 185 26 ∧ (∀ j, j < 33 → τ k j = σ k j) ∧ ∀ j, j < 20 → τ k (33 + j) = if 19 - i < j then σ k (33 + (j - 1)) else σ k (33 + j)
theorem r_shift {k : Nat} {σ : en_M} (hk : k = 186 ∨ k = 198) (x2 x3 : Int32) (u : en_V) {m i : Nat} (hi : i < 19) (τ : en_M) (hR : RSh k σ i τ) : ∃ τ', T_X12_goRound_215 (m + 1) k x2 x3 (Int32.ofNat (19 - i)) u τ = T_X12_goRound_215 m k x2 x3 (Int32.ofNat (19 - (i + 1))) u τ' ∧ RSh k σ (i + 1) τ' := by
  obtain ⟨r1, r2, r3, r4, r5⟩ := hR
  rw [t_X12_goRound_215, if_pos (show (0 : Int32) < Int32.ofNat (19 - i) from (pn_lt (a := 0) (by omega) (by omega)).mpr (by omega)), show (33 : Int32) + Int32.ofNat (19 - i) = Int32.ofNat (33 + (19 - i)) from pn_add 33 _, show (Int32.ofNat (33 + (19 - i)) - 1 : Int32) = Int32.ofNat (33 + (18 - i)) by
    rw [show (1 : Int32) = Int32.ofNat 1 from rfl, pn_sub (by omega)]; congr 1; omega, pn_ix (by omega) (by omega), pn_ix (by omega) (by omega), Option.bind_some, Option.bind_some, pn_dec (by omega), show 19 - i - 1 = 19 - (i + 1) by omega]
  refine ⟨_, rfl, ⟨fun c h1 h2 h3 => ?_, fun j h1 h2 h3 h4 => ?_⟩, ?_, ?_, fun j hj => ?_, fun j hj => ?_⟩
  · rw [pu_row h3]; exact r1.1 c h1 h2 h3
  · rw [pu_cell (by omega)]; exact r1.2 j h1 h2 h3 h4
  · rw [pu_cell (by omega)]; exact r2
  · rw [pu_cell (by omega)]; exact r3
  · rw [pu_slot (by omega)]; exact r4 j hj
  · rw [pu_off]
    by_cases e : j = 19 - i
    · rw [if_pos e, if_pos (by omega), r5 (18 - i) (by omega), if_neg (by omega), show j - 1 = 18 - i by omega]
    · rw [if_neg e, r5 j hj]
      by_cases e2 : 19 - i < j
      · rw [if_pos e2, if_pos (by omega)]
      · rw [if_neg e2, if_neg (by omega)]
theorem r_goRound {g : pG} {x : pS} {s k B : Nat} {σ : en_M} (hg : GV g) (hc : MG σ g) (hM : MSr (gN g) (σ k) x) (hv : VS (gN g) B x) (hB : B < 1000000000) (hn0 : 0 < gN g) (hs : s < 2 ^ gN g) (hk : k = 186 ∨ k = 198) :
    ∃ σ', O_X12_goRound [.inr (185, 12, 0, 0), .inr (k, 20, 53, 0), .inl (Int32.ofNat s)] σ = some σ' ∧ MSr (gN g) (σ' k) (nx g x s) ∧ σ' 185 25 = Int32.ofNat (lawS g x s) ∧ σ' 185 26 = Int32.ofNat (drN g x s (gN g)) ∧ MFr k σ σ' := by
  have hn := hg.1
  have h128 := p2lt hn
  have hp := hv.1
  have hN : sN x ≤ B := hv.2.1
  rw [o_X12_goRound, t_X12_goRound_0, r_broken hg hc hM hp (by omega) hn0 hs, Option.bind_some]
  dsimp only
  rw [q_bitCount, Option.bind_some]
  dsimp only
  rw [pbc_n (show s < 128 by omega)]
  generalize hσ0 : en_up (en_up σ 185 25 (Int32.ofNat (lawS g x s))) 185 26 0 = σ0
  have f0 : MFr k σ σ0 := ⟨fun c h1 h2 h3 => by rw [← hσ0, pu_row h1, pu_row h1], fun j h1 h2 h3 h4 => by rw [← hσ0, pu_slot h4, pu_slot h3]⟩
  have e25 : σ0 185 25 = Int32.ofNat (lawS g x s) := by rw [← hσ0, pu_slot (by omega), pu_same]
  have e26 : σ0 185 26 = 0 := by rw [← hσ0, pu_same]
  have ek : σ0 k = σ k := by rw [← hσ0, pu_row (by omega), pu_row (by omega)]
  have hc0 : MG σ0 g := hc.fr f0 hk
  have hM0 : MSr (gN g) (σ0 k) x := by rw [ek]; exact hM
  obtain ⟨m1, m2, m3, m4, m5, m6, m7, m8⟩ := id hM0
  have h0 : RJ g x s k σ0 0 σ0 := ⟨MFr.refl k σ0, rfl, fun _ _ => rfl, e26, fun r hr => by rw [if_neg (Nat.not_lt_zero r)]; exact (m2 r hr).1, fun r hr => by rw [if_neg (Nat.not_lt_zero r)]; exact (m2 r hr).2.2⟩
  refine pl_for (F := fun m i (q : en_V × en_M) => T_X12_goRound_23 m k (Int32.ofNat s) (Int32.ofNat (pcn s)) (Int32.ofNat i) q.1 q.2) (P := fun i q => RJ g x s k σ0 i q.2) (Q := fun r => ∃ σ', en_ov r = some σ' ∧ MSr (gN g) (σ' k) (nx g x s) ∧ σ' 185 25 = Int32.ofNat (lawS g x s) ∧ σ' 185 26 = Int32.ofNat (drN g x s (gN g)) ∧ MFr k σ σ') (N := gN g) (C := 1) (C0 := 100) ?_ ?_ (gN g) 0 en_FU (en_un, σ0) (by omega) (by have := en_FU_ge; omega) h0
  · rintro m i ⟨u, τ⟩ hi hm hR
    obtain ⟨m, rfl⟩ : ∃ j, m = j + 1 := ⟨m - 1, by omega⟩
    obtain ⟨u', τ', e1, e2⟩ := r_round1 hg hc0 hp hs hk hM0 (m := m) hi u τ hR
    exact Or.inl ⟨m, (u', τ'), e1, Nat.le_refl _, e2⟩
  rintro m ⟨u, τ⟩ hm hR
  obtain ⟨m, rfl⟩ : ∃ j, m = j + 1 := ⟨m - 1, by omega⟩
  have hR : RJ g x s k σ0 (gN g) τ := hR
  obtain ⟨r1, r2, r3, r4, r5, r6⟩ := hR
  have hcτ : MG τ g := hc0.fr r1 hk
  show ∃ σ', en_ov (T_X12_goRound_23 (m + 1) k (Int32.ofNat s) (Int32.ofNat (pcn s)) (Int32.ofNat (gN g)) u τ) = some σ' ∧ _
  rw [t_X12_goRound_23, hcτ.1, if_neg (by rw [pn_lt (by omega) (by omega)]; omega)]
  have h1 : RK g x s k τ 0 τ := ⟨MFr.refl k τ, rfl, rfl, fun _ _ => rfl, fun r hr => by rw [if_neg (Nat.not_lt_zero r)]; exact r5 r hr, fun r hr => by rw [if_neg (Nat.not_lt_zero r), r3 (14 + r) (by omega)]; exact (m2 r hr).2.1⟩
  refine pl_for (F := fun m i (q : en_V × en_M) => T_X12_goRound_116 m k (Int32.ofNat s) (Int32.ofNat (pcn s)) (Int32.ofNat i) q.1 q.2) (P := fun i q => RK g x s k τ i q.2) (Q := fun r => ∃ σ', en_ov r = some σ' ∧ MSr (gN g) (σ' k) (nx g x s) ∧ σ' 185 25 = Int32.ofNat (lawS g x s) ∧ σ' 185 26 = Int32.ofNat (drN g x s (gN g)) ∧ MFr k σ σ') (N := gN g) (C := 1) (C0 := 50) ?_ ?_ (gN g) 0 m (u, τ) (by omega) (by omega) h1
  · rintro m i ⟨u, τ'⟩ hi hm hR
    obtain ⟨m, rfl⟩ : ∃ j, m = j + 1 := ⟨m - 1, by omega⟩
    obtain ⟨u', τ'', e1, e2⟩ := r_round2 hg hcτ hs hk (Int32.ofNat (pcn s)) (m := m) hi u τ' hR
    exact Or.inl ⟨m, (u', τ''), e1, Nat.le_refl _, e2⟩
  rintro m ⟨u, υ⟩ hm hR
  obtain ⟨m, rfl⟩ : ∃ j, m = j + 1 := ⟨m - 1, by omega⟩
  have hR : RK g x s k τ (gN g) υ := hR
  obtain ⟨t1, t2, t3, t4, t5, t6⟩ := hR
  have hcυ : MG υ g := hcτ.fr t1 hk
  have i29 : en_ix 29 53 = some 29 := pn_ix (k := 29) (by omega) (by omega)
  have i30 : en_ix 30 53 = some 30 := pn_ix (k := 30) (by omega) (by omega)
  have i31 : en_ix 31 53 = some 31 := pn_ix (k := 31) (by omega) (by omega)
  have i32 : en_ix 32 53 = some 32 := pn_ix (k := 32) (by omega) (by omega)
  have i33 : en_ix 33 53 = some 33 := pn_ix (k := 33) (by omega) (by omega)
  have i28 : en_ix 28 53 = some 28 := pn_ix (k := 28) (by omega) (by omega)
  have o29 : υ k 29 = sD x := by rw [t4 29 (by omega), r3 29 (by omega), m4]
  have oF : FRow (gN g) (υ k) 0 (sF x) := fun p hp' => by rw [Nat.zero_add, t4 p (by omega), r3 p (by omega)]; have := m1 p hp'; rwa [Nat.zero_add] at this
  have o25 : υ 185 25 = Int32.ofNat (lawS g x s) := by rw [t2, r2, e25]
  have hl6 := lawN_lt (gT g) (tnN (gW g) (gN g)) s (plN (sF x) s (gN g)) (sW x) (sP x) (sN x)
  have hlaw : lawN (gT g) (tnN (gW g) (gN g)) s (plN (sF x) s (gN g)) (sW x) (sP x) (sN x) = lawS g x s := rfl
  rw [hlaw] at hl6
  show ∃ σ', en_ov (T_X12_goRound_116 (m + 1) k (Int32.ofNat s) (Int32.ofNat (pcn s)) (Int32.ofNat (gN g)) u υ) = some σ' ∧ _
  rw [t_X12_goRound_116, hcυ.1, if_neg (by rw [pn_lt (by omega) (by omega)]; omega), i29, Option.bind_some]
  have key : ∀ D' : Int32, D' = sD x + (if lawS g x s = 0 then 0 else 1) → ∃ σ', en_ov ((O_X12_placesOf [.inr (185, 12, 0, 0), .inr (k, 20, 53, 0), .inl (Int32.ofNat s)] (en_up (en_up υ k 29 D') k 30 (Int32.ofNat s))).bind fun r19 => T_X12_goRound_215 m k (Int32.ofNat s) (Int32.ofNat (pcn s)) 19 u (en_up r19.2 k 31 r19.1)) = some σ' ∧ MSr (gN g) (σ' k) (nx g x s) ∧ σ' 185 25 = Int32.ofNat (lawS g x s) ∧ σ' 185 26 = Int32.ofNat (drN g x s (gN g)) ∧ MFr k σ σ' := by
    intro D' hD
    rw [r_placesOf hp hn hs (by rw [pu_cell (by omega), pu_cell (by omega)]; exact hcυ.1) (fun p hp' => by rw [Nat.zero_add, pu_slot (by omega), pu_slot (by omega)]; have := oF p hp'; rwa [Nat.zero_add] at this), Option.bind_some]
    dsimp only
    generalize hω : en_up (en_up (en_up υ k 29 D') k 30 (Int32.ofNat s)) k 31 (Int32.ofNat (plN (sF x) s (gN g))) = ω
    have w0 : MFr k υ ω := ⟨fun c h1 h2 h3 => by rw [← hω, pu_row h3, pu_row h3, pu_row h3], fun j h1 h2 h3 h4 => by rw [← hω, pu_cell (by omega), pu_cell (by omega), pu_cell (by omega)]⟩
    have w25 : ω 185 25 = υ 185 25 := by rw [← hω, pu_cell (by omega), pu_cell (by omega), pu_cell (by omega)]
    have w26 : ω 185 26 = υ 185 26 := by rw [← hω, pu_cell (by omega), pu_cell (by omega), pu_cell (by omega)]
    have wk : ∀ j, j ≠ 29 → j ≠ 30 → j ≠ 31 → ω k j = υ k j := fun j a b c => by rw [← hω, pu_slot c, pu_slot b, pu_slot a]
    have w29 : ω k 29 = D' := by rw [← hω, pu_slot (by omega), pu_slot (by omega), pu_same]
    have w30 : ω k 30 = Int32.ofNat s := by rw [← hω, pu_slot (by omega), pu_same]
    have w31 : ω k 31 = Int32.ofNat (plN (sF x) s (gN g)) := by rw [← hω, pu_same]
    have h2 : RSh k ω 0 ω := ⟨MFr.refl k ω, rfl, rfl, fun _ _ => rfl, fun j hj => by rw [if_neg (by omega)]⟩
    refine pl_for (F := fun m i (q : en_M) => T_X12_goRound_215 m k (Int32.ofNat s) (Int32.ofNat (pcn s)) (Int32.ofNat (19 - i)) u q) (P := fun i q => RSh k ω i q) (Q := fun r => ∃ σ', en_ov r = some σ' ∧ MSr (gN g) (σ' k) (nx g x s) ∧ σ' 185 25 = Int32.ofNat (lawS g x s) ∧ σ' 185 26 = Int32.ofNat (drN g x s (gN g)) ∧ MFr k σ σ') (N := 19) (C := 1) (C0 := 1) ?_ ?_ 19 0 m ω (by omega) (by omega) h2
    · intro m i τ' hi hm hR
      obtain ⟨m, rfl⟩ : ∃ j, m = j + 1 := ⟨m - 1, by omega⟩
      obtain ⟨τ'', e1, e2⟩ := r_shift hk (Int32.ofNat s) (Int32.ofNat (pcn s)) u (m := m) hi τ' hR
      exact Or.inl ⟨m, τ'', e1, Nat.le_refl _, e2⟩
    intro m ψ hm hR
    obtain ⟨m, rfl⟩ : ∃ j, m = j + 1 := ⟨m - 1, by omega⟩
    obtain ⟨y1, y2, y3, y4, y5⟩ := hR
    have f1 : MFr k σ ψ := ((((f0.trans r1).trans t1).trans w0).trans y1)
    have hcψ : MG ψ g := hc.fr f1 hk
    have z32 : ψ k 32 = Int32.ofNat (min 20 (sN x)) := by rw [y4 32 (by omega), wk 32 (by omega) (by omega) (by omega), t4 32 (by omega), r3 32 (by omega), m7]
    have z28 : ψ k 28 = Int32.ofNat (sN x) := by rw [y4 28 (by omega), wk 28 (by omega) (by omega) (by omega), t4 28 (by omega), r3 28 (by omega), m3]
    show ∃ σ', en_ov (T_X12_goRound_215 (m + 1) k (Int32.ofNat s) (Int32.ofNat (pcn s)) (Int32.ofNat (19 - 19)) u ψ) = some σ' ∧ _
    rw [t_X12_goRound_215, if_neg (show ¬ (0 : Int32) < Int32.ofNat (19 - 19) by decide), i33, Option.bind_some, i32, Option.bind_some, q_min, Option.bind_some]
    dsimp only
    have e32 : en_up ψ k 33 (Int32.ofNat s) k 32 = Int32.ofNat (min 20 (sN x)) := by rw [pu_slot (by omega), z32]
    rw [Option.bind_some]
    simp only [e32, pn_a1]
    have hmin : (if Int32.ofNat (min 20 (sN x) + 1) < 20 then Int32.ofNat (min 20 (sN x) + 1) else 20) = Int32.ofNat (min 20 (sN x + 1)) := by
      by_cases h : min 20 (sN x) + 1 < 20
      · rw [if_pos (show Int32.ofNat (min 20 (sN x) + 1) < (20 : Int32) from (pn_lt (b := 20) (by omega) (by omega)).mpr h)]
        congr 1; omega
      · rw [if_neg (show ¬ Int32.ofNat (min 20 (sN x) + 1) < (20 : Int32) from fun q => h ((pn_lt (b := 20) (by omega) (by omega)).mp q)), show (20 : Int32) = Int32.ofNat 20 from rfl]
        congr 1; omega
    rw [hmin]
    generalize hχ : en_up (en_up ψ k 33 (Int32.ofNat s)) k 32 (Int32.ofNat (min 20 (sN x + 1))) = χ
    have x0 : MFr k ψ χ := ⟨fun c h1 h2 h3 => by rw [← hχ, pu_row h3, pu_row h3], fun j h1 h2 h3 h4 => by rw [← hχ, pu_cell (by omega), pu_cell (by omega)]⟩
    have hcχ : MG χ g := hcψ.fr x0 hk
    have x25 : χ 185 25 = ψ 185 25 := by rw [← hχ, pu_cell (by omega), pu_cell (by omega)]
    have x26 : χ 185 26 = ψ 185 26 := by rw [← hχ, pu_cell (by omega), pu_cell (by omega)]
    have xk : ∀ j, j ≠ 32 → j ≠ 33 → χ k j = ψ k j := fun j a b => by rw [← hχ, pu_slot a, pu_slot b]
    have x33 : χ k 33 = Int32.ofNat s := by rw [← hχ, pu_slot (by omega), pu_same]
    have x32 : χ k 32 = Int32.ofNat (min 20 (sN x + 1)) := by rw [← hχ, pu_same]
    have xF : FRow (gN g) (χ k) 0 (sF x) := fun p hp' => by
      rw [Nat.zero_add, xk p (by omega) (by omega), y4 p (by omega), wk p (by omega) (by omega) (by omega)]
      have := oF p hp'; rwa [Nat.zero_add] at this
    obtain ⟨row', hh1, hh2, hh3⟩ := r_changeOrder (N := sN x) hn (by omega) hg.2.1 hg.2.2.1 (show k ≠ 185 by omega) hcχ.1 hcχ.2.2.2.2.1 (fun j hj => ⟨hcχ.2.2.2.2.2.1 j hj, hg.2.2.2.1 j hj⟩) (by rw [xk 28 (by omega) (by omega)]; exact z28) xF
    rw [hh1, Option.bind_some, i28, Option.bind_some, Option.bind_some, pst_same, hh3 28 (by omega), xk 28 (by omega) (by omega), z28, pn_a1]
    have old : ∀ j, j ≠ 28 → gN g ≤ j → j ≠ 32 → j ≠ 33 → (en_up (pst χ k row') k 28 (Int32.ofNat (sN x + 1))) k j = ψ k j := fun j a b c d => by
      rw [pu_slot a, pst_same, hh3 j b, xk j c d]
    refine ⟨_, rfl, ⟨fun p hp' => ?_, fun r hr => ⟨?_, ?_, ?_⟩, ?_, ?_, ?_, ?_, ?_, fun j hj => ?_⟩, ?_, ?_, ?_⟩
    · rw [Nat.zero_add, pu_slot (by omega), pst_same]
      have := hh2 p hp'; rwa [Nat.zero_add] at this
    · rw [old (7 + r) (by omega) (by omega) (by omega) (by omega), y4 _ (by omega), wk _ (by omega) (by omega) (by omega), t5 r hr]
      show _ = if r < gN g then nxT g x s r else sT x r
      by_cases h : r < gN g
      · rw [if_pos h, if_pos h]
      · rw [if_neg h, if_neg h, if_neg h]
    · rw [old (14 + r) (by omega) (by omega) (by omega) (by omega), y4 _ (by omega), wk _ (by omega) (by omega) (by omega), t6 r hr]; rfl
    · rw [old (21 + r) (by omega) (by omega) (by omega) (by omega), y4 _ (by omega), wk _ (by omega) (by omega) (by omega), t4 _ (by omega), r6 r hr]; rfl
    · rw [pu_same]; rfl
    · rw [old 29 (by omega) (by omega) (by omega) (by omega), y4 _ (by omega), w29, hD]; rfl
    · rw [old 30 (by omega) (by omega) (by omega) (by omega), y4 _ (by omega), w30]; rfl
    · rw [old 31 (by omega) (by omega) (by omega) (by omega), y4 _ (by omega), w31]; rfl
    · rw [pu_slot (by omega), pst_same, hh3 32 (by omega), x32]; rfl
    · show _ = Int32.ofNat (if j = 0 then s else sM x (j - 1))
      by_cases hj0 : j = 0
      · subst hj0
        rw [pu_slot (by omega), pst_same, hh3 33 (by omega), x33, if_pos rfl]
      · rw [if_neg hj0, old (33 + j) (by omega) (by omega) (by omega) (by omega), y5 j hj, if_pos (by omega), wk _ (by omega) (by omega) (by omega), t4 _ (by omega), r3 _ (by omega), m8 (j - 1) (by omega)]
    · rw [pu_cell (by omega), pst_ne (by omega), x25, y2, w25, o25]
    · rw [pu_cell (by omega), pst_ne (by omega), x26, y3, w26, t3, r4]
    · refine f1.trans (x0.trans ⟨fun c h1 h2 h3 => ?_, fun j h1 h2 h3 h4 => ?_⟩)
      · rw [pu_row h3, pst_ne h3]
      · rw [pu_cell (by omega), pst_ne (by omega)]
  rw [o25, pi_if (pn_eq0 (by omega)), i30, i31]
  simp only [Option.bind_some, o29]
  by_cases hz : lawS g x s = 0
  · rw [if_pos hz]; exact key (sD x + 0) (by rw [if_pos hz])
  · rw [if_neg hz]; exact key (sD x + 1) (by rw [if_neg hz])
