/-! a round in the class -/
theorem pu_at (σ : en_M) (k j r : Nat) (v : Int32) : en_up σ k j v k r = if r = j then v else σ k r := by unfold en_up; rw [if_pos rfl]
theorem pt_set {row new old : Nat → Int32} {i : Nat} {v : Int32} (h : ∀ r, r < 7 → row r = if r < i then new r else old r) (hv : v = new i) : ∀ r, r < 7 → (if r = i then v else row r) = if r < i + 1 then new r else old r := fun r hr => by
  by_cases e : r = i
  · subst e; rw [if_pos rfl, if_pos (by omega), hv]
  · rw [if_neg e, h r hr]
    by_cases hl : r < i
    · rw [if_pos hl, if_pos (by omega)]
    · rw [if_neg hl, if_neg (by omega)]
theorem pt_no {row new old : Nat → Int32} {i : Nat} (h : ∀ r, r < 7 → row r = if r < i then new r else old r) (hv : new i = old i) : ∀ r, r < 7 → row r = if r < i + 1 then new r else old r := fun r hr => by
  rw [h r hr]
  by_cases hl : r < i
  · rw [if_pos hl, if_pos (by omega)]
  · rw [if_neg hl]
    by_cases e : r = i
    · subst e; rw [if_pos (by omega), hv]
    · rw [if_neg (by omega)]
theorem drN_s (g : pG) (x : pS) (s r : Nat) : drN g x s (r + 1) = drN g x s r ||| (if ¬ s.testBit r = true ∧ 99 < tiv g x s r then 2 ^ r else 0) := rfl
def RI (g : pG) (x : pS) (s k : Nat) (σ : en_M) (i : Nat) (τ : en_M) : Prop :=
  (∀ c, c ≠ k → c ≠ k + 1 → c ≠ k + 2 → c ≠ k + 3 → c ≠ 13 → c ≠ 14 → τ c = σ c) ∧ (∀ j, j < 9 → τ k j = σ k j) ∧ τ k 9 = Int32.ofNat (drN g x s i) ∧
  (∀ r, r < 7 → τ (k + 1) r = if r < i then nxT g x s r else sT x r) ∧ (∀ r, r < 7 → τ (k + 2) r = if r < i then nxS x s r else sS x r) ∧ ∀ r, r < 7 → τ (k + 3) r = if r < i then nxR g x s r else sR x r
theorem drN_lt (g : pG) (x : pS) (s : Nat) : ∀ i, drN g x s i < 2 ^ i
  | 0 => Nat.one_pos
  | p + 1 => by
    have ih := drN_lt g x s p
    have h2 : 2 ^ p < 2 ^ (p + 1) := Nat.pow_lt_pow_right (by decide) (by omega)
    unfold drN
    refine Nat.or_lt_two_pow (by omega) ?_
    split
    · exact h2
    · exact Nat.two_pow_pos _
theorem q_goOn {k N : Nat} {σ : en_M} (hN : N < 2147483648) (h5 : σ k 5 = Int32.ofNat N) (x1 x2 x3 : Int32) : O_X7_goOn [.inr (k, 7, 0, 0), .inl x1, .inl x2, .inl x3] σ = some (en_up (en_up (en_up (en_up (en_up σ (k + 4) (N % 20) x1) k 7 x1) k 8 x2) k 4 x3) k 5 (Int32.ofNat (N + 1))) := by
  have hm := Nat.mod_lt N (show 20 > 0 by omega)
  rw [o_X7_goOn, t_X7_goOn_0, h5, show (20 : Int32) = Int32.ofNat 20 from rfl, q_floorMod hN (by omega) (by omega), Option.bind_some]
  dsimp only
  rw [pn_ix (by omega) (by omega), Option.bind_some]
  have e : (en_up (en_up (en_up (en_up σ (k + 4) (N % 20) x1) k 7 x1) k 8 x2) k 4 x3) k 5 = Int32.ofNat N := by
    rw [pu_slot (by omega), pu_slot (by omega), pu_slot (by omega), pu_cell (by omega), h5]
  rw [e, pn_a1]; rfl
theorem q_ring_loop {g : pG} {x : pS} {s k : Nat} {σ : en_M} (hg : GV g) (hc : CG σ g) (hp : PMf (gN g) (sF x)) (hs : s < 2 ^ gN g) (hk : 14 < k) (hk2 : k + 4 < 25) (a1 : σ k 4 = Int32.ofNat (pkN (sF x))) (a2 : σ k 5 = Int32.ofNat (sN x)) (x3 : Int32) {m i : Nat} (hi : i < gN g) (u : en_V) (τ : en_M) (hR : RI g x s k σ i τ) :
    ∃ u' τ', T_X10_ring_54 (m + 1) k (Int32.ofNat s) x3 (Int32.ofNat (pcn s)) (Int32.ofNat i) u τ = T_X10_ring_54 m k (Int32.ofNat s) x3 (Int32.ofNat (pcn s)) (Int32.ofNat (i + 1)) u' τ' ∧ RI g x s k σ (i + 1) τ' := by
  have hn := hg.1
  have h128 := p2lt hn
  obtain ⟨r1, r2, r3, r4, r5, r6⟩ := hR
  have hcτ : CG τ g := hc.kept (r1 5 (by omega) (by omega) (by omega) (by omega) (by omega) (by omega)) (r1 6 (by omega) (by omega) (by omega) (by omega) (by omega) (by omega)) (r1 7 (by omega) (by omega) (by omega) (by omega) (by omega) (by omega)) (r1 8 (by omega) (by omega) (by omega) (by omega) (by omega) (by omega)) (by rw [r1 10 (by omega) (by omega) (by omega) (by omega) (by omega) (by omega)]) (r1 11 (by omega) (by omega) (by omega) (by omega) (by omega) (by omega))
  have t4 := r4 i (by omega)
  have t5 := r5 i (by omega)
  have t6 := r6 i (by omega)
  rw [if_neg (Nat.lt_irrefl i)] at t4 t5 t6
  rw [t_X10_ring_54, hcτ.1, if_pos ((pn_lt (by omega) (by omega)).mpr hi), q_bit, Option.bind_some, pn_a1]
  dsimp only
  rw [pi_if (pb_bit1 (by omega) (by omega))]
  have ix := pn_ix (show i < 7 by omega) (show i < 2147483648 by omega)
  by_cases hb : s.testBit i = true
  · rw [if_pos hb]
    simp only [ix, Option.bind_some, q_max]
    refine ⟨_, _, rfl, ?_⟩
    have e1 : en_up τ (k + 2) i (τ (k + 2) i + 1) (k + 1) i = sT x i := by rw [pu_cell (by omega), t4]
    have e2 : en_up τ (k + 2) i (τ (k + 2) i + 1) 5 6 = Int32.ofNat (gR g) := by rw [pu_cell (by omega)]; exact hcτ.2.2.2.2.1
    rw [e1, e2]
    refine ⟨fun c h1 h2 h3 h4 h5 h6 => ?_, fun j hj => ?_, ?_, ?_, ?_, ?_⟩
    · rw [pu_row h2, pu_row h3]; exact r1 c h1 h2 h3 h4 h5 h6
    · rw [pu_cell (by omega), pu_cell (by omega)]; exact r2 j hj
    · rw [pu_cell (by omega), pu_cell (by omega), r3]
      rw [drN_s, if_neg (fun q => q.1 hb), Nat.or_zero]
    · intro r hr
      rw [pu_at, pu_cell (by omega)]
      exact pt_set r4 (by unfold nxT; rw [if_pos hb]) r hr
    · intro r hr
      rw [pu_cell (by omega), pu_at]
      exact pt_set r5 (by unfold nxS; rw [if_pos hb, t5]) r hr
    · intro r hr
      rw [pu_cell (by omega), pu_cell (by omega)]
      exact pt_no r6 (by unfold nxR; rw [if_neg (fun q => q.1 hb)]) r hr
  · rw [if_neg hb]
    obtain ⟨τ2, hm1, hm2⟩ := q_moreTired (many := pcn s) hg hcτ (by rw [r2 4 (by omega)]; exact a1) (by rw [r2 5 (by omega)]; exact a2) t4 t5 hp hi hk
    have f1 := hm2 (k + 1) (by omega) (by omega)
    have f2 := hm2 (k + 2) (by omega) (by omega)
    have f3 := hm2 (k + 3) (by omega) (by omega)
    have f0 := hm2 k (by omega) (by omega)
    simp only [ix, Option.bind_some, hm1, q_min, t4]
    have htv : sT x i + tir g x i (pcn s) = tiv g x s i := rfl
    simp only [htv]
    by_cases hd : 99 < tiv g x s i
    · simp only [if_pos hd]
      refine ⟨_, _, rfl, ?_⟩
      refine ⟨fun c h1 h2 h3 h4 h5 h6 => ?_, fun j hj => ?_, ?_, ?_, ?_, ?_⟩
      · rw [pu_row h2, pu_row h4, pu_row h1, hm2 c h5 h6]; exact r1 c h1 h2 h3 h4 h5 h6
      · rw [pu_cell (by omega), pu_cell (by omega), pu_slot (by omega), f0]; exact r2 j hj
      · rw [pu_cell (by omega), pu_cell (by omega), pu_same, f0, r3, pb_1 (by omega), pn_or, drN_s, if_pos ⟨hb, hd⟩]
      · intro r hr
        rw [pu_at, pu_cell (by omega), pu_cell (by omega), f1]
        exact pt_set r4 (by unfold nxT; rw [if_neg hb]) r hr
      · intro r hr
        rw [pu_cell (by omega), pu_cell (by omega), pu_cell (by omega), f2]
        exact pt_no r5 (by unfold nxS; rw [if_neg hb]) r hr
      · intro r hr
        rw [pu_cell (by omega), pu_at, pu_cell (by omega), pu_cell (by omega), f3]
        exact pt_set r6 (by unfold nxR; rw [if_pos ⟨hb, hd⟩, t6]) r hr
    · simp only [if_neg hd]
      refine ⟨_, _, rfl, ?_⟩
      refine ⟨fun c h1 h2 h3 h4 h5 h6 => ?_, fun j hj => ?_, ?_, ?_, ?_, ?_⟩
      · rw [pu_row h2, pu_row h4, pu_row h1, hm2 c h5 h6]; exact r1 c h1 h2 h3 h4 h5 h6
      · rw [pu_cell (by omega), pu_cell (by omega), pu_slot (by omega), f0]; exact r2 j hj
      · rw [pu_cell (by omega), pu_cell (by omega), pu_same, f0, r3, drN_s, if_neg (fun q => hd q.2), Nat.or_zero, Int32.or_zero]
      · intro r hr
        rw [pu_at, pu_cell (by omega), pu_cell (by omega), f1]
        exact pt_set r4 (by unfold nxT; rw [if_neg hb]) r hr
      · intro r hr
        rw [pu_cell (by omega), pu_cell (by omega), pu_cell (by omega), f2]
        exact pt_no r5 (by unfold nxS; rw [if_neg hb]) r hr
      · intro r hr
        rw [pu_cell (by omega), pu_at, pu_cell (by omega), pu_cell (by omega), f3]
        exact pt_set r6 (by unfold nxR; rw [if_neg (fun q => hd q.2), t6, Int32.add_zero]) r hr
theorem mod20 {N j : Nat} (h1 : 1 ≤ j) (h2 : j < 20) (h3 : j ≤ N) : (N - j) % 20 ≠ N % 20 := by omega
theorem q_ring {g : pG} {x : pS} {s k B : Nat} {σ : en_M} (hg : GV g) (hc : CG σ g) (hx : CS σ k x) (hv : VS (gN g) B x) (hB : B < 1000000000) (hn0 : 0 < gN g) (hs : s < 2 ^ gN g) (hk : 14 < k) (hk2 : k + 4 < 25) :
    ∃ σ', O_X10_ring [.inr (5, 10, 0, 0), .inr (k, 7, 0, 0), .inl (Int32.ofNat s)] σ = some (Int32.ofNat (lawS g x s), σ') ∧ CS σ' k (nx g x s) ∧ σ' k 9 = Int32.ofNat (drN g x s (gN g)) ∧ ∀ c, c ≠ k → c ≠ k + 1 → c ≠ k + 2 → c ≠ k + 3 → c ≠ k + 4 → c ≠ 13 → c ≠ 14 → σ' c = σ c := by
  have hn := hg.1
  have h128 := p2lt hn
  obtain ⟨a1, a2, a3, a4, a5, a6, a7⟩ := id hx
  obtain ⟨v1, v2, v3, v4, v5, v6⟩ := id hv
  have htn := tnN_lt (gW g) (gN g) hn0
  rw [o_X10_ring, t_X10_ring_0, a1, a2, a4, a5, q_breach v1 hn hs hg.2.2.2.2.2.1 (show tnN (gW g) (gN g) < 7 by omega) (show sN x < 2147483648 by omega) hc.2.2.2.1 (by rw [hc.2.2.1, if_neg (by omega)]), Option.bind_some]
  dsimp only
  have hl6 := lawN_lt (gT g) (tnN (gW g) (gN g)) s (plN (sF x) s (gN g)) (sW x) (sP x) (sN x)
  have hlaw : lawN (gT g) (tnN (gW g) (gN g)) s (plN (sF x) s (gN g)) (sW x) (sP x) (sN x) = lawS g x s := rfl
  rw [hlaw] at hl6 ⊢
  rw [pi_if (pn_eq0 (by omega)), a3]
  simp only [q_bitCount, Option.bind_some, pbc_n (show s < 128 by omega)]
  have key : ∀ D' : Int32, D' = sD x + (if lawS g x s = 0 then 0 else 1) → ∃ σ', en_oi (T_X10_ring_54 en_FU k (Int32.ofNat s) (Int32.ofNat (lawS g x s)) (Int32.ofNat (pcn s)) 0 en_un (en_up (en_up σ k 6 D') k 9 0)) = some (Int32.ofNat (lawS g x s), σ') ∧ CS σ' k (nx g x s) ∧ σ' k 9 = Int32.ofNat (drN g x s (gN g)) ∧ ∀ c, c ≠ k → c ≠ k + 1 → c ≠ k + 2 → c ≠ k + 3 → c ≠ k + 4 → c ≠ 13 → c ≠ 14 → σ' c = σ c := by
    intro D' hD
    generalize hσ0 : en_up (en_up σ k 6 D') k 9 0 = σ0
    have hoff : ∀ c, c ≠ k → σ0 c = σ c := fun c h => by rw [← hσ0, pu_row h, pu_row h]
    have b4 : σ0 k 4 = Int32.ofNat (pkN (sF x)) := by rw [← hσ0, pu_slot (by omega), pu_slot (by omega), a1]
    have b5 : σ0 k 5 = Int32.ofNat (sN x) := by rw [← hσ0, pu_slot (by omega), pu_slot (by omega), a2]
    have b6 : σ0 k 6 = D' := by rw [← hσ0, pu_slot (by omega), pu_same]
    have b9 : σ0 k 9 = 0 := by rw [← hσ0, pu_same]
    have hc0 : CG σ0 g := hc.kept (hoff 5 (by omega)) (hoff 6 (by omega)) (hoff 7 (by omega)) (hoff 8 (by omega)) (by rw [hoff 10 (by omega)]) (hoff 11 (by omega))
    have h0 : RI g x s k σ0 0 σ0 := ⟨fun _ _ _ _ _ _ _ => rfl, fun _ _ => rfl, b9, fun r hr => by rw [if_neg (Nat.not_lt_zero r), hoff _ (by omega)]; exact (a6 r hr).1, fun r hr => by rw [if_neg (Nat.not_lt_zero r), hoff _ (by omega)]; exact (a6 r hr).2.1, fun r hr => by rw [if_neg (Nat.not_lt_zero r), hoff _ (by omega)]; exact (a6 r hr).2.2⟩
    refine pl_for1 (F := fun m i (q : en_V × en_M) => T_X10_ring_54 m k (Int32.ofNat s) (Int32.ofNat (lawS g x s)) (Int32.ofNat (pcn s)) (Int32.ofNat i) q.1 q.2) (P := fun i q => RI g x s k σ0 i q.2) (Q := fun r => ∃ σ', en_oi r = some (Int32.ofNat (lawS g x s), σ') ∧ CS σ' k (nx g x s) ∧ σ' k 9 = Int32.ofNat (drN g x s (gN g)) ∧ ∀ c, c ≠ k → c ≠ k + 1 → c ≠ k + 2 → c ≠ k + 3 → c ≠ k + 4 → c ≠ 13 → c ≠ 14 → σ' c = σ c) (N := gN g) ?_ ?_ (gN g) 0 en_FU (en_un, σ0) (by omega) (pl_FU (by omega)) h0
    · rintro m i ⟨u, τ⟩ hi hR
      obtain ⟨u', τ', e1, e2⟩ := q_ring_loop hg hc0 v1 hs hk hk2 b4 b5 (Int32.ofNat (lawS g x s)) (m := m) hi u τ hR
      exact Or.inl ⟨(u', τ'), e1, e2⟩
    · rintro m ⟨u, τ⟩ hR
      have hR : RI g x s k σ0 (gN g) τ := hR
      obtain ⟨r1, r2, r3, r4, r5, r6⟩ := hR
      have hcτ : CG τ g := hc0.kept (r1 5 (by omega) (by omega) (by omega) (by omega) (by omega) (by omega)) (r1 6 (by omega) (by omega) (by omega) (by omega) (by omega) (by omega)) (r1 7 (by omega) (by omega) (by omega) (by omega) (by omega) (by omega)) (r1 8 (by omega) (by omega) (by omega) (by omega) (by omega) (by omega)) (by rw [r1 10 (by omega) (by omega) (by omega) (by omega) (by omega) (by omega)]) (r1 11 (by omega) (by omega) (by omega) (by omega) (by omega) (by omega))
      have g4 : τ k 4 = Int32.ofNat (pkN (sF x)) := by rw [r2 4 (by omega), b4]
      have g5 : τ k 5 = Int32.ofNat (sN x) := by rw [r2 5 (by omega), b5]
      show ∃ σ', en_oi (T_X10_ring_54 (m + 1) k (Int32.ofNat s) (Int32.ofNat (lawS g x s)) (Int32.ofNat (pcn s)) (Int32.ofNat (gN g)) u τ) = _ ∧ _
      rw [t_X10_ring_54, hcτ.1, if_neg (by rw [pn_lt (by omega) (by omega)]; omega), g4, q_placesOf v1 hn hs, Option.bind_some]
      dsimp only
      rw [g4, g5, hcτ.1, q_next v1 hn (by omega) hg.2.1 hg.2.2.1 hcτ.2.2.2.2.2.1 (fun j hj => ⟨hcτ.2.2.2.2.2.2.1 j hj, hg.2.2.2.1 j hj⟩), Option.bind_some]
      dsimp only
      rw [q_goOn (by omega) g5, Option.bind_some]
      refine ⟨_, rfl, ⟨?_, ?_, ?_, ?_, ?_, fun r hr => ⟨?_, ?_, ?_⟩, fun j hj hj2 => ?_⟩, ?_, fun c h1 h2 h3 h4 h5 h6 h7 => ?_⟩
      · rw [pu_slot (by omega), pu_same]; rfl
      · rw [pu_same]; rfl
      · rw [pu_slot (by omega), pu_slot (by omega), pu_slot (by omega), pu_slot (by omega), pu_cell (by omega), r2 6 (by omega), b6, hD]; rfl
      · rw [pu_slot (by omega), pu_slot (by omega), pu_slot (by omega), pu_same]; rfl
      · rw [pu_slot (by omega), pu_slot (by omega), pu_same]; rfl
      · rw [pu_cell (by omega), pu_cell (by omega), pu_cell (by omega), pu_cell (by omega), pu_cell (by omega), r4 r hr]; rfl
      · rw [pu_cell (by omega), pu_cell (by omega), pu_cell (by omega), pu_cell (by omega), pu_cell (by omega), r5 r hr]; rfl
      · rw [pu_cell (by omega), pu_cell (by omega), pu_cell (by omega), pu_cell (by omega), pu_cell (by omega), r6 r hr]; rfl
      · rw [pu_cell (by omega), pu_cell (by omega), pu_cell (by omega), pu_cell (by omega), pu_at]
        have hj2 : j < sN x + 1 := hj2
        show (if (sN x + 1 - 1 - j) % 20 = sN x % 20 then _ else _) = Int32.ofNat (if j = 0 then s else sM x (j - 1))
        by_cases hj0 : j = 0
        · subst hj0; rw [if_pos rfl, if_pos (by rw [Nat.add_sub_cancel, Nat.sub_zero])]
        · rw [if_neg hj0, if_neg (by have := mod20 (N := sN x) (show 1 ≤ j by omega) hj (by omega); rwa [Nat.add_sub_cancel]), r1 (k + 4) (by omega) (by omega) (by omega) (by omega) (by omega) (by omega), hoff _ (by omega)]
          have := a7 (j - 1) (by omega) (by omega)
          rw [show sN x - 1 - (j - 1) = sN x + 1 - 1 - j by omega] at this
          exact this
      · rw [pu_slot (by omega), pu_slot (by omega), pu_slot (by omega), pu_slot (by omega), pu_cell (by omega)]; exact r3
      · rw [pu_row h1, pu_row h1, pu_row h1, pu_row h1, pu_row h5, r1 c h1 h2 h3 h4 h6 h7, hoff c h1]
  by_cases hz : lawS g x s = 0
  · rw [if_pos hz]
    obtain ⟨σ', e⟩ := key (sD x + 0) (by rw [if_pos hz])
    exact ⟨σ', e⟩
  · rw [if_neg hz]
    obtain ⟨σ', e⟩ := key (sD x + 1) (by rw [if_neg hz])
    exact ⟨σ', e⟩
