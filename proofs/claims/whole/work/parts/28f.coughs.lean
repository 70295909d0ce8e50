/-! coughs -/
theorem ush_lt (v : Int32) : ∃ k, k < 65536 ∧ en_ush v 16 = Int32.ofNat k := by
  have hl : v.toUInt32.toNat < 4294967296 := v.toUInt32.toNat_lt
  refine ⟨v.toUInt32.toNat / 65536, by omega, ?_⟩
  unfold en_ush
  apply Int32.toBitVec.inj
  apply BitVec.eq_of_toNat_eq
  show (v.toUInt32 >>> ((16 : Int32).toUInt32 &&& Int32.toUInt32 31)).toNat = (BitVec.ofNat 32 (v.toUInt32.toNat / 65536)).toNat
  rw [show ((16 : Int32).toUInt32 &&& Int32.toUInt32 31) = (16 : UInt32) from by decide, UInt32.toNat_shiftRight, BitVec.toNat_ofNat]
  show v.toUInt32.toNat >>> (16 % 32) = _
  rw [Nat.shiftRight_eq_div_pow, Nat.mod_eq_of_lt (show v.toUInt32.toNat / 65536 < 2 ^ 32 by omega)]
/-- the row of numbers, and who coughs -/
def ckS (s : Int32) : Nat → Int32
  | 0 => s
  | k + 1 => ckS s k * (1103515245 : Int32) + (12345 : Int32)
def ckU (s : Int32) (k : Nat) : Nat := (en_ush (ckS s (k + 1)) 16).toNatClampNeg
theorem ckU_eq (s : Int32) (k : Nat) : en_ush (ckS s k * (1103515245 : Int32) + (12345 : Int32)) 16 = Int32.ofNat (ckU s k) ∧ ckU s k < 65536 := by
  obtain ⟨n, h1, h2⟩ := ush_lt (ckS s (k + 1))
  unfold ckU
  rw [h2, pn_toNat (by omega)]
  exact ⟨h2, h1⟩
def ckW (s : Int32) (n M k : Nat) : Nat := if ckU s k % M < n then 2 ^ (ckU s k % M) else 0
theorem ckW_lt (s : Int32) (n M k : Nat) : ckW s n M k < 2 ^ n := by
  unfold ckW
  by_cases c : ckU s k % M < n
  · rw [if_pos c]; exact Nat.pow_lt_pow_right (by decide) c
  · rw [if_neg c]; exact Nat.two_pow_pos n
def dcN (g : pG) (x : pS) (w : Nat → Nat) : Nat → Nat
  | 0 => 0
  | k + 1 => dcN g x w k + pcn (drN g (rsN g x w k) (w k) (gN g))
theorem sum_rsN {g : pG} {x : pS} {w : Nat → Nat} (hg : GV g) : ∀ m, smN (sR (rsN g x w m)) (gN g) = smN (sR x) (gN g) + Int32.ofNat (dcN g x w m)
  | 0 => (Int32.add_zero _).symm
  | m + 1 => by
    show smN (sR (nx g (rsN g x w m) (w m))) (gN g) = _
    rw [sum_nx hg, sum_rsN hg m, Int32.add_assoc, pn_add]; rfl
/-- who napped most, among the first r -/
def cmN (D : Nat → Int32) : Nat → Int32 × Int32
  | 0 => (-1, 0)
  | r + 1 => if (cmN D r).2 < D r then (Int32.ofNat r, D r) else cmN D r
theorem p_coughs : en_st_coughs pInv := by
  intro c v w z hc
  refine p_two hc (fun A σ0 hA hB => ?_)
  have hA0 := hA
  obtain ⟨g, t, ro, x, us, kp⟩ := A
  have hgv : GV g := hA.1
  have hn : gN g ≤ 7 := hgv.1
  have hVS : VS (gN g) (2000 * c) x := hA.2.2.2.2.2.2.2.1
  by_cases hz : gN g ≠ 0 ∧ (¬ w < 1 ∧ ¬ 60 < w) ∧ (¬ z < 1 ∧ ¬ 9 < z)
  · obtain ⟨hz0, hw, hzz⟩ := hz
    obtain ⟨m, hm, rfl⟩ : isR 61 w := isR_1 (by omega) (by omega) hw.1 hw.2
    obtain ⟨e, he, rfl⟩ : isR 10 z := isR_1 (by omega) (by omega) hzz.1 hzz.2
    have hw1 : ¬ Int32.ofNat m < 1 := hw.1
    have hw2 : ¬ (60 : Int32) < Int32.ofNat m := hw.2
    have hz1 : ¬ Int32.ofNat e < 1 := hzz.1
    have hz2 : ¬ (9 : Int32) < Int32.ofNat e := hzz.2
    have hn0 : 0 < gN g := by omega
    have h128 := p2lt hn
    have nz : ¬ Int32.ofNat (gN g) = 0 := by rw [pn_eq0 (by omega)]; exact hz0
    have nzM : ¬ Int32.ofNat (gN g + e) = 0 := by rw [pn_eq0 (by omega)]; omega
    have hpk : ∀ k, Int32.ofNat (ckU v k) - Int32.ofNat (ckU v k) / Int32.ofNat (gN g + e) * Int32.ofNat (gN g + e) = Int32.ofNat (ckU v k % (gN g + e)) := fun k => pn_mod (by have := (ckU_eq v k).2; omega) (by omega)
    have hpl : ∀ k, ckU v k % (gN g + e) < gN g + e := fun k => Nat.mod_lt _ (by omega)
    have hwl := ckW_lt v (gN g) (gN g + e)
    generalize hWd : ckW v (gN g) (gN g + e) = W at hwl
    have hWp : ∀ k, ckU v k % (gN g + e) < gN g → W k = 2 ^ (ckU v k % (gN g + e)) := fun k q => by rw [← hWd]; exact if_pos q
    have hWn : ∀ k, ¬ ckU v k % (gN g + e) < gN g → W k = 0 := fun k q => by rw [← hWd]; exact if_neg q
    have hvm : ∀ i, VS (gN g) (2000 * c + i) (rsN g x W i) := fun i => rsN_VS hgv hVS i (fun j _ => hwl j)
    generalize hDd : (fun r => sS (rsN g x W m) r - sS x r) = D
    have hDr : ∀ r, sS (rsN g x W m) r - sS x r = D r := fun r => by rw [← hDd]
    refine ⟨sD (rsN g x W m) - sD x, (g, t, [Int32.ofNat (dcN g x W m), (cmN D (gN g)).1, (cmN D (gN g)).2], x, us, kp), fun hC => ?_, fun τ hM => ?_, (hA.row (by simp)).mono (by omega)⟩
    · obtain ⟨σ1, e1, e2, e3, e4⟩ := k_trial hC
      rw [o_X11_coughs, t_X11_coughs_0, show σ0 5 3 = Int32.ofNat (gN g) from hC.1.1, if_neg nz, if_neg hw1, if_neg hw2, if_neg hz1, if_neg hz2, e1, Option.bind_some, show σ1 5 3 = Int32.ofNat (gN g) from e2.1.1, pn_add]
      obtain ⟨⟨r4, ru, σ2⟩, b1, b2, b3, b4, b5⟩ := pl_to (F := fun f i (q : Int32 × en_V × en_M) => T_X11_coughs_62 f v (Int32.ofNat m) (Int32.ofNat e) q.1 (Int32.ofNat (gN g + e)) (Int32.ofNat i) q.2.1 q.2.2) (P := fun i q => q.1 = ckS v i ∧ CI q.2.2 (g, t, ro, x, us, kp) ∧ CS q.2.2 20 (rsN g x W i) ∧ FrC σ0 q.2.2) (N := m) (by
        rintro f i ⟨r4, ru, σ⟩ hi ⟨p1, p2, p3, p4⟩
        have p1 : r4 = _ := p1
        have p2 : CI σ (g, t, ro, x, us, kp) := p2
        have p3 : CS σ 20 (rsN g x W i) := p3
        have p4 : FrC σ0 σ := p4
        have hl := hpl i
        obtain ⟨σ', s1, s2, s3, s4, s5⟩ := k_go (A := (g, t, ro, x, us, kp)) hgv p2 p3 (hvm i) (by omega) hn0 (hwl i)
        show ∃ q' : Int32 × en_V × en_M, T_X11_coughs_62 (f + 1) _ _ _ r4 _ _ ru σ = _ ∧ _
        rw [p1, t_X11_coughs_62, if_pos ((pn_lt (by omega) (by omega)).mpr hi), if_neg nzM, (ckU_eq v i).1, hpk, pn_a1]
        by_cases c1 : ckU v i % (gN g + e) < gN g
        · have s1' : O_X10_ring [.inr (5, 10, 0, 0), .inr (20, 7, 0, 0), .inl (Int32.ofNat (2 ^ (ckU v i % (gN g + e))))] σ = some (Int32.ofNat (lawS g (rsN g x W i) (W i)), σ') := by rw [← hWp i c1]; exact s1
          rw [k_hasRinger_y hA0 p2.1 ⟨_, c1, rfl⟩, Option.bind_some, if_neg (show ¬ (1 : Int32) = 0 by decide)]
          dsimp only
          rw [pb_1 (by omega), s1', Option.bind_some]
          exact ⟨(ckS v (i + 1), _, σ'), rfl, rfl, s2, s3, p4.trans s5⟩
        · have s1' : O_X10_ring [.inr (5, 10, 0, 0), .inr (20, 7, 0, 0), .inl (0 : Int32)] σ = some (Int32.ofNat (lawS g (rsN g x W i) (W i)), σ') := by have := s1; rw [hWn i c1] at this ⊢; exact this
          rw [k_hasRinger_n hA0 p2.1 (fun q => c1 (by obtain ⟨k, k1, k2⟩ := q; rw [pn_eq (by omega) (by have : k < gN g := k1; omega)] at k2; have : k < gN g := k1; omega)), Option.bind_some, if_pos rfl]
          dsimp only
          rw [s1', Option.bind_some]
          exact ⟨(ckS v (i + 1), _, σ'), rfl, rfl, s2, s3, p4.trans s5⟩) m 0 en_FU (v, en_un, σ1) (by omega) (by have := en_FU_ge; omega) ⟨rfl, e2, e3, e4⟩
      have b1 : T_X11_coughs_62 en_FU v (Int32.ofNat m) (Int32.ofNat e) v (Int32.ofNat (gN g + e)) 0 en_un σ1 = T_X11_coughs_62 (en_FU - m) v (Int32.ofNat m) (Int32.ofNat e) r4 (Int32.ofNat (gN g + e)) (Int32.ofNat m) ru σ2 := b1
      have b3 : CI σ2 (g, t, ro, x, us, kp) := b3
      have b4 : CS σ2 20 (rsN g x W m) := b4
      have b5 : FrC σ0 σ2 := b5
      obtain ⟨d, hd⟩ : ∃ d, en_FU - m = d + 1 := ⟨en_FU - m - 1, by have := en_FU_ge; omega⟩
      have hd2 : 900000 < d := by have := en_FU_ge; omega
      have hx17 : ∀ r, r < 7 → σ2 17 r = sS x r := fun r hr => (b3.2.2.2.1.2.2.2.2.2.1 r hr).2.1
      have hx22 : ∀ r, r < 7 → σ2 22 r = sS (rsN g x W m) r := fun r hr => (b4.2.2.2.2.2.1 r hr).2.1
      rw [b1, hd, t_X11_coughs_62, if_neg (by rw [pn_lt (by omega) (by omega)]; omega)]
      refine pl_for1 (F := fun f i (q : (Int32 × Int32) × en_V) => T_X11_coughs_137 f v (Int32.ofNat m) (Int32.ofNat e) r4 (Int32.ofNat (gN g + e)) q.1.1 q.1.2 (Int32.ofNat i) q.2 σ2) (P := fun i q => q.1 = cmN D i) (Q := fun r => ∃ σ', en_oi r = some (sD (rsN g x W m) - sD x, σ') ∧ CI σ' (g, t, [Int32.ofNat (dcN g x W m), (cmN D (gN g)).1, (cmN D (gN g)).2], x, us, kp) ∧ FrC σ0 σ') (N := gN g) ?_ ?_ (gN g) 0 d ((-1, 0), en_un) (by omega) (by omega) rfl
      · rintro f i ⟨q, u⟩ hi hP
        have hP : q = cmN D i := hP
        subst hP
        left
        show ∃ q' : (Int32 × Int32) × en_V, T_X11_coughs_137 (f + 1) _ _ _ _ _ (cmN D i).1 (cmN D i).2 _ u σ2 = _ ∧ _
        rw [t_X11_coughs_137, show σ2 5 3 = Int32.ofNat (gN g) from b3.1.1, if_pos ((pn_lt (by omega) (by omega)).mpr hi), pn_ix (by omega) (by omega), Option.bind_some, Option.bind_some]
        simp only [hx22 i (by omega), hx17 i (by omega), hDr, pn_a1]
        show ∃ q' : (Int32 × Int32) × en_V, _ ∧ q'.1 = if (cmN D i).2 < D i then (Int32.ofNat i, D i) else cmN D i
        by_cases c1 : (cmN D i).2 < D i
        · rw [if_pos c1, if_pos c1]
          exact ⟨((Int32.ofNat i, D i), _), rfl, rfl⟩
        · rw [if_neg c1, if_neg c1]
          exact ⟨(cmN D i, _), rfl, rfl⟩
      · rintro f ⟨q, u⟩ hP
        have hP : q = cmN D (gN g) := hP
        subst hP
        have hb := CI.begin b3
        have hb20 : CS (en_up σ2 3 1 0) 20 (rsN g x W m) := b4.all (fun j hj => pu_row (by omega))
        obtain ⟨σ3, g1, g2, g3⟩ := CI.add hb (by simp) (Int32.ofNat (dcN g x W m))
        obtain ⟨σ4, k1, k2, k3⟩ := CI.add g2 (by simp) (cmN D (gN g)).1
        obtain ⟨σ5, l1, l2, l3⟩ := CI.add k2 (by simp) (cmN D (gN g)).2
        have s1 : O_X11_sum [.inr (23, 20, 7, 0)] (en_up σ2 3 1 0) = some (smN (sR (rsN g x W m)) 7, en_up σ2 3 1 0) := q_sumR (k := 20) hb20
        have s2 : O_X11_sum [.inr (18, 20, 7, 0)] (en_up σ2 3 1 0) = some (smN (sR x) 7, en_up σ2 3 1 0) := q_sumR (k := 15) hb.2.2.2.1
        have s5 : ∀ c, c ≠ 3 → c ≠ 4 → σ5 c = σ2 c := fun c h1 h2 => by rw [l3 c h1 h2, k3 c h1 h2, g3 c h1 h2, pu_row h1]
        have hsum : smN (sR (rsN g x W m)) 7 - smN (sR x) 7 = Int32.ofNat (dcN g x W m) := by
          rw [hVS.sum hn, (hvm m).sum hn, sum_rsN hgv m, Int32.add_comm, Int32.add_sub_cancel]
        show ∃ σ', en_oi (T_X11_coughs_137 (f + 1) _ _ _ _ _ (cmN D (gN g)).1 (cmN D (gN g)).2 _ u σ2) = _ ∧ _
        rw [t_X11_coughs_137, show σ2 5 3 = Int32.ofNat (gN g) from b3.1.1, if_neg (by rw [pn_lt (by omega) (by omega)]; omega), q_tbegin, Option.bind_some, s1, Option.bind_some]
        dsimp only
        rw [s2, Option.bind_some]
        dsimp only
        rw [hsum, g1, Option.bind_some, k1, Option.bind_some, l1, Option.bind_some, show σ5 20 6 = sD (rsN g x W m) by rw [s5 20 (by omega) (by omega)]; exact b4.2.2.1, show σ5 15 6 = sD x by rw [s5 15 (by omega) (by omega)]; exact b3.2.2.2.1.2.2.1]
        exact ⟨σ5, rfl, l2, fun c hc => by rw [s5 c (by omega) (by omega), b5 c hc]⟩
    · have hM2 := hM.slot 11 0 (by omega)
      have hfr : FrM τ (en_up τ 185 11 0) := FrM.up (by omega) (by omega)
      rw [o_X12_coughs, t_X12_coughs_0, q_in, Option.bind_some, if_neg (by dsimp only; rw [pb2_0]; exact fun q => q ⟨hw1, hw2⟩)]
      dsimp only
      rw [q_in, Option.bind_some, if_neg (by dsimp only; rw [pb2_0]; exact fun q => q ⟨hz1, hz2⟩)]
      dsimp only
      generalize en_up τ 185 11 0 = τ0 at hM2 hfr ⊢
      obtain ⟨τ1, e1, e2, e3, e4⟩ := m_trial (A := (g, t, ro, x, us, kp)) hn hM2
      rw [if_neg (show ¬ τ0 185 1 = 0 by rw [show τ0 185 1 = Int32.ofNat (gN g) from hM2.1.1]; exact nz), e1, Option.bind_some]
      obtain ⟨⟨r4, r5, ru, τ2⟩, b1, b2, b2', b3, b4, b5⟩ := pl_to (F := fun f i (q : Int32 × Int32 × en_V × en_M) => T_X12_coughs_55 f v (Int32.ofNat m) (Int32.ofNat e) q.1 q.2.1 (Int32.ofNat i) q.2.2.1 q.2.2.2) (P := fun i q => q.1 = ckS v i ∧ q.2.1 = Int32.ofNat (dcN g x W i) ∧ MI q.2.2.2 (g, t, ro, x, us, kp) ∧ MSr (gN g) (q.2.2.2 198) (rsN g x W i) ∧ FrM τ q.2.2.2) (N := m) (by
        rintro f i ⟨r4, r5, ru, σ⟩ hi ⟨p1, p2', p2, p3, p4⟩
        have p1 : r4 = _ := p1
        have p2' : r5 = _ := p2'
        have p2 : MI σ (g, t, ro, x, us, kp) := p2
        have p3 : MSr (gN g) (σ 198) (rsN g x W i) := p3
        have p4 : FrM τ σ := p4
        have hl := hpl i
        have h1 : σ 185 1 = Int32.ofNat (gN g) := p2.1.1
        have hs1 : σ 185 1 + Int32.ofNat e = Int32.ofNat (gN g + e) := by rw [h1, pn_add]
        obtain ⟨σ', s1, s2, s3, s4, s5, s6⟩ := m_go (A := (g, t, ro, x, us, kp)) hgv p2 p3 (hvm i) (by omega) hn0 (hwl i)
        have s5 : σ' 185 26 = Int32.ofNat (drN g (rsN g x W i) (W i) (gN g)) := s5
        have hdr := drN128 hgv (rsN g x W i) (W i)
        show ∃ q' : Int32 × Int32 × en_V × en_M, T_X12_coughs_55 (f + 1) _ _ _ r4 r5 _ ru σ = _ ∧ _
        rw [p1, p2', t_X12_coughs_55, if_pos ((pn_lt (by omega) (by omega)).mpr hi)]
        simp only [hs1]
        rw [if_neg nzM, (ckU_eq v i).1, hpk, pi_if (show (Int32.ofNat (ckU v i % (gN g + e)) < σ 185 1) = (ckU v i % (gN g + e) < gN g) by rw [h1]; exact pn_lt (by omega) (by omega)), pn_a1]
        by_cases c1 : ckU v i % (gN g + e) < gN g
        · have s1' : O_X12_goRound [.inr (185, 12, 0, 0), .inr (198, 20, 53, 0), .inl (Int32.ofNat (2 ^ (ckU v i % (gN g + e))))] σ = some σ' := by rw [← hWp i c1]; exact s1
          rw [if_pos c1, pb_1 (by omega), s1', Option.bind_some, s5, q_bitCount, Option.bind_some]
          dsimp only
          rw [pcn128 hdr, pn_add]
          exact ⟨(ckS v (i + 1), Int32.ofNat (dcN g x W (i + 1)), _, σ'), rfl, rfl, rfl, s2, s3, p4.trans s6.frm⟩
        · have s1' : O_X12_goRound [.inr (185, 12, 0, 0), .inr (198, 20, 53, 0), .inl (0 : Int32)] σ = some σ' := by have := s1; rw [hWn i c1] at this; exact this
          rw [if_neg c1, s1', Option.bind_some, s5, q_bitCount, Option.bind_some]
          dsimp only
          rw [pcn128 hdr, pn_add]
          exact ⟨(ckS v (i + 1), Int32.ofNat (dcN g x W (i + 1)), _, σ'), rfl, rfl, rfl, s2, s3, p4.trans s6.frm⟩) m 0 en_FU (v, 0, en_un, τ1) (by omega) (by have := en_FU_ge; omega) ⟨rfl, rfl, e2, e3, fun c hc => by show τ1 c = τ c; rw [e4 c (by omega), hfr c hc]⟩
      have b1 : T_X12_coughs_55 en_FU v (Int32.ofNat m) (Int32.ofNat e) v 0 0 en_un τ1 = T_X12_coughs_55 (en_FU - m) v (Int32.ofNat m) (Int32.ofNat e) r4 r5 (Int32.ofNat m) ru τ2 := b1
      have b2' : r5 = Int32.ofNat (dcN g x W m) := b2'
      have b3 : MI τ2 (g, t, ro, x, us, kp) := b3
      have b4 : MSr (gN g) (τ2 198) (rsN g x W m) := b4
      have b5 : FrM τ τ2 := b5
      obtain ⟨d, hd⟩ : ∃ d, en_FU - m = d + 1 := ⟨en_FU - m - 1, by have := en_FU_ge; omega⟩
      have hd2 : 900000 < d := by have := en_FU_ge; omega
      have hx17 : ∀ r, r < 7 → τ2 186 (14 + r) = sS x r := fun r hr => (b3.2.2.2.1.2.1 r hr).2.1
      have hx22 : ∀ r, r < 7 → τ2 198 (14 + r) = sS (rsN g x W m) r := fun r hr => (b4.2.1 r hr).2.1
      rw [b1, hd, t_X12_coughs_55, if_neg (by rw [pn_lt (by omega) (by omega)]; omega)]
      refine pl_for1 (F := fun f i (q : (Int32 × Int32) × en_V) => T_X12_coughs_139 f v (Int32.ofNat m) (Int32.ofNat e) r4 r5 q.1.1 q.1.2 (Int32.ofNat i) q.2 τ2) (P := fun i q => q.1 = cmN D i) (Q := fun r => ∃ τ', en_oi r = some (sD (rsN g x W m) - sD x, τ') ∧ MI τ' (g, t, [Int32.ofNat (dcN g x W m), (cmN D (gN g)).1, (cmN D (gN g)).2], x, us, kp) ∧ FrM τ τ') (N := gN g) ?_ ?_ (gN g) 0 d ((-1, 0), en_un) (by omega) (by omega) rfl
      · rintro f i ⟨q, u⟩ hi hP
        have hP : q = cmN D i := hP
        subst hP
        left
        show ∃ q' : (Int32 × Int32) × en_V, T_X12_coughs_139 (f + 1) _ _ _ _ _ (cmN D i).1 (cmN D i).2 _ u τ2 = _ ∧ _
        rw [t_X12_coughs_139, show τ2 185 1 = Int32.ofNat (gN g) from b3.1.1, if_pos ((pn_lt (by omega) (by omega)).mpr hi), show (14 : Int32) + Int32.ofNat i = Int32.ofNat (14 + i) from pn_add 14 i, pn_ix (by omega) (by omega), Option.bind_some, Option.bind_some]
        simp only [hx22 i (by omega), hx17 i (by omega), hDr, pn_a1]
        show ∃ q' : (Int32 × Int32) × en_V, _ ∧ q'.1 = if (cmN D i).2 < D i then (Int32.ofNat i, D i) else cmN D i
        by_cases c1 : (cmN D i).2 < D i
        · rw [if_pos c1, if_pos c1]
          exact ⟨((Int32.ofNat i, D i), _), rfl, rfl⟩
        · rw [if_neg c1, if_neg c1]
          exact ⟨(cmN D i, _), rfl, rfl⟩
      · rintro f ⟨q, u⟩ hP
        have hP : q = cmN D (gN g) := hP
        subst hP
        obtain ⟨τ3, g1, g2, g3, -⟩ := MI.add (MI.begin b3) (by simp) (Int32.ofNat (dcN g x W m))
        obtain ⟨τ4, k1, k2, k3, -⟩ := MI.add g2 (by simp) (cmN D (gN g)).1
        obtain ⟨τ5, l1, l2, l3, -⟩ := MI.add k2 (by simp) (cmN D (gN g)).2
        have s5 : ∀ c, c ≠ 185 → c ≠ 190 → τ5 c = τ2 c := fun c h1 h2 => by rw [l3 c h1 h2, k3 c h1 h2, g3 c h1 h2, pu_row h1]
        show ∃ τ', en_oi (T_X12_coughs_139 (f + 1) _ _ _ _ _ (cmN D (gN g)).1 (cmN D (gN g)).2 _ u τ2) = _ ∧ _
        rw [t_X12_coughs_139, show τ2 185 1 = Int32.ofNat (gN g) from b3.1.1, if_neg (by rw [pn_lt (by omega) (by omega)]; omega), b2', g1, Option.bind_some, k1, Option.bind_some, l1, Option.bind_some, show en_ix (29 : Int32) 53 = some 29 from pn_ix (k := 29) (by omega) (by omega), Option.bind_some, Option.bind_some, show τ5 198 29 = sD (rsN g x W m) by rw [s5 198 (by omega) (by omega)]; exact b4.2.2.2.1, show τ5 186 29 = sD x by rw [s5 186 (by omega) (by omega)]; exact b3.2.2.2.1.2.2.2.1]
        exact ⟨τ5, rfl, l2, fun c hc => by rw [s5 c (by omega) (by omega), b5 c hc]⟩
  · refine p_no hA (-1) (fun hC => ?_) (fun τ hM => ?_)
    · rw [o_X11_coughs, t_X11_coughs_0, show σ0 5 3 = Int32.ofNat (gN g) from hC.1.1, pi_if (pn_eq0 (by omega))]
      by_cases c1 : gN g = 0
      · rw [if_pos c1]; rfl
      rw [if_neg c1]
      by_cases c2 : w < 1
      · rw [if_pos c2]; rfl
      rw [if_neg c2]
      by_cases c3 : 60 < w
      · rw [if_pos c3]; rfl
      rw [if_neg c3]
      by_cases c4 : z < 1
      · rw [if_pos c4]; rfl
      rw [if_neg c4, if_pos (show 9 < z from Classical.byContradiction fun q => hz ⟨c1, ⟨c2, c3⟩, c4, q⟩)]; rfl
    · have hM2 := hM.slot 11 0 (by omega)
      have h1 : (en_up τ 185 11 0) 185 1 = Int32.ofNat (gN g) := hM2.1.1
      rw [o_X12_coughs, t_X12_coughs_0, q_in, Option.bind_some]
      dsimp only
      rw [pi_if (pb2_0 _)]
      by_cases c2 : ¬ (¬ w < 1 ∧ ¬ 60 < w)
      · rw [if_pos c2]; rfl
      rw [if_neg c2, q_in, Option.bind_some]
      dsimp only
      rw [pi_if (pb2_0 _)]
      by_cases c4 : ¬ (¬ z < 1 ∧ ¬ 9 < z)
      · rw [if_pos c4]; rfl
      rw [if_neg c4, if_pos (show (en_up τ 185 11 0) 185 1 = 0 by rw [h1, pn_eq0 (by omega)]; exact Classical.byContradiction fun q => hz ⟨q, Classical.not_not.mp c2, Classical.not_not.mp c4⟩)]; rfl
