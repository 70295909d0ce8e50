/-! set, may, bound, missed, count, ringer, bell, row -/
theorem MI.out {σ : en_M} {A : pI} (h : MI σ A) (v : Int32) : MI (en_up σ 209 0 v) A := h.kept (fun j _ => pu_cell (by omega)) (fun c hc => pu_row (by omega))
theorem p_thr {c : Nat} {f g : en_M → Option (Int32 × en_M)} (hc : c < 512) (h : ∀ (A : pI), AV (2000 * c) A → 2000 * c ≤ 2000000 →
    (∃ v, (∀ σ, CI σ A → ∃ σ', f σ = some (0, en_up σ' 209 0 v) ∧ CI σ' A ∧ FrC σ σ') ∧ ∀ τ, MI τ A → ∃ τ', g τ = some (v, τ') ∧ MI τ' A ∧ FrM τ τ' ∧ τ' 185 11 = 0) ∨
    ((∀ σ, CI σ A → f σ = some (1, σ)) ∧ ∀ τ, MI τ A → ∃ v τ', g τ = some (v, τ') ∧ MI τ' A ∧ FrM τ τ' ∧ τ' 185 11 = 1)) : en_thr pInv c f g := by
  rintro σ ⟨A, h1, h2, h3, h0⟩
  have hA := h1.mono (show 2000 * c ≤ 2000 * (c + 1) by omega)
  rcases h A h1 (by omega) with ⟨v, hf, hg⟩ | ⟨hf, hg⟩
  · obtain ⟨σ1, e1, i1, f1⟩ := hf σ h2
    obtain ⟨σ2, e2, i2, f2, t2⟩ := hg (en_up σ1 209 0 v) ((h3.fr f1).out v)
    have hC : CI (en_up σ1 209 0 v) A := i1.kept (fun c hc => pu_row (by omega)) (pu_cell (by omega))
    refine ⟨0, _, v, σ2, σ2, e1, e2, by rw [q_thrown, t2], fun _ => ?_, A, hA, hC.fr f2, i2, ?_⟩
    · rw [f2 209 (by omega), pu_same]
    · rw [f2 181 (by omega), pu_cell (by omega), f1 181 (Or.inr rfl)]; exact h0
  · obtain ⟨v, σ2, e2, i2, f2, t2⟩ := hg σ h3
    exact ⟨1, σ, v, σ2, σ2, hf σ h2, e2, by rw [q_thrown, t2], fun q => absurd q (by decide), A, hA, h2.fr f2, i2, by rw [f2 181 (by omega)]; exact h0⟩
theorem e11 (σ : en_M) : en_up σ 185 11 0 185 11 = 0 := pu_same _ _ _ _
theorem n8 {A : pI} {B : Nat} (h : AV B A) : gN (iG A) < 8 := Nat.lt_succ_of_le h.1.1
theorem p_bell : en_st_bell pInv := by
  intro c v hc
  refine p_thr hc (fun A hA hB => ?_)
  have hn := n8 hA
  by_cases hv : isR (gN (iG A)) v
  · obtain ⟨p, hp, rfl⟩ := hv
    left
    have hF := hA.2.2.2.2.2.2.2.1.1
    refine ⟨Int32.ofNat (sF (iS A) p), fun σ hC => ⟨σ, ?_, hC, FrC.refl _⟩, fun τ hM => ⟨en_up τ 185 11 0, ?_, hM.slot 11 0 (by omega), FrM.up (by omega) (by omega), e11 τ⟩⟩
    · obtain ⟨w, e1, e2⟩ := q_hasRinger (n := gN (iG A)) (by omega) hC.1.1 (Int32.ofNat p)
      rcases e2 with ⟨_, q⟩ | ⟨rfl, _⟩
      · exact absurd ⟨p, hp, rfl⟩ q
      rw [o_L_bell, show R_X11_bell [.inr (0, 11, 0, 0), .inl (Int32.ofNat p)] σ = en_sx [11] (T_X11_bell_0 (Int32.ofNat p) σ) from rfl, t_X11_bell_0, e1, Option.bind_some, if_neg (show ¬ (1 : Int32) = 0 by decide)]
      dsimp only
      rw [q_bellAt, Option.bind_some]
      dsimp only
      rw [hC.2.2.2.1.1, pba hF.lt8 (by omega)]; rfl
    · obtain ⟨w, e1, e2⟩ := q_isOne (n := gN (iG A)) (σ := en_up τ 185 11 0) (by omega) (by rw [pu_slot (by omega)]; exact hM.1.1) (Int32.ofNat p)
      rcases e2 with ⟨_, q⟩ | ⟨rfl, _⟩
      · exact absurd ⟨p, hp, rfl⟩ q
      rw [o_X12_bell, t_X12_bell_0, e1, Option.bind_some, if_neg (show ¬ (1 : Int32) = 0 by decide), pn_ix (show p < 53 by omega) (by omega), Option.bind_some]
      dsimp only
      rw [pu_cell (by omega)]
      have := hM.2.2.2.1.1 p hp
      rw [Nat.zero_add] at this
      rw [this]; rfl
  · right
    refine ⟨fun σ hC => ?_, fun τ hM => ?_⟩
    · obtain ⟨w, e1, e2⟩ := q_hasRinger (n := gN (iG A)) (by omega) hC.1.1 v
      rcases e2 with ⟨rfl, _⟩ | ⟨_, q⟩
      · rw [o_L_bell, show R_X11_bell [.inr (0, 11, 0, 0), .inl v] σ = en_sx [11] (T_X11_bell_0 v σ) from rfl, t_X11_bell_0, e1, Option.bind_some, if_pos rfl]; rfl
      · exact absurd q hv
    · obtain ⟨w, e1, e2⟩ := q_isOne (n := gN (iG A)) (σ := en_up τ 185 11 0) (by omega) (by rw [pu_slot (by omega)]; exact hM.1.1) v
      rcases e2 with ⟨rfl, _⟩ | ⟨_, q⟩
      · refine ⟨0, en_up (en_up τ 185 11 0) 185 11 1, ?_, (hM.slot 11 0 (by omega)).slot 11 1 (by omega), (FrM.up (by omega) (by omega)).trans (FrM.up (by omega) (by omega)), pu_same _ _ _ _⟩
        rw [o_X12_bell, t_X12_bell_0, e1, Option.bind_some, if_pos rfl, q_lost, Option.bind_some]; rfl
      · exact absurd q hv
theorem p_row : en_st_row pInv := by
  intro c v hc
  refine p_thr hc (fun A hA hB => ?_)
  have hlen : (iR A).length ≤ 14 := hA.2.2.2.2.2.2.1
  by_cases hv : isR (iR A).length v
  · obtain ⟨p, hp, rfl⟩ := hv
    left
    refine ⟨(iR A).getD p 0, fun σ hC => ⟨σ, ?_, hC, FrC.refl _⟩, fun τ hM => ⟨en_up τ 185 11 0, ?_, hM.slot 11 0 (by omega), FrM.up (by omega) (by omega), e11 τ⟩⟩
    · rw [o_L_row, show R_X11_row [.inr (0, 11, 0, 0), .inl (Int32.ofNat p)] σ = en_sx [15] (T_X11_row_0 (Int32.ofNat p) σ) from rfl, t_X11_row_0, if_neg (pn_nlt0 (by omega)), hC.2.2.1.1, if_pos ((pn_lt (by omega) (by omega)).mpr hp), pn_ix (by omega) (by omega), Option.bind_some, hC.2.2.1.2 p hp]; rfl
    · rw [o_X12_row, t_X12_row_0, q_in, Option.bind_some, hM.2.2.1.1]
      rw [if_neg (by dsimp only; rw [pb2_0]; exact fun q => q ((isR_iff2 (by omega) _).mp ⟨p, hp, rfl⟩)), pn_ix (show p < 20 by omega) (by omega), Option.bind_some]
      dsimp only
      rw [pu_cell (by omega), hM.2.2.1.2 p hp]; rfl
  · right
    refine ⟨fun σ hC => ?_, fun τ hM => ⟨0, en_up (en_up τ 185 11 0) 185 11 1, ?_, (hM.slot 11 0 (by omega)).slot 11 1 (by omega), (FrM.up (by omega) (by omega)).trans (FrM.up (by omega) (by omega)), pu_same _ _ _ _⟩⟩
    · rw [o_L_row, show R_X11_row [.inr (0, 11, 0, 0), .inl v] σ = en_sx [15] (T_X11_row_0 v σ) from rfl, t_X11_row_0, hC.2.2.1.1]
      by_cases h0 : v < 0
      · rw [if_pos h0]; rfl
      · rw [if_neg h0, if_neg (fun q => hv ((isR_iff (by omega) v).mpr ⟨h0, q⟩))]; rfl
    · rw [o_X12_row, t_X12_row_0, q_in, Option.bind_some, hM.2.2.1.1]
      rw [if_pos (by dsimp only; rw [pb2_0]; exact fun q => hv ((isR_iff2 (by omega) v).mpr q)), q_lost, Option.bind_some]; rfl
/-- sums of the first k -/
def smN (T : Nat → Int32) : Nat → Int32
  | 0 => 0
  | k + 1 => smN T k + T k
theorem smN_congr {T U : Nat → Int32} : ∀ k, (∀ r, r < k → T r = U r) → smN T k = smN U k
  | 0, _ => rfl
  | k + 1, h => by unfold smN; rw [smN_congr k (fun r hr => h r (by omega)), h k (by omega)]
theorem smN_ge {T : Nat → Int32} {n : Nat} (h : ∀ r, n ≤ r → r < 7 → T r = 0) : ∀ k, n ≤ k → k ≤ 7 → smN T k = smN T n := by
  intro k hk h7
  induction k with
  | zero => rw [show n = 0 by omega]
  | succ k ih =>
    by_cases e : n = k + 1
    · rw [e]
    · show smN T k + T k = _
      rw [h k (by omega) (by omega), Int32.add_zero, ih (by omega) (by omega)]
theorem q_sum (k : Nat) (σ : en_M) : O_X11_sum [.inr (k, 20, 7, 0)] σ = some (smN (σ k) 7, σ) := by
  rw [o_X11_sum, t_X11_sum_0]
  refine pl_for1 (F := fun m i (q : Int32 × en_V) => T_X11_sum_10 m k q.1 (Int32.ofNat 7) (Int32.ofNat i) q.2 σ) (P := fun i q => q.1 = smN (σ k) i) (Q := fun r => en_oi r = some (smN (σ k) 7, σ)) (N := 7) ?_ ?_ 7 0 en_FU (0, en_un) rfl (pl_FU (by omega)) rfl
  · rintro m i ⟨a, u⟩ hi hP
    have hP : a = smN (σ k) i := hP
    subst hP
    refine Or.inl ⟨(smN (σ k) (i + 1), .inl (σ k i)), ?_, rfl⟩
    show T_X11_sum_10 (m + 1) k _ _ _ _ σ = _
    rw [t_X11_sum_10, if_pos ((pn_lt (by omega) (by omega)).mpr hi), pn_ix hi (by omega), Option.bind_some, pn_a1]
    rfl
  · rintro m ⟨a, u⟩ hP
    have hP : a = smN (σ k) 7 := hP
    subst hP
    show en_oi (T_X11_sum_10 (m + 1) k _ _ _ _ σ) = _
    rw [t_X11_sum_10, if_neg (by rw [pn_lt (by omega) (by omega)]; omega)]; rfl
theorem r_sumOf {n o : Nat} {σ : en_M} (hn : n ≤ 7) (ho : o ≤ 21) (h1 : σ 185 1 = Int32.ofNat n) : O_X12_sumOf [.inr (185, 12, 0, 0), .inl (Int32.ofNat o)] σ = some (smN (fun r => σ 186 (o + r)) n, σ) := by
  rw [o_X12_sumOf, t_X12_sumOf_0]
  refine pl_for1 (F := fun m i (q : Int32) => T_X12_sumOf_4 m (Int32.ofNat o) q (Int32.ofNat i) σ) (P := fun i q => q = smN (fun r => σ 186 (o + r)) i) (Q := fun r => en_oi r = some (smN (fun r => σ 186 (o + r)) n, σ)) (N := n) ?_ ?_ n 0 en_FU 0 (by omega) (pl_FU (by omega)) rfl
  · rintro m i a hi rfl
    refine Or.inl ⟨smN (fun r => σ 186 (o + r)) (i + 1), ?_, rfl⟩
    show T_X12_sumOf_4 (m + 1) _ _ _ σ = _
    rw [t_X12_sumOf_4, h1, if_pos ((pn_lt (by omega) (by omega)).mpr hi), pn_add o i, pn_ix (by omega) (by omega), Option.bind_some, pn_a1]
    rfl
  · rintro m a rfl
    show en_oi (T_X12_sumOf_4 (m + 1) _ _ _ σ) = _
    rw [t_X12_sumOf_4, h1, if_neg (by rw [pn_lt (by omega) (by omega)]; omega)]; rfl
theorem p_ringer : en_st_ringer pInv := by
  intro c v w hc
  refine p_thr hc (fun A hA hB => ?_)
  have hn := n8 hA
  have hg := hA.1
  have hF := hA.2.2.2.2.2.2.2.1.1
  have hVS := hA.2.2.2.2.2.2.2.1
  by_cases hv : isR (gN (iG A)) v
  · by_cases hw : isR 7 w
    · obtain ⟨r, hr, rfl⟩ := hv
      obtain ⟨k, hk, rfl⟩ := hw
      have hq := plc_lt hF (show r < 7 by omega)
      have hqn := plc_ltn hF (by omega) hr
      have hclass : ∀ σ, CI σ A → ∃ x, O_L_ringer [.inr (0, 11, 0, 0), .inl (Int32.ofNat r), .inl (Int32.ofNat k), .inr (209, 25, 1, 0)] σ = x := fun σ _ => ⟨_, rfl⟩
      have e0 : ∀ σ, CI σ A → O_X10_hasRinger [.inr (5, 10, 0, 0), .inl (Int32.ofNat r)] σ = some (1, σ) := fun σ hC => by
        obtain ⟨w, e1, e2⟩ := q_hasRinger (n := gN (iG A)) (by omega) hC.1.1 (Int32.ofNat r)
        rcases e2 with ⟨_, q⟩ | ⟨rfl, _⟩
        · exact absurd ⟨r, hr, rfl⟩ q
        · exact e1
      have m0 : ∀ τ, MI τ A → O_X12_isOne [.inr (185, 12, 0, 0), .inl (Int32.ofNat r)] (en_up τ 185 11 0) = some (1, en_up τ 185 11 0) := fun τ hM => by
        obtain ⟨w, e1, e2⟩ := q_isOne (n := gN (iG A)) (σ := en_up τ 185 11 0) (by omega) (by rw [pu_slot (by omega)]; exact hM.1.1) (Int32.ofNat r)
        rcases e2 with ⟨_, q⟩ | ⟨rfl, _⟩
        · exact absurd ⟨r, hr, rfl⟩ q
        · exact e1
      have m1 : (pb2 (¬ Int32.ofNat k < 0 ∧ ¬ (6 : Int32) < Int32.ofNat k) = 0) = False := by
        rw [pb2_0]
        exact eq_false (fun q => q ⟨pn_nlt0 (by omega), fun h => by have := (pn_lt (a := 6) (by omega) (by omega)).mp h; omega⟩)
      have i7 : en_ix (7 + Int32.ofNat r) 53 = some (7 + r) := by rw [show (7 : Int32) + Int32.ofNat r = Int32.ofNat (7 + r) from pn_add 7 r]; exact pn_ix (by omega) (by omega)
      have i14 : en_ix (14 + Int32.ofNat r) 53 = some (14 + r) := by rw [show (14 : Int32) + Int32.ofNat r = Int32.ofNat (14 + r) from pn_add 14 r]; exact pn_ix (by omega) (by omega)
      have i21 : en_ix (21 + Int32.ofNat r) 53 = some (21 + r) := by rw [show (21 : Int32) + Int32.ofNat r = Int32.ofNat (21 + r) from pn_add 21 r]; exact pn_ix (by omega) (by omega)
      have i30 : en_ix 30 53 = some 30 := pn_ix (k := 30) (by omega) (by omega)
      have ir := pn_ix (show r < 7 by omega) (show r < 2147483648 by omega)
      have same : ∀ val : Int32, (∀ σ, CI σ A → O_L_ringer [.inr (0, 11, 0, 0), .inl (Int32.ofNat r), .inl (Int32.ofNat k), .inr (209, 25, 1, 0)] σ = some (0, en_up σ 209 0 val)) → (∀ τ, MI τ A → O_X12_ringer [.inr (185, 12, 0, 0), .inl (Int32.ofNat r), .inl (Int32.ofNat k)] τ = some (val, en_up τ 185 11 0)) →
          (∃ v, (∀ σ, CI σ A → ∃ σ', O_L_ringer [.inr (0, 11, 0, 0), .inl (Int32.ofNat r), .inl (Int32.ofNat k), .inr (209, 25, 1, 0)] σ = some (0, en_up σ' 209 0 v) ∧ CI σ' A ∧ FrC σ σ') ∧ ∀ τ, MI τ A → ∃ τ', O_X12_ringer [.inr (185, 12, 0, 0), .inl (Int32.ofNat r), .inl (Int32.ofNat k)] τ = some (v, τ') ∧ MI τ' A ∧ FrM τ τ' ∧ τ' 185 11 = 0) :=
        fun val h1 h2 => ⟨val, fun σ hC => ⟨σ, h1 σ hC, hC, FrC.refl _⟩, fun τ hM => ⟨_, h2 τ hM, hM.slot 11 0 (by omega), FrM.up (by omega) (by omega), e11 τ⟩⟩
      have cl : ∀ σ, CI σ A → O_L_ringer [.inr (0, 11, 0, 0), .inl (Int32.ofNat r), .inl (Int32.ofNat k), .inr (209, 25, 1, 0)] σ = en_cx (en_sx [11, 142] (if Int32.ofNat k = (0 : Int32) then en_ri1 (σ 6 r) σ else if Int32.ofNat k = (1 : Int32) then en_ri1 (σ 16 r) σ else if Int32.ofNat k = (2 : Int32) then en_ri1 (σ 17 r) σ else if Int32.ofNat k = (3 : Int32) then en_ri1 (σ 18 r) σ else if Int32.ofNat k = (4 : Int32) then ((O_X11_placeOf [.inl (σ 15 4), .inl (Int32.ofNat r)] σ).bind fun r6 => en_ri1 r6.1 r6.2) else if Int32.ofNat k = (5 : Int32) then en_ri1 (en_shr (σ 15 7) (Int32.ofNat r) &&& 1) σ else if Int32.ofNat k = (6 : Int32) then ((O_X10_moreTired [.inr (5, 10, 0, 0), .inr (15, 7, 0, 0), .inl (Int32.ofNat r), .inl (0 : Int32)] σ).bind fun r8 => en_ri1 r8.1 r8.2) else en_tr 142 [.inr (0, 11, 0, 0), .inl (Int32.ofNat r), .inl (Int32.ofNat k)] σ)) := fun σ hC => by
        rw [o_L_ringer, show R_X11_ringer [.inr (0, 11, 0, 0), .inl (Int32.ofNat r), .inl (Int32.ofNat k)] σ = en_sx [11, 142] (T_X11_ringer_0 (Int32.ofNat r) (Int32.ofNat k) σ) from rfl, t_X11_ringer_0, e0 σ hC, Option.bind_some, if_neg (show ¬ (1 : Int32) = 0 by decide)]
        simp only [ir, Option.bind_some, q_bit]
      have ml : ∀ τ, MI τ A → O_X12_ringer [.inr (185, 12, 0, 0), .inl (Int32.ofNat r), .inl (Int32.ofNat k)] τ = en_oi (if Int32.ofNat k = (0 : Int32) then en_ri (τ 187 r) (en_up τ 185 11 0) else if Int32.ofNat k = (1 : Int32) then en_ri (τ 186 (7 + r)) (en_up τ 185 11 0) else if Int32.ofNat k = (2 : Int32) then en_ri (τ 186 (14 + r)) (en_up τ 185 11 0) else if Int32.ofNat k = (3 : Int32) then en_ri (τ 186 (21 + r)) (en_up τ 185 11 0) else if Int32.ofNat k = (4 : Int32) then ((O_X12_placeOf [.inr (185, 12, 0, 0), .inr (186, 20, 53, 0), .inl (Int32.ofNat r)] (en_up τ 185 11 0)).bind fun r8 => en_ri r8.1 r8.2) else if Int32.ofNat k = (5 : Int32) then en_ri (en_shr (τ 186 30) (Int32.ofNat r) &&& 1) (en_up τ 185 11 0) else ((O_X12_tires [.inr (185, 12, 0, 0), .inr (186, 20, 53, 0), .inl (Int32.ofNat r), .inl (0 : Int32)] (en_up τ 185 11 0)).bind fun r10 => en_ri r10.1 r10.2)) := fun τ hM => by
        rw [o_X12_ringer, t_X12_ringer_0, m0 τ hM, Option.bind_some, if_neg (show ¬ (1 : Int32) = 0 by decide), q_in, Option.bind_some]
        simp only [m1, if_false, ir, i7, i14, i21, i30, Option.bind_some]
        simp (disch := omega) only [pu_cell]
      left
      match k, hk with
      | 0, _ => exact same (gW (iG A) r) (fun σ hC => by rw [cl σ hC, if_pos (by decide), hC.1.2.1 r hr]; rfl) (fun τ hM => by rw [ml τ hM, if_pos (by decide), hM.1.2.1 r hr]; rfl)
      | 1, _ => exact same (sT (iS A) r) (fun σ hC => by rw [cl σ hC, if_neg (by decide), if_pos (by decide), (hC.2.2.2.1.2.2.2.2.2.1 r (by omega)).1]; rfl) (fun τ hM => by rw [ml τ hM, if_neg (by decide), if_pos (by decide), (hM.2.2.2.1.2.1 r (by omega)).1]; rfl)
      | 2, _ => exact same (sS (iS A) r) (fun σ hC => by rw [cl σ hC, if_neg (by decide), if_neg (by decide), if_pos (by decide), (hC.2.2.2.1.2.2.2.2.2.1 r (by omega)).2.1]; rfl) (fun τ hM => by rw [ml τ hM, if_neg (by decide), if_neg (by decide), if_pos (by decide), (hM.2.2.2.1.2.1 r (by omega)).2.1]; rfl)
      | 3, _ => exact same (sR (iS A) r) (fun σ hC => by rw [cl σ hC, if_neg (by decide), if_neg (by decide), if_neg (by decide), if_pos (by decide), (hC.2.2.2.1.2.2.2.2.2.1 r (by omega)).2.2]; rfl) (fun τ hM => by rw [ml τ hM, if_neg (by decide), if_neg (by decide), if_neg (by decide), if_pos (by decide), (hM.2.2.2.1.2.1 r (by omega)).2.2]; rfl)
      | 4, _ => exact same (Int32.ofNat (plc (sF (iS A)) r)) (fun σ hC => by
          have hp := q_placeOf hF hq.1 σ
          rw [hq.2] at hp
          rw [cl σ hC, if_neg (by decide), if_neg (by decide), if_neg (by decide), if_neg (by decide), if_pos (by decide), hC.2.2.2.1.1, hp]; rfl) (fun τ hM => by
          have hp := r_placeOf (k := 186) (σ := en_up τ 185 11 0) hF (by omega) hqn (by rw [pu_row (by omega)]; exact hM.2.2.2.1.1)
          rw [hq.2] at hp
          rw [ml τ hM, if_neg (by decide), if_neg (by decide), if_neg (by decide), if_neg (by decide), if_pos (by decide), hp]; rfl)
      | 5, _ => exact same (en_shr (Int32.ofNat (sW (iS A))) (Int32.ofNat r) &&& 1) (fun σ hC => by rw [cl σ hC, if_neg (by decide), if_neg (by decide), if_neg (by decide), if_neg (by decide), if_neg (by decide), if_pos (by decide), hC.2.2.2.1.2.2.2.1]; rfl) (fun τ hM => by rw [ml τ hM, if_neg (by decide), if_neg (by decide), if_neg (by decide), if_neg (by decide), if_neg (by decide), if_pos (by decide), hM.2.2.2.1.2.2.2.2.1]; rfl)
      | 6, _ =>
        refine ⟨tir (iG A) (iS A) r 0, fun σ hC => ?_, fun τ hM => ?_⟩
        · obtain ⟨σ', e1, e2⟩ := q_moreTired (k := 15) (many := 0) hg hC.1 hC.2.2.2.1.1 hC.2.2.2.1.2.1 (hC.2.2.2.1.2.2.2.2.2.1 r (by omega)).1 (hC.2.2.2.1.2.2.2.2.2.1 r (by omega)).2.1 hF hr (by omega)
          refine ⟨σ', ?_, hC.kept (fun c hc => e2 c (by omega) (by omega)) (by rw [e2 10 (by omega) (by omega)]), fun c hc => e2 c (by omega) (by omega)⟩
          rw [cl σ hC, if_neg (by decide), if_neg (by decide), if_neg (by decide), if_neg (by decide), if_neg (by decide), if_neg (by decide), if_pos (by decide), show (0 : Int32) = Int32.ofNat 0 from rfl, e1]; rfl
        · have hM2 := hM.slot 11 0 (by omega)
          obtain ⟨τ', e1, e2, e3⟩ := r_tires (k := 186) (many := 0) hg hM2.1 hF hr hM2.2.2.2.1.1 (hM2.2.2.2.1.2.1 r (by omega)).1 hM2.2.2.2.1.2.2.1 (hM2.2.2.2.1.2.1 r (by omega)).2.1 (by omega) (by omega)
          refine ⟨τ', ?_, hM2.kept (fun j hj => e3 j (by omega) (by omega)) (fun c hc => e2 c (by omega) (by omega)), (FrM.up (by omega) (by omega)).trans (fun c hc => e2 c (by omega) (by omega)), by rw [e3 11 (by omega) (by omega)]; exact e11 τ⟩
          have e1' : O_X12_tires [.inr (185, 12, 0, 0), .inr (186, 20, 53, 0), .inl (Int32.ofNat r), .inl (0 : Int32)] (en_up τ 185 11 0) = some (tir (iG A) (iS A) r 0, τ') := e1
          rw [ml τ hM, if_neg (by decide), if_neg (by decide), if_neg (by decide), if_neg (by decide), if_neg (by decide), if_neg (by decide), e1']; rfl
    · right
      refine ⟨fun σ hC => ?_, fun τ hM => ⟨0, en_up (en_up τ 185 11 0) 185 11 1, ?_, (hM.slot 11 0 (by omega)).slot 11 1 (by omega), (FrM.up (by omega) (by omega)).trans (FrM.up (by omega) (by omega)), pu_same _ _ _ _⟩⟩
      · obtain ⟨z, e1, e2⟩ := q_hasRinger (n := gN (iG A)) (by omega) hC.1.1 v
        rcases e2 with ⟨_, q⟩ | ⟨rfl, _⟩
        · exact absurd hv q
        have nk : ∀ j, j < 7 → ¬ w = Int32.ofNat j := fun j hj e => hw ⟨j, hj, e⟩
        rw [o_L_ringer, show R_X11_ringer [.inr (0, 11, 0, 0), .inl v, .inl w] σ = en_sx [11, 142] (T_X11_ringer_0 v w σ) from rfl, t_X11_ringer_0, e1, Option.bind_some, if_neg (show ¬ (1 : Int32) = 0 by decide), if_neg (show ¬ w = (0 : Int32) from nk 0 (by omega)), if_neg (show ¬ w = (1 : Int32) from nk 1 (by omega)), if_neg (show ¬ w = (2 : Int32) from nk 2 (by omega)), if_neg (show ¬ w = (3 : Int32) from nk 3 (by omega)), if_neg (show ¬ w = (4 : Int32) from nk 4 (by omega)), if_neg (show ¬ w = (5 : Int32) from nk 5 (by omega)), if_neg (show ¬ w = (6 : Int32) from nk 6 (by omega))]; rfl
      · obtain ⟨z, e1, e2⟩ := q_isOne (n := gN (iG A)) (σ := en_up τ 185 11 0) (by omega) (by rw [pu_slot (by omega)]; exact hM.1.1) v
        rcases e2 with ⟨_, q⟩ | ⟨rfl, _⟩
        · exact absurd hv q
        rw [o_X12_ringer, t_X12_ringer_0, e1, Option.bind_some, if_neg (show ¬ (1 : Int32) = 0 by decide), q_in, Option.bind_some]
        rw [if_pos (by dsimp only; rw [pb2_0]; exact fun q => hw ((isR_iff2 (n := 7) (by omega) w).mpr q)), q_lost, Option.bind_some]; rfl
  · right
    refine ⟨fun σ hC => ?_, fun τ hM => ⟨0, en_up (en_up τ 185 11 0) 185 11 1, ?_, (hM.slot 11 0 (by omega)).slot 11 1 (by omega), (FrM.up (by omega) (by omega)).trans (FrM.up (by omega) (by omega)), pu_same _ _ _ _⟩⟩
    · obtain ⟨z, e1, e2⟩ := q_hasRinger (n := gN (iG A)) (by omega) hC.1.1 v
      rcases e2 with ⟨rfl, _⟩ | ⟨_, q⟩
      · rw [o_L_ringer, show R_X11_ringer [.inr (0, 11, 0, 0), .inl v, .inl w] σ = en_sx [11, 142] (T_X11_ringer_0 v w σ) from rfl, t_X11_ringer_0, e1, Option.bind_some, if_pos rfl]; rfl
      · exact absurd q hv
    · obtain ⟨z, e1, e2⟩ := q_isOne (n := gN (iG A)) (σ := en_up τ 185 11 0) (by omega) (by rw [pu_slot (by omega)]; exact hM.1.1) v
      rcases e2 with ⟨rfl, _⟩ | ⟨_, q⟩
      · rw [o_X12_ringer, t_X12_ringer_0, e1, Option.bind_some, if_pos rfl, q_lost, Option.bind_some]; rfl
      · exact absurd q hv
