/-! reads -/
def rgN (n L : Nat) (tx : Nat → Nat) : Nat → Nat → Nat
  | 0, p => p
  | k + 1, p => if p < L ∧ (tx p = 45 ∨ 49 ≤ tx p ∧ tx p < 49 + n) then rgN n L tx k (p + 1) else p
theorem rgN_le (n L : Nat) (tx : Nat → Nat) : ∀ k p, p ≤ rgN n L tx k p ∧ rgN n L tx k p ≤ p + k
  | 0, p => ⟨Nat.le_refl _, Nat.le_refl _⟩
  | k + 1, p => by
    have := rgN_le n L tx k (p + 1)
    unfold rgN; split <;> omega
theorem rgN_ok (n L : Nat) (tx : Nat → Nat) : ∀ k p r, p ≤ r → r < rgN n L tx k p → r < L ∧ (tx r = 45 ∨ 49 ≤ tx r ∧ tx r < 49 + n)
  | 0, p, r => fun h1 h2 => by unfold rgN at h2; omega
  | k + 1, p, r => fun h1 h2 => by
    unfold rgN at h2
    by_cases c : p < L ∧ (tx p = 45 ∨ 49 ≤ tx p ∧ tx p < 49 + n)
    · rw [if_pos c] at h2
      by_cases e : r = p
      · rw [e]; exact c
      · exact rgN_ok n L tx k (p + 1) r (by omega) h2
    · rw [if_neg c] at h2; omega
def rgW (g : pG) (x : pS) (tx : Nat → Nat) (k : Nat) : Nat := if tx k = 45 then 0 else 2 ^ odN g x k (tx k - 49)
def sgn (L mx : Nat) (tx : Nat → Nat) (i : Nat) : Int32 := if i < L then if i < mx then Int32.ofNat (tx i) else -2 else -1
theorem sg_45 {u : Nat} (hu : u < 256) : (Int32.ofNat u = 45) = (u = 45) := pn_eq (b := 45) (by omega) (by omega)
theorem sg_m1 {u : Nat} (hu : u < 256) : ¬ Int32.ofNat u = -1 := pn_nm1 (by omega)
theorem r_gaps1 {g t ro x us kp} {B L : Nat} {tx : Nat → Nat} {σ1 : en_M} (hA : AV B (g, t, ro, x, us, kp)) (h53 : σ1 5 3 = Int32.ofNat (gN g)) (hT : CT σ1 L tx) (hL : L ≤ 80) (hb : ∀ j, tx j < 256) (h182 : ∀ k, k ≤ 14 → σ1 182 k = Int32.ofNat (pkN (odN g x k))) :
    (rgN (gN g) L tx 14 0 = L ∧ 0 < L → ∃ σ', en_oi (T_X11_readGaps_19 en_FU 0 (sgn L 14 tx 0) σ1) = some (Int32.ofNat L, σ') ∧ (∀ q, q < L → σ' 183 q = Int32.ofNat (rgW g x tx q)) ∧ ∀ c, c ≠ 183 → σ' c = σ1 c) ∧
    (¬ (rgN (gN g) L tx 14 0 = L ∧ 0 < L) → ∃ σ', en_oi (T_X11_readGaps_19 en_FU 0 (sgn L 14 tx 0) σ1) = some (-1 - Int32.ofNat (rgN (gN g) L tx 14 0), σ') ∧ ∀ c, c ≠ 183 → σ' c = σ1 c) := by
  have hn : gN g ≤ 7 := hA.1.1
  have fin : ∀ (i : Nat) (σ : en_M) (r : en_R), i ≤ 14 → rgN (gN g) L tx 14 0 = i → (∀ q, q < i → σ 183 q = Int32.ofNat (rgW g x tx q)) → (∀ c, c ≠ 183 → σ c = σ1 c) → (r = if sgn L 14 tx i = -1 then (if 0 < Int32.ofNat i then en_ri (Int32.ofNat i) σ else ((O_X11_cannotStand [.inl (Int32.ofNat i)] σ).bind fun r => en_ri r.1 r.2)) else ((O_X11_cannotStand [.inl (Int32.ofNat i)] σ).bind fun r => en_ri r.1 r.2)) →
      (rgN (gN g) L tx 14 0 = L ∧ 0 < L → ∃ σ', en_oi r = some (Int32.ofNat L, σ') ∧ (∀ q, q < L → σ' 183 q = Int32.ofNat (rgW g x tx q)) ∧ ∀ c, c ≠ 183 → σ' c = σ1 c) ∧
      (¬ (rgN (gN g) L tx 14 0 = L ∧ 0 < L) → ∃ σ', en_oi r = some (-1 - Int32.ofNat (rgN (gN g) L tx 14 0), σ') ∧ ∀ c, c ≠ 183 → σ' c = σ1 c) := by
    rintro i σ r hi hR h1 h2 rfl
    rw [hR, q_cannotStand, Option.bind_some]
    unfold sgn
    by_cases c : i < L
    · have hne : ¬ (if i < L then if i < 14 then Int32.ofNat (tx i) else (-2 : Int32) else -1) = -1 := by
        rw [if_pos c]; split
        · exact sg_m1 (hb i)
        · decide
      rw [if_neg hne]
      exact ⟨fun q => absurd q.1 (by omega), fun _ => ⟨σ, rfl, h2⟩⟩
    · rw [if_neg c, if_pos (show (-1 : Int32) = -1 from rfl), pi_if (pn_0lt (b := i) (by omega))]
      by_cases c2 : 0 < i
      · rw [if_pos c2]
        refine ⟨fun q => ⟨σ, by rw [← q.1]; rfl, fun k hk => h1 k (by omega), h2⟩, fun q => absurd ⟨?_, ?_⟩ q⟩
        · have := rgN_ok (gN g) L tx 14 0 (i - 1) (by omega) (by omega); omega
        · have := rgN_ok (gN g) L tx 14 0 (i - 1) (by omega) (by omega); omega
      · rw [if_neg c2]
        exact ⟨fun q => absurd q.2 (by omega), fun _ => ⟨σ, rfl, h2⟩⟩
  refine pl_for1 (F := fun f i (q : Int32 × en_M) => T_X11_readGaps_19 f (Int32.ofNat i) q.1 q.2) (P := fun i q => q.1 = sgn L 14 tx i ∧ rgN (gN g) L tx 14 0 = rgN (gN g) L tx (14 - i) i ∧ (∀ k, k < i → q.2 183 k = Int32.ofNat (rgW g x tx k)) ∧ ∀ c, c ≠ 183 → q.2 c = σ1 c)
    (Q := fun r => (rgN (gN g) L tx 14 0 = L ∧ 0 < L → ∃ σ', en_oi r = some (Int32.ofNat L, σ') ∧ (∀ q, q < L → σ' 183 q = Int32.ofNat (rgW g x tx q)) ∧ ∀ c, c ≠ 183 → σ' c = σ1 c) ∧ (¬ (rgN (gN g) L tx 14 0 = L ∧ 0 < L) → ∃ σ', en_oi r = some (-1 - Int32.ofNat (rgN (gN g) L tx 14 0), σ') ∧ ∀ c, c ≠ 183 → σ' c = σ1 c)) (N := 14) ?_ ?_ 14 0 en_FU (sgn L 14 tx 0, σ1) (by omega) (pl_FU (by omega)) ⟨rfl, rfl, fun k hk => absurd hk (by omega), fun _ _ => rfl⟩
  · rintro f i ⟨x2, σ⟩ hi ⟨p1, p2, p3, p4⟩
    have p1 : x2 = _ := p1
    have p3 : ∀ k, k < i → σ 183 k = Int32.ofNat (rgW g x tx k) := p3
    have p4 : ∀ c, c ≠ 183 → σ c = σ1 c := p4
    rw [show 14 - i = (14 - (i + 1)) + 1 by omega] at p2
    conv at p2 => rhs; unfold rgN
    have hbi := hb i
    have hlt : Int32.ofNat i < (14 : Int32) := (pn_lt (b := 14) (by omega) (by omega)).mpr hi
    have go : ∀ v : Nat, rgW g x tx i = v → rgN (gN g) L tx 14 0 = rgN (gN g) L tx (14 - (i + 1)) (i + 1) → ∃ q' : Int32 × en_M, ((O_X8_at [.inr (1, 8, 0, 0), .inl (Int32.ofNat i + (1 : Int32)), .inl (14 : Int32)] (en_up σ 183 i (Int32.ofNat v))).bind fun r => T_X11_readGaps_19 f (Int32.ofNat i + (1 : Int32)) r.1 r.2) = T_X11_readGaps_19 f (Int32.ofNat (i + 1)) q'.1 q'.2 ∧ q'.1 = sgn L 14 tx (i + 1) ∧ rgN (gN g) L tx 14 0 = rgN (gN g) L tx (14 - (i + 1)) (i + 1) ∧ (∀ k, k < i + 1 → q'.2 183 k = Int32.ofNat (rgW g x tx k)) ∧ ∀ c, c ≠ 183 → q'.2 c = σ1 c := by
      intro v hv hR
      have hT' : CT (en_up σ 183 i (Int32.ofNat v)) L tx := hT.fr (by rw [pu_row (by omega)]; exact p4 1 (by omega)) (by rw [pu_row (by omega)]; exact p4 2 (by omega))
      have ha : O_X8_at [.inr (1, 8, 0, 0), .inl (Int32.ofNat (i + 1)), .inl (14 : Int32)] (en_up σ 183 i (Int32.ofNat v)) = some (sgn L 14 tx (i + 1), en_up σ 183 i (Int32.ofNat v)) := q_at (mx := 14) hT' hL (by omega) (by omega)
      rw [pn_a1, ha, Option.bind_some]
      refine ⟨(sgn L 14 tx (i + 1), en_up σ 183 i (Int32.ofNat v)), rfl, rfl, hR, fun k hk => ?_, fun c hc => ?_⟩
      · show en_up σ 183 i _ 183 k = _
        by_cases e : k = i
        · rw [e, pu_same, hv]
        · rw [pu_slot e]; exact p3 k (by omega)
      · show en_up σ 183 i _ c = _
        rw [pu_row hc]; exact p4 c hc
    show (∃ q' : Int32 × en_M, T_X11_readGaps_19 (f + 1) (Int32.ofNat i) x2 σ = T_X11_readGaps_19 f (Int32.ofNat (i + 1)) q'.1 q'.2 ∧ q'.1 = sgn L 14 tx (i + 1) ∧ rgN (gN g) L tx 14 0 = rgN (gN g) L tx (14 - (i + 1)) (i + 1) ∧ (∀ k, k < i + 1 → q'.2 183 k = Int32.ofNat (rgW g x tx k)) ∧ ∀ c, c ≠ 183 → q'.2 c = σ1 c) ∨ _
    by_cases c1 : i < L ∧ (tx i = 45 ∨ 49 ≤ tx i ∧ tx i < 49 + gN g)
    · rw [if_pos c1] at p2
      left
      have ex : x2 = Int32.ofNat (tx i) := by rw [p1]; unfold sgn; rw [if_pos c1.1, if_pos hi]
      by_cases c2 : tx i = 45
      · have e45 : x2 = 45 := by rw [ex, c2]; rfl
        rw [t_X11_readGaps_19, if_pos hlt, if_pos e45, if_pos e45, pn_ix (show i < 60 by omega) (by omega), Option.bind_some]
        exact go 0 (if_pos c2) p2
      · have n45 : ¬ x2 = 45 := by rw [ex, sg_45 hbi]; exact c2
        have c3 := c1.2.resolve_left c2
        have e49 : x2 - (49 : Int32) = Int32.ofNat (tx i - 49) := by rw [ex]; exact pn_sub (b := 49) c3.1
        rw [t_X11_readGaps_19, if_pos hlt, if_neg n45, e49, hr_y (n := gN g) (by omega) (by rw [p4 5 (by omega)]; exact h53) ⟨tx i - 49, by omega, rfl⟩, Option.bind_some]
        dsimp only
        rw [if_neg (show ¬ (1 : Int32) = 0 by decide), if_neg n45, pn_ix (show i < 201 by omega) (by omega), Option.bind_some, q_bellAt, Option.bind_some, pn_ix (show i < 60 by omega) (by omega), Option.bind_some]
        dsimp only
        rw [p4 182 (by omega), h182 i (by omega), pba (od8 hA i) (by omega), pb_1 (by have := od8 hA i (tx i - 49) (by omega); omega)]
        exact go _ (if_neg c2) p2
    · rw [if_neg c1] at p2
      right
      refine fin i σ _ (by omega) p2 p3 p4 ?_
      show T_X11_readGaps_19 (f + 1) (Int32.ofNat i) x2 σ = _
      have n45 : ¬ x2 = 45 := by
        rw [p1]; unfold sgn
        by_cases c : i < L
        · rw [if_pos c, if_pos hi, sg_45 hbi]; exact fun q => c1 ⟨c, Or.inl q⟩
        · rw [if_neg c]; decide
      have hno : ¬ isR (gN g) (x2 - (49 : Int32)) := by
        rw [p1]; unfold sgn
        by_cases c : i < L
        · rw [if_pos c, if_pos hi]; exact fun q => c1 ⟨c, Or.inr ((sub_isR (n := gN g) (u := tx i) (b := 49) (by omega) (by omega) (by omega)).mp q)⟩
        · rw [if_neg c]; exact neg_isR (by omega) (by decide)
      rw [t_X11_readGaps_19, if_pos hlt, if_neg n45, hr_n (n := gN g) (by omega) (by rw [p4 5 (by omega)]; exact h53) hno, Option.bind_some]
      dsimp only
      rw [if_pos (show (0 : Int32) = 0 from rfl), p1]
  · rintro f ⟨x2, σ⟩ ⟨p1, p2, p3, p4⟩
    have p1 : x2 = _ := p1
    rw [Nat.sub_self] at p2
    refine fin 14 σ _ (Nat.le_refl _) p2 p3 p4 ?_
    show T_X11_readGaps_19 (f + 1) (Int32.ofNat 14) x2 σ = _
    rw [t_X11_readGaps_19, if_neg (show ¬ Int32.ofNat 14 < (14 : Int32) by decide), p1]
theorem byt_45 {u : Nat} (hu : u < 256) : (byt u = 45) = (u = 45) := (by decide +kernel : ∀ u < 256, (byt u = 45) = (u = 45)) u hu
theorem byt_pl {n u : Nat} (hn : n < 8) (hu : u < 256) : (¬ byt u < 49 ∧ ¬ ((48 : Int32) + Int32.ofNat n) < byt u) = (49 ≤ u ∧ u < 49 + n) := (by decide +kernel : ∀ n < 8, ∀ u < 256, (¬ byt u < 49 ∧ ¬ ((48 : Int32) + Int32.ofNat n) < byt u) = (49 ≤ u ∧ u < 49 + n)) n hn u hu
theorem byt_pl2 {u : Nat} (h1 : 49 ≤ u) (h2 : u < 58) : byt u - 49 = Int32.ofNat (u - 49) := (by decide +kernel : ∀ u < 58, 49 ≤ u → byt u - 49 = Int32.ofNat (u - 49)) u h2 h1
theorem r_readScan {n L : Nat} {tx : Nat → Nat} {τ : en_M} (hn : n ≤ 7) (h1 : τ 185 1 = Int32.ofNat n) (hT : ∀ j, j < L → τ 189 j = byt (tx j)) (hL : L ≤ 80) (hb : ∀ j, tx j < 256) :
    (rgN n L tx 14 0 = L ∧ 0 < L → ∃ f, 900000 < f ∧ T_X12_reads_27 en_FU (Int32.ofNat L) 0 τ = ((O_X12_lay [.inr (186, 20, 53, 0), .inr (198, 20, 53, 0), .inl (0 : Int32)] τ).bind fun r1 => T_X12_reads_110 f (Int32.ofNat L) (0 : Int32) (1 : Int32) (0 : Int32) (en_un) (en_up r1 185 10 (0 : Int32)))) ∧
    (¬ (rgN n L tx 14 0 = L ∧ 0 < L) → en_oi (T_X12_reads_27 en_FU (Int32.ofNat L) 0 τ) = some (-1 - Int32.ofNat (rgN n L tx 14 0), τ)) := by
  have hFU := en_FU_ge
  have hmin : min 14 L ≤ 14 ∧ min 14 L ≤ L ∧ (min 14 L = 14 ∨ min 14 L = L) := by omega
  generalize hNd : min 14 L = N at hmin
  obtain ⟨hN1, hN2, hN3⟩ := hmin
  exact pl_for (F := fun f i (_ : Unit) => T_X12_reads_27 f (Int32.ofNat L) (Int32.ofNat i) τ) (P := fun i _ => rgN n L tx 14 0 = rgN n L tx (14 - i) i)
    (Q := fun r => (rgN n L tx 14 0 = L ∧ 0 < L → ∃ f, 900000 < f ∧ r = ((O_X12_lay [.inr (186, 20, 53, 0), .inr (198, 20, 53, 0), .inl (0 : Int32)] τ).bind fun r1 => T_X12_reads_110 f (Int32.ofNat L) (0 : Int32) (1 : Int32) (0 : Int32) (en_un) (en_up r1 185 10 (0 : Int32)))) ∧
      (¬ (rgN n L tx 14 0 = L ∧ 0 < L) → en_oi r = some (-1 - Int32.ofNat (rgN n L tx 14 0), τ))) (N := N) (C := 1) (C0 := 900010) (by
      intro f i _ hi hf p2
      have p2 : rgN n L tx 14 0 = rgN n L tx (14 - i) i := p2
      obtain ⟨f, rfl⟩ : ∃ j, f = j + 1 := ⟨f - 1, by omega⟩
      rw [show 14 - i = (14 - (i + 1)) + 1 by omega] at p2
      conv at p2 => rhs; unfold rgN
      have hbi := hb i
      have hst : T_X12_reads_27 (f + 1) (Int32.ofNat L) (Int32.ofNat i) τ = if tx i = 45 ∨ 49 ≤ tx i ∧ tx i < 49 + n then T_X12_reads_27 f (Int32.ofNat L) (Int32.ofNat (i + 1)) τ else en_ri ((-1 : Int32) - Int32.ofNat i) τ := by
        rw [t_X12_reads_27, if_pos ((pn_lt (by omega) (by omega)).mpr (by omega)), if_neg (show ¬ Int32.ofNat i = (14 : Int32) by rw [show (14 : Int32) = Int32.ofNat 14 from rfl, pn_eq (by omega) (by omega)]; omega), pn_ix (show i < 80 by omega) (by omega), Option.bind_some, Option.bind_some, hT i (by omega), pi_if (byt_45 hbi), q_in, Option.bind_some, h1]
        dsimp only
        rw [pi_if ((pb2_0 _).trans (congrArg Not (byt_pl (n := n) (u := tx i) (by omega) hbi))), pn_a1]
        by_cases c1 : tx i = 45
        · rw [if_pos c1, if_pos (Or.inl c1)]
        · rw [if_neg c1]
          by_cases c2 : 49 ≤ tx i ∧ tx i < 49 + n
          · rw [if_neg (fun q => q c2), if_pos (Or.inr c2)]
          · rw [if_pos c2, if_neg (fun q => c2 (q.resolve_left c1))]
      show (∃ n', ∃ _ : Unit, T_X12_reads_27 (f + 1) (Int32.ofNat L) (Int32.ofNat i) τ = T_X12_reads_27 n' (Int32.ofNat L) (Int32.ofNat (i + 1)) τ ∧ f + 1 ≤ n' + 1 ∧ rgN n L tx 14 0 = rgN n L tx (14 - (i + 1)) (i + 1)) ∨ ((_ → ∃ f', 900000 < f' ∧ T_X12_reads_27 (f + 1) (Int32.ofNat L) (Int32.ofNat i) τ = _) ∧ (_ → en_oi (T_X12_reads_27 (f + 1) (Int32.ofNat L) (Int32.ofNat i) τ) = _))
      rw [hst]
      by_cases c1 : tx i = 45 ∨ 49 ≤ tx i ∧ tx i < 49 + n
      · rw [if_pos ⟨by omega, c1⟩] at p2
        rw [if_pos c1]
        exact Or.inl ⟨f, (), rfl, Nat.le_refl _, p2⟩
      · rw [if_neg (fun q => c1 q.2)] at p2
        rw [if_neg c1, p2]
        exact Or.inr ⟨fun q => absurd q.1 (by omega), fun _ => rfl⟩) (by
      intro f _ hf p2
      have p2 : rgN n L tx 14 0 = rgN n L tx (14 - N) N := p2
      obtain ⟨f, rfl⟩ : ∃ j, f = j + 1 := ⟨f - 1, by omega⟩
      have hR : rgN n L tx 14 0 = N := by
        by_cases c : N = 14
        · rw [p2, c]; rfl
        · rw [p2, show 14 - N = (14 - (N + 1)) + 1 by omega]
          unfold rgN
          rw [if_neg (fun q => by omega)]
      show (_ → ∃ f', 900000 < f' ∧ T_X12_reads_27 (f + 1) (Int32.ofNat L) (Int32.ofNat N) τ = _) ∧ (_ → en_oi (T_X12_reads_27 (f + 1) (Int32.ofNat L) (Int32.ofNat N) τ) = _)
      rw [hR]
      by_cases c : N < L
      · have c14 : N = 14 := by omega
        rw [t_X12_reads_27, if_pos ((pn_lt (by omega) (by omega)).mpr c), if_pos (show Int32.ofNat N = (14 : Int32) by rw [c14]; rfl)]
        exact ⟨fun q => absurd q.1 (by omega), fun _ => rfl⟩
      · rw [t_X12_reads_27, if_neg (by rw [pn_lt (by omega) (by omega)]; exact c), pi_if (pn_eq0 (show L < 2147483648 by omega))]
        by_cases c2 : L = 0
        · rw [if_pos c2, show N = 0 by omega]
          exact ⟨fun q => absurd q.2 (by omega), fun _ => by show some ((-1 : Int32), τ) = some (-1 - Int32.ofNat 0, τ); rfl⟩
        · rw [if_neg c2]
          exact ⟨fun _ => ⟨f, by omega, rfl⟩, fun q => absurd ⟨by omega, by omega⟩ q⟩) N 0 en_FU () (by omega) (by omega) rfl
theorem rgW_lt {g : pG} {x : pS} {B L : Nat} {tx : Nat → Nat} {k : Nat} (hg : GV g) (hv : VS (gN g) B x) (hk : k < rgN (gN g) L tx 14 0) : rgW g x tx k < 2 ^ gN g := by
  have h := rgN_ok (gN g) L tx 14 0 k (Nat.zero_le _) hk
  unfold rgW
  by_cases c : tx k = 45
  · rw [if_pos c]; exact Nat.two_pow_pos _
  · rw [if_neg c]
    have := h.2.resolve_left c
    exact Nat.pow_lt_pow_right (by decide) ((odN_PMf hg hv.1 k).ltn (show tx k - 49 < gN g by omega) hg.1)
theorem fs_p2 {b : Nat} (hb : b < 7) : fsI (2 ^ b) 7 0 = Int32.ofNat b := (by decide +kernel : ∀ b < 7, fsI (2 ^ b) 7 0 = Int32.ofNat b) b hb
/-- the reference rings what was read -/
theorem r_readRing {g x us kp} {B L : Nat} {tx : Nat → Nat} {τ0 : en_M} {f0 : Nat} (hA : AV B (g, tx0, ([] : List Int32), x, us, kp)) (hB : B < 900000000) (hn0 : 0 < gN g) (hR : rgN (gN g) L tx 14 0 = L) (hb : ∀ j, tx j < 256) (hM : MI τ0 (g, tx0, [], x, us, kp)) (hx : MSr (gN g) (τ0 198) x) (hT : ∀ j, j < L → τ0 189 j = byt (tx j)) (hf : 900000 < f0) :
    ∃ τ', en_oi (T_X12_reads_110 f0 (Int32.ofNat L) (0 : Int32) (1 : Int32) (0 : Int32) (en_un) τ0) = some (Int32.ofNat (brN g x (rgW g x tx) L 0).1, τ') ∧ MI τ' (g, tx0, rwL (fun k => fsI (rgW g x tx k) 7 0) L, x, us, kp) ∧ FrM τ0 τ' := by
  have hgv : GV g := hA.1
  have hn : gN g ≤ 7 := hgv.1
  have hVS : VS (gN g) B x := hA.2.2.2.2.2.2.2.1
  have hL14 : L ≤ 14 := by have := (rgN_le (gN g) L tx 14 0).2; omega
  have hw : ∀ k, k < L → rgW g x tx k < 2 ^ gN g := fun k hk => rgW_lt hgv hVS (by rw [hR]; exact hk)
  generalize hwd : rgW g x tx = w at hw ⊢
  refine pl_for1 (F := fun f i (q : Int32 × Int32 × en_V × en_M) => T_X12_reads_110 f (Int32.ofNat L) q.1 q.2.1 (Int32.ofNat i) q.2.2.1 q.2.2.2) (P := fun i q => (q.2.1 = 1 ∧ q.1 = Int32.ofNat i ∧ brN g x w L 0 = brN g x w (L - i) i ∨ q.2.1 = 0 ∧ q.1 = Int32.ofNat (brN g x w L 0).1) ∧ MI q.2.2.2 (g, tx0, rwL (fun k => fsI (w k) 7 0) i, x, us, kp) ∧ MSr (gN g) (q.2.2.2 198) (rsN g x w i) ∧ q.2.2.2 189 = τ0 189 ∧ FrM τ0 q.2.2.2)
    (Q := fun r => ∃ τ', en_oi r = some (Int32.ofNat (brN g x w L 0).1, τ') ∧ MI τ' (g, tx0, rwL (fun k => fsI (w k) 7 0) L, x, us, kp) ∧ FrM τ0 τ') (N := L) ?_ ?_ L 0 f0 (0, 1, en_un, τ0) (by omega) (by omega) ⟨Or.inl ⟨rfl, rfl, rfl⟩, hM, hx, rfl, FrM.refl _⟩
  · rintro f i ⟨x2, x3, u, τ⟩ hi ⟨p1, p2, p3, p4, p5⟩
    have p1 : x3 = 1 ∧ x2 = Int32.ofNat i ∧ brN g x w L 0 = brN g x w (L - i) i ∨ x3 = 0 ∧ x2 = Int32.ofNat (brN g x w L 0).1 := p1
    have p2 : MI τ (g, tx0, rwL (fun k => fsI (w k) 7 0) i, x, us, kp) := p2
    have p3 : MSr (gN g) (τ 198) (rsN g x w i) := p3
    have p4 : τ 189 = τ0 189 := p4
    have p5 : FrM τ0 τ := p5
    have hbi := hb i
    have hok := rgN_ok (gN g) L tx 14 0 i (by omega) (by omega)
    have hyV := rsN_VS (g := g) (x := x) (w := w) hgv hVS i (fun j hj => hw j (by omega))
    obtain ⟨d1, d2⟩ := rsN_od (g := g) (x := x) (w := w) i
    left
    have fin : ∀ (v : Int32) (u' : en_V) (υ : en_M), fsI (w i) 7 0 = v → O_X12_tell [.inr (185, 12, 0, 0), .inl v] τ = some υ → ∃ q' : Int32 × Int32 × en_V × en_M, ((O_X12_goRound [.inr (185, 12, 0, 0), .inr (198, 20, 53, 0), .inl (Int32.ofNat (w i))] υ).bind fun r13 => if x3 = 0 then (if (0 : Int32) = 0 then (T_X12_reads_110 f (Int32.ofNat L) (x2 + (0 : Int32)) (0 : Int32) (Int32.ofNat i + (1 : Int32)) u' r13) else (T_X12_reads_110 f (Int32.ofNat L) (x2 + (1 : Int32)) (0 : Int32) (Int32.ofNat i + (1 : Int32)) u' r13)) else (if (r13 185 25) = 0 then (if (1 : Int32) = 0 then (T_X12_reads_110 f (Int32.ofNat L) (x2 + (0 : Int32)) (1 : Int32) (Int32.ofNat i + (1 : Int32)) u' r13) else (T_X12_reads_110 f (Int32.ofNat L) (x2 + (1 : Int32)) (1 : Int32) (Int32.ofNat i + (1 : Int32)) u' r13)) else (if (0 : Int32) = 0 then (T_X12_reads_110 f (Int32.ofNat L) (x2 + (0 : Int32)) (0 : Int32) (Int32.ofNat i + (1 : Int32)) u' r13) else (T_X12_reads_110 f (Int32.ofNat L) (x2 + (1 : Int32)) (0 : Int32) (Int32.ofNat i + (1 : Int32)) u' r13)))) = T_X12_reads_110 f (Int32.ofNat L) q'.1 q'.2.1 (Int32.ofNat (i + 1)) q'.2.2.1 q'.2.2.2 ∧
        ((q'.2.1 = 1 ∧ q'.1 = Int32.ofNat (i + 1) ∧ brN g x w L 0 = brN g x w (L - (i + 1)) (i + 1) ∨ q'.2.1 = 0 ∧ q'.1 = Int32.ofNat (brN g x w L 0).1) ∧ MI q'.2.2.2 (g, tx0, rwL (fun k => fsI (w k) 7 0) (i + 1), x, us, kp) ∧ MSr (gN g) (q'.2.2.2 198) (rsN g x w (i + 1)) ∧ q'.2.2.2 189 = τ0 189 ∧ FrM τ0 q'.2.2.2) := by
      intro v u' υ hv ht
      obtain ⟨υ', g1, g2, g3, g4⟩ := MI.add p2 (by rw [rwL_len]; omega) v
      have eυ : υ = υ' := Option.some.inj (ht.symm.trans g1)
      subst eυ
      have hy : MSr (gN g) (υ 198) (rsN g x w i) := by rw [g3 198 (by omega) (by omega)]; exact p3
      obtain ⟨τ', m1, m2, m3, m4, m5, m6⟩ := m_go (A := (g, tx0, rwL (fun k => fsI (w k) 7 0) i ++ [v], x, us, kp)) (B := B + i) hgv g2 hy hyV (by omega) hn0 (hw i hi)
      have m4 : τ' 185 25 = Int32.ofNat (lawS g (rsN g x w i) (w i)) := m4
      have hl6 : lawS g (rsN g x w i) (w i) < 6 := lawN_lt _ _ _ _ _ _ _
      have hrow : rwL (fun k => fsI (w k) 7 0) (i + 1) = rwL (fun k => fsI (w k) 7 0) i ++ [v] := by
        show rwL (fun k => fsI (w k) 7 0) i ++ [fsI (w i) 7 0] = _
        rw [hv]
      have hfr : FrM τ0 τ' := (p5.trans (fun c hc => g3 c (by omega) (by omega))).trans m6.frm
      have h189 : τ' 189 = τ0 189 := by rw [m6.1 189 (by omega) (by omega) (by omega), g3 189 (by omega) (by omega), p4]
      rw [m1, Option.bind_some, pn_a1]
      rcases p1 with ⟨rfl, rfl, z1⟩ | ⟨rfl, z1⟩
      · rw [if_neg (show ¬ (1 : Int32) = 0 by decide), m4, pi_if (pn_eq0 (show lawS g (rsN g x w i) (w i) < 2147483648 by omega))]
        rw [show L - i = (L - (i + 1)) + 1 by omega] at z1
        conv at z1 => rhs; unfold brN
        by_cases c1 : lawS g (rsN g x w i) (w i) = 0
        · rw [if_pos c1] at z1
          rw [if_pos c1, if_neg (show ¬ (1 : Int32) = 0 by decide), pn_a1]
          exact ⟨(Int32.ofNat (i + 1), 1, u', τ'), rfl, Or.inl ⟨rfl, rfl, z1⟩, by rw [hrow]; exact m2, m3, h189, hfr⟩
        · rw [if_neg c1] at z1
          rw [if_neg c1, if_pos (show (0 : Int32) = 0 from rfl), Int32.add_zero]
          exact ⟨(Int32.ofNat i, 0, u', τ'), rfl, Or.inr ⟨rfl, by rw [z1]⟩, by rw [hrow]; exact m2, m3, h189, hfr⟩
      · rw [if_pos (show (0 : Int32) = 0 from rfl), if_pos (show (0 : Int32) = 0 from rfl), Int32.add_zero]
        exact ⟨(x2, 0, u', τ'), rfl, Or.inr ⟨rfl, z1⟩, by rw [hrow]; exact m2, m3, h189, hfr⟩
    show ∃ q' : Int32 × Int32 × en_V × en_M, T_X12_reads_110 (f + 1) (Int32.ofNat L) x2 x3 (Int32.ofNat i) u τ = T_X12_reads_110 f (Int32.ofNat L) q'.1 q'.2.1 (Int32.ofNat (i + 1)) q'.2.2.1 q'.2.2.2 ∧ _
    have u9 : τ 189 i = byt (tx i) := by rw [p4]; exact hT i hi
    rw [t_X12_reads_110, if_pos ((pn_lt (by omega) (by omega)).mpr hi), pn_ix (show i < 80 by omega) (by omega), Option.bind_some, Option.bind_some, u9, pi_if (byt_45 hbi)]
    by_cases c2 : tx i = 45
    · have hw0 : w i = 0 := by rw [← hwd]; exact if_pos c2
      obtain ⟨υ, g1, -⟩ := MI.add p2 (by rw [rwL_len]; omega) (-1)
      obtain ⟨q', k1, k2⟩ := fin (-1) (.inl (-1)) υ (by rw [hw0]; exact fs_0) g1
      rw [if_pos c2, g1, Option.bind_some, if_pos (show (-1 : Int32) = -1 from rfl)]
      rw [hw0] at k1
      exact ⟨q', k1, k2⟩
    · have c3 := hok.2.resolve_left c2
      have hb8 : odN g x i (tx i - 49) < gN g := (odN_PMf hgv hVS.1 i).ltn (show tx i - 49 < gN g by omega) hn
      have hwb : w i = 2 ^ odN g x i (tx i - 49) := by rw [← hwd]; exact if_neg c2
      have e198 : τ 198 (tx i - 49) = Int32.ofNat (odN g x i (tx i - 49)) := by
        have := p3.1 (tx i - 49) (by omega)
        rwa [Nat.zero_add, d1] at this
      obtain ⟨υ, g1, -⟩ := MI.add p2 (by rw [rwL_len]; omega) (Int32.ofNat (odN g x i (tx i - 49)))
      obtain ⟨q', k1, k2⟩ := fin (Int32.ofNat (odN g x i (tx i - 49))) (.inl (Int32.ofNat (odN g x i (tx i - 49)))) υ (by rw [hwb]; exact fs_p2 (by omega)) g1
      rw [if_neg c2, byt_pl2 c3.1 (by omega), pn_ix (show tx i - 49 < 53 by omega) (by omega), Option.bind_some, e198, g1, Option.bind_some, if_neg (pn_nm1 (by omega)), pb_1 (by omega)]
      rw [hwb] at k1
      exact ⟨q', k1, k2⟩
  · rintro f ⟨x2, x3, u, τ⟩ ⟨p1, p2, p3, p4, p5⟩
    have p1 : x3 = 1 ∧ x2 = Int32.ofNat L ∧ brN g x w L 0 = brN g x w (L - L) L ∨ x3 = 0 ∧ x2 = Int32.ofNat (brN g x w L 0).1 := p1
    have hx2 : x2 = Int32.ofNat (brN g x w L 0).1 := by
      rcases p1 with ⟨-, h1, h2⟩ | ⟨-, h1⟩
      · rw [Nat.sub_self] at h2
        rw [h2]; exact h1
      · exact h1
    show ∃ τ', en_oi (T_X12_reads_110 (f + 1) (Int32.ofNat L) x2 x3 (Int32.ofNat L) u τ) = _ ∧ _
    rw [t_X12_reads_110, if_neg (by rw [pn_lt (by omega) (by omega)]; omega), hx2]
    exact ⟨τ, rfl, p2, p5⟩
theorem p_reads : en_st_reads pInv := by
  intro c hc
  refine p_two hc (fun A σ0 hA hB => ?_)
  have hA0 := hA
  obtain ⟨g, ⟨L, tx⟩, ro, x, us, kp⟩ := A
  have hgv : GV g := hA.1
  have hn : gN g ≤ 7 := hgv.1
  have hL : L ≤ 80 := hA.2.2.2.2.1
  have hb : ∀ j, tx j < 256 := hA.2.2.2.2.2.1
  have hVS : VS (gN g) (2000 * c) x := hA.2.2.2.2.2.2.2.1
  have hAc := hA.clear
  have hfr0 : ∀ τ : en_M, FrM τ (en_up (en_up τ 185 11 0) 185 8 0) := fun τ => (FrM.up (by omega) (by omega)).trans (FrM.up (by omega) (by omega))
  by_cases hz : gN g = 0
  · refine ⟨-100, (g, tx0, ro, x, us, kp), fun hC => ⟨en_up σ0 1 1 0, ?_, hC.clear, FrC.up (by omega)⟩, fun τ hM => ⟨en_up (en_up τ 185 11 0) 185 8 0, ?_, (hM.slot 11 0 (by omega)).clear, hfr0 τ⟩, hAc.mono (by omega)⟩
    · rw [o_X11_reads, t_X11_reads_0, show σ0 5 3 = Int32.ofNat (gN g) from hC.1.1, hz, if_pos (by decide), q_clear, Option.bind_some, if_pos (by decide)]; rfl
    · rw [o_X12_reads, t_X12_reads_0, show τ 185 1 = Int32.ofNat (gN g) from hM.1.1, hz, if_pos (by decide)]; rfl
  have hn0 : 0 < gN g := by omega
  have nz : ¬ Int32.ofNat (gN g) = 0 := by rw [pn_eq0 (by omega)]; exact hz
  have hmodel : ∀ τ : en_M, MI τ (g, (L, tx), ro, x, us, kp) → O_X12_reads [.inr (185, 12, 0, 0)] τ = en_oi (T_X12_reads_27 en_FU (Int32.ofNat L) 0 (en_up (en_up τ 185 11 0) 185 8 0)) := fun τ hM => by
    rw [o_X12_reads, t_X12_reads_0, show τ 185 1 = Int32.ofNat (gN g) from hM.1.1, if_neg nz, show τ 185 8 = Int32.ofNat L from hM.2.1.1]
  have hmS : ∀ τ : en_M, MI τ (g, (L, tx), ro, x, us, kp) → (en_up (en_up τ 185 11 0) 185 8 0) 185 1 = Int32.ofNat (gN g) ∧ ∀ j, j < L → (en_up (en_up τ 185 11 0) 185 8 0) 189 j = byt (tx j) := fun τ hM => ⟨by rw [pu_slot (by omega), pu_slot (by omega)]; exact hM.1.1, fun j hj => by rw [pu_cell (by omega), pu_cell (by omega)]; exact hM.2.1.2 j hj⟩
  have hle := (rgN_le (gN g) L tx 14 0).2
  have hclass : CI σ0 (g, (L, tx), ro, x, us, kp) → ∃ σ1, CI σ1 (g, (L, tx), ro, x, us, kp) ∧ (∀ k, k ≤ 14 → σ1 182 k = Int32.ofNat (pkN (odN g x k))) ∧ FrC σ0 σ1 ∧ ∀ v σ', en_oi (T_X11_readGaps_19 en_FU 0 (sgn L 14 tx 0) σ1) = some (v, σ') → O_X11_reads [.inr (0, 11, 0, 0)] σ0 = en_oi (if v < 0 then (en_ri v (en_up σ' 1 1 0)) else (T_X11_reads_42 en_FU v (0 : Int32) (en_up (en_up σ' 1 1 0) 3 1 0))) := fun hC => by
    obtain ⟨σ1, e1, e2, e3, e4⟩ := k_look hA (by omega) hC (m := 14) (by omega)
    have e1' : O_X11_lookAhead [.inr (0, 11, 0, 0), .inl (14 : Int32)] σ0 = some σ1 := e1
    refine ⟨σ1, e2, e3, e4, fun v σ' hv => ?_⟩
    have ha : O_X8_at [.inr (1, 8, 0, 0), .inl (0 : Int32), .inl (14 : Int32)] σ1 = some (sgn L 14 tx 0, σ1) := q_at (i := 0) (mx := 14) (show CT σ1 L tx from e2.2.1) hL (by omega) (by omega)
    have hrg : O_X11_readGaps [.inr (0, 11, 0, 0)] σ0 = some (v, σ') := by
      rw [o_X11_readGaps, t_X11_readGaps_0, e1', Option.bind_some, ha, Option.bind_some]; exact hv
    rw [o_X11_reads, t_X11_reads_0, show σ0 5 3 = Int32.ofNat (gN g) from hC.1.1, if_neg nz, hrg, Option.bind_some]
    dsimp only
    rw [q_clear, Option.bind_some, q_tbegin, Option.bind_some]
  by_cases ok : rgN (gN g) L tx 14 0 = L ∧ 0 < L
  · have hL14 : L ≤ 14 := by omega
    have hw : ∀ k, k < L → rgW g x tx k < 2 ^ gN g := fun k hk => rgW_lt hgv hVS (by rw [ok.1]; exact hk)
    have h128 := p2lt hn
    refine ⟨Int32.ofNat (brN g x (rgW g x tx) L 0).1, (g, tx0, rwL (fun k => fsI (rgW g x tx k) 7 0) L, x, us, kp), fun hC => ?_, fun τ hM => ?_, (hAc.row (by rw [rwL_len]; omega)).mono (by omega)⟩
    · obtain ⟨σ1, e1, e2, e3, e4⟩ := hclass hC
      obtain ⟨σ2, k1, k2, k3⟩ := (r_gaps1 hA (show σ1 5 3 = Int32.ofNat (gN g) from e1.1.1) (show CT σ1 L tx from e1.2.1) hL hb e2).1 ok
      have hC2 : CI σ2 (g, (L, tx), ro, x, us, kp) := e1.kept (fun c hc => k3 c (by omega)) (by rw [k3 10 (by omega)])
      have hC3 := CI.begin hC2.clear
      rw [e4 _ _ k1, if_neg (pn_nlt0 (by omega))]
      have h182 : ∀ k, k ≤ L → (en_up (en_up σ2 1 1 0) 3 1 0) 182 k = Int32.ofNat (pkN (odN g x k)) := fun k hk => by rw [pu_cell (by omega), pu_cell (by omega), k3 182 (by omega)]; exact e2 k (by omega)
      have h183 : ∀ k, k < L → (en_up (en_up σ2 1 1 0) 3 1 0) 183 k = Int32.ofNat (rgW g x tx k) := fun k hk => by rw [pu_cell (by omega), pu_cell (by omega)]; exact k2 k hk
      have hfr : FrC σ0 (en_up (en_up σ2 1 1 0) 3 1 0) := fun c hc => by rw [pu_row (by omega), pu_row (by omega), k3 c (by omega), e3 c hc]
      generalize en_up (en_up σ2 1 1 0) 3 1 0 = σ3 at hC3 h182 h183 hfr
      refine pl_for1 (F := fun f i (q : en_M) => T_X11_reads_42 f (Int32.ofNat L) (Int32.ofNat i) q) (P := fun i q => CI q (g, tx0, rwL (fun k => fsI (rgW g x tx k) 7 0) i, x, us, kp) ∧ (∀ c, c ≠ 3 → c ≠ 4 → q c = σ3 c)) (Q := fun r => ∃ σ', en_oi r = some (Int32.ofNat (brN g x (rgW g x tx) L 0).1, σ') ∧ CI σ' (g, tx0, rwL (fun k => fsI (rgW g x tx k) 7 0) L, x, us, kp) ∧ FrC σ0 σ') (N := L) ?_ ?_ L 0 en_FU σ3 (by omega) (pl_FU (by omega)) ⟨hC3, fun _ _ _ => rfl⟩
      · rintro f i υ hi ⟨o1, o2⟩
        have hwi := hw i hi
        obtain ⟨σ', s1, s2, s3⟩ := o1.add (by rw [rwL_len]; omega) (fsI (rgW g x tx i) 7 0)
        refine Or.inl ⟨σ', ?_, s2, fun c h1 h2 => by rw [s3 c h1 h2, o2 c h1 h2]⟩
        show T_X11_reads_42 (f + 1) _ _ υ = _
        rw [t_X11_reads_42, if_pos ((pn_lt (by omega) (by omega)).mpr hi), pn_ix (show i < 60 by omega) (by omega), Option.bind_some, o2 183 (by omega) (by omega), h183 i hi, q_firstOf (by omega), Option.bind_some]
        dsimp only
        rw [s1, Option.bind_some, pn_a1]
      · rintro f υ ⟨o1, o2⟩
        have hAr : AV (2000 * c) (g, tx0, rwL (fun k => fsI (rgW g x tx k) 7 0) L, x, us, kp) := hAc.row (by rw [rwL_len]; omega)
        obtain ⟨σ', l1, l2, l3, l4⟩ := q_lawfulRounds (m := L) (w := rgW g x tx) hAr (by omega) o1 hn0 (by omega) (fun k hk => by rw [o2 182 (by omega) (by omega)]; exact h182 k hk) (fun k hk => ⟨hw k hk, by rw [o2 183 (by omega) (by omega)]; exact h183 k hk⟩)
        show ∃ σ', en_oi (T_X11_reads_42 (f + 1) _ _ υ) = _ ∧ _
        rw [t_X11_reads_42, if_neg (by rw [pn_lt (by omega) (by omega)]; omega), l1, Option.bind_some]
        exact ⟨σ', rfl, l3, fun c hc => by rw [l4 c (by omega), o2 c (by omega) (by omega), hfr c hc]⟩
    · rw [hmodel τ hM]
      have hM2 := (hM.slot 11 0 (by omega)).clear
      have hfr := hfr0 τ
      obtain ⟨s1, s2⟩ := hmS τ hM
      generalize en_up (en_up τ 185 11 0) 185 8 0 = τ0 at hM2 hfr s1 s2 ⊢
      obtain ⟨f, hf, e1⟩ := (r_readScan (n := gN g) hn s1 s2 hL hb).1 ok
      obtain ⟨τ1, m1, m2, m3, m4⟩ := m_trial (A := (g, tx0, ro, x, us, kp)) hn hM2
      have hM3 : MI (en_up τ1 185 10 0) (g, tx0, [], x, us, kp) := MI.begin m2
      obtain ⟨τ', q1, q2, q3⟩ := r_readRing (B := 2000 * c) (L := L) (tx := tx) (f0 := f) (hAc.row (ro' := []) (by simp)) (by omega) hn0 ok.1 hb hM3 (by rw [pu_row (by omega)]; exact m3) (fun j hj => by rw [pu_cell (by omega), m4 189 (by omega)]; exact s2 j hj) hf
      rw [e1, m1, Option.bind_some]
      exact ⟨τ', q1, q2, fun c hc => by rw [q3 c hc, pu_row (by omega), m4 c (by omega), hfr c hc]⟩
  · refine ⟨-1 - Int32.ofNat (rgN (gN g) L tx 14 0), (g, tx0, ro, x, us, kp), fun hC => ?_, fun τ hM => ⟨en_up (en_up τ 185 11 0) 185 8 0, ?_, (hM.slot 11 0 (by omega)).clear, hfr0 τ⟩, hAc.mono (by omega)⟩
    · obtain ⟨σ1, e1, e2, e3, e4⟩ := hclass hC
      obtain ⟨σ2, k1, k3⟩ := (r_gaps1 hA (show σ1 5 3 = Int32.ofNat (gN g) from e1.1.1) (show CT σ1 L tx from e1.2.1) hL hb e2).2 ok
      have hC2 : CI σ2 (g, (L, tx), ro, x, us, kp) := e1.kept (fun c hc => k3 c (by omega)) (by rw [k3 10 (by omega)])
      rw [e4 _ _ k1, if_pos ((by decide : ∀ s < 15, (-1 : Int32) - Int32.ofNat s < 0) _ (by omega))]
      exact ⟨en_up σ2 1 1 0, rfl, hC2.clear, fun c hc => by rw [pu_row (by omega), k3 c (by omega), e3 c hc]⟩
    · obtain ⟨s1, s2⟩ := hmS τ hM
      rw [hmodel τ hM]
      exact (r_readScan (n := gN g) hn s1 s2 hL hb).2 ok
