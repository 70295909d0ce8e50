/-! comes -/
theorem pn_0lt {b : Nat} (h : b < 2147483648) : ((0 : Int32) < Int32.ofNat b) = (0 < b) := pn_lt (a := 0) (by omega) h
theorem hr_y {n : Nat} {σ : en_M} (hn : n < 2147483648) (h : σ 5 3 = Int32.ofNat n) {x : Int32} (hx : isR n x) : O_X10_hasRinger [.inr (5, 10, 0, 0), .inl x] σ = some (1, σ) := by
  obtain ⟨v, e, ⟨-, q⟩ | ⟨rfl, -⟩⟩ := q_hasRinger hn h x
  · exact absurd hx q
  · exact e
theorem hr_n {n : Nat} {σ : en_M} (hn : n < 2147483648) (h : σ 5 3 = Int32.ofNat n) {x : Int32} (hx : ¬ isR n x) : O_X10_hasRinger [.inr (5, 10, 0, 0), .inl x] σ = some (0, σ) := by
  obtain ⟨v, e, ⟨rfl, -⟩ | ⟨-, q⟩⟩ := q_hasRinger hn h x
  · exact e
  · exact absurd q hx
theorem sub_isR {n u b : Nat} (hn : n < 1000) (hu : u < 1000) (hb : b < 1000) : isR n (Int32.ofNat u - Int32.ofNat b) ↔ b ≤ u ∧ u < b + n := by
  constructor
  · rintro ⟨k, hk, e⟩
    have e2 : Int32.ofNat u = Int32.ofNat (k + b) := by rw [← pn_add, ← e, Int32.sub_add_cancel]
    rw [pn_eq (by omega) (by omega)] at e2
    omega
  · rintro ⟨h1, h2⟩
    exact ⟨u - b, by omega, pn_sub h1⟩
theorem neg_isR {n : Nat} {x : Int32} (hn : n < 1000) (h : x < 0) : ¬ isR n x := fun q => ((isR_iff (by omega) x).mp q).1 h
def comN (n L : Nat) (tx : Nat → Nat) : Nat → Nat → Nat → Nat
  | 0, p, _ => if p < L then p else 100
  | k + 1, p, s => if p < L ∧ 97 ≤ tx p ∧ tx p < 97 + n ∧ ¬ s.testBit (tx p - 97) = true then comN n L tx k (p + 1) (s ||| 2 ^ (tx p - 97)) else p
theorem comN_le (n L : Nat) (tx : Nat → Nat) : ∀ k p s, comN n L tx k p s = 100 ∨ comN n L tx k p s ≤ p + k
  | 0, p, s => by unfold comN; split <;> omega
  | k + 1, p, s => by
    unfold comN; split
    · have := comN_le n L tx k (p + 1) (s ||| 2 ^ (tx p - 97)); omega
    · omega
def cmF (tx : Nat → Nat) (i p : Nat) : Nat := if p < i then tx p - 97 else p
theorem cmF_s (tx : Nat → Nat) (i : Nat) : pup (cmF tx i) i (tx i - 97) = cmF tx (i + 1) := by
  funext q; unfold pup cmF
  by_cases c : q = i
  · rw [if_pos c, if_pos (by omega), c]
  · rw [if_neg c]
    by_cases c2 : q < i
    · rw [if_pos c2, if_pos (by omega)]
    · rw [if_neg c2, if_neg (by omega)]
theorem cmF_8 {tx : Nat → Nat} {n i : Nat} (hi : i ≤ n) (hn : n ≤ 7) (h : ∀ p, p < i → cmF tx n p < n) : ∀ p, p < 7 → cmF tx i p < 8 := fun p hp => by
  by_cases c : p < i
  · have := h p c
    rw [show cmF tx n p = tx p - 97 from if_pos (by omega)] at this
    rw [show cmF tx i p = tx p - 97 from if_pos c]; omega
  · rw [show cmF tx i p = p from if_neg c]; omega
theorem or_128 {s b : Nat} (hs : s < 128) (hb : b < 7) : s ||| 2 ^ b < 128 := Nat.or_lt_two_pow (n := 7) hs (Nat.pow_lt_pow_right (by decide) hb)
theorem q_readOrder {n L : Nat} {tx : Nat → Nat} {σ : en_M} (hn : n ≤ 7) (h53 : σ 5 3 = Int32.ofNat n) (hT : CT σ L tx) (hL : L ≤ 80) (hb : ∀ j, tx j < 256) :
    (comN n L tx n 0 0 = 100 → O_X11_readOrder [.inr (0, 11, 0, 0)] σ = some (Int32.ofNat (pkN (cmF tx n)), σ) ∧ ∀ p, p < n → cmF tx n p < n) ∧ (comN n L tx n 0 0 ≠ 100 → O_X11_readOrder [.inr (0, 11, 0, 0)] σ = some (-1 - Int32.ofNat (comN n L tx n 0 0), σ)) := by
  rw [o_X11_readOrder, t_X11_readOrder_0, q_inPlace, Option.bind_some]
  dsimp only
  refine pl_for1 (F := fun f i (q : Int32 × Int32 × en_V) => T_X11_readOrder_8 f q.1 q.2.1 (Int32.ofNat i) q.2.2 σ) (P := fun i q => q.1 = Int32.ofNat (pkN (cmF tx i)) ∧ (∀ p, p < i → cmF tx n p < n) ∧ ∃ s, s < 128 ∧ q.2.1 = Int32.ofNat s ∧ comN n L tx n 0 0 = comN n L tx (n - i) i s)
    (Q := fun r => (comN n L tx n 0 0 = 100 → en_oi r = some (Int32.ofNat (pkN (cmF tx n)), σ) ∧ ∀ p, p < n → cmF tx n p < n) ∧ (comN n L tx n 0 0 ≠ 100 → en_oi r = some (-1 - Int32.ofNat (comN n L tx n 0 0), σ))) (N := n) ?_ ?_ n 0 en_FU (Int32.ofNat (pkN (fun p => p)), 0, en_un) (by omega) (pl_FU (by omega)) ⟨?_, fun p hp => absurd hp (by omega), 0, by omega, rfl, rfl⟩
  · rintro f i ⟨x1, x2, u⟩ hi ⟨p1, p2, s, hs, p3, p4⟩
    have p1 : x1 = _ := p1
    have p3 : x2 = _ := p3
    rw [show n - i = (n - (i + 1)) + 1 by omega] at p4
    conv at p4 => rhs; unfold comN
    have h8 := cmF_8 (tx := tx) (by omega) hn p2
    have hbi := hb i
    show (∃ q' : Int32 × Int32 × en_V, T_X11_readOrder_8 (f + 1) x1 x2 _ u σ = _ ∧ _) ∨ ((_ → en_oi (T_X11_readOrder_8 (f + 1) x1 x2 _ u σ) = _ ∧ _) ∧ (_ → en_oi (T_X11_readOrder_8 (f + 1) x1 x2 _ u σ) = _))
    rw [t_X11_readOrder_8, h53, if_pos ((pn_lt (by omega) (by omega)).mpr hi), q_at hT hL (by omega) (by omega), Option.bind_some]
    dsimp only
    rw [if_pos hi]
    by_cases c1 : i < L ∧ 97 ≤ tx i ∧ tx i < 97 + n
    · have e : Int32.ofNat (tx i) - (97 : Int32) = Int32.ofNat (tx i - 97) := pn_sub (b := 97) c1.2.1
      rw [if_pos c1.1, e, hr_y (by omega) h53 ⟨tx i - 97, by omega, rfl⟩, Option.bind_some]
      dsimp only
      rw [if_neg (show ¬ (1 : Int32) = 0 by decide), q_bit, Option.bind_some]
      dsimp only
      rw [p3, pi_if (pb_bit1 (s := s) (i := tx i - 97) (by omega) (by omega))]
      by_cases c2 : s.testBit (tx i - 97) = true
      · have p5 : comN n L tx n 0 0 = i := by rw [p4, if_neg (fun q => q.2.2.2 c2)]
        rw [if_pos c2, q_cannotStand, Option.bind_some]
        exact Or.inr ⟨fun q => absurd q (by omega), fun _ => by rw [p5]; rfl⟩
      · rw [if_pos ⟨c1.1, c1.2.1, c1.2.2, c2⟩] at p4
        rw [if_neg c2, q_withBell, Option.bind_some]
        dsimp only
        rw [p1, pwb h8 (by omega) (show tx i - 97 < 8 by omega), cmF_s, pb_1 (by omega), pn_or, pn_a1]
        refine Or.inl ⟨(Int32.ofNat (pkN (cmF tx (i + 1))), Int32.ofNat (s ||| 2 ^ (tx i - 97)), .inl (Int32.ofNat (tx i - 97))), rfl, rfl, fun p hp => ?_, s ||| 2 ^ (tx i - 97), or_128 hs (by omega), rfl, p4⟩
        by_cases e2 : p = i
        · rw [e2, show cmF tx n i = tx i - 97 from if_pos hi]; omega
        · exact p2 p (by omega)
    · have hno : ¬ isR n ((if i < L then Int32.ofNat (tx i) else -1) - (97 : Int32)) := by
        by_cases c3 : i < L
        · rw [if_pos c3]
          exact fun q => c1 ⟨c3, (sub_isR (n := n) (u := tx i) (b := 97) (by omega) (by omega) (by omega)).mp q⟩
        · rw [if_neg c3]; exact neg_isR (by omega) (by decide)
      have p5 : comN n L tx n 0 0 = i := by rw [p4, if_neg (fun q => c1 ⟨q.1, q.2.1, q.2.2.1⟩)]
      rw [hr_n (by omega) h53 hno, Option.bind_some]
      dsimp only
      rw [if_pos (show (0 : Int32) = 0 from rfl), q_cannotStand, Option.bind_some]
      exact Or.inr ⟨fun q => absurd q (by omega), fun _ => by rw [p5]; rfl⟩
  · rintro f ⟨x1, x2, u⟩ ⟨p1, p2, s, hs, p3, p4⟩
    have p1 : x1 = _ := p1
    rw [Nat.sub_self] at p4
    have p4 : comN n L tx n 0 0 = if n < L then n else 100 := p4
    show (_ → en_oi (T_X11_readOrder_8 (f + 1) x1 x2 _ u σ) = _ ∧ _) ∧ (_ → en_oi (T_X11_readOrder_8 (f + 1) x1 x2 _ u σ) = _)
    rw [t_X11_readOrder_8, h53, if_neg (by rw [pn_lt (by omega) (by omega)]; omega), q_at hT hL (by omega) (by omega), Option.bind_some]
    dsimp only
    by_cases c : n < L
    · rw [if_pos c] at p4
      rw [if_pos c, if_neg (Nat.lt_irrefl n), if_neg (show ¬ (-2 : Int32) = -1 by decide), h53, q_cannotStand, Option.bind_some]
      exact ⟨fun q => absurd q (by omega), fun _ => by rw [p4]; rfl⟩
    · rw [if_neg c] at p4
      rw [if_neg c, if_pos (show (-1 : Int32) = -1 from rfl), p1]
      exact ⟨fun _ => ⟨rfl, p2⟩, fun q => absurd p4 q⟩
  · show Int32.ofNat (pkN (fun p => p)) = Int32.ofNat (pkN (cmF tx 0))
    rw [show cmF tx 0 = (fun p => p) from funext fun p => if_neg (by omega)]
theorem q_firstAhead2 {W : Nat → Nat} {w n : Nat} {σ : en_M} (hn : n ≤ 201) (hw : w < 2147483648) (hW : ∀ k, k ≤ 200 → W k < 2147483648 ∧ σ 182 k = Int32.ofNat (W k)) : O_X11_firstAhead [.inr (0, 11, 0, 0), .inl (Int32.ofNat w), .inl (Int32.ofNat n)] σ = some (Int32.ofNat (fa W w n 0), σ) := by
  rw [o_X11_firstAhead, t_X11_firstAhead_0]
  suffices h : ∀ k i f, i + k = n → k < f → en_oi (T_X11_firstAhead_2 f (Int32.ofNat w) (Int32.ofNat n) (Int32.ofNat i) σ) = some (Int32.ofNat (fa W w k i), σ) from h n 0 en_FU (by omega) (pl_FU (by omega))
  intro k
  induction k with
  | zero =>
    intro i f hi hf
    obtain ⟨f, rfl⟩ : ∃ j, f = j + 1 := ⟨f - 1, by omega⟩
    rw [t_X11_firstAhead_2, if_neg (by rw [pn_lt (by omega) (by omega)]; omega)]; rfl
  | succ k ih =>
    intro i f hi hf
    obtain ⟨f, rfl⟩ : ∃ j, f = j + 1 := ⟨f - 1, by omega⟩
    obtain ⟨w1, w2⟩ := hW i (by omega)
    rw [t_X11_firstAhead_2, if_pos ((pn_lt (by omega) (by omega)).mpr (by omega)), if_neg (show ¬ (200 : Int32) < Int32.ofNat i from fun q => by have := (pn_lt (a := 200) (by omega) (by omega)).mp q; omega), pn_ix (by omega) (by omega), Option.bind_some, w2, pi_if (pn_eq w1 hw), pn_a1]
    unfold fa
    by_cases c : W i = w
    · rw [if_pos c, if_pos c]; rfl
    · rw [if_neg c, if_neg c]; exact ih (i + 1) f (by omega) (by omega)
/-- in how many places two orders are alike -/
def cmC (h f : Nat → Nat) : Nat → Nat
  | 0 => 0
  | k + 1 => cmC h f k + if h k = f k then 1 else 0
theorem cmC_le (h f : Nat → Nat) : ∀ k, cmC h f k ≤ k
  | 0 => Nat.le_refl _
  | k + 1 => by have := cmC_le h f k; unfold cmC; split <;> omega
theorem cmC_all (h f : Nat → Nat) : ∀ k, cmC h f k < k ↔ ¬ ∀ p, p < k → h p = f p
  | 0 => ⟨fun q => absurd q (by omega), fun q => absurd (fun p hp => absurd hp (by omega)) q⟩
  | k + 1 => by
    have h1 := cmC_all h f k
    have h2 := cmC_le h f k
    unfold cmC
    by_cases c : h k = f k
    · rw [if_pos c]
      constructor
      · intro q r; exact h1.mp (by omega) (fun p hp => r p (by omega))
      · intro q
        have : cmC h f k < k := h1.mpr (fun r => q (fun p hp => by
          by_cases e : p = k
          · rw [e]; exact c
          · exact r p (by omega)))
        omega
    · rw [if_neg c]
      exact ⟨fun _ r => c (r k (by omega)), fun _ => by omega⟩
theorem r_asWanted {n k : Nat} {f h : Nat → Nat} {τ : en_M} (hn : n ≤ 7) (hk : k ≤ 200) (hf : ∀ p, p < n → f p < 8) (hh : ∀ p, p < n → h p < 8) (h1 : τ 185 1 = Int32.ofNat n) (a : ∀ p, p < n → τ 197 (7 * k + p) = Int32.ofNat (h p)) (b : ∀ p, p < n → τ 199 p = Int32.ofNat (f p)) : O_X12_asWanted [.inr (185, 12, 0, 0), .inl (Int32.ofNat k)] τ = some (Int32.ofNat (cmC h f n), τ) := by
  rw [o_X12_asWanted, t_X12_asWanted_0]
  refine pl_for1 (F := fun m p (q : Int32) => T_X12_asWanted_4 m (Int32.ofNat k) q (Int32.ofNat p) τ) (P := fun p q => q = Int32.ofNat (cmC h f p)) (Q := fun r => en_oi r = some (Int32.ofNat (cmC h f n), τ)) (N := n) ?_ ?_ n 0 en_FU 0 (by omega) (pl_FU (by omega)) rfl
  · rintro m p q hp rfl
    have f8 := hf p hp
    have h8 := hh p hp
    refine Or.inl ⟨Int32.ofNat (cmC h f (p + 1)), ?_, rfl⟩
    show T_X12_asWanted_4 (m + 1) _ _ _ τ = _
    rw [t_X12_asWanted_4, h1, if_pos ((pn_lt (by omega) (by omega)).mpr hp), show (7 : Int32) * Int32.ofNat k = Int32.ofNat (7 * k) from pn_mul 7 k, pn_add, pn_ix (by omega) (by omega), Option.bind_some, pn_ix (by omega) (by omega), Option.bind_some, a p hp, b p hp, pi_if (pn_eq (by omega) (by omega)), pn_a1, pn_a1]
    conv => rhs; unfold cmC
    by_cases c : h p = f p
    · rw [if_pos c, if_pos c]
    · rw [if_neg c, if_neg c, Int32.add_zero]; rfl
  · rintro m q rfl
    show en_oi (T_X12_asWanted_4 (m + 1) _ _ _ τ) = _
    rw [t_X12_asWanted_4, h1, if_neg (by rw [pn_lt (by omega) (by omega)]; omega)]; rfl
theorem byt_let {n u : Nat} (hn : n < 8) (hu : u < 256) : (¬ byt u < 97 ∧ ¬ ((97 : Int32) + Int32.ofNat n) - 1 < byt u) = (97 ≤ u ∧ u < 97 + n) := (by decide +kernel : ∀ n < 8, ∀ u < 256, (¬ byt u < 97 ∧ ¬ ((97 : Int32) + Int32.ofNat n) - 1 < byt u) = (97 ≤ u ∧ u < 97 + n)) n hn u hu
theorem byt_let2 {u : Nat} (h1 : 97 ≤ u) (h2 : u < 104) : byt u - 97 = Int32.ofNat (u - 97) := (by decide +kernel : ∀ u < 104, 97 ≤ u → byt u - 97 = Int32.ofNat (u - 97)) u h2 h1
theorem r_comesScan {n L : Nat} {tx : Nat → Nat} {τ : en_M} (hn : n ≤ 7) (hn0 : 0 < n) (h1 : τ 185 1 = Int32.ofNat n) (hT : ∀ j, j < L → τ 189 j = byt (tx j)) (hL : L ≤ 80) (hb : ∀ j, tx j < 256) :
    (comN n L tx n 0 0 = 100 → ∃ f x2 τ', 900000 < f ∧ T_X12_comes_29 en_FU (Int32.ofNat L) 0 0 τ = ((O_X12_layOrders [.inr (185, 12, 0, 0), .inl (200 : Int32)] τ').bind fun r1 => T_X12_comes_138 f (Int32.ofNat L) x2 0 r1) ∧ (∀ q, q < n → τ' 199 q = Int32.ofNat (cmF tx n q)) ∧ ∀ c, c ≠ 199 → τ' c = τ c) ∧
    (comN n L tx n 0 0 ≠ 100 → ∃ τ', en_oi (T_X12_comes_29 en_FU (Int32.ofNat L) 0 0 τ) = some (-1 - Int32.ofNat (comN n L tx n 0 0), τ') ∧ ∀ c, c ≠ 199 → τ' c = τ c) := by
  have hFU := en_FU_ge
  have hmin : min n L ≤ n ∧ min n L ≤ L ∧ (min n L = n ∨ min n L = L) := by omega
  generalize hNd : min n L = N at hmin
  obtain ⟨hN1, hN2, hN3⟩ := hmin
  have go := pl_for (F := fun f i (q : Int32 × en_M) => T_X12_comes_29 f (Int32.ofNat L) q.1 (Int32.ofNat i) q.2) (P := fun i q => (∀ c, c ≠ 199 → q.2 c = τ c) ∧ (∀ p, p < i → q.2 199 p = Int32.ofNat (cmF tx n p)) ∧ ∃ s, s < 128 ∧ q.1 = Int32.ofNat s ∧ comN n L tx n 0 0 = comN n L tx (n - i) i s)
    (Q := fun r => (comN n L tx n 0 0 = 100 → ∃ f x2 τ', 900000 < f ∧ r = ((O_X12_layOrders [.inr (185, 12, 0, 0), .inl (200 : Int32)] τ').bind fun r1 => T_X12_comes_138 f (Int32.ofNat L) x2 0 r1) ∧ (∀ q, q < n → τ' 199 q = Int32.ofNat (cmF tx n q)) ∧ ∀ c, c ≠ 199 → τ' c = τ c) ∧
      (comN n L tx n 0 0 ≠ 100 → ∃ τ', en_oi r = some (-1 - Int32.ofNat (comN n L tx n 0 0), τ') ∧ ∀ c, c ≠ 199 → τ' c = τ c)) (N := N) (C := 1) (C0 := 900010) (by
      rintro f i ⟨x2, υ⟩ hi hf ⟨p1, p2, s, hs, p3, p4⟩
      have p1 : ∀ c, c ≠ 199 → υ c = τ c := p1
      have p2 : ∀ p, p < i → υ 199 p = Int32.ofNat (cmF tx n p) := p2
      have p3 : x2 = _ := p3
      obtain ⟨f, rfl⟩ : ∃ j, f = j + 1 := ⟨f - 1, by omega⟩
      rw [show n - i = (n - (i + 1)) + 1 by omega] at p4
      conv at p4 => rhs; unfold comN
      have hbi := hb i
      have u1 : υ 185 1 = Int32.ofNat n := by rw [p1 185 (by omega)]; exact h1
      have u9 : υ 189 i = byt (tx i) := by rw [p1 189 (by omega)]; exact hT i (by omega)
      have bad : ∀ r : en_R, comN n L tx n 0 0 = i → en_oi r = some (-1 - Int32.ofNat i, υ) → (comN n L tx n 0 0 = 100 → ∃ f x2 τ', 900000 < f ∧ r = ((O_X12_layOrders [.inr (185, 12, 0, 0), .inl (200 : Int32)] τ').bind fun r1 => T_X12_comes_138 f (Int32.ofNat L) x2 0 r1) ∧ (∀ q, q < n → τ' 199 q = Int32.ofNat (cmF tx n q)) ∧ ∀ c, c ≠ 199 → τ' c = τ c) ∧
          (comN n L tx n 0 0 ≠ 100 → ∃ τ', en_oi r = some (-1 - Int32.ofNat (comN n L tx n 0 0), τ') ∧ ∀ c, c ≠ 199 → τ' c = τ c) := fun r e1 e2 => ⟨fun q => absurd q (by omega), fun _ => ⟨υ, by rw [e1]; exact e2, p1⟩⟩
      have hst : T_X12_comes_29 (f + 1) (Int32.ofNat L) x2 (Int32.ofNat i) υ = if 97 ≤ tx i ∧ tx i < 97 + n then (if s.testBit (tx i - 97) = true then en_ri ((-1 : Int32) - Int32.ofNat i) υ else T_X12_comes_29 f (Int32.ofNat L) (Int32.ofNat (s ||| 2 ^ (tx i - 97))) (Int32.ofNat (i + 1)) (en_up υ 199 i (Int32.ofNat (tx i - 97)))) else en_ri ((-1 : Int32) - Int32.ofNat i) υ := by
        rw [t_X12_comes_29, if_pos ((pn_lt (by omega) (by omega)).mpr (by omega)), u1, if_neg (by rw [pn_eq (by omega) (by omega)]; omega), pn_ix (show i < 80 by omega) (by omega), Option.bind_some, q_in, Option.bind_some]
        dsimp only
        rw [u9, pi_if ((pb2_0 _).trans (congrArg Not (byt_let (n := n) (u := tx i) (by omega) hbi)))]
        by_cases c1 : 97 ≤ tx i ∧ tx i < 97 + n
        · rw [if_neg (fun q => q c1), if_pos c1, Option.bind_some, u9, byt_let2 c1.1 (by omega), q_has, Option.bind_some]
          dsimp only
          rw [p3, pi_if ((pb2_0 _).trans (congrArg Not (pb_bit1 (s := s) (i := tx i - 97) (by omega) (by omega))))]
          by_cases c2 : s.testBit (tx i - 97) = true
          · rw [if_neg (fun q => q c2), if_pos c2]
          · rw [if_pos c2, if_neg c2, Option.bind_some, pn_ix (show i < 7 by omega) (by omega), Option.bind_some, Option.bind_some, u9, byt_let2 c1.1 (by omega), pu_same, pb_1 (by omega), pn_or, pn_a1]
        · rw [if_pos c1, if_neg c1]
      show (∃ n', ∃ q' : Int32 × en_M, T_X12_comes_29 (f + 1) (Int32.ofNat L) x2 (Int32.ofNat i) υ = T_X12_comes_29 n' (Int32.ofNat L) q'.1 (Int32.ofNat (i + 1)) q'.2 ∧ f + 1 ≤ n' + 1 ∧ _) ∨ _
      by_cases c1 : 97 ≤ tx i ∧ tx i < 97 + n
      · by_cases c2 : s.testBit (tx i - 97) = true
        · right
          refine bad _ (by rw [p4, if_neg (fun q => q.2.2.2 c2)]) ?_
          show en_oi (T_X12_comes_29 (f + 1) (Int32.ofNat L) x2 (Int32.ofNat i) υ) = _
          rw [hst, if_pos c1, if_pos c2]; rfl
        · rw [if_pos ⟨by omega, c1.1, c1.2, c2⟩] at p4
          refine Or.inl ⟨f, (Int32.ofNat (s ||| 2 ^ (tx i - 97)), en_up υ 199 i (Int32.ofNat (tx i - 97))), ?_, Nat.le_refl _, fun c hc => ?_, fun p hp => ?_, s ||| 2 ^ (tx i - 97), or_128 hs (by omega), rfl, p4⟩
          · rw [hst, if_pos c1, if_neg c2]
          · show en_up υ 199 i _ c = τ c
            rw [pu_row hc]; exact p1 c hc
          · show en_up υ 199 i _ 199 p = _
            by_cases e : p = i
            · rw [e, pu_same, show cmF tx n i = tx i - 97 from if_pos (by omega)]
            · rw [pu_slot e]; exact p2 p (by omega)
      · right
        refine bad _ (by rw [p4, if_neg (fun q => c1 ⟨q.2.1, q.2.2.1⟩)]) ?_
        show en_oi (T_X12_comes_29 (f + 1) (Int32.ofNat L) x2 (Int32.ofNat i) υ) = _
        rw [hst, if_neg c1]; rfl) (by
      rintro f ⟨x2, υ⟩ hf ⟨p1, p2, s, hs, p3, p4⟩
      have p1 : ∀ c, c ≠ 199 → υ c = τ c := p1
      have p2 : ∀ p, p < N → υ 199 p = Int32.ofNat (cmF tx n p) := p2
      obtain ⟨f, rfl⟩ : ∃ j, f = j + 1 := ⟨f - 1, by omega⟩
      have u1 : υ 185 1 = Int32.ofNat n := by rw [p1 185 (by omega)]; exact h1
      show (_ → ∃ f' x2' τ', 900000 < f' ∧ T_X12_comes_29 (f + 1) (Int32.ofNat L) x2 (Int32.ofNat N) υ = _ ∧ _) ∧ (_ → ∃ τ', en_oi (T_X12_comes_29 (f + 1) (Int32.ofNat L) x2 (Int32.ofNat N) υ) = _ ∧ _)
      by_cases c1 : N < L
      · have c2 : N = n := by omega
        rw [c2, Nat.sub_self] at p4
        have p4 : comN n L tx n 0 0 = if n < L then n else 100 := p4
        rw [if_pos (by omega)] at p4
        rw [t_X12_comes_29, if_pos ((pn_lt (by omega) (by omega)).mpr c1), u1, if_pos (show Int32.ofNat N = Int32.ofNat n by rw [c2])]
        exact ⟨fun q => absurd q (by omega), fun _ => ⟨υ, by rw [p4, c2]; rfl, p1⟩⟩
      · have c2 : N = L := by omega
        rw [t_X12_comes_29, if_neg (by rw [pn_lt (by omega) (by omega)]; exact c1), u1, pi_if (pn_lt (show L < 2147483648 by omega) (show n < 2147483648 by omega))]
        by_cases c3 : L < n
        · rw [show n - N = (n - (N + 1)) + 1 by omega] at p4
          have p4 : comN n L tx n 0 0 = if N < L ∧ 97 ≤ tx N ∧ tx N < 97 + n ∧ ¬ s.testBit (tx N - 97) = true then comN n L tx (n - (N + 1)) (N + 1) (s ||| 2 ^ (tx N - 97)) else N := p4
          rw [if_neg (fun q => c1 q.1)] at p4
          rw [if_pos c3]
          exact ⟨fun q => absurd q (by omega), fun _ => ⟨υ, by rw [p4, c2]; rfl, p1⟩⟩
        · rw [if_neg c3]
          have c4 : N = n := by omega
          rw [c4, Nat.sub_self] at p4
          have p4 : comN n L tx n 0 0 = if n < L then n else 100 := p4
          rw [if_neg (by omega)] at p4
          exact ⟨fun _ => ⟨f, x2, υ, by omega, rfl, fun q hq => p2 q (by omega), p1⟩, fun q => absurd p4 q⟩) N 0 en_FU (0, τ) (by omega) (by omega) ⟨fun _ _ => rfl, fun p hp => absurd hp (by omega), 0, by omega, rfl, rfl⟩
  exact go
theorem p_comes : en_st_comes pInv := by
  intro c hc
  refine p_two hc (fun A σ0 hA hB => ?_)
  have hA0 := hA
  obtain ⟨g, ⟨L, tx⟩, ro, x, us, kp⟩ := A
  have hgv : GV g := hA.1
  have hn : gN g ≤ 7 := hgv.1
  have hL : L ≤ 80 := hA.2.2.2.2.1
  have hb : ∀ j, tx j < 256 := hA.2.2.2.2.2.1
  have hAc := hA.clear
  have hfr0 : ∀ τ : en_M, FrM τ (en_up (en_up τ 185 11 0) 185 8 0) := fun τ => (FrM.up (by omega) (by omega)).trans (FrM.up (by omega) (by omega))
  by_cases hz : gN g = 0
  · refine ⟨-100, (g, tx0, ro, x, us, kp), fun hC => ⟨en_up σ0 1 1 0, ?_, hC.clear, FrC.up (by omega)⟩, fun τ hM => ⟨en_up (en_up τ 185 11 0) 185 8 0, ?_, (hM.slot 11 0 (by omega)).clear, hfr0 τ⟩, hAc.mono (by omega)⟩
    · rw [o_X11_comes, t_X11_comes_0, show σ0 5 3 = Int32.ofNat (gN g) from hC.1.1, hz, if_pos (by decide), q_clear, Option.bind_some, if_pos (by decide)]; rfl
    · rw [o_X12_comes, t_X12_comes_0, show τ 185 1 = Int32.ofNat (gN g) from hM.1.1, hz, if_pos (by decide)]; rfl
  have hn0 : 0 < gN g := by omega
  have nz : ¬ Int32.ofNat (gN g) = 0 := by rw [pn_eq0 (by omega)]; exact hz
  have hclass : ∀ σ : en_M, CI σ (g, (L, tx), ro, x, us, kp) → ∀ v, O_X11_readOrder [.inr (0, 11, 0, 0)] σ = some (v, σ) → O_X11_comes [.inr (0, 11, 0, 0)] σ = en_oi (if v < 0 then (en_ri v (en_up σ 1 1 0)) else ((O_X11_lookAhead [.inr (0, 11, 0, 0), .inl (200 : Int32)] (en_up σ 1 1 0)).bind fun r3 => (O_X11_firstAhead [.inr (0, 11, 0, 0), .inl v, .inl (201 : Int32)] r3).bind fun r4 => if (200 : Int32) < r4.1 then (en_ri (-2 : Int32) r4.2) else (T_X11_comes_64 en_FU v r4.1 (0 : Int32) (0 : Int32) r4.2))) := fun σ hC v hv => by
    rw [o_X11_comes, t_X11_comes_0, show σ 5 3 = Int32.ofNat (gN g) from hC.1.1, if_neg nz, hv, Option.bind_some]
    dsimp only
    rw [q_clear, Option.bind_some]
  have hmodel : ∀ τ : en_M, MI τ (g, (L, tx), ro, x, us, kp) → O_X12_comes [.inr (185, 12, 0, 0)] τ = en_oi (T_X12_comes_29 en_FU (Int32.ofNat L) 0 0 (en_up (en_up τ 185 11 0) 185 8 0)) := fun τ hM => by
    rw [o_X12_comes, t_X12_comes_0, show τ 185 1 = Int32.ofNat (gN g) from hM.1.1, if_neg nz, show τ 185 8 = Int32.ofNat L from hM.2.1.1]
  have hmS : ∀ τ : en_M, MI τ (g, (L, tx), ro, x, us, kp) → (en_up (en_up τ 185 11 0) 185 8 0) 185 1 = Int32.ofNat (gN g) ∧ ∀ j, j < L → (en_up (en_up τ 185 11 0) 185 8 0) 189 j = byt (tx j) := fun τ hM => ⟨by rw [pu_slot (by omega), pu_slot (by omega)]; exact hM.1.1, fun j hj => by rw [pu_cell (by omega), pu_cell (by omega)]; exact hM.2.1.2 j hj⟩
  have hle := comN_le (gN g) L tx (gN g) 0 0
  by_cases ok : comN (gN g) L tx (gN g) 0 0 = 100
  · have hF : ∀ p, p < gN g → cmF tx (gN g) p < gN g := (q_readOrder (σ := fun a b => if a = 5 then Int32.ofNat (gN g) else if a = 1 then Int32.ofNat L else Int32.ofNat (tx b)) hn (if_pos rfl) ⟨rfl, fun j _ => rfl⟩ hL hb).1 ok |>.2
    have hF8 : ∀ p, p < 7 → cmF tx (gN g) p < 8 := cmF_8 (Nat.le_refl _) hn hF
    have hwl := pkN_lt hF8
    have hpm : ∀ k, PMf (gN g) (odN g x k) := fun k => odN_PMf hgv hA.2.2.2.2.2.2.2.1.1 k
    have hW : ∀ k, pkN (odN g x k) < 2097152 := fun k => pkN_lt (hpm k).lt8
    have hsame : ∀ k, (cmC (odN g x k) (cmF tx (gN g)) (gN g) < gN g) = ¬ pkN (odN g x k) = pkN (cmF tx (gN g)) := fun k => by
      rw [pkN_inj (hpm k).lt8 hF8]
      refine propext ((cmC_all _ _ _).trans (not_congr ⟨fun q p hp => ?_, fun q p hp => q p (by omega)⟩))
      by_cases c : p < gN g
      · exact q p c
      · rw [(hpm k).2.2.1 p (by omega) hp]; exact (if_neg c).symm
    generalize hWd : (fun k => pkN (odN g x k)) = W at *
    have hWe : ∀ k, pkN (odN g x k) = W k := fun k => by rw [← hWd]
    generalize hwd : pkN (cmF tx (gN g)) = w at *
    have hfa := fa_le W w 201 0
    obtain ⟨v', A', f1, f2, f3⟩ : ∃ v' A', (¬ fa W w 201 0 ≤ 200 → v' = -2 ∧ A' = (g, tx0, ro, x, us, kp)) ∧ (fa W w 201 0 ≤ 200 → v' = Int32.ofNat (fa W w 201 0) ∧ A' = (g, tx0, [Int32.ofNat (cmC (odN g x 0) (cmF tx (gN g)) (gN g))], x, us, kp)) ∧ AV (2000 * (c + 1)) A' := by
      by_cases e : fa W w 201 0 ≤ 200
      · exact ⟨Int32.ofNat (fa W w 201 0), (g, tx0, [Int32.ofNat (cmC (odN g x 0) (cmF tx (gN g)) (gN g))], x, us, kp), fun q => absurd e q, fun _ => ⟨rfl, rfl⟩, (hAc.row (by simp)).mono (by omega)⟩
      · exact ⟨-2, (g, tx0, ro, x, us, kp), fun _ => ⟨rfl, rfl⟩, fun q => absurd q e, hAc.mono (by omega)⟩
    refine ⟨v', A', fun hC => ?_, fun τ hM => ?_, f3⟩
    · have hro := ((q_readOrder hn (show σ0 5 3 = Int32.ofNat (gN g) from hC.1.1) (show CT σ0 L tx from hC.2.1) hL hb).1 ok).1
      rw [hwd] at hro
      rw [hclass σ0 hC _ hro, if_neg (pn_nlt0 (by omega))]
      obtain ⟨σ1, e1, e2, e3, e4⟩ := k_look hAc (by omega) hC.clear (m := 200) (by omega)
      have e1' : O_X11_lookAhead [.inr (0, 11, 0, 0), .inl (200 : Int32)] (en_up σ0 1 1 0) = some σ1 := e1
      have hfc : FrC σ0 σ1 := (FrC.up (by omega)).trans e4
      have q1 : O_X11_firstAhead [.inr (0, 11, 0, 0), .inl (Int32.ofNat w), .inl (201 : Int32)] σ1 = some (Int32.ofNat (fa W w 201 0), σ1) := q_firstAhead2 (W := W) (n := 201) (Nat.le_refl _) (by omega) (fun k hk => ⟨by rw [← hWe]; have := hW k; omega, by rw [e3 k hk, hWe]⟩)
      rw [e1', Option.bind_some, q1, Option.bind_some]
      dsimp only
      rw [pi_if (show ((200 : Int32) < Int32.ofNat (fa W w 201 0)) = (200 < fa W w 201 0) from pn_lt (a := 200) (by omega) (by omega))]
      by_cases c1 : fa W w 201 0 ≤ 200
      · obtain ⟨rfl, rfl⟩ := f2 c1
        rw [if_neg (by omega)]
        have h154 : σ1 15 4 = Int32.ofNat (pkN (odN g x 0)) := e2.2.2.2.1.1
        refine pl_for1 (F := fun f i (q : Int32) => T_X11_comes_64 f (Int32.ofNat w) (Int32.ofNat (fa W w 201 0)) q (Int32.ofNat i) σ1) (P := fun i q => q = Int32.ofNat (cmC (odN g x 0) (cmF tx (gN g)) i)) (Q := fun r => ∃ σ', en_oi r = some (Int32.ofNat (fa W w 201 0), σ') ∧ CI σ' (g, tx0, [Int32.ofNat (cmC (odN g x 0) (cmF tx (gN g)) (gN g))], x, us, kp) ∧ FrC σ0 σ') (N := gN g) ?_ ?_ (gN g) 0 en_FU 0 (by omega) (pl_FU (by omega)) rfl
        · rintro f i q hi rfl
          have o8 := (hpm 0).lt8 i (by omega)
          have f8 := hF8 i (by omega)
          refine Or.inl ⟨Int32.ofNat (cmC (odN g x 0) (cmF tx (gN g)) (i + 1)), ?_, rfl⟩
          show T_X11_comes_64 (f + 1) _ _ _ _ σ1 = _
          rw [t_X11_comes_64, show σ1 5 3 = Int32.ofNat (gN g) from e2.1.1, if_pos ((pn_lt (by omega) (by omega)).mpr hi), q_bellAt, Option.bind_some]
          dsimp only
          rw [q_bellAt, Option.bind_some]
          dsimp only
          rw [h154, ← hwd, pba hF8 (by omega), pba (hpm 0).lt8 (by omega), pi_if ((pn_eq (show cmF tx (gN g) i < 2147483648 by omega) (show odN g x 0 i < 2147483648 by omega)).trans (propext eq_comm)), pn_a1, pn_a1]
          conv => rhs; unfold cmC
          by_cases c2 : odN g x 0 i = cmF tx (gN g) i
          · rw [if_pos c2, if_pos c2]
          · rw [if_neg c2, if_neg c2, Int32.add_zero]; rfl
        · rintro f q rfl
          obtain ⟨σ3, g1, g2, g3⟩ := CI.add (CI.begin e2) (by simp) (Int32.ofNat (cmC (odN g x 0) (cmF tx (gN g)) (gN g)))
          show ∃ σ', en_oi (T_X11_comes_64 (f + 1) _ _ _ _ σ1) = _ ∧ _
          rw [t_X11_comes_64, show σ1 5 3 = Int32.ofNat (gN g) from e2.1.1, if_neg (by rw [pn_lt (by omega) (by omega)]; omega), q_tbegin, Option.bind_some, g1, Option.bind_some]
          exact ⟨σ3, rfl, g2, fun c hc => by rw [g3 c (by omega) (by omega), pu_row (by omega), hfc c hc]⟩
      · obtain ⟨rfl, rfl⟩ := f1 c1
        rw [if_pos (by omega)]
        exact ⟨σ1, rfl, e2, hfc⟩
    · rw [hmodel τ hM]
      have hM2 := (hM.slot 11 0 (by omega)).clear
      have hfr := hfr0 τ
      obtain ⟨s1, s2⟩ := hmS τ hM
      generalize en_up (en_up τ 185 11 0) 185 8 0 = τ0 at hM2 hfr s1 s2 ⊢
      obtain ⟨f, x2, τ1, hf, e1, e2, e3⟩ := (r_comesScan hn hn0 s1 s2 hL hb).1 ok
      have hM3 : MI τ1 (g, tx0, ro, x, us, kp) := hM2.kept (fun j _ => by rw [e3 185 (by omega)]) (fun c hc => e3 c (by omega))
      obtain ⟨τ2, l1, l2, l3⟩ := r_layOrders (g := g) (x := x) (m := 200) (B := 2000 * c) hgv hM3.1 hM3.2.2.2.1 hA.2.2.2.2.2.2.2.1 (by omega) (by omega)
      have l1' : O_X12_layOrders [.inr (185, 12, 0, 0), .inl (200 : Int32)] τ1 = some τ2 := l1
      have hM4 : MI τ2 (g, tx0, ro, x, us, kp) := hM3.kept (fun j _ => by rw [l3 185 (by omega) (by omega)]) (fun c hc => l3 c (by omega) (by omega))
      have hfr2 : FrM τ τ2 := fun c hc => by rw [l3 c (by omega) (by omega), e3 c (by omega), hfr c hc]
      have h199 : ∀ q, q < gN g → τ2 199 q = Int32.ofNat (cmF tx (gN g) q) := fun q hq => by rw [l3 199 (by omega) (by omega)]; exact e2 q hq
      have hasw : ∀ k (υ : en_M), k ≤ 200 → υ 185 1 = Int32.ofNat (gN g) → υ 197 = τ2 197 → υ 199 = τ2 199 → O_X12_asWanted [.inr (185, 12, 0, 0), .inl (Int32.ofNat k)] υ = some (Int32.ofNat (cmC (odN g x k) (cmF tx (gN g)) (gN g)), υ) := fun k υ hk h1 h2 h3 => r_asWanted hn hk (fun p hp => hF8 p (by omega)) (fun p hp => (hpm k).lt8 p (by omega)) h1 (fun p hp => by rw [h2]; exact l2 k p hk hp) (fun p hp => by rw [h3]; exact h199 p hp)
      have h21 : τ2 185 1 = Int32.ofNat (gN g) := hM4.1.1
      rw [e1, l1', Option.bind_some]
      refine pl_for1 (F := fun f k (_ : Unit) => T_X12_comes_138 f (Int32.ofNat L) x2 (Int32.ofNat k) τ2) (P := fun k _ => fa W w 201 0 = fa W w (201 - k) k) (Q := fun r => ∃ τ', en_oi r = some (v', τ') ∧ MI τ' A' ∧ FrM τ τ') (N := 201) ?_ ?_ 201 0 f () (by omega) (by omega) rfl
      · intro m k _ hk hP
        have hP : fa W w 201 0 = fa W w (201 - k) k := hP
        have hcl := cmC_le (odN g x k) (cmF tx (gN g)) (gN g)
        rw [show 201 - k = (201 - (k + 1)) + 1 by omega] at hP
        conv at hP => rhs; unfold fa
        show (∃ _ : Unit, T_X12_comes_138 (m + 1) _ _ _ τ2 = _ ∧ _) ∨ ∃ τ', en_oi (T_X12_comes_138 (m + 1) _ _ _ τ2) = _ ∧ _
        rw [t_X12_comes_138, if_neg (show ¬ (200 : Int32) < Int32.ofNat k from fun q => by have := (pn_lt (a := 200) (by omega) (by omega)).mp q; omega), hasw k τ2 (by omega) h21 rfl rfl, Option.bind_some]
        dsimp only
        rw [pi_if (show (Int32.ofNat (cmC (odN g x k) (cmF tx (gN g)) (gN g)) < τ2 185 1) = (¬ pkN (odN g x k) = w) by rw [h21]; exact (pn_lt (by omega) (by omega)).trans (hsame k)), pn_a1]
        by_cases c1 : W k = w
        · rw [if_pos c1] at hP
          rw [if_neg (fun q => q (by rw [hWe]; exact c1))]
          obtain ⟨rfl, rfl⟩ := f2 (by omega)
          have hM5 := MI.begin hM4
          obtain ⟨τ3, g1, g2, g3, g4⟩ := MI.add hM5 (by simp) (Int32.ofNat (cmC (odN g x 0) (cmF tx (gN g)) (gN g)))
          have h0 : O_X12_asWanted [.inr (185, 12, 0, 0), .inl (0 : Int32)] (en_up τ2 185 10 0) = some (Int32.ofNat (cmC (odN g x 0) (cmF tx (gN g)) (gN g)), en_up τ2 185 10 0) := hasw 0 _ (by omega) (by rw [pu_slot (by omega)]; exact h21) (pu_row (by omega)) (pu_row (by omega))
          rw [h0, Option.bind_some]
          dsimp only
          rw [g1, Option.bind_some]
          exact Or.inr ⟨τ3, by rw [hP]; rfl, g2, fun c hc => by rw [g3 c (by omega) (by omega), pu_row (by omega), hfr2 c hc]⟩
        · rw [if_neg c1] at hP
          rw [if_pos (fun q => c1 (by rw [← hWe]; exact q))]
          exact Or.inl ⟨(), rfl, hP⟩
      · intro m _ hP
        have hP : fa W w 201 0 = 201 := hP
        show ∃ τ', en_oi (T_X12_comes_138 (m + 1) _ _ _ τ2) = _ ∧ _
        rw [t_X12_comes_138, if_pos (show (200 : Int32) < Int32.ofNat 201 by decide)]
        obtain ⟨rfl, rfl⟩ := f1 (by omega)
        exact ⟨τ2, rfl, hM4, hfr2⟩
  · refine ⟨-1 - Int32.ofNat (comN (gN g) L tx (gN g) 0 0), (g, tx0, ro, x, us, kp), fun hC => ⟨en_up σ0 1 1 0, ?_, hC.clear, FrC.up (by omega)⟩, fun τ hM => ?_, hAc.mono (by omega)⟩
    · rw [hclass σ0 hC _ ((q_readOrder hn (show σ0 5 3 = Int32.ofNat (gN g) from hC.1.1) (show CT σ0 L tx from hC.2.1) hL hb).2 ok), if_pos ((by decide : ∀ s < 8, (-1 : Int32) - Int32.ofNat s < 0) _ (by omega))]; rfl
    · rw [hmodel τ hM]
      obtain ⟨s1, s2⟩ := hmS τ hM
      obtain ⟨τ1, e1, e2⟩ := (r_comesScan hn hn0 s1 s2 hL hb).2 ok
      have hM2 := (hM.slot 11 0 (by omega)).clear
      exact ⟨τ1, e1, hM2.kept (fun j _ => by rw [e2 185 (by omega)]) (fun c hc => e2 c (by omega)), fun c hc => by rw [e2 c (by omega), hfr0 τ c hc]⟩
