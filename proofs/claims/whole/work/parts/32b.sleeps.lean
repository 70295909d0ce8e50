/-! sleeps -/
def mxL (P : Nat → Bool) (f : Nat → Nat) : Nat → Nat
  | 0 => 0
  | i + 1 => if P i = true ∧ mxL P f i < f i then f i else mxL P f i
def agL (P : Nat → Bool) (f : Nat → Nat) : Nat → Nat
  | 0 => 0
  | i + 1 => if P i = true ∧ f (agL P f i) < f i then i else agL P f i
theorem mxL_le {P : Nat → Bool} {f : Nat → Nat} {b : Nat} (h : ∀ t, f t ≤ b) : ∀ i, mxL P f i ≤ b
  | 0 => Nat.zero_le _
  | i + 1 => by
    have := mxL_le (P := P) h i
    have := h i
    unfold mxL; split <;> assumption
theorem ag_mx {P : Nat → Bool} {f : Nat → Nat} (h0 : P 0 = true) : ∀ i, f (agL P f (i + 1)) = mxL P f (i + 1) ∧ P (agL P f (i + 1)) = true ∧ agL P f (i + 1) < i + 1 ∧ (∀ t, t < i + 1 → P t = true → f t ≤ f (agL P f (i + 1))) ∧ ∀ t, t < agL P f (i + 1) → P t = true → f t < f (agL P f (i + 1))
  | 0 => by
    have e : agL P f 1 = 0 := by
      show (if P 0 = true ∧ f 0 < f 0 then 0 else 0) = 0
      split <;> rfl
    have m : mxL P f 1 = f 0 := by
      show (if P 0 = true ∧ 0 < f 0 then f 0 else 0) = f 0
      by_cases c : 0 < f 0
      · rw [if_pos ⟨h0, c⟩]
      · rw [if_neg (fun q => c q.2)]; omega
    rw [e, m]
    exact ⟨rfl, h0, by omega, fun t ht _ => by rw [show t = 0 by omega]; exact Nat.le_refl _, fun t ht => absurd ht (by omega)⟩
  | i + 1 => by
    obtain ⟨h1, h2, h3, h4, h5⟩ := ag_mx (f := f) h0 i
    by_cases c : P (i + 1) = true ∧ f (agL P f (i + 1)) < f (i + 1)
    · have e : agL P f (i + 1 + 1) = i + 1 := if_pos c
      have m : mxL P f (i + 1 + 1) = f (i + 1) := if_pos ⟨c.1, by rw [← h1]; exact c.2⟩
      rw [e, m]
      refine ⟨rfl, c.1, by omega, fun t ht hp => ?_, fun t ht hp => Nat.lt_of_le_of_lt (h4 t ht hp) c.2⟩
      by_cases e2 : t = i + 1
      · rw [e2]; exact Nat.le_refl _
      · exact Nat.le_of_lt (Nat.lt_of_le_of_lt (h4 t (by omega) hp) c.2)
    · have e : agL P f (i + 1 + 1) = agL P f (i + 1) := if_neg c
      have m : mxL P f (i + 1 + 1) = mxL P f (i + 1) := if_neg (by rw [← h1]; exact c)
      rw [e, m]
      refine ⟨h1, h2, by omega, fun t ht hp => ?_, h5⟩
      by_cases e2 : t = i + 1
      · subst e2
        exact Nat.le_of_not_lt fun q => c ⟨hp, q⟩
      · exact h4 t (by omega) hp
theorem ag_in {P : Nat → Bool} {f : Nat → Nat} (h0 : P 0 = true) : ∀ i, P (agL P f i) = true ∧ (agL P f i = 0 ∨ agL P f i < i)
  | 0 => ⟨h0, Or.inl rfl⟩
  | i + 1 => ⟨(ag_mx h0 i).2.1, Or.inr (ag_mx h0 i).2.2.1⟩
/-- the most that can miss in j rounds from round k on, behind w -/
def sbV (g : pG) (x : pS) : Nat → Nat → Nat → Nat
  | 0, _, _ => 0
  | j + 1, k, w => mxL (fun t => lwB g x k t w) (fun t => pcn t + sbV g x j (k + 1) t) (2 ^ gN g)
theorem sbV_le (g : pG) (x : pS) : ∀ j k w, sbV g x j k w ≤ 7 * j
  | 0, _, _ => Nat.zero_le _
  | j + 1, k, w => by
    unfold sbV
    refine mxL_le (fun t => ?_) _
    have := sbV_le g x j (k + 1) t
    have := pcn_lt t
    show pcn t + sbV g x j (k + 1) t ≤ _
    omega
def fS (g : pG) (x : pS) (n k t : Nat) : Nat := pcn t + sbV g x (n - (k + 1)) (k + 1) t
theorem fS_le (g : pG) (x : pS) (n k t : Nat) : fS g x n k t ≤ 7 + 7 * n := by
  have := sbV_le g x (n - (k + 1)) (k + 1) t
  have := pcn_lt t
  unfold fS; omega
def agS (g : pG) (x : pS) (n k w : Nat) : Nat := agL (fun t => lwB g x k t w) (fS g x n k) (2 ^ gN g)
theorem sb_fS {g : pG} {x : pS} {n k w : Nat} (hk : k < n) : sbV g x (n - k) k w = mxL (fun t => lwB g x k t w) (fS g x n k) (2 ^ gN g) := by
  rw [show n - k = (n - (k + 1)) + 1 by omega]; rfl
theorem agS_ok {g : pG} {x : pS} {n k w : Nat} (hg : GV g) (hk : k < n) : lwB g x k (agS g x n k w) w = true ∧ agS g x n k w < 2 ^ gN g ∧ fS g x n k (agS g x n k w) = sbV g x (n - k) k w ∧ ∀ t, t < agS g x n k w → lwB g x k t w = true → fS g x n k t < sbV g x (n - k) k w := by
  obtain ⟨m, hm⟩ : ∃ m, 2 ^ gN g = m + 1 := ⟨2 ^ gN g - 1, by have := Nat.two_pow_pos (gN g); omega⟩
  rw [sb_fS hk]
  unfold agS
  rw [hm]
  obtain ⟨h1, h2, h3, h4, h5⟩ := ag_mx (P := fun t => lwB g x k t w) (f := fS g x n k) (lw_0 hg) m
  rw [← h1]
  exact ⟨h2, h3, rfl, h5⟩
def wkS (g : pG) (x : pS) (n : Nat) : Nat → Nat
  | 0 => 0
  | k + 1 => agS g x n k (wkS g x n k)
theorem wkS_lt {g : pG} {x : pS} {n : Nat} (hg : GV g) : ∀ k, k ≤ n → wkS g x n k < 2 ^ gN g
  | 0, _ => Nat.two_pow_pos _
  | k + 1, h => (agS_ok hg (show k < n by omega)).2.1
theorem l1_of {g : pG} {x : pS} {k t w : Nat} (h : lwB g x k t w = true) : l1B g x k t = true := (lw_iff.mp h).1
theorem q_worth {g : pG} {x : pS} {n k t : Nat} {σ : en_M} (hg : GV g) (hk : k < n) (hn : n ≤ 12) (ht : t < 2 ^ gN g) (h : σ (131 + 1 + (k + 1)) t = Int32.ofNat (sbV g x (n - (k + 1)) (k + 1) t)) :
    O_X5_worth [.inr (103, 5, 0, 0), .inl (Int32.ofNat k), .inl (Int32.ofNat t)] σ = some (Int32.ofNat (fS g x n k t), σ) := by
  have h128 := p2lt hg.1
  rw [o_X5_worth, t_X5_worth_0, q_bitCount, Option.bind_some, pn_a1, pn_ix (show k + 1 < 13 by omega) (by omega), Option.bind_some, pn_ix (show t < 128 by omega) (by omega), Option.bind_some]
  dsimp only
  rw [h, pbc_n (by omega), pn_add]; rfl
theorem q_bestSet {g : pG} {x : pS} {n k w B : Nat} {a b : Int32} {σ : en_M} (hg : GV g) (hv : VS (gN g) B x) (hk : k < n) (hn : n ≤ 12) (hw : w < 2 ^ gN g) (hP : PP g x σ k) (ha : a = Int32.ofNat (wwP x k w)) (hb : b = Int32.ofNat (whP g x k w)) (h : ∀ t, t < 2 ^ gN g → l1B g x k t = true → σ (131 + 1 + (k + 1)) t = Int32.ofNat (sbV g x (n - (k + 1)) (k + 1) t)) :
    O_X5_bestSet [.inr (103, 5, 0, 0), .inl (Int32.ofNat k), .inl a, .inl b] σ = some (Int32.ofNat (agS g x n k w), σ) := by
  subst ha
  subst hb
  have h128 := p2lt hg.1
  have hFU := en_FU_ge
  have hz : (fun t => lwB g x k t w) 0 = true := lw_0 hg
  have hcN := cnB_le (l1B g x k) (2 ^ gN g)
  rw [o_X5_bestSet, t_X5_bestSet_0]
  refine pl_en (F := fun f j (q : Int32 × en_V) => T_X5_bestSet_6 f (Int32.ofNat k) (Int32.ofNat (wwP x k w)) (Int32.ofNat (whP g x k w)) q.1 (Int32.ofNat j) q.2 σ) (I := fun i q => q.1 = Int32.ofNat (agL (fun t => lwB g x k t w) (fS g x n k) i)) (Q := fun r => en_oi r = some (Int32.ofNat (agS g x n k w), σ)) (P := l1B g x k) (N := 2 ^ gN g) (C := 0) ?_ ?_ ?_ (2 ^ gN g) 0 en_FU (0, en_un) (by omega) (by omega) rfl
  · rintro f i ⟨x4, u6⟩ hi hl p1
    have p1 : x4 = _ := p1
    subst p1
    have hci := cnB_lt hl hi
    obtain ⟨hap, hal⟩ := ag_in (P := fun t => lwB g x k t w) (f := fS g x n k) hz i
    have hap : lwB g x k (agL (fun t => lwB g x k t w) (fS g x n k) i) w = true := hap
    have b1 := fS_le g x n k i
    have b2 := fS_le g x n k (agL (fun t => lwB g x k t w) (fS g x n k) i)
    left
    show ∃ q' : Int32 × en_V, T_X5_bestSet_6 (f + 1) _ _ _ _ _ u6 σ = _ ∧ _
    rw [t_X5_bestSet_6, pn_ix (show k < 12 by omega) (by omega), Option.bind_some, hP.1, if_pos ((pn_lt (by omega) (by omega)).mpr hci), Option.bind_some, pn_ix (show cnB (l1B g x k) i < 128 by omega) (by omega), Option.bind_some, (hP.2 i hi hl).1, q_mayFollow hg hv hP (by omega) hi hl hw, Option.bind_some]
    dsimp only
    rw [pi_if (pb2_0 (lwB g x k i w = true))]
    by_cases c1 : lwB g x k i w = true
    · rw [if_neg (fun q => q c1), q_worth hg hk hn hi (h i hi hl), Option.bind_some]
      dsimp only
      rw [q_worth hg hk hn (show agL (fun t => lwB g x k t w) (fS g x n k) i < 2 ^ gN g by omega) (h _ (by omega) (l1_of hap)), Option.bind_some]
      dsimp only
      rw [pi_if (pn_lt (show fS g x n k (agL (fun t => lwB g x k t w) (fS g x n k) i) < 2147483648 by omega) (show fS g x n k i < 2147483648 by omega)), pn_a1]
      by_cases c2 : fS g x n k (agL (fun t => lwB g x k t w) (fS g x n k) i) < fS g x n k i
      · rw [if_pos c2]
        exact ⟨(Int32.ofNat i, .inl (Int32.ofNat i)), rfl, congrArg Int32.ofNat (if_pos ⟨c1, c2⟩ : agL (fun t => lwB g x k t w) (fS g x n k) (i + 1) = i).symm⟩
      · rw [if_neg c2]
        exact ⟨(_, .inl (Int32.ofNat i)), rfl, congrArg Int32.ofNat (if_neg (fun q => c2 q.2) : agL (fun t => lwB g x k t w) (fS g x n k) (i + 1) = _).symm⟩
    · rw [if_pos c1, pn_a1]
      exact ⟨(_, .inl (Int32.ofNat i)), rfl, congrArg Int32.ofNat (if_neg (fun q => c1 q.1) : agL (fun t => lwB g x k t w) (fS g x n k) (i + 1) = _).symm⟩
  · rintro i ⟨x4, u6⟩ hi hl p1
    have p1 : x4 = _ := p1
    show x4 = _
    rw [p1]
    exact congrArg Int32.ofNat (if_neg (fun q => by have := l1_of q.1; rw [hl] at this; exact absurd this (by decide)) : agL (fun t => lwB g x k t w) (fS g x n k) (i + 1) = _).symm
  · rintro f ⟨x4, u6⟩ - p1
    have p1 : x4 = _ := p1
    show en_oi (T_X5_bestSet_6 (f + 1) _ _ _ x4 _ u6 σ) = _
    rw [t_X5_bestSet_6, pn_ix (show k < 12 by omega) (by omega), Option.bind_some, hP.1, if_neg (by rw [pn_lt (by omega) (by omega)]; omega), p1]; rfl
/-- the class's table, from round k on -/
def BT (g : pG) (x : pS) (n : Nat) (σ : en_M) (k : Nat) : Prop := ∀ k', k ≤ k' → k' ≤ n → 0 < k' → ∀ t, t < 2 ^ gN g → l1B g x (k' - 1) t = true → σ (131 + 1 + k') t = Int32.ofNat (sbV g x (n - k') k' t)
theorem q_missTab {g : pG} {x : pS} {n B : Nat} {σ : en_M} (hg : GV g) (hv : VS (gN g) B x) (hn : n ≤ 12) (hn1 : 1 ≤ n) (hP : ∀ k, k < n → PP g x σ k) :
    ∃ f u σ', 900000 < f ∧ O_X5_mostMissed [.inr (103, 5, 0, 0), .inr (15, 7, 0, 0), .inl (Int32.ofNat n), .inr (3, 9, 0, 0)] σ = en_oi (T_X5_mostMissed_122 f 15 (Int32.ofNat n) (σ 15 7) (σ 15 8) 0 0 u (en_up σ' 3 1 0)) ∧ BT g x n σ' 1 ∧ ∀ c, c < 132 ∨ 145 ≤ c → σ' c = σ c := by
  have h128 := p2lt hg.1
  have hFU := en_FU_ge
  rw [o_X5_mostMissed, t_X5_mostMissed_0, pn_ix (show n < 13 by omega) (by omega), Option.bind_some, q_fill (by omega), Option.bind_some, show Int32.ofNat n - (1 : Int32) = Int32.ofNat (n - 1) from pn_sub (b := 1) (by omega)]
  have go := pl_for (F := fun f i (q : en_V × en_V × en_M) => T_X5_mostMissed_15 f 15 (Int32.ofNat n) (Int32.ofNat (n - 1 - i)) q.1 q.2.1 q.2.2) (P := fun i q => BT g x n q.2.2 (n - i) ∧ ∀ c, c < 132 ∨ 145 ≤ c → q.2.2 c = σ c) (Q := fun r => ∃ f u σ', 900000 < f ∧ r = T_X5_mostMissed_122 f 15 (Int32.ofNat n) (σ 15 7) (σ 15 8) 0 0 u (en_up σ' 3 1 0) ∧ BT g x n σ' 1 ∧ ∀ c, c < 132 ∨ 145 ≤ c → σ' c = σ c) (N := n - 1) (C := 131) (C0 := 900010) (by
    rintro f i ⟨u5, u6, υ⟩ hi hf ⟨p1, p2⟩
    have p1 : BT g x n υ (n - i) := p1
    have p2 : ∀ c, c < 132 ∨ 145 ≤ c → υ c = σ c := p2
    obtain ⟨f, rfl⟩ : ∃ j, f = j + 1 := ⟨f - 1, by omega⟩
    obtain ⟨k, hk⟩ : ∃ k, k = n - 1 - i := ⟨_, rfl⟩
    have hk1 : 1 ≤ k := by omega
    have hkn : k < n := by omega
    have hcN := cnB_le (l1B g x (k - 1)) (2 ^ gN g)
    have hP1 : ∀ k', k' < n → PP g x υ k' := fun k' hk' => (hP k' hk').fr (by omega) (fun c _ _ => p2 c (by omega))
    have hrow : ∀ t, t < 2 ^ gN g → l1B g x k t = true → υ (131 + 1 + (k + 1)) t = Int32.ofNat (sbV g x (n - (k + 1)) (k + 1) t) := fun t ht hl => p1 (k + 1) (by omega) (by omega) (by omega) t ht hl
    left
    have hin := pl_en (F := fun f j (q : en_V × en_M) => T_X5_mostMissed_24 f 15 (Int32.ofNat n) (Int32.ofNat k) (Int32.ofNat j) q.1 q.2) (I := fun i q => (∀ t, t < i → l1B g x (k - 1) t = true → q.2 (131 + 1 + k) t = Int32.ofNat (sbV g x (n - k) k t)) ∧ ∀ c, c ≠ 131 + 1 + k → q.2 c = υ c) (Q := fun r => ∃ f' u u' σ', r = T_X5_mostMissed_15 f' 15 (Int32.ofNat n) (Int32.ofNat (k - 1)) u u' σ' ∧ f + 1 ≤ f' + 131 ∧ (∀ t, t < 2 ^ gN g → l1B g x (k - 1) t = true → σ' (131 + 1 + k) t = Int32.ofNat (sbV g x (n - k) k t)) ∧ ∀ c, c ≠ 131 + 1 + k → σ' c = υ c) (P := l1B g x (k - 1)) (N := 2 ^ gN g) (C := f - 129) (by
        rintro f2 j ⟨w6, q⟩ hj hl ⟨o1, o2⟩
        have hci := cnB_lt hl hj
        have o1 : ∀ t, t < j → l1B g x (k - 1) t = true → q (131 + 1 + k) t = Int32.ofNat (sbV g x (n - k) k t) := o1
        have o2 : ∀ c, c ≠ 131 + 1 + k → q c = υ c := o2
        have hPk : PP g x q (k - 1) := (hP1 (k - 1) (by omega)).kept (by rw [o2 117 (by omega)]) (o2 _ (by omega)) (o2 _ (by omega))
        have hPk2 : PP g x q k := (hP1 k hkn).kept (by rw [o2 117 (by omega)]) (o2 _ (by omega)) (o2 _ (by omega))
        have hb := q_bestSet (g := g) (x := x) (n := n) (k := k) (w := j) (a := Int32.ofNat j) (b := Int32.ofNat (plN (odN g x (k - 1)) j (gN g))) (σ := q) hg hv hkn hn hj hPk2 (by rw [show wwP x k j = j from if_neg (by omega)]) (by rw [show whP g x k j = plN (odN g x (k - 1)) j (gN g) from if_neg (by omega)]) (fun t ht hlt => by rw [o2 _ (by omega)]; exact hrow t ht hlt)
        obtain ⟨a1, a2, a3, -⟩ := agS_ok (g := g) (x := x) (n := n) (k := k) (w := j) hg hkn
        have hwo := q_worth (g := g) (x := x) (n := n) (k := k) (t := agS g x n k j) (σ := q) hg hkn hn a2 (by rw [o2 _ (by omega)]; exact hrow _ a2 (l1_of a1))
        left
        refine ⟨(.inl (Int32.ofNat j), en_up q (131 + 1 + k) j (Int32.ofNat (sbV g x (n - k) k j))), ?_, fun t ht hlt => ?_, fun c hc => ?_⟩
        · show T_X5_mostMissed_24 (f2 + 1) 15 _ (Int32.ofNat k) (Int32.ofNat (cnB (l1B g x (k - 1)) j)) w6 q = _
          rw [t_X5_mostMissed_24, show Int32.ofNat k - (1 : Int32) = Int32.ofNat (k - 1) from pn_sub (b := 1) hk1, pn_ix (show k - 1 < 12 by omega) (by omega), Option.bind_some, hPk.1, if_pos ((pn_lt (by omega) (by omega)).mpr hci), Option.bind_some, pn_ix (show cnB (l1B g x (k - 1)) j < 128 by omega) (by omega), Option.bind_some, pn_ix (show k < 13 by omega) (by omega), Option.bind_some, Option.bind_some, (hPk.2 j hj hl).1, pn_ix (show j < 128 by omega) (by omega), Option.bind_some, (hPk.2 j hj hl).2, hb, Option.bind_some]
          dsimp only
          rw [hwo, Option.bind_some, Option.bind_some]
          dsimp only
          rw [a3, pn_a1]
        · show en_up q (131 + 1 + k) j _ (131 + 1 + k) t = _
          by_cases e : t = j
          · rw [e, pu_same]
          · rw [pu_slot e]; exact o1 t (by omega) hlt
        · show en_up q (131 + 1 + k) j _ c = _
          rw [pu_row hc]; exact o2 c hc) (by
        rintro j ⟨w6, q⟩ hj hl ⟨o1, o2⟩
        refine ⟨fun t ht hlt => ?_, o2⟩
        have : t ≠ j := fun e => by rw [e, hl] at hlt; exact absurd hlt (by decide)
        exact o1 t (by omega) hlt) (by
        rintro f2 ⟨w6, q⟩ hf2 ⟨o1, o2⟩
        have o2 : ∀ c, c ≠ 131 + 1 + k → q c = υ c := o2
        have hPk : PP g x q (k - 1) := (hP1 (k - 1) (by omega)).kept (by rw [o2 117 (by omega)]) (o2 _ (by omega)) (o2 _ (by omega))
        refine ⟨f2, .inl (Int32.ofNat (cnB (l1B g x (k - 1)) (2 ^ gN g))), w6, q, ?_, by omega, o1, o2⟩
        show T_X5_mostMissed_24 (f2 + 1) 15 _ (Int32.ofNat k) _ w6 q = _
        rw [t_X5_mostMissed_24, show Int32.ofNat k - (1 : Int32) = Int32.ofNat (k - 1) from pn_sub (b := 1) hk1, pn_ix (show k - 1 < 12 by omega) (by omega), Option.bind_some, hPk.1, if_neg (by rw [pn_lt (by omega) (by omega)]; omega), pn_dec hk1]) (2 ^ gN g) 0 f (u6, υ) (by omega) (by omega) ⟨fun t ht => absurd ht (by omega), fun _ _ => rfl⟩
    obtain ⟨f', u, u', σ', e1, e2, e3, e4⟩ := hin
    refine ⟨f', (u, u', σ'), ?_, by omega, fun k' h1 h2 h3 t ht hl => ?_, fun c hc => ?_⟩
    · show T_X5_mostMissed_15 (f + 1) 15 (Int32.ofNat n) (Int32.ofNat (n - 1 - i)) u5 u6 υ = T_X5_mostMissed_15 f' 15 (Int32.ofNat n) (Int32.ofNat (n - 1 - (i + 1))) u u' σ'
      rw [← hk, t_X5_mostMissed_15, if_neg (show ¬ Int32.ofNat k < (1 : Int32) from fun q => by have := (pn_lt (b := 1) (by omega) (by omega)).mp q; omega), show n - 1 - (i + 1) = k - 1 by omega]
      exact e1
    · show σ' (131 + 1 + k') t = _
      by_cases e : k' = k
      · subst e; exact e3 t ht hl
      · rw [e4 _ (by omega)]; exact p1 k' (by omega) h2 h3 t ht hl
    · show σ' c = _
      rw [e4 c (by omega)]; exact p2 c hc) (by
    rintro f ⟨u5, u6, υ⟩ hf ⟨p1, p2⟩
    have p2 : ∀ c, c < 132 ∨ 145 ≤ c → υ c = σ c := p2
    obtain ⟨f, rfl⟩ : ∃ j, f = j + 1 := ⟨f - 1, by omega⟩
    refine ⟨f, en_un, υ, by omega, ?_, fun k' h1 h2 h3 => p1 k' (by omega) h2 h3, p2⟩
    show T_X5_mostMissed_15 (f + 1) 15 (Int32.ofNat n) (Int32.ofNat (n - 1 - (n - 1))) u5 u6 υ = _
    rw [Nat.sub_self, t_X5_mostMissed_15, if_pos (show Int32.ofNat 0 < (1 : Int32) by decide), q_tbegin, Option.bind_some, pu_row (show 15 ≠ 3 by omega), p2 15 (by omega)]) (n - 1) 0 en_FU (en_un, en_un, pst σ (131 + 1 + n) (fun i => if i < 128 then 0 else σ (131 + 1 + n) i)) (by omega) (by omega) ⟨fun k' h1 h2 h3 t ht hl => by
      show pst σ (131 + 1 + n) _ (131 + 1 + k') t = _
      rw [show k' = n by omega, pst_same, Nat.sub_self]
      exact if_pos (by omega), fun c hc => pst_ne (by omega)⟩
  obtain ⟨f, u, σ', e1, e2, e3, e4⟩ := go
  exact ⟨f, u, σ', e1, congrArg en_oi e2, e3, e4⟩
theorem q_missWalk {g t ro x us kp} {B n f : Nat} {u : en_V} {σ : en_M} (hA : AV B (g, t, ro, x, us, kp)) (hC : CI σ (g, t, ro, x, us, kp)) (hn : n ≤ 12) (hf : 900000 < f) (hP : ∀ k, k < n → PP g x σ k) (hT : BT g x n σ 1) :
    ∃ σ', en_oi (T_X5_mostMissed_122 f 15 (Int32.ofNat n) (σ 15 7) (σ 15 8) 0 0 u (en_up σ 3 1 0)) = some (Int32.ofNat (sbV g x n 0 0), σ') ∧ CI σ' (g, t, rwL (fun k => Int32.ofNat (wkS g x n (k + 1))) n, x, us, kp) ∧ FrC σ σ' := by
  have hg : GV g := hA.1
  have hv : VS (gN g) B x := hA.2.2.2.2.2.2.2.1
  have h128 := p2lt hg.1
  have hCS : CS σ 15 x := hC.2.2.2.1
  refine pl_for1 (F := fun f k (q : Int32 × Int32 × Int32 × en_V × en_M) => T_X5_mostMissed_122 f 15 (Int32.ofNat n) q.1 q.2.1 q.2.2.1 (Int32.ofNat k) q.2.2.2.1 q.2.2.2.2) (P := fun k q => q.1 = Int32.ofNat (wwP x k (wkS g x n k)) ∧ q.2.1 = Int32.ofNat (whP g x k (wkS g x n k)) ∧ (∃ a, q.2.2.1 = Int32.ofNat a ∧ a + sbV g x (n - k) k (wkS g x n k) = sbV g x n 0 0) ∧ CI q.2.2.2.2 (g, t, rwL (fun k => Int32.ofNat (wkS g x n (k + 1))) k, x, us, kp) ∧ ∀ c, c ≠ 3 → c ≠ 4 → q.2.2.2.2 c = σ c)
    (Q := fun r => ∃ σ', en_oi r = some (Int32.ofNat (sbV g x n 0 0), σ') ∧ CI σ' (g, t, rwL (fun k => Int32.ofNat (wkS g x n (k + 1))) n, x, us, kp) ∧ FrC σ σ') (N := n) ?_ ?_ n 0 f (σ 15 7, σ 15 8, 0, u, en_up σ 3 1 0) (by omega) (by omega) ⟨hCS.2.2.2.1, hCS.2.2.2.2.1, ⟨0, rfl, by rw [Nat.zero_add]; rfl⟩, CI.begin hC, fun c h1 h2 => pu_row h1⟩
  · rintro f k ⟨x4, x5, x6, u8, υ⟩ hk ⟨p1, p2, ⟨a, p3, p4⟩, p5, p6⟩
    have p1 : x4 = _ := p1
    have p2 : x5 = _ := p2
    have p3 : x6 = _ := p3
    have p6 : ∀ c, c ≠ 3 → c ≠ 4 → υ c = σ c := p6
    have p5 : CI υ (g, t, rwL (fun k => Int32.ofNat (wkS g x n (k + 1))) k, x, us, kp) := p5
    have hwk := wkS_lt (x := x) (n := n) hg k (by omega)
    obtain ⟨a1, a2, a3, -⟩ := agS_ok (g := g) (x := x) (n := n) (k := k) (w := wkS g x n k) hg hk
    have hb := q_bestSet (g := g) (x := x) (n := n) (k := k) (w := wkS g x n k) (σ := υ) hg hv hk hn hwk ((hP k hk).fr (by omega) (fun c _ _ => p6 c (by omega) (by omega))) p1 p2 (fun t ht hl => by rw [p6 _ (by omega) (by omega)]; exact hT (k + 1) (by omega) (by omega) (by omega) t ht hl)
    obtain ⟨σ', g1, g2, g3⟩ := p5.add (by rw [rwL_len]; omega) (Int32.ofNat (agS g x n k (wkS g x n k)))
    left
    refine ⟨(Int32.ofNat (agS g x n k (wkS g x n k)), Int32.ofNat (plN (odN g x k) (agS g x n k (wkS g x n k)) (gN g)), Int32.ofNat (a + pcn (agS g x n k (wkS g x n k))), .inl (Int32.ofNat (agS g x n k (wkS g x n k))), σ'), ?_, ?_, ?_, ⟨_, rfl, ?_⟩, g2, fun c h1 h2 => by rw [show ((Int32.ofNat (agS g x n k (wkS g x n k)), Int32.ofNat (plN (odN g x k) (agS g x n k (wkS g x n k)) (gN g)), Int32.ofNat (a + pcn (agS g x n k (wkS g x n k))), (.inl (Int32.ofNat (agS g x n k (wkS g x n k))) : en_V), σ') : Int32 × Int32 × Int32 × en_V × en_M).2.2.2.2 = σ' from rfl, g3 c h1 h2, p6 c h1 h2]⟩
    · show T_X5_mostMissed_122 (f + 1) 15 _ x4 x5 x6 _ u8 υ = _
      rw [t_X5_mostMissed_122, if_pos ((pn_lt (by omega) (by omega)).mpr hk), hb, Option.bind_some]
      dsimp only
      rw [g1, Option.bind_some, q_bitCount, Option.bind_some, pn_ix (show k < 12 by omega) (by omega), Option.bind_some, pn_ix (show agS g x n k (wkS g x n k) < 128 by omega) (by omega), Option.bind_some]
      dsimp only
      rw [g3 _ (by omega) (by omega), p6 _ (by omega) (by omega), ((hP k hk).2 _ a2 (l1_of a1)).2, pbc_n (by omega), p3, pn_add, pn_a1]
    · show _ = Int32.ofNat (wwP x (k + 1) (wkS g x n (k + 1)))
      rw [show wwP x (k + 1) (wkS g x n (k + 1)) = wkS g x n (k + 1) from if_neg (by omega)]; rfl
    · show _ = Int32.ofNat (whP g x (k + 1) (wkS g x n (k + 1)))
      rw [show whP g x (k + 1) (wkS g x n (k + 1)) = plN (odN g x (k + 1 - 1)) (wkS g x n (k + 1)) (gN g) from if_neg (by omega)]; rfl
    · rw [← p4, ← a3]
      show a + pcn (agS g x n k (wkS g x n k)) + sbV g x (n - (k + 1)) (k + 1) (agS g x n k (wkS g x n k)) = a + (pcn _ + sbV g x (n - (k + 1)) (k + 1) _)
      omega
  · rintro f ⟨x4, x5, x6, u8, υ⟩ ⟨p1, p2, ⟨a, p3, p4⟩, p5, p6⟩
    have p3 : x6 = _ := p3
    have p6 : ∀ c, c ≠ 3 → c ≠ 4 → υ c = σ c := p6
    rw [Nat.sub_self] at p4
    have p4 : a + 0 = sbV g x n 0 0 := p4
    show ∃ σ', en_oi (T_X5_mostMissed_122 (f + 1) 15 _ x4 x5 x6 _ u8 υ) = _ ∧ _
    rw [t_X5_mostMissed_122, if_neg (by rw [pn_lt (by omega) (by omega)]; omega), p3, ← p4]
    exact ⟨υ, rfl, p5, fun c hc => p6 c (by omega) (by omega)⟩
theorem sh7 (k t : Nat) : en_shl (Int32.ofNat k) (7 : Int32) + Int32.ofNat t = Int32.ofNat (128 * k + t) := by
  rw [show en_shl (Int32.ofNat k) (7 : Int32) = Int32.ofNat (k <<< 7) from pb_shl k (i := 7) (by omega), Nat.shiftLeft_eq, pn_add, Nat.mul_comm]
/-- the reference's table, from round k on -/
def MB (g : pG) (x : pS) (n : Nat) (τ : en_M) (k : Nat) : Prop := ∀ k', k ≤ k' → k' ≤ n → ∀ t, t < 2 ^ gN g → (k' = 0 → t = 0) → τ 202 (128 * k' + t) = Int32.ofNat (sbV g x (n - k') k' t)
theorem r_cell {g t ro x us kp} {B n k w f : Nat} {τ : en_M} (hA : AV B (g, t, ro, x, us, kp)) (hM : MI τ (g, t, ro, x, us, kp)) (hB : B + n < 1000000000) (hn0 : 0 < gN g) (h197 : ∀ k p, k ≤ n → p < gN g → τ 197 (7 * k + p) = Int32.ofNat (odN g x k p)) (hn : n ≤ 12) (hk : k < n) (hw : w < 2 ^ gN g) (hkw : k = 0 → w = 0) (hT : MB g x n τ (k + 1)) (hf : 200 < f) :
    ∃ f' a b, T_X12_sleeps_81 f (Int32.ofNat n) (Int32.ofNat k) (Int32.ofNat w) (-1) 0 τ = T_X12_sleeps_67 f' (Int32.ofNat n) (Int32.ofNat k) (Int32.ofNat (w + 1)) a b (en_up τ 202 (128 * k + w) (Int32.ofNat (sbV g x (n - k) k w))) ∧ f ≤ f' + 129 := by
  have hg : GV g := hA.1
  have h128 := p2lt hg.1
  have hpos := Nat.two_pow_pos (gN g)
  have hev : O_X12_everybody [.inr (185, 12, 0, 0)] τ = some (Int32.ofNat (2 ^ gN g - 1), τ) := r_everybody hg.1 hM.1.1
  obtain ⟨q', e1, e2⟩ := pl_to (F := fun f i (q : Int32) => T_X12_sleeps_81 f (Int32.ofNat n) (Int32.ofNat k) (Int32.ofNat w) q (Int32.ofNat i) τ) (P := fun i q => i = 0 ∧ q = -1 ∨ 0 < i ∧ q = Int32.ofNat (mxL (fun t => lwB g x k t w) (fS g x n k) i)) (N := 2 ^ gN g) (by
      intro f i q hi p1
      have hlaw := r_isLawful (k := k) (s := i) (w := w) (τ := τ) hA hM hB hn0 h197 (by omega) (by omega) hi hw
      have hfs := fS_le g x n k i
      have hmx : mxL (fun t => lwB g x k t w) (fS g x n k) i ≤ 7 + 7 * n := mxL_le (fS_le g x n k) i
      have key : T_X12_sleeps_81 (f + 1) (Int32.ofNat n) (Int32.ofNat k) (Int32.ofNat w) q (Int32.ofNat i) τ = (if lwB g x k i w = true then T_X12_sleeps_81 f (Int32.ofNat n) (Int32.ofNat k) (Int32.ofNat w) (if q < Int32.ofNat (fS g x n k i) then Int32.ofNat (fS g x n k i) else q) (Int32.ofNat (i + 1)) τ else T_X12_sleeps_81 f (Int32.ofNat n) (Int32.ofNat k) (Int32.ofNat w) q (Int32.ofNat (i + 1)) τ) := by
        have inner : (O_X12_isLawful [.inr (185, 12, 0, 0), .inl (Int32.ofNat k), .inl (Int32.ofNat i), .inl (Int32.ofNat w)] τ).bind (fun r8 => if r8.1 = 0 then (T_X12_sleeps_81 f (Int32.ofNat n) (Int32.ofNat k) (Int32.ofNat w) q (Int32.ofNat i + (1 : Int32)) r8.2) else ((O_J6_bitCount_0f7a4 [.inl (Int32.ofNat i)] r8.2).bind fun r9 => (en_ix ((en_shl (Int32.ofNat k + (1 : Int32)) (7 : Int32)) + Int32.ofNat i) 1664).bind fun j10 => (O_J9_max_7cf53 [.inl q, .inl (r9.1 + (r9.2 202 j10))] r9.2).bind fun r11 => T_X12_sleeps_81 f (Int32.ofNat n) (Int32.ofNat k) (Int32.ofNat w) r11.1 (Int32.ofNat i + (1 : Int32)) r11.2)) = (if lwB g x k i w = true then T_X12_sleeps_81 f (Int32.ofNat n) (Int32.ofNat k) (Int32.ofNat w) (if q < Int32.ofNat (fS g x n k i) then Int32.ofNat (fS g x n k i) else q) (Int32.ofNat (i + 1)) τ else T_X12_sleeps_81 f (Int32.ofNat n) (Int32.ofNat k) (Int32.ofNat w) q (Int32.ofNat (i + 1)) τ) := by
          rw [hlaw, Option.bind_some]
          dsimp only
          rw [pi_if (pb2_0 (lwB g x k i w = true)), pn_a1, pn_a1]
          by_cases c : lwB g x k i w = true
          · rw [if_neg (fun z => z c), if_pos c, q_bitCount, Option.bind_some, sh7, pn_ix (show 128 * (k + 1) + i < 1664 by omega) (by omega), Option.bind_some]
            dsimp only
            rw [hT (k + 1) (by omega) (by omega) i hi (by omega), pbc_n (by omega), pn_add, q_max, Option.bind_some]; rfl
          · rw [if_pos c, if_neg c]
        rw [t_X12_sleeps_81, hev, Option.bind_some]
        dsimp only
        rw [if_neg (show ¬ Int32.ofNat (2 ^ gN g - 1) < Int32.ofNat i by rw [pn_lt (by omega) (by omega)]; omega)]
        by_cases c0 : 0 < k
        · rw [if_pos (show (0 : Int32) < Int32.ofNat k from (pn_lt (a := 0) (by omega) (by omega)).mpr c0)]
          exact inner
        · rw [if_neg (show ¬ (0 : Int32) < Int32.ofNat k from fun z => c0 ((pn_lt (a := 0) (by omega) (by omega)).mp z)), if_pos (show Int32.ofNat w = 0 by rw [hkw (by omega)]; rfl)]
          exact inner
      show ∃ s', T_X12_sleeps_81 (f + 1) (Int32.ofNat n) (Int32.ofNat k) (Int32.ofNat w) q (Int32.ofNat i) τ = _ ∧ _
      rw [key]
      by_cases c : lwB g x k i w = true
      · rw [if_pos c]
        refine ⟨_, rfl, Or.inr ⟨by omega, ?_⟩⟩
        rcases p1 with ⟨rfl, rfl⟩ | ⟨h1, rfl⟩
        · rw [if_pos (show (-1 : Int32) < Int32.ofNat (fS g x n k 0) from Int32.lt_of_lt_of_le (by decide) (pn_0le (by omega)))]
          refine congrArg Int32.ofNat ?_
          show _ = if lwB g x k 0 w = true ∧ 0 < fS g x n k 0 then fS g x n k 0 else 0
          by_cases c2 : 0 < fS g x n k 0
          · rw [if_pos ⟨c, c2⟩]
          · rw [if_neg (fun z => c2 z.2)]; omega
        · rw [pi_if (pn_lt (show mxL (fun t => lwB g x k t w) (fS g x n k) i < 2147483648 by omega) (show fS g x n k i < 2147483648 by omega))]
          by_cases c2 : mxL (fun t => lwB g x k t w) (fS g x n k) i < fS g x n k i
          · rw [if_pos c2]
            exact congrArg Int32.ofNat (if_pos ⟨c, c2⟩ : mxL (fun t => lwB g x k t w) (fS g x n k) (i + 1) = _).symm
          · rw [if_neg c2]
            exact congrArg Int32.ofNat (if_neg (fun z => c2 z.2) : mxL (fun t => lwB g x k t w) (fS g x n k) (i + 1) = _).symm
      · rw [if_neg c]
        rcases p1 with ⟨rfl, rfl⟩ | ⟨h1, rfl⟩
        · exact absurd (lw_0 hg) c
        · exact ⟨_, rfl, Or.inr ⟨by omega, congrArg Int32.ofNat (if_neg (fun z => c z.1) : mxL (fun t => lwB g x k t w) (fS g x n k) (i + 1) = _).symm⟩⟩) (2 ^ gN g) 0 f (-1) (by omega) (by omega) (Or.inl ⟨rfl, rfl⟩)
  have e1 : T_X12_sleeps_81 f (Int32.ofNat n) (Int32.ofNat k) (Int32.ofNat w) (-1) 0 τ = T_X12_sleeps_81 (f - 2 ^ gN g) (Int32.ofNat n) (Int32.ofNat k) (Int32.ofNat w) q' (Int32.ofNat (2 ^ gN g)) τ := e1
  have e2 : q' = Int32.ofNat (sbV g x (n - k) k w) := by
    rcases e2 with ⟨h, -⟩ | ⟨-, h⟩
    · omega
    · rw [sb_fS hk]; exact h
  obtain ⟨f2, hf2⟩ : ∃ j, f - 2 ^ gN g = j + 1 := ⟨f - 2 ^ gN g - 1, by omega⟩
  refine ⟨f2, .inl q', .inl (Int32.ofNat (2 ^ gN g)), ?_, by omega⟩
  rw [e1, hf2, t_X12_sleeps_81, hev, Option.bind_some]
  dsimp only
  rw [if_pos (show Int32.ofNat (2 ^ gN g - 1) < Int32.ofNat (2 ^ gN g) from (pn_lt (by omega) (by omega)).mpr (by omega)), sh7, pn_ix (show 128 * k + w < 1664 by omega) (by omega), Option.bind_some, pn_a1, e2]
