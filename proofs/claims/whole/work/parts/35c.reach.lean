/-! naps: what can be reached, what leads on -/
def RE (g : pG) (x : pS) (s : Nat) : Nat → Nat → Nat → Prop
  | 0, c, w => c = 0 ∧ w = 0
  | k + 1, c', t => ∃ c w, w < 2 ^ gN g ∧ RE g x s k c w ∧ t < 2 ^ gN g ∧ lwB g x k t w = true ∧ nwC s c t 5 = c'
def LE (g : pG) (x : pS) (s F : Nat) : Nat → Nat → Nat → Nat → Prop
  | 0, _, c, _ => c = F
  | j + 1, k, c, w => ∃ t, t < 2 ^ gN g ∧ lwB g x k t w = true ∧ LE g x s F j (k + 1) (nwC s c t 5) t
theorem RE_lt {g : pG} {x : pS} {s : Nat} : ∀ {k c w : Nat}, RE g x s k c w → w < 2 ^ gN g
  | 0, _, _, h => by rw [h.2]; exact Nat.two_pow_pos _
  | _ + 1, _, _, h => by obtain ⟨_, _, _, _, h, _⟩ := h; exact h
theorem RE_l1 {g : pG} {x : pS} {s k c w : Nat} (h : RE g x s (k + 1) c w) : l1B g x k w = true := by
  obtain ⟨_, _, _, _, _, h, _⟩ := h
  exact l1_of h
theorem RE_e {g : pG} {x : pS} {s : Nat} (hs : s = 1 ∨ s = 2) (hn : gN g ≤ 5) : ∀ {k c w : Nat}, RE g x s k c w → ∃ v, v < 243 ∧ c = eNM v
  | 0, _, _, h => ⟨0, by omega, by rw [h.1]; rfl⟩
  | _ + 1, _, _, h => by
    obtain ⟨c, w, _, h1, h2, _, h3⟩ := h
    obtain ⟨v, hv, rfl⟩ := RE_e hs hn h1
    have := nw_e (t := _) hs hv (Nat.lt_of_lt_of_le h2 (Nat.pow_le_pow_right (n := 2) (by decide) hn))
    exact ⟨_, this.2, by rw [← h3, this.1]⟩
theorem RE_nw {g : pG} {x : pS} {s k c w t : Nat} (hs : s = 1 ∨ s = 2) (hn : gN g ≤ 5) (h : RE g x s k c w) (ht : t < 2 ^ gN g) : nwC s c t 5 < 1024 ∧ c < 1024 := by
  obtain ⟨v, hv, rfl⟩ := RE_e hs hn h
  have := nw_e hs hv (Nat.lt_of_lt_of_le ht (Nat.pow_le_pow_right (n := 2) (by decide) hn))
  rw [this.1]
  exact ⟨eNM_lt this.2, eNM_lt hv⟩
theorem RE_go {g : pG} {x : pS} {s k c w t : Nat} (h : RE g x s k c w) (ht : t < 2 ^ gN g) (hl : lwB g x k t w = true) : RE g x s (k + 1) (nwC s c t 5) t := ⟨c, w, RE_lt h, h, ht, hl, rfl⟩
theorem LE_go {g : pG} {x : pS} {s F : Nat} : ∀ {k j c w : Nat}, RE g x s k c w → LE g x s F j k c w → LE g x s F (k + j) 0 0 0
  | 0, j, c, w, h, hl => by obtain ⟨rfl, rfl⟩ := h; rw [Nat.zero_add]; exact hl
  | k + 1, j, c', t, h, hl => by
    obtain ⟨c, w, h1, h2, h3, h4, h5⟩ := h
    have := LE_go h2 (show LE g x s F (j + 1) k c w from ⟨t, h3, h4, by rw [h5]; exact hl⟩)
    rw [show k + 1 + j = k + (j + 1) by omega]; exact this
theorem ex_least {P : Nat → Prop} : ∀ t, P t → ∃ u, P u ∧ ∀ v, v < u → ¬ P v := by
  intro t
  induction t using Nat.strongRecOn with
  | ind t ih =>
    intro h
    by_cases c : ∃ v, v < t ∧ P v
    · obtain ⟨v, hv, hp⟩ := c
      exact ih v hv hp
    · exact ⟨t, h, fun v hv hp => c ⟨v, hv, hp⟩⟩
noncomputable def ltP (P : Nat → Prop) : Nat := Classical.epsilon (fun u => P u ∧ ∀ v, v < u → ¬ P v)
theorem ltP_ok {P : Nat → Prop} (h : ∃ t, P t) : P (ltP P) ∧ ∀ v, v < ltP P → ¬ P v := by
  obtain ⟨t, ht⟩ := h
  exact Classical.epsilon_spec (p := fun u => P u ∧ ∀ v, v < u → ¬ P v) (ex_least t ht)
/-- a set for round k with which it can still go well -/
def GO (g : pG) (x : pS) (s F m k c w t : Nat) : Prop := t < 2 ^ gN g ∧ lwB g x k t w = true ∧ RE g x s (k + 1) (nwC s c t 5) t ∧ LE g x s F (m - (k + 1)) (k + 1) (nwC s c t 5) t
noncomputable def wkN (g : pG) (x : pS) (s F m : Nat) : Nat → Nat × Nat
  | 0 => (0, 0)
  | k + 1 => (nwC s (wkN g x s F m k).1 (ltP (GO g x s F m k (wkN g x s F m k).1 (wkN g x s F m k).2)) 5, ltP (GO g x s F m k (wkN g x s F m k).1 (wkN g x s F m k).2))
theorem wkN_ok {g : pG} {x : pS} {s F m w : Nat} (h : RE g x s m F w) : ∀ k, k ≤ m → RE g x s k (wkN g x s F m k).1 (wkN g x s F m k).2 ∧ LE g x s F (m - k) k (wkN g x s F m k).1 (wkN g x s F m k).2 ∧ (k < m → GO g x s F m k (wkN g x s F m k).1 (wkN g x s F m k).2 (wkN g x s F m (k + 1)).2 ∧ ∀ v, v < (wkN g x s F m (k + 1)).2 → ¬ GO g x s F m k (wkN g x s F m k).1 (wkN g x s F m k).2 v) := by
  have ex : ∀ k c w, k < m → RE g x s k c w → LE g x s F (m - k) k c w → ∃ t, GO g x s F m k c w t := fun k c w hk h1 h2 => by
    rw [show m - k = (m - (k + 1)) + 1 by omega] at h2
    obtain ⟨t, ht, hl, h3⟩ := h2
    exact ⟨t, ht, hl, RE_go h1 ht hl, h3⟩
  intro k
  induction k with
  | zero =>
    intro _
    have h0 : LE g x s F m 0 0 0 := LE_go h (show LE g x s F 0 m F w from rfl)
    refine ⟨⟨rfl, rfl⟩, h0, fun hm => ?_⟩
    exact ltP_ok (ex 0 0 0 hm ⟨rfl, rfl⟩ h0)
  | succ k ih =>
    intro hk
    obtain ⟨-, -, i3⟩ := ih (by omega)
    obtain ⟨⟨g1, g2, g3, g4⟩, -⟩ := i3 (by omega)
    refine ⟨g3, g4, fun hm => ?_⟩
    exact ltP_ok (ex (k + 1) _ _ hm g3 g4)
/-- the class's tables: what may have been latest; behind which a set may miss -/
def CL (g : pG) (x : pS) (s : Nat) (σ : en_M) (k : Nat) : Prop := ∀ c, c < 1024 → BS (σ (145 + 1 + k) c) (fun w => RE g x s k c w)
def BF (g : pG) (x : pS) (σ : en_M) (k : Nat) : Prop := ∀ t, t < 2 ^ gN g → l1B g x k t = true → BS (σ (159 + 1 + k) t) (fun w => w < 2 ^ gN g ∧ l1B g x (k - 1) w = true ∧ lwB g x k t w = true)
theorem ww_pos {x : pS} {k w : Nat} (hk : 0 < k) : wwP x k w = w := if_neg (by omega)
theorem wh_pos {g : pG} {x : pS} {k w : Nat} (hk : 0 < k) : whP g x k w = plN (odN g x (k - 1)) w (gN g) := if_neg (by omega)
theorem q_setsBefore {g : pG} {x : pS} {k t B : Nat} {σ : en_M} (hg : GV g) (hn5 : gN g ≤ 5) (hv : VS (gN g) B x) (hP1 : PP g x σ (k - 1)) (hP : PP g x σ k) (hk : k < 12) (hk0 : 0 < k) (ht : t < 2 ^ gN g) (hl : l1B g x k t = true) :
    ∃ v, O_X5_setsBefore [.inr (103, 5, 0, 0), .inl (Int32.ofNat k), .inl (Int32.ofNat t)] σ = some (v, σ) ∧ BS v (fun w => w < 2 ^ gN g ∧ l1B g x (k - 1) w = true ∧ lwB g x k t w = true) := by
  have h32 : 2 ^ gN g ≤ 32 := Nat.pow_le_pow_right (n := 2) (by decide) hn5
  have hFU := en_FU_ge
  have hcN := cnB_le (l1B g x (k - 1)) (2 ^ gN g)
  have hk1 : Int32.ofNat k - (1 : Int32) = Int32.ofNat (k - 1) := pn_sub (b := 1) (by omega)
  have i1 : en_ix (Int32.ofNat (k - 1)) 12 = some (k - 1) := pn_ix (by omega) (by omega)
  rw [o_X5_setsBefore, t_X5_setsBefore_0]
  refine pl_en (F := fun f j (q : Int32 × en_V) => T_X5_setsBefore_5 f (Int32.ofNat k) (Int32.ofNat t) q.1 (Int32.ofNat j) q.2 σ) (I := fun i q => BS q.1 (fun w => w < i ∧ l1B g x (k - 1) w = true ∧ lwB g x k t w = true)) (Q := fun r => ∃ v, en_oi r = some (v, σ) ∧ BS v (fun w => w < 2 ^ gN g ∧ l1B g x (k - 1) w = true ∧ lwB g x k t w = true)) (P := l1B g x (k - 1)) (N := 2 ^ gN g) (C := 0) ?_ ?_ ?_ (2 ^ gN g) 0 en_FU (0, en_un) (by omega) (by omega) (BS_0 (fun i _ q => absurd q.1 (by omega)))
  · rintro f i ⟨x3, u⟩ hi hli p1
    have p1 : BS x3 _ := p1
    have hci := cnB_lt hli hi
    have hmf := q_mayFollow (t := t) (w := i) hg hv hP hk ht hl hi
    rw [ww_pos hk0, wh_pos hk0] at hmf
    left
    show ∃ q' : Int32 × en_V, T_X5_setsBefore_5 (f + 1) _ _ x3 _ u σ = _ ∧ _
    rw [t_X5_setsBefore_5, hk1, i1, Option.bind_some, hP1.1, if_pos ((pn_lt (by omega) (by omega)).mpr hci), Option.bind_some, pn_ix (show cnB (l1B g x (k - 1)) i < 128 by omega) (by omega), Option.bind_some, Option.bind_some, (hP1.2 i hi hli).1, pn_ix (show i < 128 by omega) (by omega), Option.bind_some, (hP1.2 i hi hli).2, hmf, Option.bind_some]
    dsimp only
    rw [pi_if (pb2_0 (lwB g x k t i = true)), pn_a1]
    by_cases c : lwB g x k t i = true
    · rw [if_neg (fun z => z c)]
      refine ⟨(x3 ||| en_shl 1 (Int32.ofNat i), .inl (Int32.ofNat i)), rfl, BS_of (BS_or p1 (BS_1 (show i < 32 by omega))) (fun w hw => ?_)⟩
      constructor
      · rintro (⟨a, b, d⟩ | rfl)
        · exact ⟨by omega, b, d⟩
        · exact ⟨by omega, hli, c⟩
      · rintro ⟨a, b, d⟩
        by_cases e : w = i
        · exact Or.inr e
        · exact Or.inl ⟨by omega, b, d⟩
    · rw [if_pos c]
      refine ⟨(x3 ||| 0, .inl (Int32.ofNat i)), rfl, ?_⟩
      show BS (x3 ||| 0) _
      rw [Int32.or_zero]
      refine BS_of p1 (fun w hw => ⟨fun ⟨a, b, d⟩ => ⟨by omega, b, d⟩, fun ⟨a, b, d⟩ => ⟨?_, b, d⟩⟩)
      have : w ≠ i := fun e => c (by rw [← e]; exact d)
      omega
  · rintro i ⟨x3, u⟩ hi hli p1
    refine BS_of p1 (fun w hw => ⟨fun ⟨a, b, d⟩ => ⟨by omega, b, d⟩, fun ⟨a, b, d⟩ => ⟨?_, b, d⟩⟩)
    have : w ≠ i := fun e => by rw [e, hli] at b; exact absurd b (by decide)
    omega
  · rintro f ⟨x3, u⟩ - p1
    show ∃ v, en_oi (T_X5_setsBefore_5 (f + 1) _ _ x3 _ u σ) = _ ∧ _
    rw [t_X5_setsBefore_5, hk1, i1, Option.bind_some, hP1.1, if_neg (by rw [pn_lt (by omega) (by omega)]; omega)]
    exact ⟨x3, rfl, p1⟩
