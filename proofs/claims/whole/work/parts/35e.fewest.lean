/-! naps: the class narrows, tells, answers -/
def CN (g : pG) (x : pS) (s F m : Nat) (σ : en_M) (k : Nat) : Prop := ∀ c, c < 1024 → BS (σ (145 + 1 + k) c) (fun w => RE g x s k c w ∧ LE g x s F (m - k) k c w)
theorem q_leadsOn {k c t s : Nat} {p : Nat → Prop} {σ : en_M} (hs : s = 1 ∨ s = 2) (hk : k < 12) (hc : c < 1024) (ht : t < 32) (hn : nwC s c t 5 < 1024) (h6 : σ 103 6 = Int32.ofNat s) (hT : BS (σ (145 + 1 + (k + 1)) (nwC s c t 5)) p) :
    (p t → O_X5_leadsOn [.inr (103, 5, 0, 0), .inl (Int32.ofNat k), .inl (Int32.ofNat c), .inl (Int32.ofNat t)] σ = some (1, σ)) ∧ (¬ p t → O_X5_leadsOn [.inr (103, 5, 0, 0), .inl (Int32.ofNat k), .inl (Int32.ofNat c), .inl (Int32.ofNat t)] σ = some (0, σ)) := by
  rw [o_X5_leadsOn, t_X5_leadsOn_0, pn_a1, pn_ix (show k + 1 < 13 by omega) (by omega), Option.bind_some, q_napsWith (by omega) hc ht h6, Option.bind_some]
  dsimp only
  rw [pn_ix hn (by omega), Option.bind_some, q_bit, Option.bind_some]
  dsimp only
  rw [if_pos (show (1 : Int32) = 0 ∨ (1 : Int32) = 1 from Or.inr rfl), if_pos (show (0 : Int32) = 0 ∨ (0 : Int32) = 1 from Or.inl rfl)]
  have hb := BS_b hT ht
  constructor
  · intro h
    rw [if_pos ((iff_of_eq hb).mpr h)]; rfl
  · intro h
    rw [if_neg (fun z => h ((iff_of_eq hb).mp z))]; rfl
theorem q_leadingOn {g : pG} {x : pS} {k c s F m : Nat} {σ : en_M} (hn5 : gN g ≤ 5) (hs : s = 1 ∨ s = 2) (hk : k < 12) (hk0 : 0 < k) (hc : c < 1024) (hnw : ∀ t, t < 2 ^ gN g → nwC s c t 5 < 1024) (hP : PP g x σ k) (h6 : σ 103 6 = Int32.ofNat s) (hF : BF g x σ k) (hN : CN g x s F m σ (k + 1)) :
    ∃ v, O_X5_leadingOn [.inr (103, 5, 0, 0), .inl (Int32.ofNat k), .inl (Int32.ofNat c)] σ = some (v, σ) ∧ BS v (fun w => ∃ t, t < 2 ^ gN g ∧ l1B g x k t = true ∧ (RE g x s (k + 1) (nwC s c t 5) t ∧ LE g x s F (m - (k + 1)) (k + 1) (nwC s c t 5) t) ∧ w < 2 ^ gN g ∧ l1B g x (k - 1) w = true ∧ lwB g x k t w = true) := by
  have h32 : 2 ^ gN g ≤ 32 := Nat.pow_le_pow_right (n := 2) (by decide) hn5
  have hFU := en_FU_ge
  have hcN := cnB_le (l1B g x k) (2 ^ gN g)
  rw [o_X5_leadingOn, t_X5_leadingOn_0]
  refine pl_en (F := fun f j (q : Int32 × en_V) => T_X5_leadingOn_5 f (Int32.ofNat k) (Int32.ofNat c) q.1 (Int32.ofNat j) q.2 σ) (I := fun i q => BS q.1 (fun w => ∃ t, t < i ∧ l1B g x k t = true ∧ (RE g x s (k + 1) (nwC s c t 5) t ∧ LE g x s F (m - (k + 1)) (k + 1) (nwC s c t 5) t) ∧ w < 2 ^ gN g ∧ l1B g x (k - 1) w = true ∧ lwB g x k t w = true))
    (Q := fun r => ∃ v, en_oi r = some (v, σ) ∧ BS v (fun w => ∃ t, t < 2 ^ gN g ∧ l1B g x k t = true ∧ (RE g x s (k + 1) (nwC s c t 5) t ∧ LE g x s F (m - (k + 1)) (k + 1) (nwC s c t 5) t) ∧ w < 2 ^ gN g ∧ l1B g x (k - 1) w = true ∧ lwB g x k t w = true)) (P := l1B g x k) (N := 2 ^ gN g) (C := 0) ?_ ?_ ?_ (2 ^ gN g) 0 en_FU (0, en_un) (by omega) (by omega) (BS_0 (fun i _ ⟨t, h, _⟩ => absurd h (by omega)))
  · rintro f j ⟨x3, u⟩ hj hl p1
    have p1 : BS x3 _ := p1
    have hci := cnB_lt hl hj
    obtain ⟨ly, ln⟩ := q_leadsOn (k := k) (c := c) (t := j) (σ := σ) hs hk hc (by omega) (hnw j hj) h6 (hN _ (hnw j hj))
    left
    show ∃ q' : Int32 × en_V, T_X5_leadingOn_5 (f + 1) _ _ x3 (Int32.ofNat (cnB (l1B g x k) j)) u σ = _ ∧ _
    rw [t_X5_leadingOn_5, pn_ix (show k < 12 by omega) (by omega), Option.bind_some, hP.1, if_pos ((pn_lt (by omega) (by omega)).mpr hci), Option.bind_some, pn_ix (show cnB (l1B g x k) j < 128 by omega) (by omega), Option.bind_some, (hP.2 j hj hl).1, pn_a1]
    by_cases cp : RE g x s (k + 1) (nwC s c j 5) j ∧ LE g x s F (m - (k + 1)) (k + 1) (nwC s c j 5) j
    · rw [ly cp, Option.bind_some]
      dsimp only
      rw [if_neg (show ¬ (1 : Int32) = 0 by decide), Option.bind_some, pn_ix (show j < 32 by omega) (by omega), Option.bind_some]
      refine ⟨(x3 ||| σ (159 + 1 + k) j, .inl (Int32.ofNat j)), rfl, BS_of (BS_or p1 (hF j hj hl)) (fun w hw => ?_)⟩
      constructor
      · rintro (⟨t, a, b⟩ | a)
        · exact ⟨t, by omega, b⟩
        · exact ⟨j, by omega, hl, cp, a⟩
      · rintro ⟨t, a, b, d, e⟩
        by_cases e2 : t = j
        · rw [e2] at e; exact Or.inr e
        · exact Or.inl ⟨t, by omega, b, d, e⟩
    · rw [ln cp, Option.bind_some]
      dsimp only
      rw [if_pos (show (0 : Int32) = 0 from rfl)]
      refine ⟨(x3 ||| 0, .inl (Int32.ofNat j)), rfl, ?_⟩
      show BS (x3 ||| 0) _
      rw [Int32.or_zero]
      refine BS_of p1 (fun w hw => ⟨fun ⟨t, a, b⟩ => ⟨t, by omega, b⟩, fun ⟨t, a, b, d, e⟩ => ⟨t, ?_, b, d, e⟩⟩)
      have : t ≠ j := fun e2 => cp (by rw [e2] at d; exact d)
      omega
  · rintro j ⟨x3, u⟩ hj hl p1
    refine BS_of p1 (fun w hw => ⟨fun ⟨t, a, b⟩ => ⟨t, by omega, b⟩, fun ⟨t, a, b, d⟩ => ⟨t, ?_, b, d⟩⟩)
    have : t ≠ j := fun e => by rw [e, hl] at b; exact absurd b (by decide)
    omega
  · rintro f ⟨x3, u⟩ - p1
    show ∃ v, en_oi (T_X5_leadingOn_5 (f + 1) _ _ x3 _ u σ) = _ ∧ _
    rw [t_X5_leadingOn_5, pn_ix (show k < 12 by omega) (by omega), Option.bind_some, hP.1, if_neg (by rw [pn_lt (by omega) (by omega)]; omega)]
    exact ⟨x3, rfl, p1⟩
theorem q_narrow {g : pG} {x : pS} {s F m : Nat} {σ : en_M} (hn5 : gN g ≤ 5) (hs : s = 1 ∨ s = 2) (hm : m ≤ 12) (hm1 : 1 ≤ m) (hF1 : F < 1024) (hP : ∀ k, k < m → PP g x σ k) (h6 : σ 103 6 = Int32.ofNat s) (hF : ∀ k, 1 ≤ k → k < m → BF g x σ k) (hL : ∀ k, 1 ≤ k → k ≤ m → CL g x s σ k) :
    ∃ σ', O_X5_narrow [.inr (103, 5, 0, 0), .inl (Int32.ofNat m), .inl (Int32.ofNat F)] σ = some σ' ∧ (∀ k, 1 ≤ k → k ≤ m → CN g x s F m σ' k) ∧ ∀ a, a < 146 ∨ 159 ≤ a → σ' a = σ a := by
  have h32 : 2 ^ gN g ≤ 32 := Nat.pow_le_pow_right (n := 2) (by decide) hn5
  have hFU := en_FU_ge
  rw [o_X5_narrow, t_X5_narrow_0]
  obtain ⟨q1, e1, a1, a2⟩ := pl_to (F := fun f i (q : en_M) => T_X5_narrow_2 f (Int32.ofNat m) (Int32.ofNat F) (Int32.ofNat i) q) (P := fun i q => (∀ c, c < 1024 → BS (q (145 + 1 + m) c) (fun w => RE g x s m c w ∧ (c < i → c = F))) ∧ ∀ a, a ≠ 145 + 1 + m → q a = σ a) (N := 1024) (by
    rintro f i q hi ⟨o1, o2⟩
    show ∃ q', T_X5_narrow_2 (f + 1) _ _ (Int32.ofNat i) q = _ ∧ _
    rw [t_X5_narrow_2, if_pos (show Int32.ofNat i < (1024 : Int32) from (pn_lt (b := 1024) (by omega) (by omega)).mpr hi), pn_ix (show m < 13 by omega) (by omega), Option.bind_some, pi_if (pn_eq (show i < 2147483648 by omega) (show F < 2147483648 by omega)), Option.bind_some, pn_ix hi (by omega), Option.bind_some, Option.bind_some, pn_a1]
    by_cases c : i = F
    · rw [if_pos c]
      refine ⟨_, rfl, fun c' hc' => ?_, fun a ha => by rw [pu_row ha]; exact o2 a ha⟩
      have hsame : en_up q (145 + 1 + m) i (q (145 + 1 + m) i) (145 + 1 + m) c' = q (145 + 1 + m) c' := by
        by_cases e : c' = i
        · rw [e, pu_same]
        · rw [pu_slot e]
      rw [hsame]
      refine BS_of (o1 c' hc') (fun w hw => ⟨fun ⟨a, b⟩ => ⟨a, fun z => ?_⟩, fun ⟨a, b⟩ => ⟨a, fun z => b (by omega)⟩⟩)
      by_cases e : c' = i
      · omega
      · exact b (by omega)
    · rw [if_neg c]
      refine ⟨en_up q (145 + 1 + m) i 0, rfl, fun c' hc' => ?_, fun a ha => by rw [pu_row ha]; exact o2 a ha⟩
      by_cases e : c' = i
      · rw [e, pu_same q (145 + 1 + m) i 0]
        exact BS_0 (fun w _ ⟨a, b⟩ => c (b (by omega)))
      · rw [pu_slot e]
        exact BS_of (o1 c' hc') (fun w hw => ⟨fun ⟨a, b⟩ => ⟨a, fun z => b (by omega)⟩, fun ⟨a, b⟩ => ⟨a, fun z => b (by omega)⟩⟩)) 1024 0 en_FU σ (by omega) (by omega) ⟨fun c hc => BS_of (hL m hm1 (Nat.le_refl _) c hc) (fun w hw => ⟨fun a => ⟨a, fun z => absurd z (by omega)⟩, fun a => a.1⟩), fun _ _ => rfl⟩
  have e1 : T_X5_narrow_2 en_FU (Int32.ofNat m) (Int32.ofNat F) 0 σ = T_X5_narrow_2 (en_FU - 1024) (Int32.ofNat m) (Int32.ofNat F) (Int32.ofNat 1024) q1 := e1
  obtain ⟨f1, hf1⟩ : ∃ j, en_FU - 1024 = j + 1 := ⟨en_FU - 1024 - 1, by omega⟩
  have hCm : CN g x s F m q1 m := fun c hc => by
    refine BS_of (a1 c hc) (fun w hw => ?_)
    rw [Nat.sub_self]
    exact ⟨fun ⟨a, b⟩ => ⟨a, b hc⟩, fun ⟨a, b⟩ => ⟨a, fun _ => b⟩⟩
  rw [e1, hf1, t_X5_narrow_2, if_neg (show ¬ Int32.ofNat 1024 < (1024 : Int32) by decide), show Int32.ofNat m - (1 : Int32) = Int32.ofNat (m - 1) from pn_sub (b := 1) (by omega)]
  refine pl_for (F := fun f i (q : en_V × en_M) => T_X5_narrow_44 f (Int32.ofNat m) (Int32.ofNat F) (Int32.ofNat (m - 1 - i)) q.1 q.2) (P := fun i q => (∀ k, m - i ≤ k → k ≤ m → CN g x s F m q.2 k) ∧ (∀ k, 1 ≤ k → k < m - i → CL g x s q.2 k) ∧ ∀ a, a < 146 ∨ 159 ≤ a → q.2 a = σ a)
    (Q := fun r => ∃ σ', en_ov r = some σ' ∧ (∀ k, 1 ≤ k → k ≤ m → CN g x s F m σ' k) ∧ ∀ a, a < 146 ∨ 159 ≤ a → σ' a = σ a) (N := m - 1) (C := 1030) (C0 := 10) ?_ ?_ (m - 1) 0 f1 (en_un, q1) (by omega) (by omega) ⟨fun k h1 h2 => by rw [show k = m by omega]; exact hCm, fun k h1 h2 c hc => by
      show BS (q1 (145 + 1 + k) c) _
      rw [a2 _ (by omega)]; exact hL k h1 (by omega) c hc, fun a ha => a2 a (by omega)⟩
  · rintro f i ⟨u, q⟩ hi hf ⟨o1, o2, o3⟩
    have o1 : ∀ k, m - i ≤ k → k ≤ m → CN g x s F m q k := o1
    have o2 : ∀ k, 1 ≤ k → k < m - i → CL g x s q k := o2
    have o3 : ∀ a, a < 146 ∨ 159 ≤ a → q a = σ a := o3
    obtain ⟨f, rfl⟩ : ∃ j, f = j + 1 := ⟨f - 1, by omega⟩
    obtain ⟨k, hk⟩ : ∃ k, k = m - 1 - i := ⟨_, rfl⟩
    have hN : CN g x s F m q (k + 1) := o1 (k + 1) (by omega) (by omega)
    have hLk : CL g x s q k := o2 k (by omega) (by omega)
    obtain ⟨q2, e2, b1, b2⟩ := pl_to (F := fun f c (q' : en_M) => T_X5_narrow_52 f (Int32.ofNat m) (Int32.ofNat F) (Int32.ofNat k) (Int32.ofNat c) q') (P := fun i q' => (∀ c, c < 1024 → BS (q' (145 + 1 + k) c) (fun w => RE g x s k c w ∧ (c < i → LE g x s F (m - k) k c w))) ∧ ∀ a, a ≠ 145 + 1 + k → q' a = q a) (N := 1024) (by
      rintro f c q' hc ⟨z1, z2⟩
      have hPk : PP g x q' k := (hP k (by omega)).fr (by omega) (fun a _ _ => by rw [z2 a (by omega), o3 a (by omega)])
      have hFk : BF g x q' k := fun t ht hl => by rw [z2 _ (by omega), o3 _ (by omega)]; exact hF k (by omega) (by omega) t ht hl
      have hNk : CN g x s F m q' (k + 1) := fun c hc => by rw [z2 _ (by omega)]; exact hN c hc
      have hzz := BS_z (z1 c hc)
      show ∃ q'', T_X5_narrow_52 (f + 1) _ _ _ (Int32.ofNat c) q' = _ ∧ _
      rw [t_X5_narrow_52, if_pos (show Int32.ofNat c < (1024 : Int32) from (pn_lt (b := 1024) (by omega) (by omega)).mpr hc), pn_ix (show k < 13 by omega) (by omega), Option.bind_some, pn_ix hc (by omega), Option.bind_some, Option.bind_some, Option.bind_some, pn_a1]
      by_cases cz0 : q' (145 + 1 + k) c = 0
      · rw [if_pos cz0]
        have cz := (iff_of_eq hzz).mp cz0
        refine ⟨q', rfl, fun c' hc' => BS_of (z1 c' hc') (fun w hw => ⟨fun ⟨a, b⟩ => ⟨a, fun z => ?_⟩, fun ⟨a, b⟩ => ⟨a, fun z => b (by omega)⟩⟩), z2⟩
        by_cases e : c' = c
        · subst e
          exact absurd ⟨a, b⟩ (cz w hw)
        · exact b (by omega)
      · rw [if_neg cz0]
        have hex : ∃ w, RE g x s k c w := Classical.byContradiction fun h => cz0 ((iff_of_eq hzz).mpr fun i hi hh => h ⟨i, hh.1⟩)
        obtain ⟨w0, hw0⟩ := hex
        obtain ⟨v, l1, l2⟩ := q_leadingOn hn5 hs (show k < 12 by omega) (by omega) hc (fun t ht => (RE_nw hs hn5 hw0 ht).1) hPk (by rw [z2 103 (by omega), o3 103 (by omega)]; exact h6) hFk hNk
        rw [l1, Option.bind_some, Option.bind_some]
        dsimp only
        refine ⟨_, rfl, fun c' hc' => ?_, fun a ha => by rw [pu_row ha]; exact z2 a ha⟩
        by_cases e : c' = c
        · rw [e, pu_same]
          refine BS_of (BS_and (z1 c hc) l2) (fun w hw => ?_)
          obtain ⟨k', hk'⟩ : ∃ k', k = k' + 1 := ⟨k - 1, by omega⟩
          have hmk : m - k = (m - (k + 1)) + 1 := by omega
          constructor
          · rintro ⟨⟨a, -⟩, t, t1, t2, ⟨t3, t4⟩, t5, t6, t7⟩
            refine ⟨a, fun _ => ?_⟩
            rw [hmk]
            exact ⟨t, t1, t7, t4⟩
          · rintro ⟨a, b⟩
            have b := b (by omega)
            rw [hmk] at b
            obtain ⟨t, t1, t7, t4⟩ := b
            refine ⟨⟨a, fun z => absurd z (by omega)⟩, t, t1, l1_of t7, ⟨RE_go a t1 t7, t4⟩, RE_lt a, ?_, t7⟩
            subst hk'
            exact RE_l1 a
        · rw [pu_slot e]
          exact BS_of (z1 c' hc') (fun w hw => ⟨fun ⟨a, b⟩ => ⟨a, fun z => b (by omega)⟩, fun ⟨a, b⟩ => ⟨a, fun z => b (by omega)⟩⟩)) 1024 0 f q (by omega) (by omega) ⟨fun c hc => BS_of (hLk c hc) (fun w hw => ⟨fun a => ⟨a, fun z => absurd z (by omega)⟩, fun a => a.1⟩), fun _ _ => rfl⟩
    have e2 : T_X5_narrow_52 f (Int32.ofNat m) (Int32.ofNat F) (Int32.ofNat k) 0 q = T_X5_narrow_52 (f - 1024) (Int32.ofNat m) (Int32.ofNat F) (Int32.ofNat k) (Int32.ofNat 1024) q2 := e2
    obtain ⟨f2, hf2⟩ : ∃ j, f - 1024 = j + 1 := Nat.exists_eq_succ_of_ne_zero (by omega)
    refine Or.inl ⟨f2, (.inl (Int32.ofNat 1024), q2), ?_, by omega, fun k' h1 h2 => ?_, fun k' h1 h2 c hc => ?_, fun a ha => ?_⟩
    · show T_X5_narrow_44 (f + 1) _ _ (Int32.ofNat (m - 1 - i)) u q = T_X5_narrow_44 f2 _ _ (Int32.ofNat (m - 1 - (i + 1))) _ q2
      rw [← hk, t_X5_narrow_44, if_neg (show ¬ Int32.ofNat k < (1 : Int32) from fun z => by have := (pn_lt (b := 1) (by omega) (by omega)).mp z; omega), e2, hf2, t_X5_narrow_52, if_neg (show ¬ Int32.ofNat 1024 < (1024 : Int32) by decide), pn_dec (by omega), show m - 1 - (i + 1) = k - 1 by omega]
    · show CN g x s F m q2 k'
      by_cases e : k' = k
      · subst e
        exact fun c hc => BS_of (b1 c hc) (fun w hw => ⟨fun ⟨a, b⟩ => ⟨a, b hc⟩, fun ⟨a, b⟩ => ⟨a, fun _ => b⟩⟩)
      · intro c hc
        rw [b2 _ (by omega)]; exact o1 k' (by omega) h2 c hc
    · show BS (q2 (145 + 1 + k') c) _
      rw [b2 _ (by omega)]; exact o2 k' h1 (by omega) c hc
    · show q2 a = _
      rw [b2 a (by omega)]; exact o3 a ha
  · rintro f ⟨u, q⟩ hf ⟨o1, o2, o3⟩
    obtain ⟨f, rfl⟩ : ∃ j, f = j + 1 := ⟨f - 1, by omega⟩
    show ∃ σ', en_ov (T_X5_narrow_44 (f + 1) _ _ (Int32.ofNat (m - 1 - (m - 1))) u q) = _ ∧ _
    rw [Nat.sub_self, t_X5_narrow_44, if_pos (show Int32.ofNat 0 < (1 : Int32) by decide)]
    exact ⟨q, rfl, fun k h1 h2 => o1 k (by omega) h2, o3⟩
theorem q_nextSet {g : pG} {x : pS} {k c w t s F m B : Nat} {a b : Int32} {σ : en_M} (hg : GV g) (hn5 : gN g ≤ 5) (hv : VS (gN g) B x) (hs : s = 1 ∨ s = 2) (hk : k < 12) (hP : PP g x σ k) (h6 : σ 103 6 = Int32.ofNat s) (hN : CN g x s F m σ (k + 1)) (hR : RE g x s k c w) (ha : a = Int32.ofNat (wwP x k w)) (hb : b = Int32.ofNat (whP g x k w)) (ht : GO g x s F m k c w t) (hl : ∀ v, v < t → ¬ GO g x s F m k c w v) :
    O_X5_nextSet [.inr (103, 5, 0, 0), .inl (Int32.ofNat k), .inl (Int32.ofNat c), .inl a, .inl b] σ = some (Int32.ofNat t, σ) := by
  subst ha
  subst hb
  have h32 : 2 ^ gN g ≤ 32 := Nat.pow_le_pow_right (n := 2) (by decide) hn5
  have hFU := en_FU_ge
  have hcN := cnB_le (l1B g x k) (2 ^ gN g)
  rw [o_X5_nextSet, t_X5_nextSet_0]
  refine pl_en (F := fun f j (q : en_V) => T_X5_nextSet_3 f (Int32.ofNat k) (Int32.ofNat c) (Int32.ofNat (wwP x k w)) (Int32.ofNat (whP g x k w)) (Int32.ofNat j) q σ) (I := fun i _ => i ≤ t) (Q := fun r => en_oi r = some (Int32.ofNat t, σ)) (P := l1B g x k) (N := 2 ^ gN g) (C := 0) ?_ ?_ ?_ (2 ^ gN g) 0 en_FU en_un (by omega) (by omega) (Nat.zero_le _)
  · intro f j u hj hlj hjt
    have hci := cnB_lt hlj hj
    have hnw := RE_nw (t := j) hs hn5 hR hj
    obtain ⟨ly, ln⟩ := q_leadsOn (k := k) (c := c) (t := j) (σ := σ) hs hk hnw.2 (by omega) hnw.1 h6 (hN _ hnw.1)
    show (∃ q' : en_V, T_X5_nextSet_3 (f + 1) _ _ _ _ (Int32.ofNat (cnB (l1B g x k) j)) u σ = _ ∧ _) ∨ en_oi (T_X5_nextSet_3 (f + 1) _ _ _ _ (Int32.ofNat (cnB (l1B g x k) j)) u σ) = _
    rw [t_X5_nextSet_3, pn_ix (show k < 12 by omega) (by omega), Option.bind_some, hP.1, if_pos ((pn_lt (by omega) (by omega)).mpr hci), Option.bind_some, pn_ix (show cnB (l1B g x k) j < 128 by omega) (by omega), Option.bind_some, (hP.2 j hj hlj).1, q_mayFollow hg hv hP hk hj hlj (RE_lt hR), Option.bind_some]
    dsimp only
    rw [pi_if (pb2_0 (lwB g x k j w = true)), pn_a1]
    by_cases c1 : lwB g x k j w = true
    · rw [if_neg (fun z => z c1)]
      by_cases cp : RE g x s (k + 1) (nwC s c j 5) j ∧ LE g x s F (m - (k + 1)) (k + 1) (nwC s c j 5) j
      · rw [ly cp, Option.bind_some]
        dsimp only
        rw [if_neg (show ¬ (1 : Int32) = 0 by decide)]
        right
        have : j = t := by
          refine Nat.le_antisymm hjt (Nat.le_of_not_lt fun hlt => hl j hlt ⟨hj, c1, cp⟩)
        rw [this]; rfl
      · rw [ln cp, Option.bind_some]
        dsimp only
        rw [if_pos (show (0 : Int32) = 0 from rfl)]
        refine Or.inl ⟨.inl (Int32.ofNat j), rfl, ?_⟩
        have : j ≠ t := fun e => cp (by rw [e]; exact ht.2.2)
        show j + 1 ≤ t
        omega
    · rw [if_pos c1]
      refine Or.inl ⟨.inl (Int32.ofNat j), rfl, ?_⟩
      have : j ≠ t := fun e => c1 (by rw [e]; exact ht.2.1)
      show j + 1 ≤ t
      omega
  · intro j u hj hlj hjt
    have hjt : j ≤ t := hjt
    have : j ≠ t := fun e => by
      have := l1_of ht.2.1
      rw [← e, hlj] at this; exact absurd this (by decide)
    show j + 1 ≤ t
    omega
  · intro f u _ hjt
    have hjt : 2 ^ gN g ≤ t := hjt
    have := ht.1
    omega
theorem q_tellNaps {g t ro x us kp} {B m s F w : Nat} {σ : en_M} (hA : AV B (g, t, ro, x, us, kp)) (hC : CI σ (g, t, ro, x, us, kp)) (hn5 : gN g ≤ 5) (hs : s = 1 ∨ s = 2) (hm : m ≤ 12) (hP : ∀ k, k < m → PP g x σ k) (h6 : σ 103 6 = Int32.ofNat s) (hN : ∀ k, 1 ≤ k → k ≤ m → CN g x s F m σ k) (hw : RE g x s m F w) :
    ∃ σ', O_X5_tellNaps [.inr (103, 5, 0, 0), .inr (15, 7, 0, 0), .inl (Int32.ofNat m), .inr (3, 9, 0, 0)] σ = some σ' ∧ CI σ' (g, t, rwL (fun k => Int32.ofNat (wkN g x s F m (k + 1)).2) m, x, us, kp) ∧ FrC σ σ' := by
  have hg : GV g := hA.1
  have hv : VS (gN g) B x := hA.2.2.2.2.2.2.2.1
  have h32 : 2 ^ gN g ≤ 32 := Nat.pow_le_pow_right (n := 2) (by decide) hn5
  have hCS : CS σ 15 x := hC.2.2.2.1
  rw [o_X5_tellNaps, t_X5_tellNaps_0, q_tbegin, Option.bind_some]
  refine pl_for1 (F := fun f k (q : Int32 × Int32 × Int32 × en_V × en_M) => T_X5_tellNaps_22 f 15 (Int32.ofNat m) q.1 q.2.1 q.2.2.1 (Int32.ofNat k) q.2.2.2.1 q.2.2.2.2) (P := fun k q => q.1 = Int32.ofNat (wwP x k (wkN g x s F m k).2) ∧ q.2.1 = Int32.ofNat (whP g x k (wkN g x s F m k).2) ∧ q.2.2.1 = Int32.ofNat (wkN g x s F m k).1 ∧ CI q.2.2.2.2 (g, t, rwL (fun k => Int32.ofNat (wkN g x s F m (k + 1)).2) k, x, us, kp) ∧ ∀ c, c ≠ 3 → c ≠ 4 → q.2.2.2.2 c = σ c)
    (Q := fun r => ∃ σ', en_ov r = some σ' ∧ CI σ' (g, t, rwL (fun k => Int32.ofNat (wkN g x s F m (k + 1)).2) m, x, us, kp) ∧ FrC σ σ') (N := m) ?_ ?_ m 0 en_FU ((en_up σ 3 1 0) 15 7, (en_up σ 3 1 0) 15 8, 0, en_un, en_up σ 3 1 0) (by omega) (pl_FU (by omega)) ⟨by show (en_up σ 3 1 0) 15 7 = _; rw [pu_cell (by omega)]; exact hCS.2.2.2.1, by show (en_up σ 3 1 0) 15 8 = _; rw [pu_cell (by omega)]; exact hCS.2.2.2.2.1, rfl, CI.begin hC, fun c h1 h2 => pu_row h1⟩
  · rintro f k ⟨x4, x5, x6, u8, υ⟩ hk ⟨p1, p2, p3, p5, p6⟩
    have p1 : x4 = _ := p1
    have p2 : x5 = _ := p2
    have p3 : x6 = Int32.ofNat (wkN g x s F m k).1 := p3
    have p5 : CI υ (g, t, rwL (fun k => Int32.ofNat (wkN g x s F m (k + 1)).2) k, x, us, kp) := p5
    have p6 : ∀ c, c ≠ 3 → c ≠ 4 → υ c = σ c := p6
    obtain ⟨w1, w2, w3⟩ := wkN_ok hw k (by omega)
    obtain ⟨g1, g2⟩ := w3 hk
    have hwl : (wkN g x s F m (k + 1)).2 < 2 ^ gN g := g1.1
    have hnw := RE_nw (t := (wkN g x s F m (k + 1)).2) hs hn5 w1 g1.1
    have hnx := q_nextSet (a := x4) (b := x5) (σ := υ) hg hn5 hv hs (show k < 12 by omega) ((hP k hk).fr (by omega) (fun c _ _ => p6 c (by omega) (by omega))) (by rw [p6 103 (by omega) (by omega)]; exact h6) (fun c hc => by rw [p6 _ (by omega) (by omega)]; exact hN (k + 1) (by omega) (by omega) c hc) w1 p1 p2 g1 g2
    obtain ⟨σ', e1, e2, e3⟩ := p5.add (by rw [rwL_len]; omega) (Int32.ofNat (wkN g x s F m (k + 1)).2)
    have hmax : O_J9_max_7cf53 [.inl (0 : Int32), .inl (Int32.ofNat (wkN g x s F m (k + 1)).2)] υ = some (Int32.ofNat (wkN g x s F m (k + 1)).2, υ) := by
      have := g1.1
      rw [q_max, pi_if (pn_0lt (b := (wkN g x s F m (k + 1)).2) (by omega))]
      by_cases c : 0 < (wkN g x s F m (k + 1)).2
      · rw [if_pos c]
      · rw [if_neg c, show (wkN g x s F m (k + 1)).2 = 0 by omega]; rfl
    have hnap : O_X5_napsWith [.inr (103, 5, 0, 0), .inl (Int32.ofNat (wkN g x s F m k).1), .inl (Int32.ofNat (wkN g x s F m (k + 1)).2)] σ' = some (Int32.ofNat (wkN g x s F m (k + 1)).1, σ') := q_napsWith (by omega) hnw.2 (by have := g1.1; omega) (by rw [e3 103 (by omega) (by omega), p6 103 (by omega) (by omega)]; exact h6)
    left
    refine ⟨(Int32.ofNat (wkN g x s F m (k + 1)).2, Int32.ofNat (plN (odN g x k) (wkN g x s F m (k + 1)).2 (gN g)), Int32.ofNat (wkN g x s F m (k + 1)).1, .inl (Int32.ofNat (wkN g x s F m (k + 1)).2), σ'), ?_, ?_, ?_, rfl, e2, fun c h1 h2 => by show σ' c = _; rw [e3 c h1 h2, p6 c h1 h2]⟩
    · show T_X5_tellNaps_22 (f + 1) 15 _ x4 x5 x6 _ u8 υ = _
      rw [t_X5_tellNaps_22, if_pos ((pn_lt (by omega) (by omega)).mpr hk), p3, hnx, Option.bind_some]
      dsimp only
      rw [hmax, Option.bind_some]
      dsimp only
      rw [e1, Option.bind_some, hnap, Option.bind_some, pn_ix (show k < 12 by omega) (by omega), Option.bind_some, pn_ix (show (wkN g x s F m (k + 1)).2 < 128 by have := g1.1; omega) (by omega), Option.bind_some]
      dsimp only
      rw [e3 _ (by omega) (by omega), p6 _ (by omega) (by omega), ((hP k hk).2 _ g1.1 (l1_of g1.2.1)).2, pn_a1]
    · show _ = Int32.ofNat (wwP x (k + 1) (wkN g x s F m (k + 1)).2)
      rw [ww_pos (by omega)]
    · show _ = Int32.ofNat (whP g x (k + 1) (wkN g x s F m (k + 1)).2)
      rw [wh_pos (by omega)]; rfl
  · rintro f ⟨x4, x5, x6, u8, υ⟩ ⟨p1, p2, p3, p5, p6⟩
    have p6 : ∀ c, c ≠ 3 → c ≠ 4 → υ c = σ c := p6
    show ∃ σ', en_ov (T_X5_tellNaps_22 (f + 1) 15 _ x4 x5 x6 _ u8 υ) = _ ∧ _
    rw [t_X5_tellNaps_22, if_neg (by rw [pn_lt (by omega) (by omega)]; omega)]
    exact ⟨υ, rfl, p5, fun c hc => p6 c (by omega) (by omega)⟩
