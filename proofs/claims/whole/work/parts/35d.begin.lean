/-! naps: the class's tables begun and widened -/
theorem q_fill2 {σ : en_M} {k n : Nat} (hn : n < 100000) (v : Int32) : O_J7_fill_53178 [.inr (k, 20, n, 0), .inl v] σ = some (pst σ k (fun i => if i < n then v else σ k i)) := by
  rw [o_J7_fill_53178, t_J7_fill_53178_0]
  refine pl_for1 (F := fun m i (q : en_M) => T_J7_fill_53178_5 m k n v (Int32.ofNat i) (Int32.ofNat n) q) (P := fun i q => q = pst σ k (fun j => if j < i then v else σ k j)) (Q := fun r => en_ov r = some (pst σ k (fun i => if i < n then v else σ k i))) (N := n) ?_ ?_ n 0 en_FU σ (by omega) (pl_FU (by omega)) ?_
  · rintro m i q hi rfl
    refine Or.inl ⟨pst σ k (fun j => if j < i + 1 then v else σ k j), ?_, rfl⟩
    show T_J7_fill_53178_5 (m + 1) _ _ _ _ _ _ = _
    rw [t_J7_fill_53178_5, if_pos ((pn_lt (by omega) (by omega)).mpr hi), pn_ix hi (by omega), Option.bind_some, pst_up, pn_a1]
    congr 2
    funext j
    unfold pru
    by_cases e : j = i
    · rw [if_pos e, if_pos (by omega)]
    · rw [if_neg e]
      show (if j < i then v else σ k j) = if j < i + 1 then v else σ k j
      by_cases e2 : j < i
      · rw [if_pos e2, if_pos (by omega)]
      · rw [if_neg e2, if_neg (by omega)]
  · rintro m q rfl
    show en_ov (T_J7_fill_53178_5 (m + 1) _ _ _ _ _ _) = _
    rw [t_J7_fill_53178_5, if_neg (by rw [pn_lt (by omega) (by omega)]; omega)]; rfl
  · show σ = pst σ k (fun j => if j < 0 then v else σ k j)
    conv => lhs; rw [← pst_self σ k]
    congr 1
/-- the class's tables begun -/
theorem q_beginNaps {g : pG} {x : pS} {n s B : Nat} {σ : en_M} (hg : GV g) (hn5 : gN g ≤ 5) (hv : VS (gN g) B x) (hs : s = 1 ∨ s = 2) (hn : n ≤ 12) (hn1 : 1 ≤ n) (hP : ∀ k, k < n → PP g x σ k) (h6 : σ 103 6 = Int32.ofNat s) (h157 : σ 15 7 = Int32.ofNat (sW x)) (h158 : σ 15 8 = Int32.ofNat (sP x)) :
    ∃ σ', O_X5_beginNaps [.inr (103, 5, 0, 0), .inr (15, 7, 0, 0), .inl (Int32.ofNat n)] σ = some σ' ∧ CL g x s σ' 1 ∧ (∀ k, 2 ≤ k → k ≤ n → ∀ c, c < 1024 → σ' (145 + 1 + k) c = 0) ∧ (∀ k, 1 ≤ k → k < n → BF g x σ' k) ∧ ∀ c, c < 146 ∨ c = 159 ∨ 172 ≤ c → σ' c = σ c := by
  have h32 : 2 ^ gN g ≤ 32 := Nat.pow_le_pow_right (n := 2) (by decide) hn5
  have hFU := en_FU_ge
  rw [o_X5_beginNaps, t_X5_beginNaps_0]
  -- the first loop
  obtain ⟨q1, e1, a1, a2⟩ := pl_to (F := fun f i (q : en_M) => T_X5_beginNaps_2 f 15 (Int32.ofNat n) (Int32.ofNat i) q) (P := fun i q => (∀ k, k < i → ∀ c, c < 1024 → q (145 + 1 + k) c = 0) ∧ ∀ c, c < 146 ∨ 159 ≤ c → q c = σ c) (N := n + 1) (by
    rintro f i q hi ⟨o1, o2⟩
    refine ⟨pst q (145 + 1 + i) (fun j => if j < 1024 then 0 else q (145 + 1 + i) j), ?_, fun k hk c hc => ?_, fun c hc => by rw [pst_ne (by omega)]; exact o2 c hc⟩
    · show T_X5_beginNaps_2 (f + 1) 15 _ _ q = _
      rw [t_X5_beginNaps_2, if_neg (by rw [pn_lt (by omega) (by omega)]; omega), pn_ix (show i < 13 by omega) (by omega), Option.bind_some, q_fill2 (by omega), Option.bind_some, pn_a1]
    · by_cases e : k = i
      · rw [e, pst_same]; exact if_pos hc
      · rw [pst_ne (by omega)]; exact o1 k (by omega) c hc) (n + 1) 0 en_FU σ (by omega) (by omega) ⟨fun k hk => absurd hk (by omega), fun _ _ => rfl⟩
  have e1 : T_X5_beginNaps_2 en_FU 15 (Int32.ofNat n) 0 σ = T_X5_beginNaps_2 (en_FU - (n + 1)) 15 (Int32.ofNat n) (Int32.ofNat (n + 1)) q1 := e1
  obtain ⟨f1, hf1⟩ : ∃ j, en_FU - (n + 1) = j + 1 := ⟨en_FU - (n + 1) - 1, by omega⟩
  have a1 : ∀ k, k ≤ n → ∀ c, c < 1024 → q1 (145 + 1 + k) c = 0 := fun k hk c hc => a1 k (by omega) c hc
  have hP1 : ∀ k, k < n → PP g x q1 k := fun k hk => (hP k hk).fr (by omega) (fun c _ _ => a2 c (by omega))
  rw [e1, hf1, t_X5_beginNaps_2, if_pos (show Int32.ofNat n < Int32.ofNat (n + 1) from (pn_lt (by omega) (by omega)).mpr (by omega))]
  -- behind which sets
  have go := pl_for (F := fun f i (q : en_V × en_M) => T_X5_beginNaps_25 f 15 (Int32.ofNat n) (Int32.ofNat (i + 1)) q.1 q.2) (P := fun i q => (∀ k, 1 ≤ k → k < i + 1 → BF g x q.2 k) ∧ ∀ c, c < 160 ∨ 172 ≤ c → q.2 c = q1 c)
    (Q := fun r => ∃ f u q2, 100000 < f ∧ r = T_X5_beginNaps_88 f 15 (Int32.ofNat n) 0 u q2 ∧ (∀ k, 1 ≤ k → k < n → BF g x q2 k) ∧ ∀ c, c < 160 ∨ 172 ≤ c → q2 c = q1 c) (N := n - 1) (C := 131) (C0 := 100010) (by
    rintro f i ⟨u, q⟩ hi hf ⟨o1, o2⟩
    have o1 : ∀ k, 1 ≤ k → k < i + 1 → BF g x q k := o1
    have o2 : ∀ c, c < 160 ∨ 172 ≤ c → q c = q1 c := o2
    obtain ⟨f, rfl⟩ : ∃ j, f = j + 1 := ⟨f - 1, by omega⟩
    obtain ⟨k, hk⟩ : ∃ k, k = i + 1 := ⟨_, rfl⟩
    have hcN := cnB_le (l1B g x k) (2 ^ gN g)
    left
    have hin := pl_en (F := fun f j (q : en_M) => T_X5_beginNaps_33 f 15 (Int32.ofNat n) (Int32.ofNat k) (Int32.ofNat j) q) (I := fun i q' => (∀ t, t < i → l1B g x k t = true → BS (q' (159 + 1 + k) t) (fun w => w < 2 ^ gN g ∧ l1B g x (k - 1) w = true ∧ lwB g x k t w = true)) ∧ ∀ c, c ≠ 159 + 1 + k → q' c = q c) (Q := fun r => ∃ f' u' q', r = T_X5_beginNaps_25 f' 15 (Int32.ofNat n) (Int32.ofNat (k + 1)) u' q' ∧ f + 1 ≤ f' + 131 ∧ BF g x q' k ∧ ∀ c, c ≠ 159 + 1 + k → q' c = q c) (P := l1B g x k) (N := 2 ^ gN g) (C := f - 129) (by
        rintro f2 j q' hj hl ⟨z1, z2⟩
        have hci := cnB_lt hl hj
        have hPk : ∀ k', k' < n → PP g x q' k' := fun k' hk' => (hP1 k' hk').kept (by rw [z2 117 (by omega), o2 117 (by omega)]) (by rw [z2 _ (by omega), o2 _ (by omega)]) (by rw [z2 _ (by omega), o2 _ (by omega)])
        obtain ⟨v, b1, b2⟩ := q_setsBefore (t := j) hg hn5 hv (hPk (k - 1) (by omega)) (hPk k (by omega)) (by omega) (by omega) hj hl
        left
        refine ⟨en_up q' (159 + 1 + k) j v, ?_, fun t ht hlt => ?_, fun c hc => by rw [pu_row hc]; exact z2 c hc⟩
        · show T_X5_beginNaps_33 (f2 + 1) 15 _ (Int32.ofNat k) (Int32.ofNat (cnB (l1B g x k) j)) q' = _
          rw [t_X5_beginNaps_33, pn_ix (show k < 12 by omega) (by omega), Option.bind_some, (hPk k (by omega)).1, if_pos ((pn_lt (by omega) (by omega)).mpr hci), Option.bind_some, Option.bind_some, pn_ix (show cnB (l1B g x k) j < 128 by omega) (by omega), Option.bind_some, Option.bind_some, Option.bind_some, ((hPk k (by omega)).2 j hj hl).1, b1, Option.bind_some, pn_ix (show j < 32 by omega) (by omega), Option.bind_some, pn_a1]
        · by_cases e : t = j
          · rw [e, pu_same]; exact b2
          · rw [pu_slot e]; exact z1 t (by omega) hlt) (by
        rintro j q' hj hl ⟨z1, z2⟩
        refine ⟨fun t ht hlt => ?_, z2⟩
        have : t ≠ j := fun e => by rw [e, hl] at hlt; exact absurd hlt (by decide)
        exact z1 t (by omega) hlt) (by
        rintro f2 q' hf2 ⟨z1, z2⟩
        have hPk : PP g x q' k := (hP1 k (by omega)).kept (by rw [z2 117 (by omega), o2 117 (by omega)]) (by rw [z2 _ (by omega), o2 _ (by omega)]) (by rw [z2 _ (by omega), o2 _ (by omega)])
        refine ⟨f2, .inl (Int32.ofNat (cnB (l1B g x k) (2 ^ gN g))), q', ?_, by omega, z1, z2⟩
        show T_X5_beginNaps_33 (f2 + 1) 15 _ (Int32.ofNat k) _ q' = _
        rw [t_X5_beginNaps_33, pn_ix (show k < 12 by omega) (by omega), Option.bind_some, hPk.1, if_neg (by rw [pn_lt (by omega) (by omega)]; omega), pn_a1]) (2 ^ gN g) 0 f q (by omega) (by omega) ⟨fun t ht => absurd ht (by omega), fun _ _ => rfl⟩
    obtain ⟨f', u', q', b1, b2, b3, b4⟩ := hin
    refine ⟨f', (u', q'), ?_, by omega, fun k' h1 h2 => ?_, fun c hc => ?_⟩
    · show T_X5_beginNaps_25 (f + 1) 15 (Int32.ofNat n) (Int32.ofNat (i + 1)) u q = T_X5_beginNaps_25 f' 15 (Int32.ofNat n) (Int32.ofNat (i + 1 + 1)) u' q'
      rw [← hk, t_X5_beginNaps_25, if_pos ((pn_lt (by omega) (by omega)).mpr (by omega))]
      exact b1
    · show BF g x q' k'
      by_cases e : k' = k
      · rw [e]; exact b3
      · intro t ht hlt
        rw [b4 _ (by omega)]
        exact o1 k' h1 (by omega) t ht hlt
    · show q' c = _
      rw [b4 c (by omega)]; exact o2 c hc) (by
    rintro f ⟨u, q⟩ hf ⟨o1, o2⟩
    obtain ⟨f, rfl⟩ : ∃ j, f = j + 1 := ⟨f - 1, by omega⟩
    refine ⟨f, u, q, by omega, ?_, fun k h1 h2 => o1 k h1 (by omega), o2⟩
    show T_X5_beginNaps_25 (f + 1) 15 (Int32.ofNat n) (Int32.ofNat (n - 1 + 1)) u q = _
    rw [t_X5_beginNaps_25, show n - 1 + 1 = n by omega, if_neg (by rw [pn_lt (by omega) (by omega)]; omega)]) (n - 1) 0 f1 (en_un, q1) (by omega) (by omega) ⟨fun k h1 h2 => absurd h2 (by omega), fun _ _ => rfl⟩
  obtain ⟨f2, u2, q2, hf2, e2, b1, b2⟩ := go
  have e2 : T_X5_beginNaps_25 f1 15 (Int32.ofNat n) 1 en_un q1 = T_X5_beginNaps_88 f2 15 (Int32.ofNat n) 0 u2 q2 := e2
  rw [e2]
  -- the sets of the first round
  have hP2 : ∀ k, k < n → PP g x q2 k := fun k hk => (hP1 k hk).fr (by omega) (fun c _ _ => b2 c (by omega))
  have hcN := cnB_le (l1B g x 0) (2 ^ gN g)
  have r0 : ∀ (c t : Nat), RE g x s 1 c t ↔ t < 2 ^ gN g ∧ lwB g x 0 t 0 = true ∧ nwC s 0 t 5 = c := fun c t => by
    constructor
    · rintro ⟨c0, w, -, ⟨rfl, rfl⟩, h1, h2, h3⟩
      exact ⟨h1, h2, h3⟩
    · rintro ⟨h1, h2, h3⟩
      exact ⟨0, 0, Nat.two_pow_pos _, ⟨rfl, rfl⟩, h1, h2, h3⟩
  have i0 : en_ix (0 : Int32) 12 = some 0 := pn_ix (k := 0) (by omega) (by omega)
  have i1 : en_ix (1 : Int32) 13 = some 1 := pn_ix (k := 1) (by omega) (by omega)
  refine pl_en (F := fun f j (q : en_V × en_M) => T_X5_beginNaps_88 f 15 (Int32.ofNat n) (Int32.ofNat j) q.1 q.2) (I := fun i q => (∀ c, c < 1024 → BS (q.2 (145 + 1 + 1) c) (fun t => t < i ∧ lwB g x 0 t 0 = true ∧ nwC s 0 t 5 = c)) ∧ ∀ c, c ≠ 145 + 1 + 1 → q.2 c = q2 c)
    (Q := fun r => ∃ σ', en_ov r = some σ' ∧ CL g x s σ' 1 ∧ (∀ k, 2 ≤ k → k ≤ n → ∀ c, c < 1024 → σ' (145 + 1 + k) c = 0) ∧ (∀ k, 1 ≤ k → k < n → BF g x σ' k) ∧ ∀ c, c < 146 ∨ c = 159 ∨ 172 ≤ c → σ' c = σ c) (P := l1B g x 0) (N := 2 ^ gN g) (C := 0) ?_ ?_ ?_ (2 ^ gN g) 0 f2 (u2, q2) (by omega) (by omega) ⟨fun c hc => by
      show BS (q2 (145 + 1 + 1) c) _
      rw [b2 _ (by omega), a1 1 hn1 c hc]
      exact BS_0 (fun i _ q => absurd q.1 (by omega)), fun _ _ => rfl⟩
  · rintro f j ⟨u, q⟩ hj hl ⟨z1, z2⟩
    have z1 : ∀ c, c < 1024 → BS (q (145 + 1 + 1) c) (fun t => t < j ∧ lwB g x 0 t 0 = true ∧ nwC s 0 t 5 = c) := z1
    have z2 : ∀ c, c ≠ 145 + 1 + 1 → q c = q2 c := z2
    have hci := cnB_lt hl hj
    have hPk : PP g x q 0 := (hP2 0 (by omega)).fr (by omega) (fun c _ _ => z2 c (by omega))
    have hmf : O_X5_mayFollow [.inr (103, 5, 0, 0), .inl (0 : Int32), .inl (Int32.ofNat j), .inl (q 15 7), .inl (q 15 8)] q = some (pb2 (lwB g x 0 j 0 = true), q) := by
      have := q_mayFollow (k := 0) (t := j) (w := 0) hg hv hPk (by omega) hj hl (Nat.two_pow_pos _)
      rw [z2 15 (by omega), b2 15 (by omega), a2 15 (by omega), h157, h158]
      exact this
    have hq6 : q 103 6 = Int32.ofNat s := by rw [z2 103 (by omega), b2 103 (by omega), a2 103 (by omega)]; exact h6
    have hnwl : nwC s 0 j 5 < 1024 := (RE_nw (x := x) (k := 0) (c := 0) (w := 0) hs hn5 ⟨rfl, rfl⟩ hj).1
    have hnw : O_X5_napsWith [.inr (103, 5, 0, 0), .inl (0 : Int32), .inl (Int32.ofNat j)] q = some (Int32.ofNat (nwC s 0 j 5), q) := q_napsWith (c := 0) (by omega) (by omega) (by omega) hq6
    left
    show ∃ q' : en_V × en_M, T_X5_beginNaps_88 (f + 1) 15 _ (Int32.ofNat (cnB (l1B g x 0) j)) u q = _ ∧ _
    rw [t_X5_beginNaps_88, i0, Option.bind_some, hPk.1, if_pos ((pn_lt (by omega) (by omega)).mpr hci), Option.bind_some, pn_ix (show cnB (l1B g x 0) j < 128 by omega) (by omega), Option.bind_some, (hPk.2 j hj hl).1, hmf, Option.bind_some]
    dsimp only
    rw [pi_if (pb2_0 (lwB g x 0 j 0 = true)), i1, Option.bind_some, hnw, Option.bind_some]
    dsimp only
    rw [pn_ix hnwl (by omega), Option.bind_some, Option.bind_some, pn_a1]
    by_cases c : lwB g x 0 j 0 = true
    · rw [if_neg (fun z => z c)]
      refine ⟨(.inl (Int32.ofNat j), en_up q (145 + 1 + 1) (nwC s 0 j 5) (q (145 + 1 + 1) (nwC s 0 j 5) ||| en_shl 1 (Int32.ofNat j))), rfl, fun c' hc' => ?_, fun c' hc' => by show en_up q (145 + 1 + 1) _ _ c' = _; rw [pu_row hc']; exact z2 c' hc'⟩
      show BS (en_up q (145 + 1 + 1) (nwC s 0 j 5) _ (145 + 1 + 1) c') _
      by_cases e : c' = nwC s 0 j 5
      · rw [e, pu_same]
        refine BS_of (BS_or (z1 _ hnwl) (BS_1 (show j < 32 by omega))) (fun t ht => ?_)
        constructor
        · rintro (⟨a, b, d⟩ | rfl)
          · exact ⟨by omega, b, d⟩
          · exact ⟨by omega, c, rfl⟩
        · rintro ⟨a, b, d⟩
          by_cases e2 : t = j
          · exact Or.inr e2
          · exact Or.inl ⟨by omega, b, d⟩
      · rw [pu_slot e]
        refine BS_of (z1 c' hc') (fun t ht => ⟨fun ⟨a, b, d⟩ => ⟨by omega, b, d⟩, fun ⟨a, b, d⟩ => ⟨?_, b, d⟩⟩)
        have : t ≠ j := fun e2 => e (by rw [← d, e2])
        omega
    · rw [if_pos c]
      refine ⟨(.inl (Int32.ofNat j), q), rfl, fun c' hc' => BS_of (z1 c' hc') (fun t ht => ⟨fun ⟨a, b, d⟩ => ⟨by omega, b, d⟩, fun ⟨a, b, d⟩ => ⟨?_, b, d⟩⟩), z2⟩
      have : t ≠ j := fun e2 => c (by rw [← e2]; exact b)
      omega
  · rintro j ⟨u, q⟩ hj hl ⟨z1, z2⟩
    refine ⟨fun c' hc' => BS_of (z1 c' hc') (fun t ht => ⟨fun ⟨a, b, d⟩ => ⟨by omega, b, d⟩, fun ⟨a, b, d⟩ => ⟨?_, b, d⟩⟩), z2⟩
    have : t ≠ j := fun e2 => by
      have := l1_of b
      rw [e2, hl] at this; exact absurd this (by decide)
    omega
  · rintro f ⟨u, q⟩ - ⟨z1, z2⟩
    have z1 : ∀ c, c < 1024 → BS (q (145 + 1 + 1) c) (fun t => t < 2 ^ gN g ∧ lwB g x 0 t 0 = true ∧ nwC s 0 t 5 = c) := z1
    have z2 : ∀ c, c ≠ 145 + 1 + 1 → q c = q2 c := z2
    have hPk : PP g x q 0 := (hP2 0 (by omega)).fr (by omega) (fun c _ _ => z2 c (by omega))
    show ∃ σ', en_ov (T_X5_beginNaps_88 (f + 1) 15 _ _ u q) = _ ∧ _
    rw [t_X5_beginNaps_88, i0, Option.bind_some, hPk.1, if_neg (by rw [pn_lt (by omega) (by omega)]; omega)]
    refine ⟨q, rfl, fun c hc => BS_of (z1 c hc) (fun t ht => (r0 c t).symm), fun k h1 h2 c hc => by rw [z2 _ (by omega), b2 _ (by omega)]; exact a1 k h2 c hc, fun k h1 h2 t ht hlt => by rw [z2 _ (by omega)]; exact b1 k h1 h2 t ht hlt, fun c hc => by rw [z2 c (by omega), b2 c (by omega), a2 c (by omega)]⟩
/-- from k rounds to one more -/
theorem q_widenFrom {g : pG} {x : pS} {k c s : Nat} {old : Nat → Nat → Prop} {σ : en_M} (hn5 : gN g ≤ 5) (hs : s = 1 ∨ s = 2) (hk : k < 12) (hk0 : 0 < k) (hc : c < 1024) (hP : PP g x σ k) (h6 : σ 103 6 = Int32.ofNat s) (hL : CL g x s σ k) (hF : BF g x σ k) (ho : ∀ c', c' < 1024 → BS (σ (145 + 1 + (k + 1)) c') (old c')) :
    ∃ σ', O_X5_widenFrom [.inr (103, 5, 0, 0), .inl (Int32.ofNat k), .inl (Int32.ofNat c)] σ = some σ' ∧ (∀ c', c' < 1024 → BS (σ' (145 + 1 + (k + 1)) c') (fun t => old c' t ∨ t < 2 ^ gN g ∧ ∃ w, w < 2 ^ gN g ∧ RE g x s k c w ∧ lwB g x k t w = true ∧ nwC s c t 5 = c')) ∧ ∀ a, a ≠ 145 + 1 + (k + 1) → σ' a = σ a := by
  have h32 : 2 ^ gN g ≤ 32 := Nat.pow_le_pow_right (n := 2) (by decide) hn5
  have hFU := en_FU_ge
  have hcN := cnB_le (l1B g x k) (2 ^ gN g)
  rw [o_X5_widenFrom, t_X5_widenFrom_0]
  refine pl_en (F := fun f j (q : en_V × en_M) => T_X5_widenFrom_2 f (Int32.ofNat k) (Int32.ofNat c) (Int32.ofNat j) q.1 q.2) (I := fun i q => (∀ c', c' < 1024 → BS (q.2 (145 + 1 + (k + 1)) c') (fun t => old c' t ∨ t < i ∧ ∃ w, w < 2 ^ gN g ∧ RE g x s k c w ∧ lwB g x k t w = true ∧ nwC s c t 5 = c')) ∧ ∀ a, a ≠ 145 + 1 + (k + 1) → q.2 a = σ a)
    (Q := fun r => ∃ σ', en_ov r = some σ' ∧ (∀ c', c' < 1024 → BS (σ' (145 + 1 + (k + 1)) c') (fun t => old c' t ∨ t < 2 ^ gN g ∧ ∃ w, w < 2 ^ gN g ∧ RE g x s k c w ∧ lwB g x k t w = true ∧ nwC s c t 5 = c')) ∧ ∀ a, a ≠ 145 + 1 + (k + 1) → σ' a = σ a) (P := l1B g x k) (N := 2 ^ gN g) (C := 0) ?_ ?_ ?_ (2 ^ gN g) 0 en_FU (en_un, σ) (by omega) (by omega) ⟨fun c' hc' => BS_of (ho c' hc') (fun t ht => ⟨Or.inl, fun q => q.resolve_right (fun z => absurd z.1 (by omega))⟩), fun _ _ => rfl⟩
  · rintro f j ⟨u, q⟩ hj hl ⟨z1, z2⟩
    have z1 : ∀ c', c' < 1024 → BS (q (145 + 1 + (k + 1)) c') (fun t => old c' t ∨ t < j ∧ ∃ w, w < 2 ^ gN g ∧ RE g x s k c w ∧ lwB g x k t w = true ∧ nwC s c t 5 = c') := z1
    have z2 : ∀ a, a ≠ 145 + 1 + (k + 1) → q a = σ a := z2
    have hci := cnB_lt hl hj
    have hPk : PP g x q k := hP.fr hk (fun c _ _ => z2 c (by omega))
    have hz : (q (145 + 1 + k) c &&& q (159 + 1 + k) j = 0) = (∀ i, i < 32 → ¬ (RE g x s k c i ∧ i < 2 ^ gN g ∧ l1B g x (k - 1) i = true ∧ lwB g x k j i = true)) := by
      rw [z2 (145 + 1 + k) (by omega), z2 (159 + 1 + k) (by omega)]
      exact BS_z (BS_and (hL c hc) (hF j hj hl))
    left
    show ∃ q' : en_V × en_M, T_X5_widenFrom_2 (f + 1) _ _ (Int32.ofNat (cnB (l1B g x k) j)) u q = _ ∧ _
    rw [t_X5_widenFrom_2, pn_ix (show k < 12 by omega) (by omega), Option.bind_some, hPk.1, if_pos ((pn_lt (by omega) (by omega)).mpr hci), Option.bind_some, pn_ix (show cnB (l1B g x k) j < 128 by omega) (by omega), Option.bind_some, pn_ix (show k < 13 by omega) (by omega), Option.bind_some, pn_ix hc (by omega), Option.bind_some, Option.bind_some, (hPk.2 j hj hl).1, pn_ix (show j < 32 by omega) (by omega), Option.bind_some, pn_a1, pn_a1]
    by_cases cz0 : q (145 + 1 + k) c &&& q (159 + 1 + k) j = 0
    · have cz := (iff_of_eq hz).mp cz0
      rw [if_pos cz0]
      refine ⟨(.inl (Int32.ofNat j), q), rfl, fun c' hc' => BS_of (z1 c' hc') (fun t ht => ⟨fun h => h.imp id (fun ⟨a, b⟩ => ⟨by omega, b⟩), fun h => h.imp id (fun ⟨a, w, w1, w2, w3, w4⟩ => ⟨?_, w, w1, w2, w3, w4⟩)⟩), z2⟩
      have : t ≠ j := fun e => by
        obtain ⟨k', rfl⟩ : ∃ k', k = k' + 1 := ⟨k - 1, by omega⟩
        exact cz w (by omega) ⟨w2, w1, RE_l1 w2, by rw [← e]; exact w3⟩
      omega
    · have cz := fun z => cz0 ((iff_of_eq hz).mpr z)
      rw [if_neg cz0]
      obtain ⟨w, w0, w1, w2, w3, w4⟩ : ∃ w, w < 32 ∧ RE g x s k c w ∧ w < 2 ^ gN g ∧ l1B g x (k - 1) w = true ∧ lwB g x k j w = true := Classical.byContradiction fun h => cz fun i hi hh => h ⟨i, hi, hh⟩
      have hnwl := (RE_nw (t := j) hs hn5 w1 hj).1
      have hnw : O_X5_napsWith [.inr (103, 5, 0, 0), .inl (Int32.ofNat c), .inl (Int32.ofNat j)] q = some (Int32.ofNat (nwC s c j 5), q) := q_napsWith (by omega) hc (by omega) (by rw [z2 103 (by omega)]; exact h6)
      rw [pn_ix (show k + 1 < 13 by omega) (by omega), Option.bind_some, hnw, Option.bind_some]
      dsimp only
      rw [pn_ix hnwl (by omega), Option.bind_some, Option.bind_some]
      refine ⟨(.inl (Int32.ofNat j), en_up q (145 + 1 + (k + 1)) (nwC s c j 5) (q (145 + 1 + (k + 1)) (nwC s c j 5) ||| en_shl 1 (Int32.ofNat j))), rfl, fun c' hc' => ?_, fun a ha => by show en_up q (145 + 1 + (k + 1)) _ _ a = _; rw [pu_row ha]; exact z2 a ha⟩
      show BS (en_up q (145 + 1 + (k + 1)) (nwC s c j 5) _ (145 + 1 + (k + 1)) c') _
      by_cases e : c' = nwC s c j 5
      · rw [e, pu_same]
        refine BS_of (BS_or (z1 _ hnwl) (BS_1 (show j < 32 by omega))) (fun t ht => ?_)
        constructor
        · rintro ((a | ⟨a, b⟩) | rfl)
          · exact Or.inl a
          · exact Or.inr ⟨by omega, b⟩
          · exact Or.inr ⟨by omega, w, w2, w1, w4, rfl⟩
        · rintro (a | ⟨a, b⟩)
          · exact Or.inl (Or.inl a)
          · by_cases e2 : t = j
            · exact Or.inr e2
            · exact Or.inl (Or.inr ⟨by omega, b⟩)
      · rw [pu_slot e]
        refine BS_of (z1 c' hc') (fun t ht => ⟨fun h => h.imp id (fun ⟨a, b⟩ => ⟨by omega, b⟩), fun h => h.imp id (fun ⟨a, w, w1, w2, w3, w4⟩ => ⟨?_, w, w1, w2, w3, w4⟩)⟩)
        have : t ≠ j := fun e2 => e (by rw [← w4, e2])
        omega
  · rintro j ⟨u, q⟩ hj hl ⟨z1, z2⟩
    refine ⟨fun c' hc' => BS_of (z1 c' hc') (fun t ht => ⟨fun h => h.imp id (fun ⟨a, b⟩ => ⟨by omega, b⟩), fun h => h.imp id (fun ⟨a, w, w1, w2, w3, w4⟩ => ⟨?_, w, w1, w2, w3, w4⟩)⟩), z2⟩
    have : t ≠ j := fun e2 => by
      have := l1_of w3
      rw [e2, hl] at this; exact absurd this (by decide)
    omega
  · rintro f ⟨u, q⟩ - ⟨z1, z2⟩
    have z2 : ∀ a, a ≠ 145 + 1 + (k + 1) → q a = σ a := z2
    have hPk : PP g x q k := hP.fr hk (fun c _ _ => z2 c (by omega))
    show ∃ σ', en_ov (T_X5_widenFrom_2 (f + 1) _ _ _ u q) = _ ∧ _
    rw [t_X5_widenFrom_2, pn_ix (show k < 12 by omega) (by omega), Option.bind_some, hPk.1, if_neg (by rw [pn_lt (by omega) (by omega)]; omega)]
    exact ⟨q, rfl, z1, z2⟩
theorem q_widen {g : pG} {x : pS} {k s : Nat} {σ : en_M} (hn5 : gN g ≤ 5) (hs : s = 1 ∨ s = 2) (hk : k < 12) (hk0 : 0 < k) (hP : PP g x σ k) (h6 : σ 103 6 = Int32.ofNat s) (hL : CL g x s σ k) (hF : BF g x σ k) (h0 : ∀ c, c < 1024 → σ (145 + 1 + (k + 1)) c = 0) :
    ∃ σ', O_X5_widen [.inr (103, 5, 0, 0), .inl (Int32.ofNat k)] σ = some σ' ∧ CL g x s σ' (k + 1) ∧ ∀ a, a ≠ 145 + 1 + (k + 1) → σ' a = σ a := by
  have h32 : 2 ^ gN g ≤ 32 := Nat.pow_le_pow_right (n := 2) (by decide) hn5
  rw [o_X5_widen, t_X5_widen_0]
  refine pl_for1 (F := fun f c (q : en_M) => T_X5_widen_2 f (Int32.ofNat k) (Int32.ofNat c) q) (P := fun c q => (∀ c', c' < 1024 → BS (q (145 + 1 + (k + 1)) c') (fun t => ∃ c0, c0 < c ∧ t < 2 ^ gN g ∧ ∃ w, w < 2 ^ gN g ∧ RE g x s k c0 w ∧ lwB g x k t w = true ∧ nwC s c0 t 5 = c')) ∧ ∀ a, a ≠ 145 + 1 + (k + 1) → q a = σ a)
    (Q := fun r => ∃ σ', en_ov r = some σ' ∧ CL g x s σ' (k + 1) ∧ ∀ a, a ≠ 145 + 1 + (k + 1) → σ' a = σ a) (N := 1024) ?_ ?_ 1024 0 en_FU σ (by omega) (pl_FU (by omega)) ⟨fun c' hc' => by rw [h0 c' hc']; exact BS_0 (fun i _ ⟨c0, h, _⟩ => absurd h (by omega)), fun _ _ => rfl⟩
  · rintro f c q hc ⟨z1, z2⟩
    have hPk : PP g x q k := hP.fr hk (fun c _ _ => z2 c (by omega))
    have hLk : CL g x s q k := fun c hc => by rw [z2 _ (by omega)]; exact hL c hc
    have hFk : BF g x q k := fun t ht hl => by rw [z2 _ (by omega)]; exact hF t ht hl
    left
    show ∃ q', T_X5_widen_2 (f + 1) _ (Int32.ofNat c) q = _ ∧ _
    rw [t_X5_widen_2, if_pos (show Int32.ofNat c < (1024 : Int32) from (pn_lt (b := 1024) (by omega) (by omega)).mpr hc), pn_ix (show k < 13 by omega) (by omega), Option.bind_some, pn_ix hc (by omega), Option.bind_some, pn_a1]
    have hz := BS_z (hLk c hc)
    by_cases cz0 : q (145 + 1 + k) c = 0
    · have cz := (iff_of_eq hz).mp cz0
      rw [if_pos cz0]
      refine ⟨q, rfl, fun c' hc' => BS_of (z1 c' hc') (fun t ht => ⟨fun ⟨c0, a, b⟩ => ⟨c0, by omega, b⟩, fun ⟨c0, a, b, w, w1, w2, w3⟩ => ⟨c0, ?_, b, w, w1, w2, w3⟩⟩), z2⟩
      have : c0 ≠ c := fun e => cz w (by omega) (by rw [← e]; exact w2)
      omega
    · rw [if_neg cz0]
      obtain ⟨q', e1, e2, e3⟩ := q_widenFrom hn5 hs hk hk0 hc hPk (by rw [z2 103 (by omega)]; exact h6) hLk hFk z1
      rw [e1, Option.bind_some]
      refine ⟨q', rfl, fun c' hc' => BS_of (e2 c' hc') (fun t ht => ?_), fun a ha => by rw [e3 a ha, z2 a ha]⟩
      constructor
      · rintro (⟨c0, a, b⟩ | ⟨a, b⟩)
        · exact ⟨c0, by omega, b⟩
        · exact ⟨c, by omega, a, b⟩
      · rintro ⟨c0, a, b⟩
        by_cases e : c0 = c
        · exact Or.inr (by rw [← e]; exact b)
        · exact Or.inl ⟨c0, by omega, b⟩
  · rintro f q ⟨z1, z2⟩
    show ∃ σ', en_ov (T_X5_widen_2 (f + 1) _ (Int32.ofNat 1024) q) = _ ∧ _
    rw [t_X5_widen_2, if_neg (show ¬ Int32.ofNat 1024 < (1024 : Int32) by decide)]
    refine ⟨q, rfl, fun c hc => BS_of (z1 c hc) (fun t ht => ?_), z2⟩
    constructor
    · rintro ⟨c0, a, b, w, w1, w2, w3, w4⟩
      exact ⟨c0, w, w1, w2, b, w3, w4⟩
    · rintro ⟨c0, w, w1, w2, b, w3, w4⟩
      exact ⟨c0, (RE_nw (t := t) hs hn5 w2 b).2, b, w, w1, w2, w3, w4⟩
