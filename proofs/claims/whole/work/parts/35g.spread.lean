/-! naps: the reference's tables -/
def MTb (g : pG) (x : pS) (s : Nat) (τ : en_M) (k : Nat) : Prop := ∀ v, v < 243 → BS (τ 203 (243 * k + v)) (fun w => RE g x s k (eNM v) w)
theorem MI.off2 {τ τ' : en_M} {A : pI} (h : MI τ A) (hf : ∀ c, c ≠ 203 → c ≠ 204 → τ' c = τ c) : MI τ' A := h.kept (fun j _ => by rw [hf 185 (by omega) (by omega)]) (fun c hc => hf c (by omega) (by omega))
theorem m_has {v : Int32} {p : Nat → Prop} {i : Nat} {τ : en_M} (h : BS v p) (hi : i < 32) : (p i → O_X12_has [.inl v, .inl (Int32.ofNat i)] τ = some (1, τ)) ∧ (¬ p i → O_X12_has [.inl v, .inl (Int32.ofNat i)] τ = some (0, τ)) := by
  have hb := iff_of_eq (BS_b h hi)
  rw [q_has]
  unfold pb2
  exact ⟨fun q => by rw [if_pos (hb.mpr q)], fun q => by rw [if_neg (fun z => q (hb.mp z))]⟩
/-- one set that was latest: those that may miss behind it -/
theorem r_spread1 {g t ro x us kp} {B n k s v w f : Nat} {old : Nat → Nat → Prop} {τ : en_M} {x4 : Int32} {u6 : en_V} (hA : AV B (g, t, ro, x, us, kp)) (hM : MI τ (g, t, ro, x, us, kp)) (hB : B + n < 1000000000) (hn0 : 0 < gN g) (hn5 : gN g ≤ 5) (hs : s = 1 ∨ s = 2) (h197 : ∀ k p, k ≤ n → p < gN g → τ 197 (7 * k + p) = Int32.ofNat (odN g x k p)) (hn : n ≤ 12) (hk : k < n) (hv : v < 243) (hw : w < 2 ^ gN g) (ho : ∀ v', v' < 243 → BS (τ 203 (243 * (k + 1) + v')) (old v')) (hf : 50 < f) :
    ∃ f' q', T_X12_spreadNaps_51 f (Int32.ofNat k) (Int32.ofNat s) (Int32.ofNat v) x4 (Int32.ofNat w) 0 τ = T_X12_spreadNaps_26 f' (Int32.ofNat k) (Int32.ofNat s) (Int32.ofNat v) x4 (Int32.ofNat (w + 1)) (.inl (Int32.ofNat (2 ^ gN g))) q' ∧ f ≤ f' + 33 ∧ (∀ v', v' < 243 → BS (q' 203 (243 * (k + 1) + v')) (fun u => old v' u ∨ u < 2 ^ gN g ∧ lwB g x k u w = true ∧ nwM s v u 5 = v')) ∧ (∀ j, j < 243 * (k + 1) ∨ 243 * (k + 2) ≤ j → q' 203 j = τ 203 j) ∧ ∀ a, a ≠ 203 → q' a = τ a := by
  have hg : GV g := hA.1
  have h32 : 2 ^ gN g ≤ 32 := Nat.pow_le_pow_right (n := 2) (by decide) hn5
  have hpos := Nat.two_pow_pos (gN g)
  have hMq : ∀ q : en_M, (∀ a, a ≠ 203 → q a = τ a) → MI q (g, t, ro, x, us, kp) := fun q h => hM.off2 (fun c h1 _ => h c h1)
  have hev : ∀ q : en_M, (∀ a, a ≠ 203 → q a = τ a) → O_X12_everybody [.inr (185, 12, 0, 0)] q = some (Int32.ofNat (2 ^ gN g - 1), q) := fun q h => r_everybody hg.1 (hMq q h).1.1
  obtain ⟨q', e1, a1, a2, a3⟩ := pl_to (F := fun f i (q : en_M) => T_X12_spreadNaps_51 f (Int32.ofNat k) (Int32.ofNat s) (Int32.ofNat v) x4 (Int32.ofNat w) (Int32.ofNat i) q) (P := fun i q => (∀ v', v' < 243 → BS (q 203 (243 * (k + 1) + v')) (fun u => old v' u ∨ u < i ∧ lwB g x k u w = true ∧ nwM s v u 5 = v')) ∧ (∀ j, j < 243 * (k + 1) ∨ 243 * (k + 2) ≤ j → q 203 j = τ 203 j) ∧ ∀ a, a ≠ 203 → q a = τ a) (N := 2 ^ gN g) (by
    rintro f i q hi ⟨z1, z2, z3⟩
    have hlaw := r_isLawful (k := k) (s := i) (w := w) (τ := q) hA (hMq q z3) hB hn0 (fun k p h1 h2 => by rw [z3 197 (by omega)]; exact h197 k p h1 h2) (by omega) (by omega) hi hw
    have hnw := (nw_e hs hv (show i < 32 by omega)).2
    show ∃ q', T_X12_spreadNaps_51 (f + 1) _ _ _ _ _ (Int32.ofNat i) q = _ ∧ _
    rw [t_X12_spreadNaps_51, hev q z3, Option.bind_some]
    dsimp only
    rw [if_neg (show ¬ Int32.ofNat (2 ^ gN g - 1) < Int32.ofNat i by rw [pn_lt (by omega) (by omega)]; omega), hlaw, Option.bind_some]
    dsimp only
    rw [pi_if (pb2_0 (lwB g x k i w = true)), pn_a1, pn_a1]
    by_cases c : lwB g x k i w = true
    · rw [if_neg (fun z => z c), m_withSet hn5 (by omega) hv hi (hMq q z3).1.1, Option.bind_some]
      dsimp only
      rw [show (243 : Int32) * Int32.ofNat (k + 1) = Int32.ofNat (243 * (k + 1)) from pn_mul 243 _, pn_add, pn_ix (show 243 * (k + 1) + nwM s v i 5 < 3159 by omega) (by omega), Option.bind_some, Option.bind_some]
      refine ⟨_, rfl, fun v' hv' => ?_, fun j hj => by rw [pu_slot (by omega)]; exact z2 j hj, fun a ha => by rw [pu_row ha]; exact z3 a ha⟩
      by_cases e : v' = nwM s v i 5
      · rw [e, pu_same]
        refine BS_of (BS_or (z1 _ hnw) (BS_1 (show i < 32 by omega))) (fun u hu => ?_)
        constructor
        · rintro ((a | ⟨a, b⟩) | rfl)
          · exact Or.inl a
          · exact Or.inr ⟨by omega, b⟩
          · exact Or.inr ⟨by omega, c, rfl⟩
        · rintro (a | ⟨a, b⟩)
          · exact Or.inl (Or.inl a)
          · by_cases e2 : u = i
            · exact Or.inr e2
            · exact Or.inl (Or.inr ⟨by omega, b⟩)
      · rw [pu_slot (by omega)]
        refine BS_of (z1 v' hv') (fun u hu => ⟨fun h => h.imp id (fun ⟨a, b⟩ => ⟨by omega, b⟩), fun h => h.imp id (fun ⟨a, b, d⟩ => ⟨?_, b, d⟩)⟩)
        have : u ≠ i := fun e2 => e (by rw [← d, e2])
        omega
    · rw [if_pos c]
      refine ⟨q, rfl, fun v' hv' => BS_of (z1 v' hv') (fun u hu => ⟨fun h => h.imp id (fun ⟨a, b⟩ => ⟨by omega, b⟩), fun h => h.imp id (fun ⟨a, b, d⟩ => ⟨?_, b, d⟩)⟩), z2, z3⟩
      have : u ≠ i := fun e2 => c (by rw [← e2]; exact b)
      omega) (2 ^ gN g) 0 f τ (by omega) (by omega) ⟨fun v' hv' => BS_of (ho v' hv') (fun u hu => ⟨Or.inl, fun h => h.resolve_right (fun z => absurd z.1 (by omega))⟩), fun _ _ => rfl, fun _ _ => rfl⟩
  have e1 : T_X12_spreadNaps_51 f (Int32.ofNat k) (Int32.ofNat s) (Int32.ofNat v) x4 (Int32.ofNat w) 0 τ = T_X12_spreadNaps_51 (f - 2 ^ gN g) (Int32.ofNat k) (Int32.ofNat s) (Int32.ofNat v) x4 (Int32.ofNat w) (Int32.ofNat (2 ^ gN g)) q' := e1
  obtain ⟨f2, hf2⟩ : ∃ j, f - 2 ^ gN g = j + 1 := Nat.exists_eq_succ_of_ne_zero (by omega)
  refine ⟨f2, q', ?_, by omega, a1, a2, a3⟩
  rw [e1, hf2, t_X12_spreadNaps_51, hev q' a3, Option.bind_some]
  dsimp only
  rw [if_pos (show Int32.ofNat (2 ^ gN g - 1) < Int32.ofNat (2 ^ gN g) from (pn_lt (by omega) (by omega)).mpr (by omega)), pn_a1]
theorem r_spread {g t ro x us kp} {B n k s : Nat} {τ : en_M} (hA : AV B (g, t, ro, x, us, kp)) (hM : MI τ (g, t, ro, x, us, kp)) (hB : B + n < 1000000000) (hn0 : 0 < gN g) (hn5 : gN g ≤ 5) (hs : s = 1 ∨ s = 2) (h197 : ∀ k p, k ≤ n → p < gN g → τ 197 (7 * k + p) = Int32.ofNat (odN g x k p)) (hn : n ≤ 12) (hk : k < n) (hT : MTb g x s τ k) (h0 : ∀ v, v < 243 → τ 203 (243 * (k + 1) + v) = 0) :
    ∃ τ', O_X12_spreadNaps [.inr (185, 12, 0, 0), .inl (Int32.ofNat k), .inl (Int32.ofNat s)] τ = some τ' ∧ MTb g x s τ' (k + 1) ∧ (∀ j, j < 243 * (k + 1) ∨ 243 * (k + 2) ≤ j → τ' 203 j = τ 203 j) ∧ ∀ a, a ≠ 203 → τ' a = τ a := by
  have hg : GV g := hA.1
  have h32 : 2 ^ gN g ≤ 32 := Nat.pow_le_pow_right (n := 2) (by decide) hn5
  have hpos := Nat.two_pow_pos (gN g)
  have hFU := en_FU_ge
  have hMq : ∀ q : en_M, (∀ a, a ≠ 203 → q a = τ a) → MI q (g, t, ro, x, us, kp) := fun q h => hM.off2 (fun c h1 _ => h c h1)
  have hev : ∀ q : en_M, (∀ a, a ≠ 203 → q a = τ a) → O_X12_everybody [.inr (185, 12, 0, 0)] q = some (Int32.ofNat (2 ^ gN g - 1), q) := fun q h => r_everybody hg.1 (hMq q h).1.1
  rw [o_X12_spreadNaps, t_X12_spreadNaps_0]
  refine pl_for (F := fun f v (q : en_V × en_V × en_V × en_M) => T_X12_spreadNaps_2 f (Int32.ofNat k) (Int32.ofNat s) (Int32.ofNat v) q.1 q.2.1 q.2.2.1 q.2.2.2) (P := fun v q => (∀ v', v' < 243 → BS (q.2.2.2 203 (243 * (k + 1) + v')) (fun u => ∃ v0, v0 < v ∧ ∃ w, w < 2 ^ gN g ∧ RE g x s k (eNM v0) w ∧ u < 2 ^ gN g ∧ lwB g x k u w = true ∧ nwM s v0 u 5 = v')) ∧ (∀ j, j < 243 * (k + 1) ∨ 243 * (k + 2) ≤ j → q.2.2.2 203 j = τ 203 j) ∧ ∀ a, a ≠ 203 → q.2.2.2 a = τ a)
    (Q := fun r => ∃ τ', en_ov r = some τ' ∧ MTb g x s τ' (k + 1) ∧ (∀ j, j < 243 * (k + 1) ∨ 243 * (k + 2) ≤ j → τ' 203 j = τ 203 j) ∧ ∀ a, a ≠ 203 → τ' a = τ a) (N := 243) (C := 2000) (C0 := 10) ?_ ?_ 243 0 en_FU (en_un, en_un, en_un, τ) (by omega) (by omega) ⟨fun v' hv' => by
      show BS (τ 203 (243 * (k + 1) + v')) _
      rw [h0 v' hv']; exact BS_0 (fun i _ ⟨v0, h, _⟩ => absurd h (by omega)), fun _ _ => rfl, fun _ _ => rfl⟩
  · rintro f v ⟨u4, u5, u6, q⟩ hv hf ⟨z1, z2, z3⟩
    have z1 : ∀ v', v' < 243 → BS (q 203 (243 * (k + 1) + v')) (fun u => ∃ v0, v0 < v ∧ ∃ w, w < 2 ^ gN g ∧ RE g x s k (eNM v0) w ∧ u < 2 ^ gN g ∧ lwB g x k u w = true ∧ nwM s v0 u 5 = v') := z1
    have z2 : ∀ j, j < 243 * (k + 1) ∨ 243 * (k + 2) ≤ j → q 203 j = τ 203 j := z2
    have z3 : ∀ a, a ≠ 203 → q a = τ a := z3
    obtain ⟨f, rfl⟩ : ∃ j, f = j + 1 := Nat.exists_eq_succ_of_ne_zero (by omega)
    have hx4 : BS (q 203 (243 * k + v)) (fun w => RE g x s k (eNM v) w) := by rw [z2 _ (by omega)]; exact hT v hv
    generalize hx4d : q 203 (243 * k + v) = x4 at hx4
    left
    -- the sets that may have been latest
    have hin := pl_for (F := fun f w (q' : en_V × en_M) => T_X12_spreadNaps_26 f (Int32.ofNat k) (Int32.ofNat s) (Int32.ofNat v) x4 (Int32.ofNat w) q'.1 q'.2) (P := fun w q' => (∀ v', v' < 243 → BS (q'.2 203 (243 * (k + 1) + v')) (fun u => (∃ v0, v0 < v ∧ ∃ w, w < 2 ^ gN g ∧ RE g x s k (eNM v0) w ∧ u < 2 ^ gN g ∧ lwB g x k u w = true ∧ nwM s v0 u 5 = v') ∨ ∃ w0, w0 < w ∧ RE g x s k (eNM v) w0 ∧ u < 2 ^ gN g ∧ lwB g x k u w0 = true ∧ nwM s v u 5 = v')) ∧ (∀ j, j < 243 * (k + 1) ∨ 243 * (k + 2) ≤ j → q'.2 203 j = τ 203 j) ∧ ∀ a, a ≠ 203 → q'.2 a = τ a)
      (Q := fun r => ∃ f' a b c q', r = T_X12_spreadNaps_2 f' (Int32.ofNat k) (Int32.ofNat s) (Int32.ofNat (v + 1)) a b c q' ∧ f + 1 ≤ f' + 2000 ∧ (∀ v', v' < 243 → BS (q' 203 (243 * (k + 1) + v')) (fun u => ∃ v0, v0 < v + 1 ∧ ∃ w, w < 2 ^ gN g ∧ RE g x s k (eNM v0) w ∧ u < 2 ^ gN g ∧ lwB g x k u w = true ∧ nwM s v0 u 5 = v')) ∧ (∀ j, j < 243 * (k + 1) ∨ 243 * (k + 2) ≤ j → q' 203 j = τ 203 j) ∧ ∀ a, a ≠ 203 → q' a = τ a) (N := 2 ^ gN g) (C := 60) (C0 := f - 1950) (by
        rintro f1 w ⟨v6, q'⟩ hw hf1 ⟨y1, y2, y3⟩
        have y1 : ∀ v', v' < 243 → BS (q' 203 (243 * (k + 1) + v')) (fun u => (∃ v0, v0 < v ∧ ∃ w, w < 2 ^ gN g ∧ RE g x s k (eNM v0) w ∧ u < 2 ^ gN g ∧ lwB g x k u w = true ∧ nwM s v0 u 5 = v') ∨ ∃ w0, w0 < w ∧ RE g x s k (eNM v) w0 ∧ u < 2 ^ gN g ∧ lwB g x k u w0 = true ∧ nwM s v u 5 = v') := y1
        have y2 : ∀ j, j < 243 * (k + 1) ∨ 243 * (k + 2) ≤ j → q' 203 j = τ 203 j := y2
        have y3 : ∀ a, a ≠ 203 → q' a = τ a := y3
        obtain ⟨f1, rfl⟩ : ∃ j, f1 = j + 1 := Nat.exists_eq_succ_of_ne_zero (by omega)
        obtain ⟨hy, hno⟩ := m_has (τ := q') hx4 (show w < 32 by omega)
        left
        have hst : ∀ r, O_X12_has [.inl x4, .inl (Int32.ofNat w)] q' = some (r, q') → T_X12_spreadNaps_26 (f1 + 1) (Int32.ofNat k) (Int32.ofNat s) (Int32.ofNat v) x4 (Int32.ofNat w) v6 q' = if r = 0 then T_X12_spreadNaps_26 f1 (Int32.ofNat k) (Int32.ofNat s) (Int32.ofNat v) x4 (Int32.ofNat (w + 1)) v6 q' else T_X12_spreadNaps_51 f1 (Int32.ofNat k) (Int32.ofNat s) (Int32.ofNat v) x4 (Int32.ofNat w) 0 q' := fun r hr => by
          rw [t_X12_spreadNaps_26, hev q' y3, Option.bind_some]
          dsimp only
          rw [if_neg (show ¬ Int32.ofNat (2 ^ gN g - 1) < Int32.ofNat w by rw [pn_lt (by omega) (by omega)]; omega), hr, Option.bind_some]
          dsimp only
          rw [pn_a1]
        by_cases c : RE g x s k (eNM v) w
        · obtain ⟨f', q2, d1, d2, d3, d4, d5⟩ := r_spread1 (f := f1) (x4 := x4) (u6 := v6) hA (hMq q' y3) hB hn0 hn5 hs (fun k p h1 h2 => by rw [y3 197 (by omega)]; exact h197 k p h1 h2) hn hk hv hw y1 (by omega)
          refine ⟨f', (.inl (Int32.ofNat (2 ^ gN g)), q2), ?_, by omega, fun v' hv' => BS_of (d3 v' hv') (fun u hu => ?_), fun j hj => by show q2 203 j = _; rw [d4 j hj, y2 j hj], fun a ha => by show q2 a = _; rw [d5 a ha, y3 a ha]⟩
          · show T_X12_spreadNaps_26 (f1 + 1) _ _ _ x4 (Int32.ofNat w) v6 q' = _
            rw [hst 1 (hy c), if_neg (show ¬ (1 : Int32) = 0 by decide)]
            exact d1
          · constructor
            · rintro ((a | ⟨w0, a, b⟩) | ⟨a, b⟩)
              · exact Or.inl a
              · exact Or.inr ⟨w0, by omega, b⟩
              · exact Or.inr ⟨w, by omega, c, a, b⟩
            · rintro (a | ⟨w0, a, b, d⟩)
              · exact Or.inl (Or.inl a)
              · by_cases e : w0 = w
                · rw [e] at d; exact Or.inr d
                · exact Or.inl (Or.inr ⟨w0, by omega, b, d⟩)
        · refine ⟨f1, (v6, q'), ?_, by omega, fun v' hv' => BS_of (y1 v' hv') (fun u hu => ⟨fun h => h.imp id (fun ⟨w0, a, b⟩ => ⟨w0, by omega, b⟩), fun h => h.imp id (fun ⟨w0, a, b, d⟩ => ⟨w0, ?_, b, d⟩)⟩), y2, y3⟩
          · show T_X12_spreadNaps_26 (f1 + 1) _ _ _ x4 (Int32.ofNat w) v6 q' = _
            rw [hst 0 (hno c), if_pos (show (0 : Int32) = 0 from rfl)]
          · have : w0 ≠ w := fun e => c (by rw [← e]; exact b)
            omega) (by
        rintro f1 ⟨v6, q'⟩ hf1 ⟨y1, y2, y3⟩
        have y3 : ∀ a, a ≠ 203 → q' a = τ a := y3
        obtain ⟨f1, rfl⟩ : ∃ j, f1 = j + 1 := Nat.exists_eq_succ_of_ne_zero (by omega)
        refine ⟨f1, .inl x4, .inl (Int32.ofNat (2 ^ gN g)), v6, q', ?_, by omega, fun v' hv' => BS_of (y1 v' hv') (fun u hu => ?_), y2, y3⟩
        · show T_X12_spreadNaps_26 (f1 + 1) _ _ _ x4 (Int32.ofNat (2 ^ gN g)) v6 q' = _
          rw [t_X12_spreadNaps_26, hev q' y3, Option.bind_some]
          dsimp only
          rw [if_pos (show Int32.ofNat (2 ^ gN g - 1) < Int32.ofNat (2 ^ gN g) from (pn_lt (by omega) (by omega)).mpr (by omega)), pn_a1]
        · constructor
          · rintro (⟨v0, a, b⟩ | ⟨w0, a, b, d⟩)
            · exact ⟨v0, by omega, b⟩
            · exact ⟨v, by omega, w0, a, b, d⟩
          · rintro ⟨v0, a, w0, b, d, e⟩
            by_cases e2 : v0 = v
            · rw [e2] at d e; exact Or.inr ⟨w0, b, d, e⟩
            · exact Or.inl ⟨v0, by omega, w0, b, d, e⟩) (2 ^ gN g) 0 f (u6, q) (by omega) (by omega) ⟨fun v' hv' => BS_of (z1 v' hv') (fun u hu => ⟨Or.inl, fun h => h.resolve_right (fun ⟨w0, z, _⟩ => absurd z (by omega))⟩), z2, z3⟩
    obtain ⟨f', a, b, c, q', d1, d2, d3, d4, d5⟩ := hin
    refine ⟨f', (a, b, c, q'), ?_, by omega, d3, d4, d5⟩
    show T_X12_spreadNaps_2 (f + 1) _ _ (Int32.ofNat v) u4 u5 u6 q = _
    rw [t_X12_spreadNaps_2, if_pos (show Int32.ofNat v < (243 : Int32) from (pn_lt (b := 243) (by omega) (by omega)).mpr hv), show (243 : Int32) * Int32.ofNat k = Int32.ofNat (243 * k) from pn_mul 243 _, pn_add, pn_ix (show 243 * k + v < 3159 by omega) (by omega), Option.bind_some, hx4d]
    exact d1
  · rintro f ⟨u4, u5, u6, q⟩ hf ⟨z1, z2, z3⟩
    obtain ⟨f, rfl⟩ : ∃ j, f = j + 1 := Nat.exists_eq_succ_of_ne_zero (by omega)
    show ∃ τ', en_ov (T_X12_spreadNaps_2 (f + 1) _ _ (Int32.ofNat 243) u4 u5 u6 q) = _ ∧ _
    rw [t_X12_spreadNaps_2, if_neg (show ¬ Int32.ofNat 243 < (243 : Int32) by decide)]
    refine ⟨q, rfl, fun v' hv' => BS_of (z1 v' hv') (fun u hu => ?_), z2, z3⟩
    constructor
    · rintro ⟨v0, a, w, b, d, e, h1, h2⟩
      exact ⟨eNM v0, w, b, d, e, h1, by rw [(nw_e hs a (show u < 32 by omega)).1, h2]⟩
    · rintro ⟨c, w, b, d, e, h1, h2⟩
      obtain ⟨v0, hv0, rfl⟩ := RE_e hs hn5 d
      have hnw := nw_e hs hv0 (show u < 32 by omega)
      exact ⟨v0, hv0, w, b, d, e, h1, eNM_inj hnw.2 hv' (by rw [← hnw.1, h2])⟩
