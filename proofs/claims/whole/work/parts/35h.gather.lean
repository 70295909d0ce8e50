/-! naps: the reference gathers and tells -/
def NTb (g : pG) (x : pS) (s F m : Nat) (τ : en_M) (k : Nat) : Prop := ∀ v, v < 243 → BS (τ 204 (243 * k + v)) (fun w => RE g x s k (eNM v) w ∧ LE g x s F (m - k) k (eNM v) w)
theorem r_gather1 {g t ro x us kp} {B n k s v w f F m : Nat} {τ : en_M} {x4 : Int32} (hA : AV B (g, t, ro, x, us, kp)) (hM : MI τ (g, t, ro, x, us, kp)) (hB : B + n < 1000000000) (hn0 : 0 < gN g) (hn5 : gN g ≤ 5) (hs : s = 1 ∨ s = 2) (h197 : ∀ k p, k ≤ n → p < gN g → τ 197 (7 * k + p) = Int32.ofNat (odN g x k p)) (hn : n ≤ 12) (hk : k < n) (hv : v < 243) (hw : w < 2 ^ gN g) (hN : NTb g x s F m τ (k + 1)) (hf : 50 < f) :
    ((∃ u, GO g x s F m k (eNM v) w u) → ∃ f' a b, T_X12_gatherNaps_54 f (Int32.ofNat k) (Int32.ofNat s) (Int32.ofNat v) x4 (Int32.ofNat w) 0 0 τ = T_X12_gatherNaps_26 f' (Int32.ofNat k) (Int32.ofNat s) (Int32.ofNat v) x4 (Int32.ofNat (w + 1)) a b (en_up τ 204 (243 * k + v) (τ 204 (243 * k + v) ||| en_shl 1 (Int32.ofNat w))) ∧ f ≤ f' + 40) ∧
    ((¬ ∃ u, GO g x s F m k (eNM v) w u) → ∃ f' a b, T_X12_gatherNaps_54 f (Int32.ofNat k) (Int32.ofNat s) (Int32.ofNat v) x4 (Int32.ofNat w) 0 0 τ = T_X12_gatherNaps_26 f' (Int32.ofNat k) (Int32.ofNat s) (Int32.ofNat v) x4 (Int32.ofNat (w + 1)) a b τ ∧ f ≤ f' + 40) := by
  have hg : GV g := hA.1
  have h32 : 2 ^ gN g ≤ 32 := Nat.pow_le_pow_right (n := 2) (by decide) hn5
  have hpos := Nat.two_pow_pos (gN g)
  have hev : O_X12_everybody [.inr (185, 12, 0, 0)] τ = some (Int32.ofNat (2 ^ gN g - 1), τ) := r_everybody hg.1 hM.1.1
  have hix : en_ix ((243 : Int32) * Int32.ofNat k + Int32.ofNat v) 3159 = some (243 * k + v) := by
    rw [show (243 : Int32) * Int32.ofNat k = Int32.ofNat (243 * k) from pn_mul 243 _, pn_add]
    exact pn_ix (by omega) (by omega)
  have hstep : ∀ f u, u < 2 ^ gN g → (GO g x s F m k (eNM v) w u → T_X12_gatherNaps_54 (f + 1) (Int32.ofNat k) (Int32.ofNat s) (Int32.ofNat v) x4 (Int32.ofNat w) 0 (Int32.ofNat u) τ = T_X12_gatherNaps_54 f (Int32.ofNat k) (Int32.ofNat s) (Int32.ofNat v) x4 (Int32.ofNat w) 1 (Int32.ofNat (u + 1)) τ) ∧ (¬ GO g x s F m k (eNM v) w u → T_X12_gatherNaps_54 (f + 1) (Int32.ofNat k) (Int32.ofNat s) (Int32.ofNat v) x4 (Int32.ofNat w) 0 (Int32.ofNat u) τ = T_X12_gatherNaps_54 f (Int32.ofNat k) (Int32.ofNat s) (Int32.ofNat v) x4 (Int32.ofNat w) 0 (Int32.ofNat (u + 1)) τ) := by
    intro f u hu
    have hlaw := r_isLawful (k := k) (s := u) (w := w) (τ := τ) hA hM hB hn0 h197 (by omega) (by omega) hu hw
    have hnw := nw_e hs hv (show u < 32 by omega)
    have hT := hN _ hnw.2
    rw [← hnw.1] at hT
    obtain ⟨hy, hno⟩ := m_has (τ := τ) hT (show u < 32 by omega)
    rw [t_X12_gatherNaps_54, hev, Option.bind_some]
    dsimp only
    rw [if_neg (show ¬ Int32.ofNat (2 ^ gN g - 1) < Int32.ofNat u by rw [pn_lt (by omega) (by omega)]; omega), if_pos (show (0 : Int32) = 0 from rfl), hlaw, Option.bind_some]
    dsimp only
    rw [pi_if (pb2_0 (lwB g x k u w = true)), pn_a1, pn_a1, m_withSet hn5 (by omega) hv hu hM.1.1, Option.bind_some]
    dsimp only
    rw [show (243 : Int32) * Int32.ofNat (k + 1) = Int32.ofNat (243 * (k + 1)) from pn_mul 243 _, pn_add, pn_ix (show 243 * (k + 1) + nwM s v u 5 < 3159 by omega) (by omega), Option.bind_some]
    constructor
    · rintro ⟨-, g2, g3, g4⟩
      rw [if_neg (fun z => z g2), hy ⟨g3, g4⟩, Option.bind_some]
      dsimp only
      rw [if_neg (show ¬ (1 : Int32) = 0 by decide)]
    · intro hgo
      by_cases c : lwB g x k u w = true
      · rw [if_neg (fun z => z c), hno (fun z => hgo ⟨hu, c, z.1, z.2⟩), Option.bind_some]
        dsimp only
        rw [if_pos (show (0 : Int32) = 0 from rfl)]
      · rw [if_pos c]
  constructor
  · intro hex
    obtain ⟨h1, h2⟩ := ltP_ok hex
    generalize ltP (GO g x s F m k (eNM v) w) = u0 at h1 h2
    have hu0 := h1.1
    obtain ⟨_, e1, -⟩ := pl_to (F := fun f u (_ : Unit) => T_X12_gatherNaps_54 f (Int32.ofNat k) (Int32.ofNat s) (Int32.ofNat v) x4 (Int32.ofNat w) 0 (Int32.ofNat u) τ) (P := fun _ _ => True) (N := u0) (fun f u _ hu _ => ⟨(), (hstep f u (by omega)).2 (h2 u hu), trivial⟩) u0 0 f () (by omega) (by omega) trivial
    have e1 : T_X12_gatherNaps_54 f (Int32.ofNat k) (Int32.ofNat s) (Int32.ofNat v) x4 (Int32.ofNat w) 0 0 τ = T_X12_gatherNaps_54 (f - u0) (Int32.ofNat k) (Int32.ofNat s) (Int32.ofNat v) x4 (Int32.ofNat w) 0 (Int32.ofNat u0) τ := e1
    obtain ⟨f2, hf2⟩ : ∃ j, f - u0 = j + 1 + 1 := ⟨f - u0 - 2, by omega⟩
    refine ⟨f2, .inl 1, .inl (Int32.ofNat (u0 + 1)), ?_, by omega⟩
    rw [e1, hf2, (hstep (f2 + 1) u0 hu0).1 h1, t_X12_gatherNaps_54, hev, Option.bind_some]
    dsimp only
    rw [if_neg (show ¬ (1 : Int32) = 0 by decide), if_neg (show ¬ (1 : Int32) = 0 by decide), hix, Option.bind_some, Option.bind_some, ite_self, pn_a1]
  · intro hnex
    obtain ⟨_, e1, -⟩ := pl_to (F := fun f u (_ : Unit) => T_X12_gatherNaps_54 f (Int32.ofNat k) (Int32.ofNat s) (Int32.ofNat v) x4 (Int32.ofNat w) 0 (Int32.ofNat u) τ) (P := fun _ _ => True) (N := 2 ^ gN g) (fun f u _ hu _ => ⟨(), (hstep f u hu).2 (fun z => hnex ⟨u, z⟩), trivial⟩) (2 ^ gN g) 0 f () (by omega) (by omega) trivial
    have e1 : T_X12_gatherNaps_54 f (Int32.ofNat k) (Int32.ofNat s) (Int32.ofNat v) x4 (Int32.ofNat w) 0 0 τ = T_X12_gatherNaps_54 (f - 2 ^ gN g) (Int32.ofNat k) (Int32.ofNat s) (Int32.ofNat v) x4 (Int32.ofNat w) 0 (Int32.ofNat (2 ^ gN g)) τ := e1
    obtain ⟨f2, hf2⟩ : ∃ j, f - 2 ^ gN g = j + 1 := Nat.exists_eq_succ_of_ne_zero (by omega)
    refine ⟨f2, .inl 0, .inl (Int32.ofNat (2 ^ gN g)), ?_, by omega⟩
    rw [e1, hf2, t_X12_gatherNaps_54, hev, Option.bind_some]
    dsimp only
    rw [if_pos (show Int32.ofNat (2 ^ gN g - 1) < Int32.ofNat (2 ^ gN g) from (pn_lt (by omega) (by omega)).mpr (by omega)), if_pos (show (0 : Int32) = 0 from rfl), pn_a1]
theorem r_gather {g t ro x us kp} {B n k s F m : Nat} {τ : en_M} (hA : AV B (g, t, ro, x, us, kp)) (hM : MI τ (g, t, ro, x, us, kp)) (hB : B + n < 1000000000) (hn0 : 0 < gN g) (hn5 : gN g ≤ 5) (hs : s = 1 ∨ s = 2) (h197 : ∀ k p, k ≤ n → p < gN g → τ 197 (7 * k + p) = Int32.ofNat (odN g x k p)) (hn : n ≤ 12) (hk : k < n) (hkm : k < m) (hT : MTb g x s τ k) (hN : NTb g x s F m τ (k + 1)) (h0 : ∀ v, v < 243 → τ 204 (243 * k + v) = 0) :
    ∃ τ', O_X12_gatherNaps [.inr (185, 12, 0, 0), .inl (Int32.ofNat k), .inl (Int32.ofNat s)] τ = some τ' ∧ NTb g x s F m τ' k ∧ (∀ j, j < 243 * k ∨ 243 * (k + 1) ≤ j → τ' 204 j = τ 204 j) ∧ ∀ a, a ≠ 204 → τ' a = τ a := by
  have hg : GV g := hA.1
  have h32 : 2 ^ gN g ≤ 32 := Nat.pow_le_pow_right (n := 2) (by decide) hn5
  have hpos := Nat.two_pow_pos (gN g)
  have hFU := en_FU_ge
  have hMq : ∀ q : en_M, (∀ a, a ≠ 204 → q a = τ a) → MI q (g, t, ro, x, us, kp) := fun q h => hM.off2 (fun c _ h1 => h c h1)
  have hev : ∀ q : en_M, (∀ a, a ≠ 204 → q a = τ a) → O_X12_everybody [.inr (185, 12, 0, 0)] q = some (Int32.ofNat (2 ^ gN g - 1), q) := fun q h => r_everybody hg.1 (hMq q h).1.1
  have hmk : m - k = (m - (k + 1)) + 1 := by omega
  have hLE : ∀ v w, RE g x s k (eNM v) w → (LE g x s F (m - k) k (eNM v) w ↔ ∃ u, GO g x s F m k (eNM v) w u) := fun v w hr => by
    rw [hmk]
    constructor
    · rintro ⟨u, a, b, d⟩
      exact ⟨u, a, b, RE_go hr a b, d⟩
    · rintro ⟨u, a, b, -, d⟩
      exact ⟨u, a, b, d⟩
  rw [o_X12_gatherNaps, t_X12_gatherNaps_0]
  refine pl_for (F := fun f v (q : en_V × en_V × en_V × en_V × en_M) => T_X12_gatherNaps_2 f (Int32.ofNat k) (Int32.ofNat s) (Int32.ofNat v) q.1 q.2.1 q.2.2.1 q.2.2.2.1 q.2.2.2.2) (P := fun v q => (∀ v', v' < v → BS (q.2.2.2.2 204 (243 * k + v')) (fun w => RE g x s k (eNM v') w ∧ LE g x s F (m - k) k (eNM v') w)) ∧ (∀ j, j < 243 * k ∨ 243 * k + v ≤ j → q.2.2.2.2 204 j = τ 204 j) ∧ ∀ a, a ≠ 204 → q.2.2.2.2 a = τ a)
    (Q := fun r => ∃ τ', en_ov r = some τ' ∧ NTb g x s F m τ' k ∧ (∀ j, j < 243 * k ∨ 243 * (k + 1) ≤ j → τ' 204 j = τ 204 j) ∧ ∀ a, a ≠ 204 → τ' a = τ a) (N := 243) (C := 2200) (C0 := 10) ?_ ?_ 243 0 en_FU (en_un, en_un, en_un, en_un, τ) (by omega) (by omega) ⟨fun v' hv' => absurd hv' (by omega), fun _ _ => rfl, fun _ _ => rfl⟩
  · rintro f v ⟨u4, u5, u6, u7, q⟩ hv hf ⟨z1, z2, z3⟩
    have z1 : ∀ v', v' < v → BS (q 204 (243 * k + v')) (fun w => RE g x s k (eNM v') w ∧ LE g x s F (m - k) k (eNM v') w) := z1
    have z2 : ∀ j, j < 243 * k ∨ 243 * k + v ≤ j → q 204 j = τ 204 j := z2
    have z3 : ∀ a, a ≠ 204 → q a = τ a := z3
    obtain ⟨f, rfl⟩ : ∃ j, f = j + 1 := Nat.exists_eq_succ_of_ne_zero (by omega)
    have hx4 : BS (q 203 (243 * k + v)) (fun w => RE g x s k (eNM v) w) := by rw [z3 203 (by omega)]; exact hT v hv
    generalize hx4d : q 203 (243 * k + v) = x4 at hx4
    left
    have hin := pl_for (F := fun f w (q' : en_V × en_V × en_M) => T_X12_gatherNaps_26 f (Int32.ofNat k) (Int32.ofNat s) (Int32.ofNat v) x4 (Int32.ofNat w) q'.1 q'.2.1 q'.2.2) (P := fun w q' => BS (q'.2.2 204 (243 * k + v)) (fun w' => w' < w ∧ RE g x s k (eNM v) w' ∧ LE g x s F (m - k) k (eNM v) w') ∧ (∀ j, j ≠ 243 * k + v → q'.2.2 204 j = q 204 j) ∧ ∀ a, a ≠ 204 → q'.2.2 a = τ a)
      (Q := fun r => ∃ f' a b c d q', r = T_X12_gatherNaps_2 f' (Int32.ofNat k) (Int32.ofNat s) (Int32.ofNat (v + 1)) a b c d q' ∧ f + 1 ≤ f' + 2200 ∧ BS (q' 204 (243 * k + v)) (fun w' => RE g x s k (eNM v) w' ∧ LE g x s F (m - k) k (eNM v) w') ∧ (∀ j, j ≠ 243 * k + v → q' 204 j = q 204 j) ∧ ∀ a, a ≠ 204 → q' a = τ a) (N := 2 ^ gN g) (C := 60) (C0 := f - 1950) (by
        rintro f1 w ⟨v6, v7, q'⟩ hw hf1 ⟨y1, y2, y3⟩
        have y1 : BS (q' 204 (243 * k + v)) (fun w' => w' < w ∧ RE g x s k (eNM v) w' ∧ LE g x s F (m - k) k (eNM v) w') := y1
        have y2 : ∀ j, j ≠ 243 * k + v → q' 204 j = q 204 j := y2
        have y3 : ∀ a, a ≠ 204 → q' a = τ a := y3
        obtain ⟨f1, rfl⟩ : ∃ j, f1 = j + 1 := Nat.exists_eq_succ_of_ne_zero (by omega)
        obtain ⟨hy, hno⟩ := m_has (τ := q') hx4 (show w < 32 by omega)
        left
        have hst : ∀ r, O_X12_has [.inl x4, .inl (Int32.ofNat w)] q' = some (r, q') → T_X12_gatherNaps_26 (f1 + 1) (Int32.ofNat k) (Int32.ofNat s) (Int32.ofNat v) x4 (Int32.ofNat w) v6 v7 q' = if r = 0 then T_X12_gatherNaps_26 f1 (Int32.ofNat k) (Int32.ofNat s) (Int32.ofNat v) x4 (Int32.ofNat (w + 1)) v6 v7 q' else T_X12_gatherNaps_54 f1 (Int32.ofNat k) (Int32.ofNat s) (Int32.ofNat v) x4 (Int32.ofNat w) 0 0 q' := fun r hr => by
          rw [t_X12_gatherNaps_26, hev q' y3, Option.bind_some]
          dsimp only
          rw [if_neg (show ¬ Int32.ofNat (2 ^ gN g - 1) < Int32.ofNat w by rw [pn_lt (by omega) (by omega)]; omega), hr, Option.bind_some]
          dsimp only
          rw [pn_a1]
        have hNq : NTb g x s F m q' (k + 1) := fun v' hv' => by rw [y2 _ (by omega), z2 _ (by omega)]; exact hN v' hv'
        -- not one more
        have skip : (¬ (RE g x s k (eNM v) w ∧ LE g x s F (m - k) k (eNM v) w)) → BS (q' 204 (243 * k + v)) (fun w' => w' < w + 1 ∧ RE g x s k (eNM v) w' ∧ LE g x s F (m - k) k (eNM v) w') := fun hn => BS_of y1 (fun w' hw' => ⟨fun ⟨a, b⟩ => ⟨by omega, b⟩, fun ⟨a, b⟩ => ⟨by
          have : w' ≠ w := fun e => hn (by rw [← e]; exact b)
          omega, b⟩⟩)
        by_cases c : RE g x s k (eNM v) w
        · obtain ⟨gy, gn⟩ := r_gather1 (f := f1) (x4 := x4) (F := F) (m := m) hA (hMq q' y3) hB hn0 hn5 hs (fun k p h1 h2 => by rw [y3 197 (by omega)]; exact h197 k p h1 h2) hn hk hv hw hNq (by omega)
          by_cases c2 : ∃ u, GO g x s F m k (eNM v) w u
          · obtain ⟨f', a, b, d1, d2⟩ := gy c2
            refine ⟨f', (a, b, en_up q' 204 (243 * k + v) (q' 204 (243 * k + v) ||| en_shl 1 (Int32.ofNat w))), ?_, by omega, ?_, fun j hj => by show en_up q' 204 _ _ 204 j = _; rw [pu_slot hj]; exact y2 j hj, fun a ha => by show en_up q' 204 _ _ a = _; rw [pu_row ha]; exact y3 a ha⟩
            · show T_X12_gatherNaps_26 (f1 + 1) _ _ _ x4 (Int32.ofNat w) v6 v7 q' = _
              rw [hst 1 (hy c), if_neg (show ¬ (1 : Int32) = 0 by decide)]
              exact d1
            · show BS (en_up q' 204 (243 * k + v) _ 204 (243 * k + v)) _
              rw [pu_same]
              refine BS_of (BS_or y1 (BS_1 (show w < 32 by omega))) (fun w' hw' => ?_)
              constructor
              · rintro (⟨a, b⟩ | rfl)
                · exact ⟨by omega, b⟩
                · exact ⟨by omega, c, (hLE v _ c).mpr c2⟩
              · rintro ⟨a, b⟩
                by_cases e : w' = w
                · exact Or.inr e
                · exact Or.inl ⟨by omega, b⟩
          · obtain ⟨f', a, b, d1, d2⟩ := gn c2
            refine ⟨f', (a, b, q'), ?_, by omega, skip (fun z => c2 ((hLE v w c).mp z.2)), y2, y3⟩
            show T_X12_gatherNaps_26 (f1 + 1) _ _ _ x4 (Int32.ofNat w) v6 v7 q' = _
            rw [hst 1 (hy c), if_neg (show ¬ (1 : Int32) = 0 by decide)]
            exact d1
        · refine ⟨f1, (v6, v7, q'), ?_, by omega, skip (fun z => c z.1), y2, y3⟩
          show T_X12_gatherNaps_26 (f1 + 1) _ _ _ x4 (Int32.ofNat w) v6 v7 q' = _
          rw [hst 0 (hno c), if_pos (show (0 : Int32) = 0 from rfl)]) (by
        rintro f1 ⟨v6, v7, q'⟩ hf1 ⟨y1, y2, y3⟩
        have y3 : ∀ a, a ≠ 204 → q' a = τ a := y3
        obtain ⟨f1, rfl⟩ : ∃ j, f1 = j + 1 := Nat.exists_eq_succ_of_ne_zero (by omega)
        refine ⟨f1, .inl x4, .inl (Int32.ofNat (2 ^ gN g)), v6, v7, q', ?_, by omega, BS_of y1 (fun w' hw' => ⟨fun ⟨a, b⟩ => b, fun b => ⟨RE_lt b.1, b⟩⟩), y2, y3⟩
        show T_X12_gatherNaps_26 (f1 + 1) _ _ _ x4 (Int32.ofNat (2 ^ gN g)) v6 v7 q' = _
        rw [t_X12_gatherNaps_26, hev q' y3, Option.bind_some]
        dsimp only
        rw [if_pos (show Int32.ofNat (2 ^ gN g - 1) < Int32.ofNat (2 ^ gN g) from (pn_lt (by omega) (by omega)).mpr (by omega)), pn_a1]) (2 ^ gN g) 0 f (u6, u7, q) (by omega) (by omega) ⟨by
          show BS (q 204 (243 * k + v)) _
          rw [z2 _ (by omega), h0 v hv]; exact BS_0 (fun i _ z => absurd z.1 (by omega)), fun _ _ => rfl, z3⟩
    obtain ⟨f', a, b, c, d, q', d1, d2, d3, d4, d5⟩ := hin
    refine ⟨f', (a, b, c, d, q'), ?_, by omega, fun v' hv' => ?_, fun j hj => by show q' 204 j = _; rw [d4 j (by omega), z2 j (by omega)], d5⟩
    · show T_X12_gatherNaps_2 (f + 1) _ _ (Int32.ofNat v) u4 u5 u6 u7 q = _
      rw [t_X12_gatherNaps_2, if_pos (show Int32.ofNat v < (243 : Int32) from (pn_lt (b := 243) (by omega) (by omega)).mpr hv), show (243 : Int32) * Int32.ofNat k = Int32.ofNat (243 * k) from pn_mul 243 _, pn_add, pn_ix (show 243 * k + v < 3159 by omega) (by omega), Option.bind_some, hx4d]
      exact d1
    · show BS (q' 204 (243 * k + v')) _
      by_cases e : v' = v
      · rw [e]; exact d3
      · rw [d4 _ (by omega)]; exact z1 v' (by omega)
  · rintro f ⟨u4, u5, u6, u7, q⟩ hf ⟨z1, z2, z3⟩
    obtain ⟨f, rfl⟩ : ∃ j, f = j + 1 := Nat.exists_eq_succ_of_ne_zero (by omega)
    show ∃ τ', en_ov (T_X12_gatherNaps_2 (f + 1) _ _ (Int32.ofNat 243) u4 u5 u6 u7 q) = _ ∧ _
    rw [t_X12_gatherNaps_2, if_neg (show ¬ Int32.ofNat 243 < (243 : Int32) by decide)]
    exact ⟨q, rfl, z1, fun j hj => z2 j (by omega), z3⟩
theorem dNM_RE {g : pG} {x : pS} {s k c w : Nat} (hs : s = 1 ∨ s = 2) (hn : gN g ≤ 5) (h : RE g x s k c w) : dNM c < 243 ∧ eNM (dNM c) = c := by
  obtain ⟨v, hv, rfl⟩ := RE_e hs hn h
  rw [dNM_e hv]; exact ⟨hv, rfl⟩
theorem r_napsWalk {g t x us kp} {B n s F m w f : Nat} {x2 x3 : Int32} {u8 : en_V} {τ : en_M} (hA : AV B (g, t, ([] : List Int32), x, us, kp)) (hM : MI τ (g, t, [], x, us, kp)) (hB : B + n < 1000000000) (hn0 : 0 < gN g) (hn5 : gN g ≤ 5) (hs : s = 1 ∨ s = 2) (h197 : ∀ k p, k ≤ n → p < gN g → τ 197 (7 * k + p) = Int32.ofNat (odN g x k p)) (hn : n ≤ 12) (hm : m ≤ n) (hN : ∀ k, k ≤ m → NTb g x s F m τ k) (hw : RE g x s m F w) (hf : 10000 < f) :
    ∃ τ', en_oi (T_X12_naps_218 f (Int32.ofNat s) x2 x3 (Int32.ofNat m) 0 0 0 u8 τ) = some (Int32.ofNat m, τ') ∧ MI τ' (g, t, rwL (fun k => Int32.ofNat (wkN g x s F m (k + 1)).2) m, x, us, kp) ∧ FrM τ τ' := by
  have hg : GV g := hA.1
  have h32 : 2 ^ gN g ≤ 32 := Nat.pow_le_pow_right (n := 2) (by decide) hn5
  have hpos := Nat.two_pow_pos (gN g)
  have z1 : dNM (wkN g x s F m 0).1 = 0 := by
    rw [show wkN g x s F m 0 = (0, 0) from rfl]; rfl
  have z2 : (wkN g x s F m 0).2 = 0 := rfl
  have e0 : T_X12_naps_218 f (Int32.ofNat s) x2 x3 (Int32.ofNat m) 0 0 0 u8 τ = T_X12_naps_218 f (Int32.ofNat s) x2 x3 (Int32.ofNat m) (Int32.ofNat (dNM (wkN g x s F m 0).1)) (Int32.ofNat (wkN g x s F m 0).2) (Int32.ofNat 0) u8 τ := by rw [z1, z2]; rfl
  rw [e0]
  refine pl_for (F := fun f k (q : en_V × en_M) => T_X12_naps_218 f (Int32.ofNat s) x2 x3 (Int32.ofNat m) (Int32.ofNat (dNM (wkN g x s F m k).1)) (Int32.ofNat (wkN g x s F m k).2) (Int32.ofNat k) q.1 q.2) (P := fun k q => MI q.2 (g, t, rwL (fun k => Int32.ofNat (wkN g x s F m (k + 1)).2) k, x, us, kp) ∧ q.2 204 = τ 204 ∧ q.2 197 = τ 197 ∧ FrM τ q.2)
    (Q := fun r => ∃ τ', en_oi r = some (Int32.ofNat m, τ') ∧ MI τ' (g, t, rwL (fun k => Int32.ofNat (wkN g x s F m (k + 1)).2) m, x, us, kp) ∧ FrM τ τ') (N := m) (C := 200) (C0 := 10) ?_ ?_ m 0 f (u8, τ) (by omega) (by omega) ⟨hM, rfl, rfl, FrM.refl _⟩
  · rintro f k ⟨v8, q⟩ hk hf ⟨p1, p2, p3, p4⟩
    have p1 : MI q (g, t, rwL (fun k => Int32.ofNat (wkN g x s F m (k + 1)).2) k, x, us, kp) := p1
    have p2 : q 204 = τ 204 := p2
    have p3 : q 197 = τ 197 := p3
    obtain ⟨f, rfl⟩ : ∃ j, f = j + 1 := Nat.exists_eq_succ_of_ne_zero (by omega)
    have hAr : AV B (g, t, rwL (fun k => Int32.ofNat (wkN g x s F m (k + 1)).2) k, x, us, kp) := hA.row (by rw [rwL_len]; omega)
    obtain ⟨w1, w2, w3⟩ := wkN_ok hw k (by omega)
    obtain ⟨g1, g2⟩ := w3 hk
    obtain ⟨hd1, hd2⟩ := dNM_RE hs hn5 w1
    have hcs : (wkN g x s F m (k + 1)).1 = nwC s (wkN g x s F m k).1 (wkN g x s F m (k + 1)).2 5 := rfl
    generalize hvk : dNM (wkN g x s F m k).1 = v at hd1 hd2
    have hwk := RE_lt w1
    have hlt := g1.1
    have hgo : ∀ u, u < 2 ^ gN g → (GO g x s F m k (wkN g x s F m k).1 (wkN g x s F m k).2 u → ∀ f1 a, T_X12_naps_228 (f1 + 1) (Int32.ofNat s) x2 x3 (Int32.ofNat m) (Int32.ofNat v) (Int32.ofNat (wkN g x s F m k).2) (Int32.ofNat k) (Int32.ofNat u) q = ((O_X12_tell [.inr (185, 12, 0, 0), .inl (Int32.ofNat u)] q).bind fun r21 => (O_X12_withSet [.inr (185, 12, 0, 0), .inl (Int32.ofNat v), .inl (Int32.ofNat u), .inl (Int32.ofNat s)] r21).bind fun r22 => T_X12_naps_218 f1 (Int32.ofNat s) x2 x3 (Int32.ofNat m) r22.1 (Int32.ofNat u) (Int32.ofNat (k + 1)) (.inl (Int32.ofNat u)) r22.2) ∨ a = 0) ∧ (¬ GO g x s F m k (wkN g x s F m k).1 (wkN g x s F m k).2 u → ∀ f1, T_X12_naps_228 (f1 + 1) (Int32.ofNat s) x2 x3 (Int32.ofNat m) (Int32.ofNat v) (Int32.ofNat (wkN g x s F m k).2) (Int32.ofNat k) (Int32.ofNat u) q = T_X12_naps_228 f1 (Int32.ofNat s) x2 x3 (Int32.ofNat m) (Int32.ofNat v) (Int32.ofNat (wkN g x s F m k).2) (Int32.ofNat k) (Int32.ofNat (u + 1)) q) := by
      intro u hu
      have hlaw := r_isLawful (k := k) (s := u) (w := (wkN g x s F m k).2) (τ := q) hAr p1 hB hn0 (fun k p h1 h2 => by rw [p3]; exact h197 k p h1 h2) (by omega) (by omega) hu hwk
      have hnw := nw_e hs hd1 (show u < 32 by omega)
      have hT := hN (k + 1) (by omega) _ hnw.2
      rw [← p2, ← hnw.1, hd2] at hT
      obtain ⟨hy, hno⟩ := m_has (τ := q) hT (show u < 32 by omega)
      have hstep : ∀ f1, T_X12_naps_228 (f1 + 1) (Int32.ofNat s) x2 x3 (Int32.ofNat m) (Int32.ofNat v) (Int32.ofNat (wkN g x s F m k).2) (Int32.ofNat k) (Int32.ofNat u) q = if ¬ lwB g x k u (wkN g x s F m k).2 = true then T_X12_naps_228 f1 (Int32.ofNat s) x2 x3 (Int32.ofNat m) (Int32.ofNat v) (Int32.ofNat (wkN g x s F m k).2) (Int32.ofNat k) (Int32.ofNat (u + 1)) q else (O_X12_has [.inl (q 204 (243 * (k + 1) + nwM s v u 5)), .inl (Int32.ofNat u)] q).bind fun r20 => if r20.1 = 0 then (T_X12_naps_228 f1 (Int32.ofNat s) x2 x3 (Int32.ofNat m) (Int32.ofNat v) (Int32.ofNat (wkN g x s F m k).2) (Int32.ofNat k) (Int32.ofNat (u + 1)) r20.2) else ((O_X12_tell [.inr (185, 12, 0, 0), .inl (Int32.ofNat u)] r20.2).bind fun r21 => (O_X12_withSet [.inr (185, 12, 0, 0), .inl (Int32.ofNat v), .inl (Int32.ofNat u), .inl (Int32.ofNat s)] r21).bind fun r22 => T_X12_naps_218 f1 (Int32.ofNat s) x2 x3 (Int32.ofNat m) r22.1 (Int32.ofNat u) (Int32.ofNat (k + 1)) (.inl (Int32.ofNat u)) r22.2) := fun f1 => by
        rw [t_X12_naps_228, hlaw, Option.bind_some]
        dsimp only
        rw [pi_if (pb2_0 (lwB g x k u (wkN g x s F m k).2 = true)), pn_a1, pn_a1, m_withSet hn5 (by omega) hd1 hu p1.1.1, Option.bind_some]
        dsimp only
        rw [show (243 : Int32) * Int32.ofNat (k + 1) = Int32.ofNat (243 * (k + 1)) from pn_mul 243 _, pn_add, pn_ix (show 243 * (k + 1) + nwM s v u 5 < 3159 by omega) (by omega), Option.bind_some]
      constructor
      · rintro ⟨-, a2, a3, a4⟩ f1 a
        left
        rw [hstep f1, if_neg (fun z => z a2), hy ⟨a3, a4⟩, Option.bind_some]
        dsimp only
        rw [if_neg (show ¬ (1 : Int32) = 0 by decide)]
      · intro hn f1
        rw [hstep f1]
        by_cases c : lwB g x k u (wkN g x s F m k).2 = true
        · rw [if_neg (fun z => z c), hno (fun z => hn ⟨hu, c, z.1, z.2⟩), Option.bind_some]
          dsimp only
          rw [if_pos (show (0 : Int32) = 0 from rfl)]
        · rw [if_pos c]
    generalize hu0d : (wkN g x s F m (k + 1)).2 = u0 at g1 g2 hcs hlt
    obtain ⟨_, e1, -⟩ := pl_to (F := fun f u (_ : Unit) => T_X12_naps_228 f (Int32.ofNat s) x2 x3 (Int32.ofNat m) (Int32.ofNat v) (Int32.ofNat (wkN g x s F m k).2) (Int32.ofNat k) (Int32.ofNat u) q) (P := fun _ _ => True) (N := u0) (fun f u _ hu _ => ⟨(), (hgo u (by omega)).2 (g2 u hu) f, trivial⟩) u0 0 f () (by omega) (by omega) trivial
    have e1 : T_X12_naps_228 f (Int32.ofNat s) x2 x3 (Int32.ofNat m) (Int32.ofNat v) (Int32.ofNat (wkN g x s F m k).2) (Int32.ofNat k) 0 q = T_X12_naps_228 (f - u0) (Int32.ofNat s) x2 x3 (Int32.ofNat m) (Int32.ofNat v) (Int32.ofNat (wkN g x s F m k).2) (Int32.ofNat k) (Int32.ofNat u0) q := e1
    obtain ⟨f2, hf2⟩ : ∃ j, f - u0 = j + 1 := Nat.exists_eq_succ_of_ne_zero (by omega)
    have hsel := ((hgo u0 hlt).1 g1 f2 (1 : Nat)).resolve_right (by omega)
    obtain ⟨q', r1, r2, r3, r4⟩ := p1.add (by rw [rwL_len]; omega) (Int32.ofNat u0)
    have hnw0 := nw_e hs hd1 (show u0 < 32 by omega)
    have hv1 : nwM s v u0 5 = dNM (wkN g x s F m (k + 1)).1 := by rw [hcs, ← hd2, hnw0.1, dNM_e hnw0.2]
    have r2' : MI q' (g, t, rwL (fun k => Int32.ofNat (wkN g x s F m (k + 1)).2) (k + 1), x, us, kp) := by
      show MI q' (g, t, rwL (fun k => Int32.ofNat (wkN g x s F m (k + 1)).2) k ++ [Int32.ofNat (wkN g x s F m (k + 1)).2], x, us, kp)
      rw [hu0d]; exact r2
    left
    refine ⟨f2, (.inl (Int32.ofNat u0), q'), ?_, by omega, r2', by show q' 204 = _; rw [r3 204 (by omega) (by omega), p2], by show q' 197 = _; rw [r3 197 (by omega) (by omega), p3], fun c hc => by show q' c = _; rw [r3 c (by omega) (by omega)]; exact p4 c hc⟩
    show T_X12_naps_218 (f + 1) _ x2 x3 _ (Int32.ofNat v) (Int32.ofNat (wkN g x s F m k).2) (Int32.ofNat k) v8 q = T_X12_naps_218 f2 _ x2 x3 _ (Int32.ofNat (dNM (wkN g x s F m (k + 1)).1)) (Int32.ofNat u0) (Int32.ofNat (k + 1)) (.inl (Int32.ofNat u0)) q'
    rw [t_X12_naps_218, if_pos ((pn_lt (by omega) (by omega)).mpr hk), e1, hf2, hsel, r1, Option.bind_some, m_withSet hn5 (by omega) hd1 hlt r2.1.1, Option.bind_some]
    dsimp only
    rw [hv1]
  · rintro f ⟨v8, q⟩ hf ⟨p1, p2, p3, p4⟩
    obtain ⟨f, rfl⟩ : ∃ j, f = j + 1 := Nat.exists_eq_succ_of_ne_zero (by omega)
    show ∃ τ', en_oi (T_X12_naps_218 (f + 1) _ x2 x3 _ _ _ (Int32.ofNat m) v8 q) = _ ∧ _
    rw [t_X12_naps_218, if_neg (by rw [pn_lt (by omega) (by omega)]; omega)]
    exact ⟨q, rfl, p1, p4⟩
