/-! sleeps: the reference's table, its walk, the call -/
def dwn (n i : Nat) : Int32 := Int32.ofNat (n - i) - 1
theorem dwn_lt {n i : Nat} (h : i < n) : dwn n i = Int32.ofNat (n - 1 - i) := by
  unfold dwn
  rw [show Int32.ofNat (n - i) - 1 = Int32.ofNat (n - i - 1) from pn_sub (b := 1) (by omega), show n - i - 1 = n - 1 - i by omega]
theorem dwn_s {n i : Nat} (h : i < n) : dwn n i + (-1 : Int32) = dwn n (i + 1) := by
  rw [dwn_lt h]
  by_cases c : i + 1 < n
  · rw [dwn_lt c, pn_dec (by omega), show n - 1 - i - 1 = n - 1 - (i + 1) by omega]
  · unfold dwn
    rw [show n - 1 - i = 0 by omega, show n - (i + 1) = 0 by omega]; rfl
theorem dwn_n (n : Nat) : dwn n n = -1 := by
  unfold dwn
  rw [Nat.sub_self]; rfl
theorem MI.off {τ τ' : en_M} {A : pI} (h : MI τ A) (hf : ∀ c, c ≠ 202 → τ' c = τ c) : MI τ' A := h.kept (fun j _ => by rw [hf 185 (by omega)]) (fun c hc => hf c (by omega))
theorem r_row {g t ro x us kp} {B n k f : Nat} {a b : en_V} {τ : en_M} (hA : AV B (g, t, ro, x, us, kp)) (hM : MI τ (g, t, ro, x, us, kp)) (hB : B + n < 1000000000) (hn0 : 0 < gN g) (h197 : ∀ k p, k ≤ n → p < gN g → τ 197 (7 * k + p) = Int32.ofNat (odN g x k p)) (hn : n ≤ 12) (hk : k < n) (hT : MB g x n τ (k + 1)) (hf : 28000 < f) :
    ∃ f' a' b' c' τ', T_X12_sleeps_67 f (Int32.ofNat n) (Int32.ofNat k) 0 a b τ = T_X12_sleeps_61 f' (Int32.ofNat n) (Int32.ofNat k + (-1 : Int32)) a' b' c' τ' ∧ f ≤ f' + 27000 ∧ MB g x n τ' k ∧ ∀ c, c ≠ 202 → τ' c = τ c := by
  have hg : GV g := hA.1
  have h128 := p2lt hg.1
  have hpos := Nat.two_pow_pos (gN g)
  exact pl_for (F := fun f w (q : en_V × en_V × en_M) => T_X12_sleeps_67 f (Int32.ofNat n) (Int32.ofNat k) (Int32.ofNat w) q.1 q.2.1 q.2.2) (P := fun w q => MB g x n q.2.2 (k + 1) ∧ (∀ t, t < w → (k = 0 → t = 0) → q.2.2 202 (128 * k + t) = Int32.ofNat (sbV g x (n - k) k t)) ∧ ∀ c, c ≠ 202 → q.2.2 c = τ c)
    (Q := fun r => ∃ f' a' b' c' τ', r = T_X12_sleeps_61 f' (Int32.ofNat n) (Int32.ofNat k + (-1 : Int32)) a' b' c' τ' ∧ f ≤ f' + 27000 ∧ MB g x n τ' k ∧ ∀ c, c ≠ 202 → τ' c = τ c) (N := 2 ^ gN g) (C := 205) (C0 := f - 26500) (by
    rintro f1 w ⟨u4, u5, υ⟩ hw hf1 ⟨p1, p2, p3⟩
    have p1 : MB g x n υ (k + 1) := p1
    have p2 : ∀ t, t < w → (k = 0 → t = 0) → υ 202 (128 * k + t) = Int32.ofNat (sbV g x (n - k) k t) := p2
    have p3 : ∀ c, c ≠ 202 → υ c = τ c := p3
    obtain ⟨f1, rfl⟩ : ∃ j, f1 = j + 1 := ⟨f1 - 1, by omega⟩
    have hM' : MI υ (g, t, ro, x, us, kp) := hM.off p3
    have hev : O_X12_everybody [.inr (185, 12, 0, 0)] υ = some (Int32.ofNat (2 ^ gN g - 1), υ) := r_everybody hg.1 hM'.1.1
    have hup : ∀ v : Int32, MB g x n (en_up υ 202 (128 * k + w) v) (k + 1) := fun v k' h1 h2 t ht h3 => by
      rw [pu_slot (by omega)]; exact p1 k' h1 h2 t ht h3
    left
    by_cases c : k = 0 ∧ w ≠ 0
    · obtain ⟨f2, rfl⟩ : ∃ j, f1 = j + 1 := ⟨f1 - 1, by omega⟩
      refine ⟨f2, (.inl (-1), .inl 0, en_up υ 202 (128 * k + w) (-1)), ?_, by omega, hup _, fun t ht h0 => ?_, fun c hc => by rw [show (((.inl (-1) : en_V), (.inl 0 : en_V), en_up υ 202 (128 * k + w) (-1)) : en_V × en_V × en_M).2.2 = en_up υ 202 (128 * k + w) (-1) from rfl, pu_row hc, p3 c hc]⟩
      · show T_X12_sleeps_67 (f2 + 1 + 1) (Int32.ofNat n) (Int32.ofNat k) (Int32.ofNat w) u4 u5 υ = _
        rw [t_X12_sleeps_67, hev, Option.bind_some]
        dsimp only
        rw [if_neg (show ¬ Int32.ofNat (2 ^ gN g - 1) < Int32.ofNat w by rw [pn_lt (by omega) (by omega)]; omega), t_X12_sleeps_81, hev, Option.bind_some]
        dsimp only
        rw [if_neg (show ¬ Int32.ofNat (2 ^ gN g - 1) < (0 : Int32) from pn_nlt0 (by omega)), if_neg (show ¬ (0 : Int32) < Int32.ofNat k by rw [c.1]; decide), if_neg (show ¬ Int32.ofNat w = 0 by rw [pn_eq0 (by omega)]; exact c.2), sh7, pn_ix (show 128 * k + w < 1664 by omega) (by omega), Option.bind_some, pn_a1]
      · have h0 := h0 c.1
        show en_up υ 202 (128 * k + w) (-1) 202 (128 * k + t) = _
        rw [pu_slot (by omega)]; exact p2 t (by omega) (fun _ => h0)
    · obtain ⟨f', a1, b1, e1, e2⟩ := r_cell (f := f1) (τ := υ) hA hM' hB hn0 (fun k p h1 h2 => by rw [p3 197 (by omega)]; exact h197 k p h1 h2) hn hk hw (fun h0 => by omega) p1 (by omega)
      refine ⟨f', (a1, b1, en_up υ 202 (128 * k + w) (Int32.ofNat (sbV g x (n - k) k w))), ?_, by omega, hup _, fun t ht h0 => ?_, fun c hc => by rw [show ((a1, b1, en_up υ 202 (128 * k + w) (Int32.ofNat (sbV g x (n - k) k w))) : en_V × en_V × en_M).2.2 = en_up υ 202 (128 * k + w) (Int32.ofNat (sbV g x (n - k) k w)) from rfl, pu_row hc, p3 c hc]⟩
      · show T_X12_sleeps_67 (f1 + 1) (Int32.ofNat n) (Int32.ofNat k) (Int32.ofNat w) u4 u5 υ = _
        rw [t_X12_sleeps_67, hev, Option.bind_some]
        dsimp only
        rw [if_neg (show ¬ Int32.ofNat (2 ^ gN g - 1) < Int32.ofNat w by rw [pn_lt (by omega) (by omega)]; omega)]
        exact e1
      · show en_up υ 202 (128 * k + w) _ 202 (128 * k + t) = _
        by_cases e : t = w
        · rw [e, pu_same]
        · rw [pu_slot (by omega)]; exact p2 t (by omega) h0) (by
    rintro f1 ⟨u4, u5, υ⟩ hf1 ⟨p1, p2, p3⟩
    have p1 : MB g x n υ (k + 1) := p1
    have p2 : ∀ t, t < 2 ^ gN g → (k = 0 → t = 0) → υ 202 (128 * k + t) = Int32.ofNat (sbV g x (n - k) k t) := p2
    have p3 : ∀ c, c ≠ 202 → υ c = τ c := p3
    obtain ⟨f1, rfl⟩ : ∃ j, f1 = j + 1 := ⟨f1 - 1, by omega⟩
    have hM' : MI υ (g, t, ro, x, us, kp) := hM.off p3
    have hev : O_X12_everybody [.inr (185, 12, 0, 0)] υ = some (Int32.ofNat (2 ^ gN g - 1), υ) := r_everybody hg.1 hM'.1.1
    refine ⟨f1, .inl (Int32.ofNat (2 ^ gN g)), u4, u5, υ, ?_, by omega, fun k' h1 h2 t ht h0 => ?_, p3⟩
    · show T_X12_sleeps_67 (f1 + 1) (Int32.ofNat n) (Int32.ofNat k) (Int32.ofNat (2 ^ gN g)) u4 u5 υ = _
      rw [t_X12_sleeps_67, hev, Option.bind_some]
      dsimp only
      rw [if_pos (show Int32.ofNat (2 ^ gN g - 1) < Int32.ofNat (2 ^ gN g) from (pn_lt (by omega) (by omega)).mpr (by omega))]
    · by_cases e : k' = k
      · subst e; exact p2 t ht h0
      · exact p1 k' (by omega) h2 t ht h0) (2 ^ gN g) 0 f (a, b, τ) (by omega) (by omega) ⟨hT, fun t ht => absurd ht (by omega), fun _ _ => rfl⟩
theorem r_missTab {g t ro x us kp} {B n : Nat} {τ : en_M} (hA : AV B (g, t, ro, x, us, kp)) (hM : MI τ (g, t, ro, x, us, kp)) (hB : B + n < 1000000000) (hn0 : 0 < gN g) (h197 : ∀ k p, k ≤ n → p < gN g → τ 197 (7 * k + p) = Int32.ofNat (odN g x k p)) (hn : n ≤ 12) (hn1 : 1 ≤ n) :
    ∃ f a b τ', T_X12_sleeps_31 en_FU (Int32.ofNat n) 0 τ = T_X12_sleeps_176 f (Int32.ofNat n) 0 0 a b (en_up τ' 185 10 0) ∧ 100000 < f ∧ MB g x n τ' 0 ∧ ∀ c, c ≠ 202 → τ' c = τ c := by
  have hg : GV g := hA.1
  have h128 := p2lt hg.1
  have hpos := Nat.two_pow_pos (gN g)
  have hFU := en_FU_ge
  obtain ⟨q', e1, e2, e3⟩ := pl_to (F := fun f i (q : en_M) => T_X12_sleeps_31 f (Int32.ofNat n) (Int32.ofNat i) q) (P := fun i q => (∀ t, t < i → q 202 (128 * n + t) = 0) ∧ ∀ c, c ≠ 202 → q c = τ c) (N := 2 ^ gN g) (by
      rintro f i υ hi ⟨p1, p2⟩
      have hM' : MI υ (g, t, ro, x, us, kp) := hM.off p2
      have hev : O_X12_everybody [.inr (185, 12, 0, 0)] υ = some (Int32.ofNat (2 ^ gN g - 1), υ) := r_everybody hg.1 hM'.1.1
      refine ⟨en_up υ 202 (128 * n + i) 0, ?_, fun t ht => ?_, fun c hc => by rw [pu_row hc]; exact p2 c hc⟩
      · show T_X12_sleeps_31 (f + 1) _ _ υ = _
        rw [t_X12_sleeps_31, hev, Option.bind_some]
        dsimp only
        rw [if_neg (show ¬ Int32.ofNat (2 ^ gN g - 1) < Int32.ofNat i by rw [pn_lt (by omega) (by omega)]; omega), sh7, pn_ix (show 128 * n + i < 1664 by omega) (by omega), Option.bind_some, pn_a1]
      · by_cases e : t = i
        · rw [e, pu_same υ 202 (128 * n + i) 0]
        · rw [pu_slot (by omega)]; exact p1 t (by omega)) (2 ^ gN g) 0 en_FU τ (by omega) (by omega) ⟨fun t ht => absurd ht (by omega), fun _ _ => rfl⟩
  have e1 : T_X12_sleeps_31 en_FU (Int32.ofNat n) 0 τ = T_X12_sleeps_31 (en_FU - 2 ^ gN g) (Int32.ofNat n) (Int32.ofNat (2 ^ gN g)) q' := e1
  obtain ⟨f2, hf2⟩ : ∃ j, en_FU - 2 ^ gN g = j + 1 := ⟨en_FU - 2 ^ gN g - 1, by omega⟩
  have hMq : MI q' (g, t, ro, x, us, kp) := hM.off e3
  have hevq : O_X12_everybody [.inr (185, 12, 0, 0)] q' = some (Int32.ofNat (2 ^ gN g - 1), q') := r_everybody hg.1 hMq.1.1
  rw [e1, hf2, t_X12_sleeps_31, hevq, Option.bind_some]
  dsimp only
  rw [if_pos (show Int32.ofNat (2 ^ gN g - 1) < Int32.ofNat (2 ^ gN g) from (pn_lt (by omega) (by omega)).mpr (by omega))]
  refine pl_for (F := fun f i (q : en_V × en_V × en_V × en_M) => T_X12_sleeps_61 f (Int32.ofNat n) (dwn n i) q.1 q.2.1 q.2.2.1 q.2.2.2) (P := fun i q => MB g x n q.2.2.2 (n - i) ∧ ∀ c, c ≠ 202 → q.2.2.2 c = τ c)
    (Q := fun r => ∃ f a b τ', r = T_X12_sleeps_176 f (Int32.ofNat n) 0 0 a b (en_up τ' 185 10 0) ∧ 100000 < f ∧ MB g x n τ' 0 ∧ ∀ c, c ≠ 202 → τ' c = τ c) (N := n) (C := 28005) (C0 := 100010) ?_ ?_ n 0 f2 (en_un, en_un, en_un, q') (by omega) (by omega) ⟨fun k' h1 h2 t ht _ => by
      show q' 202 (128 * k' + t) = _
      rw [show k' = n by omega, Nat.sub_self]; exact e2 t ht, e3⟩
  · rintro f i ⟨u3, u4, u5, υ⟩ hi hf ⟨p1, p2⟩
    have p1 : MB g x n υ (n - i) := p1
    have p2 : ∀ c, c ≠ 202 → υ c = τ c := p2
    obtain ⟨f, rfl⟩ : ∃ j, f = j + 1 := ⟨f - 1, by omega⟩
    obtain ⟨f', a', b', c', τ', g1, g2, g3, g4⟩ := r_row (k := n - 1 - i) (f := f) (a := u4) (b := u5) (τ := υ) hA (hM.off p2) hB hn0 (fun k p h1 h2 => by rw [p2 197 (by omega)]; exact h197 k p h1 h2) hn (by omega) (by rw [show n - 1 - i + 1 = n - i by omega]; exact p1) (by omega)
    refine Or.inl ⟨f', (a', b', c', τ'), ?_, by omega, by show MB g x n τ' (n - (i + 1)); rw [show n - (i + 1) = n - 1 - i by omega]; exact g3, fun c hc => by show τ' c = τ c; rw [g4 c hc, p2 c hc]⟩
    show T_X12_sleeps_61 (f + 1) (Int32.ofNat n) (dwn n i) u3 u4 u5 υ = T_X12_sleeps_61 f' (Int32.ofNat n) (dwn n (i + 1)) a' b' c' τ'
    rw [t_X12_sleeps_61, ← dwn_s hi, dwn_lt hi, if_neg (pn_nlt0 (by omega))]
    exact g1
  · rintro f ⟨u3, u4, u5, υ⟩ hf ⟨p1, p2⟩
    obtain ⟨f, rfl⟩ : ∃ j, f = j + 1 := ⟨f - 1, by omega⟩
    rw [Nat.sub_self] at p1
    refine ⟨f, u4, u5, υ, ?_, by omega, p1, p2⟩
    show T_X12_sleeps_61 (f + 1) (Int32.ofNat n) (dwn n n) u3 u4 u5 υ = _
    rw [t_X12_sleeps_61, dwn_n, if_pos (show (-1 : Int32) < 0 by decide)]
theorem r_missWalk {g t x us kp} {B n f : Nat} {a b : en_V} {τ : en_M} (hA : AV B (g, t, ([] : List Int32), x, us, kp)) (hM : MI τ (g, t, [], x, us, kp)) (hB : B + n < 1000000000) (hn0 : 0 < gN g) (h197 : ∀ k p, k ≤ n → p < gN g → τ 197 (7 * k + p) = Int32.ofNat (odN g x k p)) (hn : n ≤ 12) (hT : MB g x n τ 0) (hf : 100000 < f) :
    ∃ τ', en_oi (T_X12_sleeps_176 f (Int32.ofNat n) 0 0 a b τ) = some (Int32.ofNat (sbV g x n 0 0), τ') ∧ MI τ' (g, t, rwL (fun k => Int32.ofNat (wkS g x n (k + 1))) n, x, us, kp) ∧ FrM τ τ' := by
  have hg : GV g := hA.1
  have h128 := p2lt hg.1
  have hpos := Nat.two_pow_pos (gN g)
  refine pl_for (F := fun f k (q : en_V × en_V × en_M) => T_X12_sleeps_176 f (Int32.ofNat n) (Int32.ofNat (wkS g x n k)) (Int32.ofNat k) q.1 q.2.1 q.2.2) (P := fun k q => MI q.2.2 (g, t, rwL (fun k => Int32.ofNat (wkS g x n (k + 1))) k, x, us, kp) ∧ q.2.2 202 = τ 202 ∧ q.2.2 197 = τ 197 ∧ FrM τ q.2.2)
    (Q := fun r => ∃ τ', en_oi r = some (Int32.ofNat (sbV g x n 0 0), τ') ∧ MI τ' (g, t, rwL (fun k => Int32.ofNat (wkS g x n (k + 1))) n, x, us, kp) ∧ FrM τ τ') (N := n) (C := 200) (C0 := 10) ?_ ?_ n 0 f (a, b, τ) (by omega) (by omega) ⟨hM, rfl, rfl, FrM.refl _⟩
  · rintro f k ⟨u4, u5, υ⟩ hk hf ⟨p1, p2, p3, p4⟩
    have p1 : MI υ (g, t, rwL (fun k => Int32.ofNat (wkS g x n (k + 1))) k, x, us, kp) := p1
    have p2 : υ 202 = τ 202 := p2
    have p3 : υ 197 = τ 197 := p3
    obtain ⟨f, rfl⟩ : ∃ j, f = j + 1 := ⟨f - 1, by omega⟩
    have hAr : AV B (g, t, rwL (fun k => Int32.ofNat (wkS g x n (k + 1))) k, x, us, kp) := hA.row (by rw [rwL_len]; omega)
    have hwk := wkS_lt (x := x) (n := n) hg k (by omega)
    obtain ⟨a1, a2, a3, a4⟩ := agS_ok (g := g) (x := x) (n := n) (k := k) (w := wkS g x n k) hg hk
    have hlaw : ∀ i, i < 2 ^ gN g → O_X12_isLawful [.inr (185, 12, 0, 0), .inl (Int32.ofNat k), .inl (Int32.ofNat i), .inl (Int32.ofNat (wkS g x n k))] υ = some (pb2 (lwB g x k i (wkS g x n k) = true), υ) := fun i hi => r_isLawful hAr p1 hB hn0 (fun k p h1 h2 => by rw [p3]; exact h197 k p h1 h2) (by omega) (by omega) hi hwk
    have hw0 : k = 0 → wkS g x n k = 0 := fun h => by rw [h]; rfl
    have htb : υ 202 (128 * k + wkS g x n k) = Int32.ofNat (sbV g x (n - k) k (wkS g x n k)) := by rw [p2]; exact hT k (by omega) (by omega) _ hwk hw0
    have hsb := sbV_le g x (n - k) k (wkS g x n k)
    have htb2 : ∀ i, i < 2 ^ gN g → υ 202 (128 * (k + 1) + i) = Int32.ofNat (sbV g x (n - (k + 1)) (k + 1) i) := fun i hi => by rw [p2]; exact hT (k + 1) (by omega) (by omega) i hi (by omega)
    obtain ⟨σ', g1, g2, g3, g4⟩ := p1.add (by rw [rwL_len]; omega) (Int32.ofNat (agS g x n k (wkS g x n k)))
    have step : ∀ (f1 : Nat) (u : en_V) (i : Nat), i < 2 ^ gN g → T_X12_sleeps_184 (f1 + 1) (Int32.ofNat n) (Int32.ofNat (wkS g x n k)) (Int32.ofNat k) (Int32.ofNat i) u υ = (if lwB g x k i (wkS g x n k) = true then (if fS g x n k i = sbV g x (n - k) k (wkS g x n k) then ((O_X12_tell [.inr (185, 12, 0, 0), .inl (Int32.ofNat i)] υ).bind fun r22 => T_X12_sleeps_176 f1 (Int32.ofNat n) (Int32.ofNat i) (Int32.ofNat (k + 1)) (.inl (Int32.ofNat i)) u r22) else (T_X12_sleeps_184 f1 (Int32.ofNat n) (Int32.ofNat (wkS g x n k)) (Int32.ofNat k) (Int32.ofNat (i + 1)) u υ)) else (T_X12_sleeps_184 f1 (Int32.ofNat n) (Int32.ofNat (wkS g x n k)) (Int32.ofNat k) (Int32.ofNat (i + 1)) u υ)) := by
      intro f1 u i hi
      have hfs := fS_le g x n k i
      rw [t_X12_sleeps_184, hlaw i hi, Option.bind_some]
      dsimp only
      rw [pi_if (pb2_0 (lwB g x k i (wkS g x n k) = true)), pn_a1, pn_a1]
      by_cases c : lwB g x k i (wkS g x n k) = true
      · rw [if_neg (fun z => z c), if_pos c, q_bitCount, Option.bind_some, sh7, pn_ix (show 128 * (k + 1) + i < 1664 by omega) (by omega), Option.bind_some, sh7, pn_ix (show 128 * k + wkS g x n k < 1664 by omega) (by omega), Option.bind_some]
        dsimp only
        rw [pi_if (show (pbc (Int32.ofNat i) + υ 202 (128 * (k + 1) + i) = υ 202 (128 * k + wkS g x n k)) = (fS g x n k i = sbV g x (n - k) k (wkS g x n k)) by rw [htb2 i hi, htb, pbc_n (by omega), pn_add]; exact pn_eq (show fS g x n k i < 2147483648 by omega) (by omega))]
      · rw [if_pos c, if_neg c]
    obtain ⟨_, h1, -⟩ := pl_to (F := fun f i (q : Unit) => T_X12_sleeps_184 f (Int32.ofNat n) (Int32.ofNat (wkS g x n k)) (Int32.ofNat k) (Int32.ofNat i) u5 υ) (P := fun _ _ => True) (N := agS g x n k (wkS g x n k)) (by
      intro f1 i _ hi _
      refine ⟨(), ?_, trivial⟩
      show T_X12_sleeps_184 (f1 + 1) _ _ _ _ _ υ = _
      rw [step f1 u5 i (by omega)]
      by_cases c : lwB g x k i (wkS g x n k) = true
      · rw [if_pos c, if_neg (by have := a4 i hi c; omega)]
      · rw [if_neg c]) (agS g x n k (wkS g x n k)) 0 f () (by omega) (by omega) trivial
    have h1 : T_X12_sleeps_184 f (Int32.ofNat n) (Int32.ofNat (wkS g x n k)) (Int32.ofNat k) 0 u5 υ = T_X12_sleeps_184 (f - agS g x n k (wkS g x n k)) (Int32.ofNat n) (Int32.ofNat (wkS g x n k)) (Int32.ofNat k) (Int32.ofNat (agS g x n k (wkS g x n k))) u5 υ := h1
    obtain ⟨f2, hf2⟩ : ∃ j, f - agS g x n k (wkS g x n k) = j + 1 := ⟨f - agS g x n k (wkS g x n k) - 1, by omega⟩
    refine Or.inl ⟨f2, (.inl (Int32.ofNat (agS g x n k (wkS g x n k))), u5, σ'), ?_, by omega, g2, by show σ' 202 = _; rw [g3 202 (by omega) (by omega), p2], by show σ' 197 = _; rw [g3 197 (by omega) (by omega), p3], fun c hc => by show σ' c = _; rw [g3 c (by omega) (by omega)]; exact p4 c hc⟩
    show T_X12_sleeps_176 (f + 1) (Int32.ofNat n) (Int32.ofNat (wkS g x n k)) (Int32.ofNat k) u4 u5 υ = _
    rw [t_X12_sleeps_176, if_pos ((pn_lt (by omega) (by omega)).mpr hk), h1, hf2, step f2 u5 _ a2, if_pos a1, if_pos a3, g1, Option.bind_some]; rfl
  · rintro f ⟨u4, u5, υ⟩ hf ⟨p1, p2, p3, p4⟩
    have p2 : υ 202 = τ 202 := p2
    obtain ⟨f, rfl⟩ : ∃ j, f = j + 1 := ⟨f - 1, by omega⟩
    show ∃ τ', en_oi (T_X12_sleeps_176 (f + 1) _ _ _ u4 u5 υ) = _ ∧ _
    have h0 : τ 202 (128 * 0 + 0) = Int32.ofNat (sbV g x (n - 0) 0 0) := hT 0 (by omega) (by omega) 0 hpos (fun _ => rfl)
    have h0 : τ 202 0 = Int32.ofNat (sbV g x n 0 0) := h0
    rw [t_X12_sleeps_176, if_neg (by rw [pn_lt (by omega) (by omega)]; omega), show en_ix (0 : Int32) 1664 = some 0 from pn_ix (k := 0) (by omega) (by omega), Option.bind_some, p2, h0]
    exact ⟨υ, rfl, p1, p4⟩
theorem p_sleeps : en_st_sleeps pInv := by
  intro c v hc
  refine p_two hc (fun A σ0 hA hB => ?_)
  obtain ⟨g, t, ro, x, us, kp⟩ := A
  have hgv : GV g := hA.1
  have hn : gN g ≤ 7 := hgv.1
  have hVS : VS (gN g) (2000 * c) x := hA.2.2.2.2.2.2.2.1
  by_cases hz : gN g ≠ 0 ∧ ¬ v < 1 ∧ ¬ (12 : Int32) < v
  · obtain ⟨hz0, v1, v12⟩ := hz
    have hn0 : 0 < gN g := by omega
    have nz : ¬ Int32.ofNat (gN g) = 0 := by rw [pn_eq0 (by omega)]; exact hz0
    have hm1 : ∃ m, 1 ≤ m ∧ m ≤ 12 ∧ v = Int32.ofNat m := by
      obtain ⟨m, hm, rfl⟩ := isR_1 (n := 13) (by omega) (by omega) v1 v12
      refine ⟨m, ?_, by omega, rfl⟩
      exact Nat.le_of_not_lt fun q => v1 (by rw [show m = 0 by omega]; decide)
    obtain ⟨m, hm1, hm, rfl⟩ := hm1
    refine ⟨Int32.ofNat (sbV g x m 0 0), (g, t, rwL (fun k => Int32.ofNat (wkS g x m (k + 1))) m, x, us, kp), fun hC => ?_, fun τ hM => ?_, (hA.row (by rw [rwL_len]; omega)).mono (by omega)⟩
    · obtain ⟨σ1, e1, e2, e3, e4⟩ := k_look hA (by omega) hC (m := m) (by omega)
      have e1' : O_X11_lookAhead [.inr (0, 11, 0, 0), .inl (Int32.ofNat m)] σ0 = some σ1 := e1
      obtain ⟨σ2, f1, f2, f3⟩ := q_prepare hA (by omega) e2 hm hn0 e3
      have hC2 : CI σ2 (g, t, ro, x, us, kp) := e2.kept (fun c hc => f3 c (by omega)) (by rw [f3 10 (by omega)])
      obtain ⟨f, u, σ3, hf, g1, g2, g3⟩ := q_missTab hgv hVS hm hm1 f2
      have hC3 : CI σ3 (g, t, ro, x, us, kp) := hC2.kept (fun c hc => g3 c (by omega)) (by rw [g3 10 (by omega)])
      obtain ⟨σ4, h1, h2, h3⟩ := q_missWalk (B := 2000 * c) (u := u) hA hC3 hm hf (fun k hk => (f2 k hk).fr (by omega) (fun c _ _ => g3 c (by omega))) g2
      rw [g3 15 (by omega)] at h1
      rw [o_X11_sleeps, t_X11_sleeps_0, show σ0 5 3 = Int32.ofNat (gN g) from hC.1.1, if_neg nz, if_neg v1, if_neg v12, e1', Option.bind_some, show σ1 15 5 = Int32.ofNat (sN x) from e2.2.2.2.1.2.1, f1, Option.bind_some, g1, h1, Option.bind_some]
      exact ⟨σ4, rfl, h2, fun c hc => by rw [h3 c hc, g3 c (by omega), f3 c (by omega), e4 c hc]⟩
    · have hM2 := hM.slot 11 0 (by omega)
      obtain ⟨τ1, e1, e2, e3, e4⟩ := m_lay hA (by omega) hM2 (m := m) (by omega)
      have e1' : O_X12_layOrders [.inr (185, 12, 0, 0), .inl (Int32.ofNat m)] (en_up τ 185 11 0) = some τ1 := e1
      obtain ⟨f, a, b, τ2, f1, f2, f3, f4⟩ := r_missTab hA e2 (by omega) hn0 e3 hm hm1
      have hM3 : MI (en_up τ2 185 10 0) (g, t, [], x, us, kp) := MI.begin (e2.off f4)
      obtain ⟨τ3, g1, g2, g3⟩ := r_missWalk (B := 2000 * c) (f := f) (a := a) (b := b) (n := m) (hA.row (ro' := []) (by simp)) hM3 (by omega) hn0 (fun k p h1 h2 => by rw [pu_cell (by omega), f4 197 (by omega)]; exact e3 k p h1 h2) hm (fun k' h1 h2 t ht h0 => by rw [pu_cell (by omega)]; exact f3 k' h1 h2 t ht h0) f2
      rw [o_X12_sleeps, t_X12_sleeps_0, q_in, Option.bind_some, if_neg (by dsimp only; rw [pb2_0]; exact fun q => q ⟨v1, v12⟩)]
      dsimp only
      rw [if_neg (show ¬ (en_up τ 185 11 0) 185 1 = 0 by rw [show (en_up τ 185 11 0) 185 1 = Int32.ofNat (gN g) from hM2.1.1]; exact nz), e1', Option.bind_some, f1, g1]
      exact ⟨τ3, rfl, g2, fun c hc => by rw [g3 c hc, pu_row (by omega), f4 c (by omega), e4 c hc, pu_row (by omega)]⟩
  · refine p_no hA (-1) (fun hC => ?_) (fun τ hM => ?_)
    · rw [o_X11_sleeps, t_X11_sleeps_0, show σ0 5 3 = Int32.ofNat (gN g) from hC.1.1]
      by_cases c0 : gN g = 0
      · rw [c0, if_pos (by decide)]; rfl
      · rw [if_neg (by rw [pn_eq0 (by omega)]; exact c0)]
        by_cases c1 : v < 1
        · rw [if_pos c1]; rfl
        · rw [if_neg c1, if_pos (Classical.byContradiction fun q => hz ⟨c0, c1, q⟩)]; rfl
    · have hM2 := hM.slot 11 0 (by omega)
      rw [o_X12_sleeps, t_X12_sleeps_0, q_in, Option.bind_some]
      by_cases c1 : ¬ v < 1 ∧ ¬ (12 : Int32) < v
      · rw [if_neg (by dsimp only; rw [pb2_0]; exact fun q => q c1)]
        dsimp only
        rw [if_pos (show (en_up τ 185 11 0) 185 1 = 0 by rw [show (en_up τ 185 11 0) 185 1 = Int32.ofNat (gN g) from hM2.1.1, pn_eq0 (by omega)]; exact Classical.byContradiction fun q => hz ⟨q, c1⟩)]; rfl
      · rw [if_pos (by dsimp only; rw [pb2_0]; exact c1)]; rfl
