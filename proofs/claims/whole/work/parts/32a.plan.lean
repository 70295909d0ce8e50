/-! plans: what the law allows, round by round -/
def cnB (P : Nat → Bool) : Nat → Nat
  | 0 => 0
  | i + 1 => cnB P i + if P i = true then 1 else 0
theorem cnB_le (P : Nat → Bool) : ∀ i, cnB P i ≤ i
  | 0 => Nat.le_refl _
  | i + 1 => by have := cnB_le P i; unfold cnB; split <;> omega
theorem cnB_y {P : Nat → Bool} {i : Nat} (h : P i = true) : cnB P (i + 1) = cnB P i + 1 := by
  show cnB P i + (if P i = true then 1 else 0) = _
  rw [if_pos h]
theorem cnB_n {P : Nat → Bool} {i : Nat} (h : P i = false) : cnB P (i + 1) = cnB P i := by
  show cnB P i + (if P i = true then 1 else 0) = _
  rw [if_neg (by rw [h]; decide)]; rfl
theorem cnB_mono {P : Nat → Bool} {i : Nat} : ∀ j, i ≤ j → cnB P i ≤ cnB P j
  | 0, h => by rw [show i = 0 by omega]; exact Nat.le_refl _
  | j + 1, h => by
    by_cases e : i = j + 1
    · rw [e]; exact Nat.le_refl _
    · have := cnB_mono (P := P) j (by omega : i ≤ j)
      show _ ≤ cnB P j + _
      omega
theorem cnB_lt {P : Nat → Bool} {i j : Nat} (h : P i = true) (hj : i < j) : cnB P i < cnB P j := by
  have := cnB_mono (P := P) (i := i + 1) j (by omega)
  rw [cnB_y h] at this; omega
/-- a loop over a list of the sets for which P holds -/
theorem pl_en {S R : Type} (F : Nat → Nat → S → R) (I : Nat → S → Prop) (Q : R → Prop) {P : Nat → Bool} {N C : Nat}
    (hs : ∀ f i q, i < N → P i = true → I i q → (∃ q', F (f + 1) (cnB P i) q = F f (cnB P i + 1) q' ∧ I (i + 1) q') ∨ Q (F (f + 1) (cnB P i) q))
    (hn : ∀ i q, i < N → P i = false → I i q → I (i + 1) q) (he : ∀ f q, C ≤ f → I N q → Q (F (f + 1) (cnB P N) q)) :
    ∀ d i f q, i + d = N → d + C < f → I i q → Q (F f (cnB P i) q) := by
  intro d
  induction d with
  | zero =>
    intro i f q hi hf hI
    have hi : i = N := hi
    subst hi
    obtain ⟨m, rfl⟩ : ∃ m, f = m + 1 := ⟨f - 1, by omega⟩
    exact he m q (by omega) hI
  | succ d ih =>
    intro i f q hi hf hI
    obtain ⟨m, rfl⟩ : ∃ m, f = m + 1 := ⟨f - 1, by omega⟩
    by_cases c : P i = true
    · rcases hs m i q (by omega) c hI with ⟨q', e, hI'⟩ | hq
      · rw [e, ← cnB_y c]; exact ih (i + 1) m q' (by omega) (by omega) hI'
      · exact hq
    · have c : P i = false := Bool.eq_false_iff.mpr c
      rw [← cnB_n c]
      exact ih (i + 1) (m + 1) q (by omega) (by omega) (hn i q (by omega) c hI)
def laN (g : pG) (x : pS) (k t who wh : Nat) : Nat := lawN (gT g) (tnN (gW g) (gN g)) t (plN (odN g x k) t (gN g)) who wh (sN x + k)
def l1B (g : pG) (x : pS) (k t : Nat) : Bool := decide (laN g x k t 0 0 = 0)
def wwP (x : pS) (k w : Nat) : Nat := if k = 0 then sW x else w
def whP (g : pG) (x : pS) (k w : Nat) : Nat := if k = 0 then sP x else plN (odN g x (k - 1)) w (gN g)
def lwB (g : pG) (x : pS) (k t w : Nat) : Bool := decide (laN g x k t (wwP x k w) (whP g x k w) = 0)
theorem lw_iff {g : pG} {x : pS} {k t w : Nat} : lwB g x k t w = true ↔ l1B g x k t = true ∧ t &&& wwP x k w = 0 ∧ plN (odN g x k) t (gN g) &&& whP g x k w = 0 := by
  unfold lwB l1B laN
  rw [decide_eq_true_iff, decide_eq_true_iff, lawN_0, lawN_0, Nat.and_zero, Nat.and_zero]
  exact ⟨fun ⟨a, b, c, d, e⟩ => ⟨⟨a, rfl, c, rfl, e⟩, b, d⟩, fun ⟨⟨a, _, c, _, e⟩, b, d⟩ => ⟨a, b, c, d, e⟩⟩
theorem lw_0 {g : pG} {x : pS} {k w : Nat} (hg : GV g) : lwB g x k 0 w = true := by
  unfold lwB laN
  rw [decide_eq_true_iff, lawN_0, plN_0, Nat.zero_and, Nat.zero_and, Nat.zero_and]
  have h := hg.2.2.2.2.1
  exact ⟨fun q => absurd q (by show ¬ gT g < 0; omega), rfl, rfl, rfl, fun q => by have := q.2; rw [Nat.zero_testBit] at this; exact absurd this (by decide)⟩
theorem whP_lt {g : pG} {x : pS} {k w B : Nat} (hv : VS (gN g) B x) : whP g x k w < 2 ^ gN g := by
  unfold whP
  split
  · exact hv.2.2.2.1
  · exact plN_lt _ _ _
theorem wwP_lt {g : pG} {x : pS} {k w B : Nat} (hv : VS (gN g) B x) (hw : w < 2 ^ gN g) : wwP x k w < 2 ^ gN g := by
  unfold wwP
  split
  · exact hv.2.2.1
  · exact hw
/-- the class's lists of a round -/
def PP (g : pG) (x : pS) (σ : en_M) (k : Nat) : Prop := σ 117 k = Int32.ofNat (cnB (l1B g x k) (2 ^ gN g)) ∧ ∀ t, t < 2 ^ gN g → l1B g x k t = true → σ (104 + 1 + k) (cnB (l1B g x k) t) = Int32.ofNat t ∧ σ (118 + 1 + k) t = Int32.ofNat (plN (odN g x k) t (gN g))
theorem PP.kept {g : pG} {x : pS} {σ σ' : en_M} {k : Nat} (h : PP g x σ k) (h1 : σ' 117 k = σ 117 k) (h2 : σ' (104 + 1 + k) = σ (104 + 1 + k)) (h3 : σ' (118 + 1 + k) = σ (118 + 1 + k)) : PP g x σ' k := by
  unfold PP
  rw [h1, h2, h3]
  exact h
theorem PP.fr {g : pG} {x : pS} {σ σ' : en_M} {k : Nat} (h : PP g x σ k) (hk : k < 12) (hf : ∀ c, 104 ≤ c → c < 131 → σ' c = σ c) : PP g x σ' k := h.kept (by rw [hf 117 (by omega) (by omega)]) (hf _ (by omega) (by omega)) (hf _ (by omega) (by omega))
theorem q_prepare {g t ro x us kp} {B n : Nat} {σ : en_M} (hA : AV B (g, t, ro, x, us, kp)) (hB : B + n < 1000000000) (hC : CI σ (g, t, ro, x, us, kp)) (hn : n ≤ 12) (hn0 : 0 < gN g) (h182 : ∀ k, k ≤ n → σ 182 k = Int32.ofNat (pkN (odN g x k))) :
    ∃ σ', O_X5_prepare [.inr (103, 5, 0, 0), .inr (5, 10, 0, 0), .inr (182, 20, 201, 0), .inl (Int32.ofNat (sN x)), .inl (Int32.ofNat n)] σ = some σ' ∧ (∀ k, k < n → PP g x σ' k) ∧ ∀ c, c < 104 ∨ 131 ≤ c → σ' c = σ c := by
  have hgv : GV g := hA.1
  have hg7 : gN g ≤ 7 := hgv.1
  have hVS : VS (gN g) B x := hA.2.2.2.2.2.2.2.1
  have h128 := p2lt hg7
  have hFU := en_FU_ge
  have hCG : CG σ g := hC.1
  have hnow : sN x ≤ B := hVS.2.1
  rw [o_X5_prepare, t_X5_prepare_0]
  refine pl_for (F := fun f k (q : en_V × en_M) => T_X5_prepare_3 f (Int32.ofNat (sN x)) (Int32.ofNat n) (Int32.ofNat k) q.1 q.2) (P := fun k q => (∀ k', k' < k → PP g x q.2 k') ∧ ∀ c, c < 104 ∨ 131 ≤ c → q.2 c = σ c) (Q := fun r => ∃ σ', en_ov r = some σ' ∧ (∀ k, k < n → PP g x σ' k) ∧ ∀ c, c < 104 ∨ 131 ≤ c → σ' c = σ c) (N := n) (C := 130) (C0 := 10) ?_ ?_ n 0 en_FU (en_un, σ) (by omega) (by omega) ⟨fun k hk => absurd hk (by omega), fun _ _ => rfl⟩
  · rintro f k ⟨u6, υ⟩ hk hf ⟨p1, p2⟩
    have p1 : ∀ k', k' < k → PP g x υ k' := p1
    have p2 : ∀ c, c < 104 ∨ 131 ≤ c → υ c = σ c := p2
    obtain ⟨f, rfl⟩ : ∃ j, f = j + 1 := ⟨f - 1, by omega⟩
    obtain ⟨q', e1, o1, o2, o3, o4⟩ := pl_to (F := fun f i (q : en_M) => T_X5_prepare_21 f (Int32.ofNat (sN x)) (Int32.ofNat n) (Int32.ofNat k) (Int32.ofNat i) q) (P := fun i q => q 117 k = Int32.ofNat (cnB (l1B g x k) i) ∧ (∀ t, t < i → l1B g x k t = true → q (104 + 1 + k) (cnB (l1B g x k) t) = Int32.ofNat t ∧ q (118 + 1 + k) t = Int32.ofNat (plN (odN g x k) t (gN g))) ∧ (∀ k', k' < k → PP g x q k') ∧ ∀ c, c < 104 ∨ 131 ≤ c → q c = σ c) (N := 2 ^ gN g) (by
        rintro f i q hi ⟨o1, o2, o3, o4⟩
        have hci := cnB_le (l1B g x k) i
        have hbr : O_X10_breach [.inr (5, 10, 0, 0), .inl (Int32.ofNat (pkN (odN g x k))), .inl (Int32.ofNat (sN x + k)), .inl (Int32.ofNat i), .inl (0 : Int32), .inl (0 : Int32)] q = some (Int32.ofNat (laN g x k i 0 0), q) := q_breach (who := 0) (wh := 0) (odN_PMf hgv hVS.1 k) hg7 hi hgv.2.2.2.2.2.1 (show tnN (gW g) (gN g) < 7 by have := tnN_lt (gW g) (gN g) hn0; omega) (by omega) (by rw [o4 5 (by omega)]; exact hCG.2.2.2.1) (by rw [o4 5 (by omega), hCG.2.2.1, if_neg (by omega)])
        have hl6 : laN g x k i 0 0 < 6 := lawN_lt _ _ _ _ _ _ _
        have hpl : plN (odN g x k) i (gN g) < 2 ^ gN g := plN_lt _ _ _
        show ∃ q', T_X5_prepare_21 (f + 1) _ _ _ (Int32.ofNat i) q = _ ∧ _
        rw [t_X5_prepare_21, show q 5 3 = Int32.ofNat (gN g) by rw [o4 5 (by omega)]; exact hCG.1, pb_1 (by omega), if_pos ((pn_lt (by omega) (by omega)).mpr hi), pn_ix (show k < 201 by omega) (by omega), Option.bind_some, o4 182 (by omega), h182 k (by omega), pn_add, hbr, Option.bind_some]
        dsimp only
        rw [pi_if (pn_eq0 (show laN g x k i 0 0 < 2147483648 by omega)), pn_a1]
        by_cases c : laN g x k i 0 0 = 0
        · have cb : l1B g x k i = true := decide_eq_true c
          have hpo : ∀ υ : en_M, O_X11_placesOf [.inl (Int32.ofNat (pkN (odN g x k))), .inl (Int32.ofNat i)] υ = some (Int32.ofNat (plN (odN g x k) i (gN g)), υ) := fun υ => q_placesOf (odN_PMf hgv hVS.1 k) hg7 hi υ
          rw [if_pos c, pn_ix (show k < 12 by omega) (by omega), Option.bind_some, Option.bind_some, o1, pn_ix (show cnB (l1B g x k) i < 128 by omega) (by omega), Option.bind_some, Option.bind_some, Option.bind_some, Option.bind_some, Option.bind_some, pu_cell (show 182 ≠ 104 + 1 + k by omega), pu_cell (show 117 ≠ 104 + 1 + k by omega), o1, pn_a1, o4 182 (by omega), h182 k (by omega), hpo, Option.bind_some, pn_ix (show i < 128 by omega) (by omega), Option.bind_some]
          refine ⟨_, rfl, ?_, fun t ht hlt => ⟨?_, ?_⟩, fun k' hk' => ?_, fun c hc => ?_⟩
          · show en_up (en_up (en_up q (104 + 1 + k) _ _) 117 k _) (118 + 1 + k) i _ 117 k = _
            rw [pu_cell (by omega), pu_same, cnB_y cb]
          · show en_up (en_up (en_up q (104 + 1 + k) _ _) 117 k _) (118 + 1 + k) i _ (104 + 1 + k) _ = _
            rw [pu_cell (by omega), pu_cell (by omega)]
            by_cases e : t = i
            · rw [e, pu_same]
            · have := cnB_lt hlt (show t < i by omega)
              rw [pu_slot (by omega)]; exact (o2 t (by omega) hlt).1
          · show en_up (en_up (en_up q (104 + 1 + k) _ _) 117 k _) (118 + 1 + k) i _ (118 + 1 + k) t = _
            by_cases e : t = i
            · rw [e, pu_same]
            · rw [pu_slot e, pu_cell (by omega), pu_cell (by omega)]; exact (o2 t (by omega) hlt).2
          · refine (o3 k' hk').kept ?_ ?_ ?_
            · show en_up (en_up (en_up q (104 + 1 + k) _ _) 117 k _) (118 + 1 + k) i _ 117 k' = _
              rw [pu_cell (by omega), pu_slot (by omega), pu_cell (by omega)]
            · show en_up (en_up (en_up q (104 + 1 + k) _ _) 117 k _) (118 + 1 + k) i _ (104 + 1 + k') = _
              rw [pu_row (by omega), pu_row (by omega), pu_row (by omega)]
            · show en_up (en_up (en_up q (104 + 1 + k) _ _) 117 k _) (118 + 1 + k) i _ (118 + 1 + k') = _
              rw [pu_row (by omega), pu_row (by omega), pu_row (by omega)]
          · show en_up (en_up (en_up q (104 + 1 + k) _ _) 117 k _) (118 + 1 + k) i _ c = _
            rw [pu_row (by omega), pu_row (by omega), pu_row (by omega)]; exact o4 c hc
        · have cb : l1B g x k i = false := decide_eq_false c
          rw [if_neg c]
          refine ⟨q, rfl, by rw [cnB_n cb]; exact o1, fun t ht hlt => ?_, o3, o4⟩
          have : t ≠ i := fun e => by rw [e, cb] at hlt; exact absurd hlt (by decide)
          exact o2 t (by omega) hlt) (2 ^ gN g) 0 f (en_up υ 117 k 0) (by omega) (by omega) ⟨pu_same υ 117 k 0, fun t ht => absurd ht (by omega), fun k' hk' => (p1 k' hk').kept (pu_slot (by omega)) (pu_row (by omega)) (pu_row (by omega)), fun c hc => by rw [pu_row (by omega)]; exact p2 c hc⟩
    have e1 : T_X5_prepare_21 f (Int32.ofNat (sN x)) (Int32.ofNat n) (Int32.ofNat k) (Int32.ofNat 0) (en_up υ 117 k 0) = T_X5_prepare_21 (f - 2 ^ gN g) (Int32.ofNat (sN x)) (Int32.ofNat n) (Int32.ofNat k) (Int32.ofNat (2 ^ gN g)) q' := e1
    obtain ⟨f2, hf2⟩ : ∃ j, f - 2 ^ gN g = j + 1 := ⟨f - 2 ^ gN g - 1, by omega⟩
    refine Or.inl ⟨f2, (.inl (Int32.ofNat (2 ^ gN g)), q'), ?_, by omega, fun k' hk' => ?_, o4⟩
    · show T_X5_prepare_3 (f + 1) _ _ _ u6 υ = _
      rw [t_X5_prepare_3, if_pos ((pn_lt (by omega) (by omega)).mpr hk), pn_ix (show k < 12 by omega) (by omega), Option.bind_some]
      refine e1.trans ?_
      rw [hf2, t_X5_prepare_21, show q' 5 3 = Int32.ofNat (gN g) by rw [o4 5 (by omega)]; exact hCG.1, pb_1 (by omega), if_neg (by rw [pn_lt (by omega) (by omega)]; omega), pn_a1]
    · by_cases e : k' = k
      · rw [e]; exact ⟨o1, o2⟩
      · exact o3 k' (by omega)
  · rintro f ⟨u6, υ⟩ hf ⟨p1, p2⟩
    obtain ⟨f, rfl⟩ : ∃ j, f = j + 1 := ⟨f - 1, by omega⟩
    show ∃ σ', en_ov (T_X5_prepare_3 (f + 1) _ _ _ u6 υ) = _ ∧ _
    rw [t_X5_prepare_3, if_neg (by rw [pn_lt (by omega) (by omega)]; omega)]
    exact ⟨υ, rfl, p1, p2⟩
theorem q_mayFollow {g : pG} {x : pS} {k t w B : Nat} {σ : en_M} (hg : GV g) (hv : VS (gN g) B x) (hP : PP g x σ k) (hk : k < 12) (ht : t < 2 ^ gN g) (h1 : l1B g x k t = true) (hw : w < 2 ^ gN g) :
    O_X5_mayFollow [.inr (103, 5, 0, 0), .inl (Int32.ofNat k), .inl (Int32.ofNat t), .inl (Int32.ofNat (wwP x k w)), .inl (Int32.ofNat (whP g x k w))] σ = some (pb2 (lwB g x k t w = true), σ) := by
  have h128 := p2lt hg.1
  have hpl : plN (odN g x k) t (gN g) < 2 ^ gN g := plN_lt _ _ _
  have a1 := and_lt128 (wwP x k w) (show t < 128 by omega)
  have a2 := and_lt128 (whP g x k w) (show plN (odN g x k) t (gN g) < 128 by omega)
  have hlw := lw_iff (g := g) (x := x) (k := k) (t := t) (w := w)
  rw [o_X5_mayFollow, t_X5_mayFollow_0, pn_and, pi_if (pn_eq0 (show t &&& wwP x k w < 2147483648 by omega)), pn_ix (show k < 12 by omega) (by omega), Option.bind_some, pn_ix (show t < 128 by omega) (by omega), Option.bind_some, (hP.2 t ht h1).2, pn_and, pi_if (pn_eq0 (show plN (odN g x k) t (gN g) &&& whP g x k w < 2147483648 by omega)), if_pos (show (1 : Int32) = 0 ∨ (1 : Int32) = 1 from Or.inr rfl), if_pos (show (0 : Int32) = 0 ∨ (0 : Int32) = 1 from Or.inl rfl)]
  unfold pb2
  by_cases c1 : t &&& wwP x k w = 0
  · rw [if_pos c1]
    by_cases c2 : plN (odN g x k) t (gN g) &&& whP g x k w = 0
    · rw [if_pos c2, if_pos (hlw.mpr ⟨h1, c1, c2⟩)]; rfl
    · rw [if_neg c2, if_neg (fun q => c2 (hlw.mp q).2.2)]; rfl
  · rw [if_neg c1, if_neg (fun q => c1 (hlw.mp q).2.1)]; rfl
theorem r_placesIn {g t ro x us kp} {B k s n : Nat} {τ : en_M} (hA : AV B (g, t, ro, x, us, kp)) (h1 : τ 185 1 = Int32.ofNat (gN g)) (h197 : ∀ k p, k ≤ n → p < gN g → τ 197 (7 * k + p) = Int32.ofNat (odN g x k p)) (hk : k ≤ n) (hn : n ≤ 200) (hs : s < 2 ^ gN g) :
    O_X12_placesIn [.inr (185, 12, 0, 0), .inl (Int32.ofNat k), .inl (Int32.ofNat s)] τ = some (Int32.ofNat (plN (odN g x k) s (gN g)), τ) := by
  have hg7 : gN g ≤ 7 := hA.1.1
  have h128 := p2lt hg7
  rw [o_X12_placesIn, t_X12_placesIn_0]
  refine pl_for1 (F := fun m i (acc : Int32) => T_X12_placesIn_5 m (Int32.ofNat k) (Int32.ofNat s) acc (Int32.ofNat i) τ) (P := fun i acc => acc = Int32.ofNat (plN (odN g x k) s i)) (Q := fun r => en_oi r = some (Int32.ofNat (plN (odN g x k) s (gN g)), τ)) (N := gN g) ?_ ?_ (gN g) 0 en_FU 0 (by omega) (pl_FU (by omega)) rfl
  · rintro m i acc hi rfl
    have ho8 := od8 hA k i (by omega)
    refine Or.inl ⟨Int32.ofNat (plN (odN g x k) s (i + 1)), ?_, rfl⟩
    show T_X12_placesIn_5 (m + 1) _ _ _ _ τ = _
    rw [t_X12_placesIn_5, h1, if_pos ((pn_lt (by omega) (by omega)).mpr hi), show (7 : Int32) * Int32.ofNat k = Int32.ofNat (7 * k) from pn_mul 7 k, pn_add, pn_ix (by omega) (by omega), Option.bind_some, h197 k i hk hi, q_has, Option.bind_some]
    dsimp only
    rw [pi_if ((pb2_0 _).trans (congrArg Not (pb_bit1 (show s < 2147483648 by omega) (show odN g x k i < 32 by omega)))), pb_1 (by omega), pn_or, pn_a1, show (0 : Int32) = Int32.ofNat 0 from rfl, pn_or]
    conv => rhs; unfold plN
    by_cases c : s.testBit (odN g x k i) = true
    · rw [if_neg (fun q => q c), if_pos c]
    · rw [if_pos c, if_neg c]
  · rintro m acc rfl
    show en_oi (T_X12_placesIn_5 (m + 1) _ _ _ _ τ) = _
    rw [t_X12_placesIn_5, h1, if_neg (by rw [pn_lt (by omega) (by omega)]; omega)]; rfl
theorem r_isLawful {g t ro x us kp} {B k s w n : Nat} {τ : en_M} (hA : AV B (g, t, ro, x, us, kp)) (hM : MI τ (g, t, ro, x, us, kp)) (hB : B + n < 1000000000) (hn0 : 0 < gN g) (h197 : ∀ k p, k ≤ n → p < gN g → τ 197 (7 * k + p) = Int32.ofNat (odN g x k p)) (hk : k ≤ n) (hn : n ≤ 200) (hs : s < 2 ^ gN g) (hw : w < 2 ^ gN g) :
    O_X12_isLawful [.inr (185, 12, 0, 0), .inl (Int32.ofNat k), .inl (Int32.ofNat s), .inl (Int32.ofNat w)] τ = some (pb2 (lwB g x k s w = true), τ) := by
  have hgv : GV g := hA.1
  have hg7 : gN g ≤ 7 := hgv.1
  have hVS : VS (gN g) B x := hA.2.2.2.2.2.2.2.1
  have h128 := p2lt hg7
  have hnow : sN x ≤ B := hVS.2.1
  have hMG : MG τ g := hM.1
  have hMS : MSr (gN g) (τ 186) x := hM.2.2.2.1
  have hpl : plN (odN g x k) s (gN g) < 2 ^ gN g := plN_lt _ _ _
  have hbb := r_brokenBy (n := gN g) (mo := gT g) (s := s) (pl := plN (odN g x k) s (gN g)) (who := wwP x k w) (wh := whP g x k w) (N := sN x + k) (w := gW g) (σ := τ) hg7 hn0 hs (by omega) hgv.2.2.2.2.2.1 (by omega) hMG.1 hMG.2.1 hMG.2.2.1
  have hl6 : laN g x k s (wwP x k w) (whP g x k w) < 6 := lawN_lt _ _ _ _ _ _ _
  have fin : ∀ r : en_R, r = (if Int32.ofNat (laN g x k s (wwP x k w) (whP g x k w)) = 0 then (if (1 : Int32) = 0 ∨ (1 : Int32) = 1 then en_ri (1 : Int32) τ else none) else (if (0 : Int32) = 0 ∨ (0 : Int32) = 1 then en_ri (0 : Int32) τ else none)) → en_oi r = some (pb2 (lwB g x k s w = true), τ) := by
    rintro r rfl
    rw [pi_if (pn_eq0 (show laN g x k s (wwP x k w) (whP g x k w) < 2147483648 by omega)), if_pos (show (1 : Int32) = 0 ∨ (1 : Int32) = 1 from Or.inr rfl), if_pos (show (0 : Int32) = 0 ∨ (0 : Int32) = 1 from Or.inl rfl)]
    unfold pb2
    by_cases c : laN g x k s (wwP x k w) (whP g x k w) = 0
    · rw [if_pos c, if_pos (show lwB g x k s w = true from decide_eq_true c)]; rfl
    · rw [if_neg c, if_neg (show ¬ lwB g x k s w = true from fun q => c (of_decide_eq_true q))]; rfl
  rw [o_X12_isLawful, t_X12_isLawful_0]
  have i30 : en_ix 30 53 = some 30 := pn_ix (k := 30) (by omega) (by omega)
  have i31 : en_ix 31 53 = some 31 := pn_ix (k := 31) (by omega) (by omega)
  have i28 : en_ix 28 53 = some 28 := pn_ix (k := 28) (by omega) (by omega)
  have r28 : τ 186 28 = Int32.ofNat (sN x) := hMS.2.2.1
  refine fin _ ?_
  rw [i30, i31, i28]
  by_cases c : k = 0
  · have ck : Int32.ofNat k = 0 := by rw [c]; rfl
    have ew : τ 186 30 = Int32.ofNat (wwP x k w) := by rw [show wwP x k w = sW x from if_pos c]; exact hMS.2.2.2.2.1
    have ep : τ 186 31 = Int32.ofNat (whP g x k w) := by rw [show whP g x k w = sP x from if_pos c]; exact hMS.2.2.2.2.2.1
    rw [if_pos ck, Option.bind_some, if_pos ck, Option.bind_some, r_placesIn hA hMG.1 h197 hk hn hs, Option.bind_some]
    dsimp only
    rw [Option.bind_some, r28, pn_add, ew, ep, hbb]; rfl
  · have ck : ¬ Int32.ofNat k = 0 := by rw [pn_eq0 (by omega)]; exact c
    have ew : w = wwP x k w := (if_neg c).symm
    have ep : plN (odN g x (k - 1)) w (gN g) = whP g x k w := (if_neg c).symm
    rw [if_neg ck, if_neg ck, show Int32.ofNat k - (1 : Int32) = Int32.ofNat (k - 1) from pn_sub (b := 1) (by omega), r_placesIn hA hMG.1 h197 (show k - 1 ≤ n by omega) hn hw, Option.bind_some]
    dsimp only
    rw [r_placesIn hA hMG.1 h197 hk hn hs, Option.bind_some]
    dsimp only
    rw [Option.bind_some, r28, pn_add, ep]
    conv => lhs; rw [show Int32.ofNat w = Int32.ofNat (wwP x k w) by rw [← ew]]
    rw [hbb]; rfl
