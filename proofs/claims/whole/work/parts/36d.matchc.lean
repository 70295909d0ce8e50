/-! matches: the class, the call -/
def sbs (l s : Nat) : Prop := l &&& (s ^^^ 4294967295) = 0
theorem sbs_clr {l s i : Nat} (h : sbs l s) : sbs (clr l i) s := by
  unfold sbs clr at *
  rw [Nat.and_assoc, Nat.and_comm (2 ^ i ^^^ 4294967295), ← Nat.and_assoc, h, Nat.zero_and]
theorem sbs_bit {l s k : Nat} (h : sbs l s) (hk : k < 7) (hb : l.testBit k = true) : s.testBit k = true := by
  have h1 := congrArg (fun z => z.testBit k) h
  have h4 : (4294967295 : Nat).testBit k = true := (by decide : ∀ k < 7, (4294967295 : Nat).testBit k = true) k hk
  simp only [Nat.testBit_and, Nat.testBit_xor, Nat.zero_testBit, h4, hb] at h1
  simpa using h1
theorem sbs_self (s : Nat) (hs : s < 128) : sbs s s := (by decide +kernel : ∀ s < 128, s &&& (s ^^^ 4294967295) = 0) s hs
def BVm (W : Nat → Nat → Nat) (n l : Nat) : Nat := mtv W n 0 l (pcn l % 2)
theorem fsI_of {s : Nat} (hs0 : 0 < s) (hs : s < 128) : ∃ i, i < 7 ∧ s.testBit i = true ∧ (∀ k, k < i → s.testBit k = false) ∧ fsI s 7 0 = Int32.ofNat i := (by decide +kernel : ∀ s < 128, 0 < s → ∃ i, i < 7 ∧ s.testBit i = true ∧ (∀ k, k < i → s.testBit k = false) ∧ fsI s 7 0 = Int32.ofNat i) s hs hs0
theorem bit_n {l n i : Nat} (hl : l < 2 ^ n) (hb : l.testBit i = true) : i < n := Nat.lt_of_not_le fun h => by
  have := Nat.pow_le_pow_right (n := 2) (by decide) h
  rw [Nat.testBit_lt_two_pow (by omega)] at hb; exact absurd hb (by decide)
theorem BV_y {W : Nat → Nat → Nat} {n l i : Nat} (hi : i < n) (hb : l.testBit i = true) (hlow : ∀ k, k < i → l.testBit k = false) : BVm W n l = mxv (boN (voN W (n - i - 1) i l (pcn l % 2)) 8) := by
  unfold BVm
  rw [mtv_skip i (by omega) hlow, show n - i = (n - i - 1) + 1 by omega, mtv_y hb]; rfl
theorem BV_0 {W : Nat → Nat → Nat} {n : Nat} : BVm W n 0 = 0 := by
  unfold BVm
  rw [mtv_skip n (Nat.le_refl _) (fun k _ => Nat.zero_testBit k), Nat.sub_self]; rfl
/-- the class's tables of pairs -/
def WT (W : Nat → Nat → Nat) (n those : Nat) (σ : en_M) : Prop := ∀ a b, a < b → b < n → those.testBit a = true → those.testBit b = true → σ (173 + 1 + a) b = Int32.ofNat (W a b)
def BTb (W : Nat → Nat → Nat) (n those : Nat) (σ : en_M) (l : Nat) : Prop := ∀ l', l' < l → sbs l' those → σ 181 l' = Int32.ofNat (BVm W n l')
def oPt (o : Nat) : Int32 := Int32.ofNat o - 1
theorem oPt_s (o : Nat) : oPt (o + 1) = Int32.ofNat o := pn_sub (b := 1) (by omega)
theorem oPt_a (o : Nat) : oPt o + 1 = oPt (o + 1) := by rw [oPt_s]; exact Int32.sub_add_cancel _ _
def vI : Option Nat → Int32
  | none => -1
  | some v => Int32.ofNat v
theorem q_withPartner {W : Nat → Nat → Nat} {n those l i o : Nat} {σ : en_M} (hn : n ≤ 7) (hl : l < 2 ^ n) (hi : i < n) (hb : l.testBit i = true) (hlow : ∀ k, k < i → l.testBit k = false) (hsub : sbs l those) (ho : o < 8) (hW : WT W n those σ) (hT : BTb W n those σ l) :
    O_X3_withPartner [.inr (172, 3, 0, 0), .inl (Int32.ofNat l), .inl (Int32.ofNat i), .inl (oPt o)] σ = some (vI (voN W (n - i - 1) i l (pcn l % 2) o), σ) := by
  have h128 := p2lt hn
  have hl128 : l < 128 := by omega
  have hpc := pcn_lt l
  obtain ⟨c1, c2, c3⟩ := clr_f hl128 (show i < 7 by omega)
  have hc1 : clr l i < l := c1 hb
  have hsk : ∀ k, k < i + 1 → (clr l i).testBit k = false := fun k hk => clr_n hl128 (by omega) (by omega) (by
    by_cases e : k = i
    · exact Or.inr e
    · exact Or.inl (hlow k (by omega)))
  rw [o_X3_withPartner, t_X3_withPartner_0, q_bitCount, Option.bind_some, clr_I l i (by omega), q_bit, Option.bind_some]
  dsimp only
  cases o with
  | zero =>
    rw [if_pos (show oPt 0 = -1 by decide), if_neg (show ¬ (2 : Int32) = 0 by decide), pbc_n hl128, show Int32.ofNat (pcn l) - Int32.ofNat (pcn l) / (2 : Int32) * (2 : Int32) = Int32.ofNat (pcn l % 2) from pn_mod (b := 2) (by omega) (by omega), pi_if (pn_eq1 (show pcn l % 2 < 2147483648 by omega)), pn_ix (show clr l i < 128 by omega) (by omega), Option.bind_some, hT _ hc1 (sbs_clr hsub)]
    by_cases cp : pcn l % 2 = 1
    · have hcl : BVm W n (clr l i) = mtv W (n - i - 1) (i + 1) (clr l i) (pcn l % 2 - 1) := by
        unfold BVm
        rw [mtv_skip (i + 1) (by omega) hsk, show n - (i + 1) = n - i - 1 by omega, show pcn (clr l i) % 2 = pcn l % 2 - 1 by rw [c3 hb]; omega]
      rw [if_pos cp, vo_0 (by omega), hcl]; rfl
    · rw [if_neg cp, vo_0n (by omega)]; rfl
  | succ j =>
    have hj : j < 7 := by omega
    rw [oPt_s, if_neg (pn_nm1 (by omega)), pi_if (show (en_shr (Int32.ofNat (clr l i)) (Int32.ofNat j) &&& 1 = 0) = (¬ (clr l i).testBit j = true) by
      rw [pb_bit (by omega) (by omega), pn_eq0 (by omega), Nat.testBit_eq_decide_div_mod_eq, decide_eq_true_iff]
      exact propext ⟨fun h => by omega, fun h => by omega⟩)]
    by_cases cj : (clr l i).testBit j = true
    · have hcl128 : clr l i < 128 := by omega
      obtain ⟨b1, b2, b3⟩ := clr_f hcl128 hj
      have hij : i < j := Nat.lt_of_not_le fun z => by rw [hsk j (by omega)] at cj; exact absurd cj (by decide)
      have hlj : l.testBit j = true := ((clr_y hl128 (by omega) hj).mp cj).1
      have hjn := bit_n hl hlj
      have hlt2 : clr (clr l i) j < l := Nat.lt_of_le_of_lt (clr_le _ _) hc1
      have hcl : BVm W n (clr (clr l i) j) = mtv W (n - i - 1) (i + 1) (clr (clr l i) j) (pcn l % 2) := by
        unfold BVm
        rw [mtv_skip (i + 1) (by omega) (fun k hk => clr_n hcl128 hj (by omega) (Or.inl (hsk k hk))), show n - (i + 1) = n - i - 1 by omega, show pcn (clr (clr l i) j) % 2 = pcn l % 2 by rw [b3 cj]; have := c3 hb; omega]
      rw [if_neg (fun z => z cj), pn_ix (show i < 7 by omega) (by omega), Option.bind_some, pn_ix hj (by omega), Option.bind_some, clr_I _ j (by omega), pn_ix (show clr (clr l i) j < 128 by omega) (by omega), Option.bind_some, hW i j hij hjn (sbs_bit hsub (by omega) hb) (sbs_bit hsub hj hlj), hT _ hlt2 (sbs_clr (sbs_clr hsub)), pn_add, hcl, vo_y cj]; rfl
    · rw [if_pos cj, vo_n cj]; rfl
theorem mtv_420 {W : Nat → Nat → Nat} {n : Nat} (hn : n ≤ 7) (hW : ∀ a b, W a b ≤ 60) (d i s p : Nat) (hd : d ≤ 7) : mtv W d i s p ≤ 420 := by
  have := mtv_le hW d i s p
  omega
theorem vo_480 {W : Nat → Nat → Nat} (hW : ∀ a b, W a b ≤ 60) {d i s p o v : Nat} (hd : d ≤ 7) (h : voN W d i s p o = some v) : v ≤ 480 := by
  cases o with
  | zero =>
    by_cases hp : 0 < p
    · rw [vo_0 hp] at h
      cases h
      have := mtv_le hW d (i + 1) (clr s i) (p - 1)
      omega
    · rw [vo_0n hp] at h; cases h
  | succ j =>
    by_cases cj : (clr s i).testBit j = true
    · rw [vo_y cj] at h
      cases h
      have := mtv_le hW d (i + 1) (clr (clr s i) j) p
      have := hW i j
      omega
    · rw [vo_n cj] at h; cases h
theorem q_bestOf {W : Nat → Nat → Nat} {n those l : Nat} {σ : en_M} (hn : n ≤ 7) (hWb : ∀ a b, W a b ≤ 60) (hl0 : 0 < l) (hl : l < 2 ^ n) (hsub : sbs l those) (hW : WT W n those σ) (hT : BTb W n those σ l) :
    O_X3_bestOf [.inr (172, 3, 0, 0), .inl (Int32.ofNat l)] σ = some (Int32.ofNat (BVm W n l), σ) := by
  have h128 := p2lt hn
  obtain ⟨i, hi7, hb, hlow, hf⟩ := fsI_of hl0 (show l < 128 by omega)
  have hi := bit_n hl hb
  rw [o_X3_bestOf, t_X3_bestOf_0, q_firstOf (by omega), Option.bind_some, BV_y hi hb hlow]
  dsimp only
  rw [hf]
  refine pl_for1 (F := fun f o (q : Int32) => T_X3_bestOf_10 f (Int32.ofNat l) (Int32.ofNat i) q (oPt o) σ) (P := fun o q => q = Int32.ofNat (mxv (boN (voN W (n - i - 1) i l (pcn l % 2)) o))) (Q := fun r => en_oi r = some (Int32.ofNat (mxv (boN (voN W (n - i - 1) i l (pcn l % 2)) 8)), σ)) (N := 8) ?_ ?_ 8 0 en_FU 0 (by omega) (pl_FU (by omega)) rfl
  · rintro f o q ho rfl
    left
    refine ⟨Int32.ofNat (mxv (boN (voN W (n - i - 1) i l (pcn l % 2)) (o + 1))), ?_, rfl⟩
    show T_X3_bestOf_10 (f + 1) _ _ _ (oPt o) σ = _
    have hlt : oPt o < 7 := (by decide : ∀ o < 8, oPt o < 7) o ho
    rw [t_X3_bestOf_10, if_pos hlt, q_withPartner hn hl hi hb hlow hsub ho hW hT, Option.bind_some]
    dsimp only
    rw [q_max, Option.bind_some, oPt_a]
    dsimp only
    have hbo := bo_le (f := voN W (n - i - 1) i l (pcn l % 2)) (b := 480) (fun o v hv => vo_480 hWb (by omega) hv) o
    cases hv : voN W (n - i - 1) i l (pcn l % 2) o with
    | none =>
      rw [bo_n hv, if_neg (show ¬ Int32.ofNat (mxv (boN (voN W (n - i - 1) i l (pcn l % 2)) o)) < vI none from fun z => absurd (Int32.lt_of_le_of_lt (pn_0le (by omega)) z) (by decide))]
    | some v =>
      have hv4 := vo_480 hWb (show n - i - 1 ≤ 7 by omega) hv
      rw [show vI (some v) = Int32.ofNat v from rfl, pi_if (pn_lt (show mxv (boN (voN W (n - i - 1) i l (pcn l % 2)) o) < 2147483648 by omega) (show v < 2147483648 by omega))]
      cases hB : boN (voN W (n - i - 1) i l (pcn l % 2)) o with
      | none =>
        rw [bo_y0 hv hB]
        by_cases c : 0 < v
        · rw [if_pos (show mxv none < v from c)]; rfl
        · rw [if_neg (show ¬ mxv none < v from c)]
          show T_X3_bestOf_10 f _ _ (Int32.ofNat 0) _ σ = T_X3_bestOf_10 f _ _ (Int32.ofNat v) _ σ
          rw [show v = 0 by omega]
      | some q0 =>
        rw [bo_y1 hv hB]
        by_cases c : q0.1 < v
        · rw [if_pos (show mxv (some q0) < v from c), if_pos c]; rfl
        · rw [if_neg (show ¬ mxv (some q0) < v from c), if_neg c]
  · rintro f q rfl
    show en_oi (T_X3_bestOf_10 (f + 1) _ _ _ (oPt 8) σ) = _
    rw [t_X3_bestOf_10, if_neg (show ¬ oPt 8 < 7 by decide)]; rfl
theorem q_leastPartner {W : Nat → Nat → Nat} {n those l i : Nat} {b : Nat × Nat} {σ : en_M} (hn : n ≤ 7) (hWb : ∀ a b, W a b ≤ 60) (hl : l < 2 ^ n) (hi : i < n) (hb : l.testBit i = true) (hlow : ∀ k, k < i → l.testBit k = false) (hsub : sbs l those) (hW : WT W n those σ) (hT : BTb W n those σ (l + 1)) (hB : boN (voN W (n - i - 1) i l (pcn l % 2)) 8 = some b) :
    O_X3_leastPartner [.inr (172, 3, 0, 0), .inl (Int32.ofNat l), .inl (Int32.ofNat i)] σ = some (oPt b.2, σ) := by
  have h128 := p2lt hn
  obtain ⟨k1, k2, k3, k4⟩ := (bo_ok 8).2 b hB
  have hb4 := vo_480 hWb (show n - i - 1 ≤ 7 by omega) k1
  have hbest : σ 181 l = Int32.ofNat b.1 := by
    rw [hT l (by omega) hsub, BV_y hi hb hlow, hB]; rfl
  rw [o_X3_leastPartner, t_X3_leastPartner_0]
  refine pl_for1 (F := fun f o (_ : Unit) => T_X3_leastPartner_2 f (Int32.ofNat l) (Int32.ofNat i) (oPt o) σ) (P := fun o _ => o ≤ b.2) (Q := fun r => en_oi r = some (oPt b.2, σ)) (N := 7) ?_ ?_ 7 0 en_FU () (by omega) (pl_FU (by omega)) (Nat.zero_le _)
  · intro f o _ ho hob
    have hob : o ≤ b.2 := hob
    have hlt : oPt o < 6 := (by decide : ∀ o < 7, oPt o < 6) o ho
    show (∃ _ : Unit, T_X3_leastPartner_2 (f + 1) _ _ (oPt o) σ = _ ∧ _) ∨ en_oi (T_X3_leastPartner_2 (f + 1) _ _ (oPt o) σ) = _
    rw [t_X3_leastPartner_2, if_pos hlt, q_withPartner hn hl hi hb hlow hsub (by omega) hW (fun l' h1 h2 => hT l' (by omega) h2), Option.bind_some, pn_ix (show l < 128 by omega) (by omega), Option.bind_some, oPt_a]
    by_cases e : o = b.2
    · subst e
      rw [k1]
      rw [if_pos (show (vI (some b.1), σ).1 = (vI (some b.1), σ).2 181 l from hbest.symm)]
      exact Or.inr rfl
    · have hne : voN W (n - i - 1) i l (pcn l % 2) o ≠ some b.1 := k3 o (by omega)
      rw [if_neg (show ¬ (vI (voN W (n - i - 1) i l (pcn l % 2) o), σ).1 = (vI (voN W (n - i - 1) i l (pcn l % 2) o), σ).2 181 l from fun z => by
        have z : vI (voN W (n - i - 1) i l (pcn l % 2) o) = σ 181 l := z
        rw [hbest] at z
        cases hv : voN W (n - i - 1) i l (pcn l % 2) o with
        | none =>
          rw [hv] at z
          exact pn_nm1 (show b.1 < 2147483648 by omega) z.symm
        | some v =>
          rw [hv] at z hne
          have hv4 := vo_480 hWb (show n - i - 1 ≤ 7 by omega) hv
          have z : Int32.ofNat v = Int32.ofNat b.1 := z
          rw [pn_eq (by omega) (by omega)] at z
          exact hne (by rw [z]))]
      exact Or.inl ⟨(), rfl, by show o + 1 ≤ b.2; omega⟩
  · intro f _ hob
    have hob : 7 ≤ b.2 := hob
    show en_oi (T_X3_leastPartner_2 (f + 1) _ _ (oPt 7) σ) = _
    rw [t_X3_leastPartner_2, if_neg (show ¬ oPt 7 < 6 by decide), show b.2 = 7 by omega]; rfl
