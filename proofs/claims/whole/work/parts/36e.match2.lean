/-! matches: told, called -/
theorem as_congr {W : Nat → Nat → Nat} : ∀ d i s p (b b' : Nat → Int32), i + d ≤ 7 → s < 128 → (∀ k, k < i → s.testBit k = false) → (∀ r, r < 7 → b r = b' r) → ∀ r, r < 7 → asN W d i s p b r = asN W d i s p b' r
  | 0, _, _, _, _, _, _, _, _, h, r, hr => h r hr
  | d + 1, i, s, p, b, b', hd, hs, hl, h, r, hr => by
    have hc1 : ∀ k, k < i + 1 → (clr s i).testBit k = false := fun k hk => clr_n hs (by omega) (by omega) (by
      by_cases e : k = i
      · exact Or.inr e
      · exact Or.inl (hl k (by omega)))
    have hs1 : clr s i < 128 := Nat.lt_of_le_of_lt (clr_le s i) hs
    by_cases c : s.testBit i = true
    · cases hB : boN (voN W d i s p) 8 with
      | none =>
        have e : ∀ b : Nat → Int32, asN W (d + 1) i s p b = b := fun b => by
          show (if s.testBit i = true then (match boN (voN W d i s p) 8 with
            | none => b
            | some q => if q.2 = 0 then asN W d (i + 1) (clr s i) (p - 1) b else asN W d (i + 1) (clr (clr s i) (q.2 - 1)) p (fun r => if r = q.2 - 1 then Int32.ofNat i else if r = i then Int32.ofNat (q.2 - 1) else b r)) else asN W d (i + 1) s p b) = b
          rw [if_pos c, hB]
        rw [e, e]; exact h r hr
      | some q =>
        rw [as_y c hB, as_y c hB]
        obtain ⟨q1, q2, -, -⟩ := (bo_ok 8).2 q hB
        unfold aoN
        by_cases e : q.2 = 0
        · rw [if_pos e, if_pos e]
          exact as_congr d (i + 1) _ _ b b' (by omega) hs1 hc1 h r hr
        · rw [if_neg e, if_neg e]
          exact as_congr d (i + 1) _ _ _ _ (by omega) (Nat.lt_of_le_of_lt (clr_le _ _) hs1) (fun k hk => clr_n hs1 (by omega) (by omega) (Or.inl (hc1 k hk))) (fun r' hr' => by
            show (if r' = q.2 - 1 then _ else if r' = i then _ else b r') = (if r' = q.2 - 1 then _ else if r' = i then _ else b' r')
            rw [h r' hr']) r hr
    · rw [as_n c, as_n c]
      refine as_congr d (i + 1) s p b b' (by omega) hs (fun k hk => ?_) h r hr
      by_cases e : k = i
      · rw [e]; exact Bool.eq_false_iff.mpr c
      · exact hl k (by omega)
theorem bo_some {W : Nat → Nat → Nat} {d i s : Nat} (hs : s < 128) (hi : i < 7) (h : s.testBit i = true) : ∃ b, boN (voN W d i s (pcn s % 2)) 8 = some b := by
  cases hB : boN (voN W d i s (pcn s % 2)) 8 with
  | some b => exact ⟨b, rfl⟩
  | none =>
    exfalso
    have hno := (bo_ok 8).1 hB
    by_cases h0 : 0 < pcn s % 2
    · have := hno 0 (by omega)
      rw [vo_0 h0] at this; cases this
    · obtain ⟨j, hj, hjb⟩ := even_two hs hi h (by omega)
      have := hno (j + 1) (by omega)
      rw [vo_y hjb] at this; cases this
/-- with whom each is -/
def RRm (W : Nat → Nat → Nat) (n those : Nat) : Nat → Int32 := asN W n 0 those (pcn those % 2) (fun _ => -1)
theorem q_match {g t ro x us kp} {B those : Nat} {W : Nat → Nat → Nat} {σ : en_M} (hA : AV B (g, t, ro, x, us, kp)) (hC : CI σ (g, t, ro, x, us, kp)) (hWb : ∀ a b, W a b ≤ 60) (hs : those < 2 ^ gN g) (h2 : σ 172 2 = Int32.ofNat those) (hW : WT W (gN g) those σ) (h0 : σ 181 0 = 0) :
    ∃ σ', O_X3_match [.inr (172, 3, 0, 0), .inl (Int32.ofNat (gN g)), .inr (3, 9, 0, 0)] σ = some (Int32.ofNat (BVm W (gN g) those), σ') ∧ CI σ' (g, t, rwL (RRm W (gN g) those) (gN g), x, us, kp) ∧ (∀ c, c ≠ 3 → c ≠ 4 → c ≠ 181 → σ' c = σ c) ∧ σ' 181 0 = 0 := by
  have hn : gN g ≤ 7 := hA.1.1
  have h128 := p2lt hn
  have hFU := en_FU_ge
  rw [o_X3_match, t_X3_match_0]
  -- the best of each set
  have go := pl_for (F := fun f i (q : en_M) => T_X3_match_2 f (Int32.ofNat (gN g)) (Int32.ofNat (i + 1)) q) (P := fun i q => BTb W (gN g) those q (i + 1) ∧ (∀ c, c ≠ 181 → q c = σ c) ∧ q 181 0 = 0)
    (Q := fun r => ∃ f q, 900000 < f ∧ r = T_X3_match_53 f (Int32.ofNat (gN g)) (Int32.ofNat those) 0 0 en_un (en_up q 3 1 0) ∧ BTb W (gN g) those q (those + 1) ∧ (∀ c, c ≠ 181 → q c = σ c) ∧ q 181 0 = 0) (N := those) (C := 1) (C0 := 900010) (by
    rintro f i q hi hf ⟨p1, p2, p3⟩
    obtain ⟨f, rfl⟩ : ∃ j, f = j + 1 := Nat.exists_eq_succ_of_ne_zero (by omega)
    have hcond : (Int32.ofNat (i + 1) &&& (q 172 2 ^^^ (-1 : Int32)) = 0) = sbs (i + 1) those := by
      rw [p2 172 (by omega), h2, pn_m1, pn_xor, pn_and]
      exact pn_eq0 (Nat.lt_of_le_of_lt Nat.and_le_left (show i + 1 < 2147483648 by omega))
    left
    show ∃ n' q', T_X3_match_2 (f + 1) _ (Int32.ofNat (i + 1)) q = _ ∧ _
    rw [t_X3_match_2, if_neg (show ¬ q 172 2 < Int32.ofNat (i + 1) by rw [p2 172 (by omega), h2, pn_lt (by omega) (by omega)]; omega), pn_a1]
    by_cases c : Int32.ofNat (i + 1) &&& (q 172 2 ^^^ (-1 : Int32)) = 0
    · have hsub := (iff_of_eq hcond).mp c
      have hWq : WT W (gN g) those q := fun a b h1 h2 h3 h4 => by rw [p2 _ (by omega)]; exact hW a b h1 h2 h3 h4
      rw [if_pos c, q_bestOf hn hWb (by omega) (show i + 1 < 2 ^ gN g by omega) hsub hWq p1, Option.bind_some, pn_ix (show i + 1 < 128 by omega) (by omega), Option.bind_some]
      refine ⟨f, _, rfl, Nat.le_refl _, fun l' h1 h2 => ?_, fun c hc => by dsimp only; rw [pu_row hc]; exact p2 c hc, by dsimp only; rw [pu_slot (by omega)]; exact p3⟩
      dsimp only
      by_cases e : l' = i + 1
      · rw [e, pu_same]
      · rw [pu_slot e]; exact p1 l' (by omega) h2
    · rw [if_neg c]
      refine ⟨f, q, rfl, Nat.le_refl _, fun l' h1 h2 => ?_, p2, p3⟩
      by_cases e : l' = i + 1
      · rw [e] at h2; exact absurd ((iff_of_eq hcond).mpr h2) c
      · exact p1 l' (by omega) h2) (by
    rintro f q hf ⟨p1, p2, p3⟩
    obtain ⟨f, rfl⟩ : ∃ j, f = j + 1 := Nat.exists_eq_succ_of_ne_zero (by omega)
    refine ⟨f, q, by omega, ?_, p1, p2, p3⟩
    show T_X3_match_2 (f + 1) _ (Int32.ofNat (those + 1)) q = _
    rw [t_X3_match_2, if_pos (show q 172 2 < Int32.ofNat (those + 1) by rw [p2 172 (by omega), h2, pn_lt (by omega) (by omega)]; omega), q_tbegin, Option.bind_some, pu_cell (show 172 ≠ 3 by omega), p2 172 (by omega), h2]) those 0 en_FU σ (by omega) (by omega) ⟨fun l' h1 h2 => by rw [show l' = 0 by omega, h0, BV_0]; rfl, fun _ _ => rfl, h0⟩
  obtain ⟨f, q1, hf, e1, a1, a2, a3⟩ := go
  have e1 : T_X3_match_2 en_FU (Int32.ofNat (gN g)) 1 σ = _ := e1
  rw [e1]
  have hC1 : CI q1 (g, t, ro, x, us, kp) := hC.kept (fun c hc => a2 c (by omega)) (by rw [a2 10 (by omega)])
  have hW1 : WT W (gN g) those q1 := fun a b h1 h2 h3 h4 => by rw [a2 _ (by omega)]; exact hW a b h1 h2 h3 h4
  have h21 : q1 172 2 = Int32.ofNat those := by rw [a2 172 (by omega)]; exact h2
  refine pl_for1 (F := fun f i (q : Int32 × Int32 × en_V × en_M) => T_X3_match_53 f (Int32.ofNat (gN g)) q.1 q.2.1 (Int32.ofNat i) q.2.2.1 q.2.2.2) (P := fun i q => (∃ (left : Nat) (base : Nat → Int32) (fp : Nat → Nat), q.1 = Int32.ofNat left ∧ q.2.1 = Int32.ofNat (pkN fp) ∧ (∀ p, p < 7 → fp p < 8) ∧ left < 2 ^ gN g ∧ (∀ k, k < i → left.testBit k = false) ∧ sbs left those ∧ (∀ r, r < gN g → RRm W (gN g) those r = asN W (gN g - i) i left (pcn left % 2) base r) ∧ (∀ r, i ≤ r → r < gN g → (left.testBit r = true ∨ those.testBit r = false) → base r = -1) ∧ (∀ r, i ≤ r → r < gN g → those.testBit r = true → left.testBit r = false → ∃ k, k < 7 ∧ base r = Int32.ofNat k ∧ fp r = k + 1)) ∧ CI q.2.2.2 (g, t, rwL (RRm W (gN g) those) i, x, us, kp) ∧ ∀ c, c ≠ 3 → c ≠ 4 → q.2.2.2 c = q1 c)
    (Q := fun r => ∃ σ', en_oi r = some (Int32.ofNat (BVm W (gN g) those), σ') ∧ CI σ' (g, t, rwL (RRm W (gN g) those) (gN g), x, us, kp) ∧ (∀ c, c ≠ 3 → c ≠ 4 → c ≠ 181 → σ' c = σ c) ∧ σ' 181 0 = 0) (N := gN g) ?_ ?_ (gN g) 0 f (Int32.ofNat those, 0, en_un, en_up q1 3 1 0) (by omega) (by omega) ⟨⟨those, fun _ => -1, fun _ => 0, rfl, rfl, fun _ _ => (by show (0 : Nat) < 8; omega), hs, fun k hk => absurd hk (by omega), sbs_self those (by omega), fun r _ => rfl, fun r _ _ _ => rfl, fun r _ _ h1 h2 => by rw [h1] at h2; exact absurd h2 (by decide)⟩, CI.begin hC1, fun c h1 h2 => pu_row h1⟩
  · rintro f i ⟨x3, x4, u6, υ⟩ hi ⟨⟨left, base, fp, p1, p2, p3, p4, p5, p6, p7, p8, p9⟩, p10, p11⟩
    have p1 : x3 = _ := p1
    have p2 : x4 = _ := p2
    subst p1
    subst p2
    have p10 : CI υ (g, t, rwL (RRm W (gN g) those) i, x, us, kp) := p10
    have p11 : ∀ c, c ≠ 3 → c ≠ 4 → υ c = q1 c := p11
    have hl128 : left < 128 := by omega
    have hi7 : i < 7 := by omega
    have hRi := p7 i hi
    rw [show gN g - i = (gN g - i - 1) + 1 by omega] at p7 hRi
    have hbitI : ∀ s : Nat, s < 128 → ((en_shr (Int32.ofNat s) (Int32.ofNat i) &&& 1 = 0) = (¬ s.testBit i = true)) := fun s hs => by
      rw [pb_bit (by omega) (by omega), pn_eq0 (by omega), Nat.testBit_eq_decide_div_mod_eq, decide_eq_true_iff]
      exact propext ⟨fun h => by omega, fun h => by omega⟩
    -- a number told
    have tell : ∀ v, RRm W (gN g) those i = v → ∃ σ', O_X9_add [.inr (3, 9, 0, 0), .inl v] υ = some σ' ∧ CI σ' (g, t, rwL (RRm W (gN g) those) (i + 1), x, us, kp) ∧ ∀ c, c ≠ 3 → c ≠ 4 → σ' c = q1 c := fun v hv => by
      obtain ⟨σ', g1, g2, g3⟩ := p10.add (by rw [rwL_len]; omega) v
      refine ⟨σ', g1, ?_, fun c h1 h2 => by rw [g3 c h1 h2, p11 c h1 h2]⟩
      show CI σ' (g, t, rwL (RRm W (gN g) those) i ++ [RRm W (gN g) those i], x, us, kp)
      rw [hv]; exact g2
    left
    show ∃ q' : Int32 × Int32 × en_V × en_M, T_X3_match_53 (f + 1) _ (Int32.ofNat left) (Int32.ofNat (pkN fp)) (Int32.ofNat i) u6 υ = _ ∧ _
    rw [t_X3_match_53, if_pos ((pn_lt (by omega) (by omega)).mpr hi), q_bit, Option.bind_some]
    dsimp only
    rw [pi_if (hbitI left hl128), q_bit, Option.bind_some, pn_a1]
    dsimp only
    rw [p11 172 (by omega) (by omega), h21, pi_if (hbitI those (by omega)), q_bellAt, Option.bind_some, pba p3 hi7]
    by_cases c : left.testBit i = true
    · obtain ⟨b, hB⟩ := bo_some (W := W) (d := gN g - i - 1) hl128 hi7 c
      obtain ⟨k1, k2, -, -⟩ := (bo_ok 8).2 b hB
      have hle : left ≤ those := by
        have h3 : left &&& those = left := by
          apply Nat.eq_of_testBit_eq
          intro k
          by_cases hk : k < 7
          · rw [Nat.testBit_and]
            by_cases hb : left.testBit k = true
            · rw [hb, sbs_bit p6 hk hb]; rfl
            · rw [Bool.eq_false_iff.mpr hb]; rfl
          · rw [Nat.testBit_and, Nat.testBit_lt_two_pow (show left < 2 ^ k from Nat.lt_of_lt_of_le hl128 (Nat.pow_le_pow_right (n := 2) (by decide) (show 7 ≤ k by omega)))]; rfl
        have h4 : left &&& those ≤ those := Nat.and_le_right
        omega
      have hTT : BTb W (gN g) those υ (left + 1) := fun l' z1 z2 => by
        rw [p11 181 (by omega) (by omega)]
        exact a1 l' (by omega) z2
      have hWW : WT W (gN g) those υ := fun a b z1 z2 z3 z4 => by
        rw [p11 _ (by omega) (by omega)]
        exact hW1 a b z1 z2 z3 z4
      have hlp := q_leastPartner (σ := υ) hn hWb p4 hi c p5 p6 hWW hTT hB
      obtain ⟨cf1, cf2, cf3⟩ := clr_f hl128 hi7
      have hs1 : clr left i < 2 ^ gN g := Nat.lt_of_le_of_lt (clr_le _ _) p4
      have hc1 : ∀ k, k < i + 1 → (clr left i).testBit k = false := fun k hk => clr_n hl128 hi7 (by omega) (by
        by_cases e : k = i
        · exact Or.inr e
        · exact Or.inl (p5 k (by omega)))
      rw [if_neg (fun z => z c), hlp, Option.bind_some]
      rw [as_y c hB] at p7 hRi
      unfold aoN at p7 hRi
      by_cases e0 : b.2 = 0
      · rw [if_pos e0] at p7 hRi
        have hp1 : pcn left % 2 - 1 = pcn (clr left i) % 2 := by
          rw [e0] at k1
          have : 0 < pcn left % 2 := Classical.byContradiction fun z => by rw [vo_0n z] at k1; cases k1
          rw [cf3 c]; omega
        have hbi : RRm W (gN g) those i = -1 := by
          rw [hRi, as_low (gN g - i - 1) (i + 1) _ _ _ i (Nat.lt_of_le_of_lt (clr_le _ _) hl128) (by omega) hc1 (by omega)]
          exact p8 i (Nat.le_refl _) hi (Or.inl c)
        obtain ⟨σ', g1, g2, g3⟩ := tell (-1) hbi
        rw [e0, show oPt 0 = -1 by decide, g1, Option.bind_some]
        dsimp only
        rw [if_pos (show (-1 : Int32) = -1 from rfl), clr_I left i (by omega)]
        refine ⟨(Int32.ofNat (clr left i), Int32.ofNat (pkN fp), .inl (-1), σ'), rfl, ⟨clr left i, base, fp, rfl, rfl, p3, hs1, hc1, sbs_clr p6, fun r hr => by rw [p7 r hr, hp1, show gN g - (i + 1) = gN g - i - 1 by omega], fun r h1 h2 h3 => p8 r (by omega) h2 (h3.imp (fun z => ((clr_y hl128 hi7 (by omega)).mp z).1) id), fun r h1 h2 h3 h4 => p9 r (by omega) h2 h3 (Bool.eq_false_iff.mpr fun z => by
          rw [(clr_y hl128 hi7 (by omega)).mpr ⟨z, by omega⟩] at h4; exact absurd h4 (by decide))⟩, g2, g3⟩
      · obtain ⟨j, hj⟩ : ∃ j, b.2 = j + 1 := ⟨b.2 - 1, by omega⟩
        rw [if_neg e0] at p7 hRi
        rw [hj, Nat.add_sub_cancel] at p7 hRi
        rw [hj] at k1 k2
        have hj7 : j < 7 := by omega
        have hcj : (clr left i).testBit j = true := Classical.byContradiction fun z => by rw [vo_n z] at k1; cases k1
        have hij : i < j := Nat.lt_of_not_le fun z => by rw [hc1 j (by omega)] at hcj; exact absurd hcj (by decide)
        have hlj : left.testBit j = true := ((clr_y hl128 hi7 hj7).mp hcj).1
        have hjn := bit_n p4 hlj
        have hs1' : clr left i < 128 := by omega
        obtain ⟨b1, b2, b3⟩ := clr_f hs1' hj7
        have hs2 : clr (clr left i) j < 2 ^ gN g := Nat.lt_of_le_of_lt (clr_le _ _) hs1
        have hc2 : ∀ k, k < i + 1 → (clr (clr left i) j).testBit k = false := fun k hk => clr_n hs1' hj7 (by omega) (Or.inl (hc1 k hk))
        have hp2 : pcn left % 2 = pcn (clr (clr left i) j) % 2 := by rw [b3 hcj]; have := cf3 c; omega
        have hbi : RRm W (gN g) those i = Int32.ofNat j := by
          rw [hRi, as_low (gN g - i - 1) (i + 1) _ _ _ i (by omega) (by omega) hc2 (by omega)]
          show (if i = j then _ else if i = i then Int32.ofNat j else base i) = _
          rw [if_neg (by omega), if_pos rfl]
        obtain ⟨σ', g1, g2, g3⟩ := tell (Int32.ofNat j) hbi
        rw [hj, oPt_s, g1, Option.bind_some]
        dsimp only
        rw [if_neg (pn_nm1 (by omega)), q_withBell, Option.bind_some]
        dsimp only
        rw [pwb p3 hj7 (show i + 1 < 8 by omega), clr_I left i (by omega), clr_I _ j (by omega)]
        refine ⟨(Int32.ofNat (clr (clr left i) j), Int32.ofNat (pkN (pup fp j (i + 1))), .inl (Int32.ofNat j), σ'), rfl, ⟨clr (clr left i) j, (fun r => if r = j then Int32.ofNat i else if r = i then Int32.ofNat j else base r), pup fp j (i + 1), rfl, rfl, pup_lt p3 (by omega), hs2, hc2, sbs_clr (sbs_clr p6), fun r hr => by rw [p7 r hr, hp2, show gN g - (i + 1) = gN g - i - 1 by omega], fun r h1 h2 h3 => ?_, fun r h1 h2 h3 h4 => ?_⟩, g2, g3⟩
        · have hrj : r ≠ j := fun e => by
            subst e
            rcases h3 with z | z
            · exact absurd rfl ((clr_y hs1' hj7 hj7).mp z).2
            · rw [sbs_bit p6 hj7 hlj] at z; exact absurd z (by decide)
          show (if r = j then _ else if r = i then _ else base r) = _
          rw [if_neg hrj, if_neg (by omega)]
          exact p8 r (by omega) h2 (h3.imp (fun z => ((clr_y hl128 hi7 (by omega)).mp ((clr_y hs1' hj7 (by omega)).mp z).1).1) id)
        · by_cases e : r = j
          · subst e
            refine ⟨i, hi7, ?_, ?_⟩
            · show (if r = r then Int32.ofNat i else _) = _
              rw [if_pos rfl]
            · show (if r = r then i + 1 else _) = _
              rw [if_pos rfl]
          · obtain ⟨k, z1, z2, z3⟩ := p9 r (by omega) h2 h3 (Bool.eq_false_iff.mpr fun z => by
              rw [(clr_y hs1' hj7 (by omega)).mpr ⟨(clr_y hl128 hi7 (by omega)).mpr ⟨z, by omega⟩, e⟩] at h4; exact absurd h4 (by decide))
            refine ⟨k, z1, ?_, ?_⟩
            · show (if r = j then _ else if r = i then _ else base r) = _
              rw [if_neg e, if_neg (by omega)]; exact z2
            · show (if r = j then _ else fp r) = _
              rw [if_neg e]; exact z3
    · rw [as_n c] at p7 hRi
      have hc1 : ∀ k, k < i + 1 → left.testBit k = false := fun k hk => by
        by_cases e : k = i
        · rw [e]; exact Bool.eq_false_iff.mpr c
        · exact p5 k (by omega)
      have hlow : RRm W (gN g) those i = base i := by
        rw [hRi, as_low (gN g - i - 1) (i + 1) _ _ _ i hl128 (by omega) hc1 (by omega)]
      have next : ∀ σ', CI σ' (g, t, rwL (RRm W (gN g) those) (i + 1), x, us, kp) → (∀ c, c ≠ 3 → c ≠ 4 → σ' c = q1 c) → ∃ q' : Int32 × Int32 × en_V × en_M, T_X3_match_53 f (Int32.ofNat (gN g)) (Int32.ofNat left) (Int32.ofNat (pkN fp)) (Int32.ofNat (i + 1)) u6 σ' = T_X3_match_53 f (Int32.ofNat (gN g)) q'.1 q'.2.1 (Int32.ofNat (i + 1)) q'.2.2.1 q'.2.2.2 ∧ (∃ (left : Nat) (base : Nat → Int32) (fp : Nat → Nat), q'.1 = Int32.ofNat left ∧ q'.2.1 = Int32.ofNat (pkN fp) ∧ (∀ p, p < 7 → fp p < 8) ∧ left < 2 ^ gN g ∧ (∀ k, k < i + 1 → left.testBit k = false) ∧ sbs left those ∧ (∀ r, r < gN g → RRm W (gN g) those r = asN W (gN g - (i + 1)) (i + 1) left (pcn left % 2) base r) ∧ (∀ r, i + 1 ≤ r → r < gN g → (left.testBit r = true ∨ those.testBit r = false) → base r = -1) ∧ (∀ r, i + 1 ≤ r → r < gN g → those.testBit r = true → left.testBit r = false → ∃ k, k < 7 ∧ base r = Int32.ofNat k ∧ fp r = k + 1)) ∧ CI q'.2.2.2 (g, t, rwL (RRm W (gN g) those) (i + 1), x, us, kp) ∧ ∀ c, c ≠ 3 → c ≠ 4 → q'.2.2.2 c = q1 c := fun σ' hc1' hf' =>
        ⟨(Int32.ofNat left, Int32.ofNat (pkN fp), u6, σ'), rfl, ⟨left, base, fp, rfl, rfl, p3, p4, hc1, p6, fun r hr => by rw [p7 r hr, show gN g - (i + 1) = gN g - i - 1 by omega], fun r h1 h2 h3 => p8 r (by omega) h2 h3, fun r h1 h2 h3 h4 => p9 r (by omega) h2 h3 h4⟩, hc1', hf'⟩
      rw [if_pos c]
      by_cases ct : those.testBit i = true
      · obtain ⟨k, z1, z2, z3⟩ := p9 i (Nat.le_refl _) hi ct (Bool.eq_false_iff.mpr c)
        obtain ⟨σ', g1, g2, g3⟩ := tell (Int32.ofNat k) (by rw [hlow, z2])
        rw [if_neg (fun z => z ct), z3, show Int32.ofNat (k + 1) - (1 : Int32) = Int32.ofNat k from pn_sub (b := 1) (by omega), g1, Option.bind_some]
        exact next σ' g2 g3
      · obtain ⟨σ', g1, g2, g3⟩ := tell (-1) (by rw [hlow]; exact p8 i (Nat.le_refl _) hi (Or.inr (Bool.eq_false_iff.mpr ct)))
        rw [if_pos ct, g1, Option.bind_some]
        exact next σ' g2 g3
  · rintro f ⟨x3, x4, u6, υ⟩ ⟨-, p10, p11⟩
    have p11 : ∀ c, c ≠ 3 → c ≠ 4 → υ c = q1 c := p11
    show ∃ σ', en_oi (T_X3_match_53 (f + 1) _ x3 x4 (Int32.ofNat (gN g)) u6 υ) = _ ∧ _
    rw [t_X3_match_53, if_neg (by rw [pn_lt (by omega) (by omega)]; omega), p11 172 (by omega) (by omega), h21, pn_ix (show those < 128 by omega) (by omega), Option.bind_some, p11 181 (by omega) (by omega), a1 those (by omega) (sbs_self those (by omega))]
    exact ⟨υ, rfl, p10, fun c h1 h2 h3 => by rw [p11 c h1 h2, a2 c h3], by rw [p11 181 (by omega) (by omega)]; exact a3⟩
