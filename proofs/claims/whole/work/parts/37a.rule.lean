/-! rule: what a text tells -/
def sgN (L : Nat) (tx : Nat → Nat) (p : Nat) : Nat := if p < L ∧ p < 40 then tx p else 256
theorem sgN_hr {L : Nat} {tx : Nat → Nat} {p c : Nat} (hb : ∀ j, tx j < 256) (hc : c < 256) : (hr L 40 tx p = Int32.ofNat c) = (sgN L tx p = c) := by
  have := hb p
  unfold hr sgN
  by_cases h : p < L ∧ p < 40
  · rw [if_pos h, if_pos h]; exact pn_eq (by omega) (by omega)
  · rw [if_neg h, if_neg h]
    exact propext ⟨fun q => absurd q.symm (pn_nm1 (by omega)), fun q => by omega⟩
theorem sgN_in {L : Nat} {tx : Nat → Nat} {p c : Nat} (hc : c < 256) (h : sgN L tx p = c) : p < L ∧ p < 40 ∧ tx p = c := by
  unfold sgN at h
  by_cases q : p < L ∧ p < 40
  · rw [if_pos q] at h; exact ⟨q.1, q.2, h⟩
  · rw [if_neg q] at h; omega
def wkV (s : Nat) (a b : Int32) : Int32 := if s = 42 then a * b else if s = 43 then a + b else if s = 45 then a - b else if s = 47 then (if b = 0 then 0 else a / b) else if s = 60 then (if a < b then 1 else 0) else if s = 62 then (if b < a then 1 else 0) else if a = b then 1 else 0
def lxN (u : Nat) : Nat := if u = 119 then 0 else if u = 116 then 1 else if u = 112 then 2 else if u = 114 then 3 else if u = 105 then 4 else if u = 115 then 5 else if u = 109 then 6 else 7
/-- one code worked off -/
def rn1 (th : Nat → Int32) (c : Nat) (st : List Int32) : List Int32 := if c < 1000 then Int32.ofNat c :: st else if c < 1100 then th (c - 1000) :: st else if c = 1100 then (match st with
  | [] => []
  | a :: r => -a :: r) else (match st with
  | [] => []
  | [a] => [a]
  | b :: a :: r => wkV (c - 2000) a b :: r)
def rnC (th : Nat → Int32) : List Nat → List Int32 → List Int32
  | [], st => st
  | c :: cs, st => rnC th cs (rn1 th c st)
theorem rnC_app (th : Nat → Int32) : ∀ cs ds st, rnC th (cs ++ ds) st = rnC th ds (rnC th cs st)
  | [], _, _ => rfl
  | c :: cs, ds, st => rnC_app th cs ds (rn1 th c st)
abbrev PRs : Type := Bool × Nat × List Nat × ((Nat → Int32) → Int32)
def flP (p : Nat) : PRs := (false, p, [], fun _ => 0)
def thP (L : Nat) (tx : Nat → Nat) (ex : Nat → PRs) (deep : Bool) (p : Nat) : PRs :=
  if sgN L tx p = 40 ∧ deep = true then (if (ex (p + 1)).1 = false then flP (ex (p + 1)).2.1 else if sgN L tx (ex (p + 1)).2.1 = 41 then (true, (ex (p + 1)).2.1 + 1, (ex (p + 1)).2.2.1, (ex (p + 1)).2.2.2) else flP (ex (p + 1)).2.1)
  else if 48 ≤ sgN L tx p ∧ sgN L tx p < 58 then (true, (dgN L 40 tx 2 (p + 1) (tx p - 48)).1, [(dgN L 40 tx 2 (p + 1) (tx p - 48)).2], fun _ => Int32.ofNat (dgN L 40 tx 2 (p + 1) (tx p - 48)).2)
  else if lxN (sgN L tx p) < 7 then (true, p + 1, [1000 + lxN (sgN L tx p)], fun th => th (lxN (sgN L tx p)))
  else flP p
def miN (L : Nat) (tx : Nat → Nat) : Nat → Nat → Nat
  | 0, _ => 0
  | K + 1, p => if sgN L tx p = 45 then miN L tx K (p + 1) + 1 else 0
def faP (L : Nat) (tx : Nat → Nat) (th : Nat → PRs) (p : Nat) : PRs := if (th (p + miN L tx 40 p)).1 = false then flP (th (p + miN L tx 40 p)).2.1 else (true, (th (p + miN L tx 40 p)).2.1, (th (p + miN L tx 40 p)).2.2.1 ++ (if miN L tx 40 p % 2 = 1 then [1100] else []), fun a => if miN L tx 40 p % 2 = 1 then -(th (p + miN L tx 40 p)).2.2.2 a else (th (p + miN L tx 40 p)).2.2.2 a)
def lpP (L : Nat) (tx : Nat → Nat) (c1 c2 : Nat) (q : Nat → PRs) : Nat → PRs → PRs
  | 0, a => a
  | K + 1, a => if sgN L tx a.2.1 = c1 ∨ sgN L tx a.2.1 = c2 then (if (q (a.2.1 + 1)).1 = false then flP (q (a.2.1 + 1)).2.1 else lpP L tx c1 c2 q K (true, (q (a.2.1 + 1)).2.1, a.2.2.1 ++ (q (a.2.1 + 1)).2.2.1 ++ [2000 + sgN L tx a.2.1], fun th => wkV (sgN L tx a.2.1) (a.2.2.2 th) ((q (a.2.1 + 1)).2.2.2 th))) else a
def opP (L : Nat) (tx : Nat → Nat) (c1 c2 : Nat) (q : Nat → PRs) (p : Nat) : PRs := if (q p).1 = false then flP (q p).2.1 else lpP L tx c1 c2 q 40 (q p)
def exP (L : Nat) (tx : Nat → Nat) (q : Nat → PRs) (p : Nat) : PRs := if (q p).1 = false then flP (q p).2.1 else if sgN L tx (q p).2.1 = 60 ∨ sgN L tx (q p).2.1 = 62 ∨ sgN L tx (q p).2.1 = 61 then (if (q ((q p).2.1 + 1)).1 = false then flP (q ((q p).2.1 + 1)).2.1 else (true, (q ((q p).2.1 + 1)).2.1, (q p).2.2.1 ++ (q ((q p).2.1 + 1)).2.2.1 ++ [2000 + sgN L tx (q p).2.1], fun th => wkV (sgN L tx (q p).2.1) ((q p).2.2.2 th) ((q ((q p).2.1 + 1)).2.2.2 th))) else q p
/-- an expression where so many parentheses may still be opened -/
def eeP (L : Nat) (tx : Nat → Nat) : Nat → Nat → PRs
  | 0 => exP L tx (opP L tx 43 45 (opP L tx 42 47 (faP L tx (thP L tx (fun p => flP p) false))))
  | e + 1 => exP L tx (opP L tx 43 45 (opP L tx 42 47 (faP L tx (thP L tx (eeP L tx e) true))))
/-- what is good of a result -/
def OKr (p : Nat) (r : PRs) : Prop := p < r.2.1 ∧ r.2.2.1.length ≤ r.2.1 - p ∧ (∀ th st, rnC th r.2.2.1 st = r.2.2.2 th :: st) ∧ (∀ a b : Nat → Int32, (∀ i, i < 7 → a i = b i) → r.2.2.2 a = r.2.2.2 b) ∧ ∀ c, c ∈ r.2.2.1 → c < 1007 ∨ c = 1100 ∨ 2000 ≤ c ∧ c < 3000
def GPr (q : Nat → PRs) : Prop := ∀ p, p ≤ 40 → p ≤ (q p).2.1 ∧ (q p).2.1 ≤ 40 ∧ ((q p).1 = true → OKr p (q p))
theorem GP_fl : GPr (fun p => flP p) := fun p hp => ⟨Nat.le_refl _, hp, fun h => absurd (show false = true from h) (by decide)⟩
theorem rn_op {th : Nat → Int32} {s : Nat} (hs : s < 256) (a b : Int32) (st : List Int32) : rnC th [2000 + s] (b :: a :: st) = wkV s a b :: st := by
  show rn1 th (2000 + s) (b :: a :: st) = _
  unfold rn1
  rw [if_neg (by omega), if_neg (by omega), if_neg (by omega), show 2000 + s - 2000 = s by omega]
theorem OK_op {p : Nat} {a r : PRs} {s : Nat} (hs : s < 256) (ha : OKr p a) (hr : OKr (a.2.1 + 1) r) : OKr p (true, r.2.1, a.2.2.1 ++ r.2.2.1 ++ [2000 + s], fun th => wkV s (a.2.2.2 th) (r.2.2.2 th)) := by
  obtain ⟨a1, a2, a3, a4, a5⟩ := ha
  obtain ⟨b1, b2, b3, b4, b5⟩ := hr
  refine ⟨by show p < r.2.1; omega, ?_, fun th st => ?_, fun x y h => ?_, fun c hc => ?_⟩
  · show (a.2.2.1 ++ r.2.2.1 ++ [2000 + s]).length ≤ r.2.1 - p
    rw [List.length_append, List.length_append]
    show a.2.2.1.length + r.2.2.1.length + 1 ≤ _
    omega
  · show rnC th (a.2.2.1 ++ r.2.2.1 ++ [2000 + s]) st = wkV s (a.2.2.2 th) (r.2.2.2 th) :: st
    rw [rnC_app, rnC_app, a3, b3, rn_op hs]
  · show wkV s (a.2.2.2 x) (r.2.2.2 x) = wkV s (a.2.2.2 y) (r.2.2.2 y)
    rw [a4 x y h, b4 x y h]
  · have hc : c ∈ a.2.2.1 ++ r.2.2.1 ++ [2000 + s] := hc
    rw [List.mem_append, List.mem_append] at hc
    rcases hc with (h | h) | h
    · exact a5 c h
    · exact b5 c h
    · have : c = 2000 + s := List.mem_singleton.mp h
      omega
theorem GP_th {L : Nat} {tx : Nat → Nat} {ex : Nat → PRs} {deep : Bool} (hb : ∀ j, tx j < 256) (h : GPr ex) : GPr (thP L tx ex deep) := by
  intro p hp
  unfold thP
  by_cases c1 : sgN L tx p = 40 ∧ deep = true
  · rw [if_pos c1]
    have hi := sgN_in (by omega) c1.1
    obtain ⟨e1, e2, e3⟩ := h (p + 1) (by omega)
    by_cases c2 : (ex (p + 1)).1 = false
    · rw [if_pos c2]
      exact ⟨by show p ≤ (ex (p + 1)).2.1; omega, e2, fun z => absurd (show false = true from z) (by decide)⟩
    · rw [if_neg c2]
      have c2 : (ex (p + 1)).1 = true := by
        cases hq : (ex (p + 1)).1
        · exact absurd hq c2
        · rfl
      obtain ⟨o1, o2, o3, o4, o5⟩ := e3 c2
      by_cases c3 : sgN L tx (ex (p + 1)).2.1 = 41
      · rw [if_pos c3]
        have hi3 := sgN_in (by omega) c3
        exact ⟨by show p ≤ (ex (p + 1)).2.1 + 1; omega, by show (ex (p + 1)).2.1 + 1 ≤ 40; omega, fun _ => ⟨by show p < (ex (p + 1)).2.1 + 1; omega, by show (ex (p + 1)).2.2.1.length ≤ (ex (p + 1)).2.1 + 1 - p; omega, o3, o4, o5⟩⟩
      · rw [if_neg c3]
        exact ⟨by show p ≤ (ex (p + 1)).2.1; omega, e2, fun z => absurd (show false = true from z) (by decide)⟩
  · rw [if_neg c1]
    by_cases c2 : 48 ≤ sgN L tx p ∧ sgN L tx p < 58
    · rw [if_pos c2]
      have hi := sgN_in (L := L) (tx := tx) (p := p) (c := sgN L tx p) (by omega) rfl
      obtain ⟨d1, d2, d3, d4⟩ := dgN_le L 40 tx 2 (p + 1) (tx p - 48)
      have hv : (dgN L 40 tx 2 (p + 1) (tx p - 48)).2 < 1000 := by
        have h0 : tx p - 48 < 10 := by omega
        unfold dgN
        split
        · rename_i c
          obtain ⟨z1, z2, z3, z4⟩ := c
          unfold dgN
          split
          · rename_i c'
            obtain ⟨y1, y2, y3, y4⟩ := c'
            show 10 * (10 * (tx p - 48) + (tx (p + 1) - 48)) + (tx (p + 1 + 1) - 48) < 1000
            omega
          · show 10 * (tx p - 48) + (tx (p + 1) - 48) < 1000
            omega
        · show tx p - 48 < 1000
          omega
      refine ⟨by show p ≤ (dgN L 40 tx 2 (p + 1) (tx p - 48)).1; omega, d3 (by omega), fun _ => ⟨by show p < (dgN L 40 tx 2 (p + 1) (tx p - 48)).1; omega, by show 1 ≤ (dgN L 40 tx 2 (p + 1) (tx p - 48)).1 - p; omega, fun th st => ?_, fun _ _ _ => rfl, fun c hc => ?_⟩⟩
      · show rn1 th (dgN L 40 tx 2 (p + 1) (tx p - 48)).2 st = _
        unfold rn1
        rw [if_pos hv]
      · have : c = (dgN L 40 tx 2 (p + 1) (tx p - 48)).2 := List.mem_singleton.mp hc
        omega
    · rw [if_neg c2]
      by_cases c3 : lxN (sgN L tx p) < 7
      · rw [if_pos c3]
        have hi : p < L ∧ p < 40 := by
          refine Classical.byContradiction fun z => ?_
          unfold sgN at c3
          rw [if_neg z] at c3
          exact absurd c3 (by decide)
        refine ⟨by show p ≤ p + 1; omega, by show p + 1 ≤ 40; omega, fun _ => ⟨by show p < p + 1; omega, by show 1 ≤ p + 1 - p; omega, fun th st => ?_, fun a b hab => hab _ c3, fun c hc => ?_⟩⟩
        · show rn1 th (1000 + lxN (sgN L tx p)) st = _
          unfold rn1
          rw [if_neg (by omega), if_pos (by omega), show 1000 + lxN (sgN L tx p) - 1000 = lxN (sgN L tx p) by omega]
        · have : c = 1000 + lxN (sgN L tx p) := List.mem_singleton.mp hc
          omega
      · rw [if_neg c3]
        exact ⟨Nat.le_refl _, hp, fun z => absurd (show false = true from z) (by decide)⟩
theorem miN_le (L : Nat) (tx : Nat → Nat) : ∀ K p, p ≤ 40 → p + miN L tx K p ≤ 40 ∧ miN L tx K p ≤ K
  | 0, p, h => ⟨h, Nat.le_refl _⟩
  | K + 1, p, h => by
    unfold miN
    by_cases c : sgN L tx p = 45
    · have hi := sgN_in (by omega) c
      have := miN_le L tx K (p + 1) (by omega)
      rw [if_pos c]
      exact ⟨by omega, by omega⟩
    · rw [if_neg c]
      exact ⟨h, Nat.zero_le _⟩
theorem GP_fa {L : Nat} {tx : Nat → Nat} {th : Nat → PRs} (h : GPr th) : GPr (faP L tx th) := by
  intro p hp
  obtain ⟨m1, m2⟩ := miN_le L tx 40 p hp
  obtain ⟨e1, e2, e3⟩ := h (p + miN L tx 40 p) m1
  unfold faP
  generalize miN L tx 40 p = m at *
  by_cases c : (th (p + m)).1 = false
  · rw [if_pos c]
    exact ⟨by show p ≤ (th (p + m)).2.1; omega, e2, fun z => absurd (show false = true from z) (by decide)⟩
  · rw [if_neg c]
    have c : (th (p + m)).1 = true := by
      cases hq : (th (p + m)).1
      · exact absurd hq c
      · rfl
    obtain ⟨o1, o2, o3, o4, o5⟩ := e3 c
    refine ⟨by show p ≤ (th (p + m)).2.1; omega, e2, fun _ => ⟨by show p < (th (p + m)).2.1; omega, ?_, fun a st => ?_, fun a b hab => ?_, fun c hc => ?_⟩⟩
    · show ((th (p + m)).2.2.1 ++ (if m % 2 = 1 then [1100] else [])).length ≤ (th (p + m)).2.1 - p
      rw [List.length_append]
      by_cases cm : m % 2 = 1
      · rw [if_pos cm]
        show (th (p + m)).2.2.1.length + 1 ≤ _
        omega
      · rw [if_neg cm]
        show (th (p + m)).2.2.1.length + 0 ≤ _
        omega
    · show rnC a ((th (p + m)).2.2.1 ++ (if m % 2 = 1 then [1100] else [])) st = (if m % 2 = 1 then -(th (p + m)).2.2.2 a else (th (p + m)).2.2.2 a) :: st
      rw [rnC_app, o3]
      by_cases cm : m % 2 = 1
      · rw [if_pos cm, if_pos cm]; rfl
      · rw [if_neg cm, if_neg cm]; rfl
    · show (if m % 2 = 1 then -(th (p + m)).2.2.2 a else (th (p + m)).2.2.2 a) = _
      rw [o4 a b hab]
    · have hc : c ∈ (th (p + m)).2.2.1 ++ (if m % 2 = 1 then [1100] else []) := hc
      rw [List.mem_append] at hc
      rcases hc with hc | hc
      · exact o5 c hc
      · by_cases cm : m % 2 = 1
        · rw [if_pos cm] at hc
          have : c = 1100 := List.mem_singleton.mp hc
          omega
        · rw [if_neg cm] at hc; cases hc
theorem bool_t {b : Bool} (h : ¬ b = false) : b = true := by
  cases b
  · exact absurd rfl h
  · rfl
theorem GP_lp {L : Nat} {tx : Nat → Nat} {c1 c2 : Nat} {q : Nat → PRs} (h1 : c1 < 256) (h2 : c2 < 256) (h : GPr q) {p0 : Nat} : ∀ K (a : PRs), a.1 = true → a.2.1 ≤ 40 → OKr p0 a → p0 ≤ (lpP L tx c1 c2 q K a).2.1 ∧ (lpP L tx c1 c2 q K a).2.1 ≤ 40 ∧ ((lpP L tx c1 c2 q K a).1 = true → OKr p0 (lpP L tx c1 c2 q K a))
  | 0, a, ha, hle, ho => ⟨Nat.le_of_lt ho.1, hle, fun _ => ho⟩
  | K + 1, a, ha, hle, ho => by
    unfold lpP
    by_cases c : sgN L tx a.2.1 = c1 ∨ sgN L tx a.2.1 = c2
    · rw [if_pos c]
      have hs : sgN L tx a.2.1 < 256 := by omega
      have hi := sgN_in hs rfl
      obtain ⟨e1, e2, e3⟩ := h (a.2.1 + 1) (by omega)
      have := ho.1
      by_cases cq : (q (a.2.1 + 1)).1 = false
      · rw [if_pos cq]
        exact ⟨by show p0 ≤ (q (a.2.1 + 1)).2.1; omega, e2, fun z => absurd (show false = true from z) (by decide)⟩
      · rw [if_neg cq]
        exact GP_lp h1 h2 h K _ rfl e2 (OK_op hs ho (e3 (bool_t cq)))
    · rw [if_neg c]
      exact ⟨Nat.le_of_lt ho.1, hle, fun _ => ho⟩
theorem GP_op {L : Nat} {tx : Nat → Nat} {c1 c2 : Nat} {q : Nat → PRs} (h1 : c1 < 256) (h2 : c2 < 256) (h : GPr q) : GPr (opP L tx c1 c2 q) := by
  intro p hp
  obtain ⟨e1, e2, e3⟩ := h p hp
  unfold opP
  by_cases c : (q p).1 = false
  · rw [if_pos c]
    exact ⟨e1, e2, fun z => absurd (show false = true from z) (by decide)⟩
  · rw [if_neg c]
    exact GP_lp h1 h2 h 40 (q p) (bool_t c) e2 (e3 (bool_t c))
theorem GP_ex {L : Nat} {tx : Nat → Nat} {q : Nat → PRs} (h : GPr q) : GPr (exP L tx q) := by
  intro p hp
  obtain ⟨e1, e2, e3⟩ := h p hp
  unfold exP
  by_cases c : (q p).1 = false
  · rw [if_pos c]
    exact ⟨e1, e2, fun z => absurd (show false = true from z) (by decide)⟩
  · rw [if_neg c]
    have ho := e3 (bool_t c)
    by_cases c2 : sgN L tx (q p).2.1 = 60 ∨ sgN L tx (q p).2.1 = 62 ∨ sgN L tx (q p).2.1 = 61
    · rw [if_pos c2]
      have hs : sgN L tx (q p).2.1 < 256 := by omega
      have hi := sgN_in hs rfl
      obtain ⟨f1, f2, f3⟩ := h ((q p).2.1 + 1) (by omega)
      by_cases c3 : (q ((q p).2.1 + 1)).1 = false
      · rw [if_pos c3]
        exact ⟨by show p ≤ (q ((q p).2.1 + 1)).2.1; omega, f2, fun z => absurd (show false = true from z) (by decide)⟩
      · rw [if_neg c3]
        exact ⟨by show p ≤ (q ((q p).2.1 + 1)).2.1; omega, f2, fun _ => OK_op hs ho (f3 (bool_t c3))⟩
    · rw [if_neg c2]
      exact ⟨e1, e2, e3⟩
theorem GP_ee {L : Nat} {tx : Nat → Nat} (hb : ∀ j, tx j < 256) : ∀ e, GPr (eeP L tx e)
  | 0 => GP_ex (GP_op (by omega) (by omega) (GP_op (by omega) (by omega) (GP_fa (GP_th hb GP_fl))))
  | e + 1 => GP_ex (GP_op (by omega) (by omega) (GP_op (by omega) (by omega) (GP_fa (GP_th hb (GP_ee hb e)))))
