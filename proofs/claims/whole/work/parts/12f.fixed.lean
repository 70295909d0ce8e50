/-! the law: at the loop's first head every fixed reference is where the layout says -/
def en_okf (σ : en_M) (k : Nat) : Bool := (List.range (en_FT.getD (en_ka k).1 []).length).all fun j => !(Nat.beq (en_fk (en_ka k).1 j).1 1) || decide (σ k j = Int32.ofNat (k + (en_fk (en_ka k).1 j).2 + 1))
def en_okr (σ : en_M) (k : Nat) : Bool := !(Nat.beq (en_ka k).1 23 || Nat.beq (en_ka k).1 24) || (List.range (en_ka k).2.1).all fun j => decide (σ k j = Int32.ofNat ((if (en_ka k).1 = 23 then k + 1 + j else k + (en_ka k).2.2 + 5 * j) + 1))
theorem en_okf1 : (List.range 210).all (fun k => !(Nat.blt (en_ka k).1 20) || en_okf en_s1 k) = true := by decide +kernel
theorem en_okr1 : (List.range 210).all (en_okr en_s1) = true := by decide +kernel
