/-! the law's beginning, run -/
theorem on_nw {ci nf : Nat} {k : en_B} {L S : List en_V} {z : en_Z} {σ : en_M} (h : (Nat.beq (en_ka z.1).1 ci && Nat.blt 0 z.2.1 && Nat.ble nf z.2.2) = true) : op_nw ci nf k L S z σ = k L (.inr (z.1, en_ka z.1) :: S) (z.1 + 1, z.2.1 - 1, z.2.2 - nf) (en_nr σ z.1) := by
  unfold op_nw; rw [h]; rfl
theorem on_rcv {ci n : Nat} {k : en_B} {L S : List en_V} {z : en_Z} {σ : en_M} (h : en_rcv ci n S = true) : op_rcv ci n k L S z σ = k L S z σ := by
  unfold op_rcv; rw [h]; rfl
theorem on_call {f : en_F} {n mc ms : Nat} {k : en_B} {L S : List en_V} {z : en_Z} {σ : en_M} {r : en_T} (h : (en_rd n S && Nat.ble mc z.2.1 && Nat.ble ms z.2.2) = true) (hf : f (S.take n).reverse (z.1, mc, ms) σ = some r) (h3 : Nat.beq r.2.1.1 (z.1 + mc) = true) (hr : r.1 = none) :
    op_call f n mc ms k L S z σ = k L (S.drop n) (r.2.1.1, z.2.1 - mc, z.2.2 - ms) r.2.2 := by
  unfold op_call
  rw [h, hf]
  show cond (Nat.beq r.2.1.1 (z.1 + mc)) _ _ = _
  rw [h3, hr]; rfl
theorem on_na {tag : Nat} {k : en_B} {L S : List en_V} {n : Int32} {z : en_Z} {σ : en_M} (h : (Nat.beq (en_ka z.1).1 tag && Nat.beq (en_ka z.1).2.1 n.toNatClampNeg && Nat.blt 0 z.2.1 && Nat.ble n.toNatClampNeg z.2.2 && Nat.ble n.toNatClampNeg 100000) = true) (h2 : ¬ n < 0) :
    op_na tag k L (.inl n :: S) z σ = k L (.inr (z.1, en_ka z.1) :: S) (z.1 + 1, z.2.1 - 1, z.2.2 - n.toNatClampNeg) (en_nr σ z.1) := by
  show cond _ _ _ = _
  rw [h, cond_true, if_neg h2]

