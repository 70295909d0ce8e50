/-! the law's beginning, run -/
theorem on_nw {ci nf : Nat} {k : en_B} {L S : List en_V} {z : en_Z} {σ : en_M} (h : (Nat.beq (en_ka z.1).1 ci && Nat.blt 0 z.2.1 && Nat.ble nf z.2.2) = true) : op_nw ci nf k L S z σ = k L (.inr (z.1, en_ka z.1) :: S) (z.1 + 1, z.2.1 - 1, z.2.2 - nf) (en_nr σ z.1) := by
  unfold op_nw; rw [h]; rfl
theorem on_rcv {ci n : Nat} {k : en_B} {L S : List en_V} {z : en_Z} {σ : en_M} (h : en_rcv ci n S = true) : op_rcv ci n k L S z σ = k L S z σ := by
  unfold op_rcv; rw [h]; rfl
theorem on_call {f : en_F} {n mc ms : Nat} {k : en_B} {L S : List en_V} {z : en_Z} {σ : en_M} {r : en_T} (h : (en_rd n S && Nat.ble mc z.2.1 && Nat.ble ms z.2.2) = true) (hf : f (S.take n).reverse (z.1, mc, ms) σ = some r) (h3 : Nat.beq r.2.1.1 (z.1 + mc) = true) (hr : r.1 = none) :
    op_call f n mc ms k L S z σ = k L (S.drop n) (r.2.1.1, z.2.1 - mc, z.2.2 - ms) r.2.2 := by
  unfold op_call
  rw [h, hf]
  show cond (Nat.beq r.2.1.1 (z.1 + mc)) _ _ = _
  rw [h3, hr]; rfl
theorem on_na {tag : Nat} {k : en_B} {L S : List en_V} {n : Int32} {z : en_Z} {σ : en_M} (h : (Nat.beq (en_ka z.1).1 tag && Nat.beq (en_ka z.1).2.1 n.toNatClampNeg && Nat.blt 0 z.2.1 && Nat.ble n.toNatClampNeg z.2.2 && Nat.ble n.toNatClampNeg 100000) = true) (h2 : ¬ n < 0) :
    op_na tag k L (.inl n :: S) z σ = k L (.inr (z.1, en_ka z.1) :: S) (z.1 + 1, z.2.1 - 1, z.2.2 - n.toNatClampNeg) (en_nr σ z.1) := by
  show cond _ _ _ = _
  rw [h, cond_true, if_neg h2]
theorem on_dup {k : en_B} {L S : List en_V} {v : en_V} {z : en_Z} {σ : en_M} : op_dup k L (v :: S) z σ = k L (v :: v :: S) z σ := rfl
theorem on_astore {i : Nat} {k : en_B} {L S : List en_V} {v : Nat × en_K} {z : en_Z} {σ : en_M} : op_astore i k L (.inr v :: S) z σ = k (L.set i (.inr v)) S z σ := rfl
theorem on_istore {i : Nat} {k : en_B} {L S : List en_V} {x : Int32} {z : en_Z} {σ : en_M} : op_istore i k L (.inl x :: S) z σ = k (L.set i (.inl x)) S z σ := rfl
theorem on_const {x : Int32} {k : en_B} {L S : List en_V} {z : en_Z} {σ : en_M} : op_const x k L S z σ = k L (.inl x :: S) z σ := rfl
def en_s0 : en_M := fun _ _ => 0
theorem en_ka0 : en_ka 0 = (11, 0, 0) := by decide +kernel
theorem en_ka185 : en_ka 185 = (12, 0, 0) := by decide +kernel
def BG_law (f g : en_F) : en_B := (op_nw 11 14 (op_dup (op_rcv 11 0 (op_call f 1 184 20159 (op_astore 1 (op_nw 12 44 (op_dup (op_rcv 12 0 (op_call g 1 23 10760 (op_astore 2 (op_const (1 : Int32) (op_na 25 (op_astore 3 (op_const (0 : Int32) (op_istore 4 (op_cut 23))))))))))))))))
theorem BG_law_e : BG_law F_X11_init F_X12_init = B_law_0 := rfl
theorem t_law_gen (f g : en_F) (len : Nat) (za zb : Nat × Nat) (σa σb : en_M) (ha : f [.inr (0, 11, 0, 0)] (1, 184, 20159) (en_nr en_s0 0) = some (none, (185, za), σa)) (hb : g [.inr (185, 12, 0, 0)] (186, 23, 10760) (en_nr σa 185) = some (none, (209, zb), σb)) :
    BG_law f g [.inr (0, 30, len, 0), en_un, en_un, en_un, en_un, en_un, en_un] [] (0, 210, 30978) en_s0 = some (.inr (23, [.inr (0, 30, len, 0), .inr (0, 11, 0, 0), .inr (185, 12, 0, 0), .inr (209, 25, 1, 0), .inl 0, en_un, en_un], [], (210, 0, 0), en_nr σb 209)) := by
  unfold BG_law
  rw [on_nw (by decide +kernel), on_dup, on_rcv (by decide +kernel)]
  dsimp only
  rw [on_call (r := (none, (185, za), σa)) (by decide +kernel) (by simpa only [List.take, List.reverse_cons, List.reverse_nil, List.nil_append, en_ka0] using ha) rfl rfl]
  dsimp only
  rw [List.drop_one, List.tail_cons, on_astore, on_nw (by decide +kernel), on_dup, on_rcv (by decide +kernel)]
  dsimp only
  rw [on_call (r := (none, (209, zb), σb)) (by decide +kernel) (by simpa only [List.take, List.reverse_cons, List.reverse_nil, List.nil_append, en_ka185] using hb) rfl rfl]
  dsimp only
  rw [List.drop_one, List.tail_cons, on_astore, on_const, on_na (by decide +kernel) (by decide), on_astore, on_const, on_istore]
  dsimp only
  rw [en_ka0, en_ka185, en_ka209]
  rfl
def en_ra : Option en_T := F_X11_init [.inr (0, 11, 0, 0)] (1, 184, 20159) (en_nr en_s0 0)
def en_sa : en_M := match en_ra with | some r => r.2.2 | none => en_s0
theorem en_ra_e : ∃ z, en_ra = some (none, (185, z), en_sa) := by
  have h : en_ra.map (fun r => (r.1, r.2.1.1)) = some (none, 185) := by decide +kernel
  unfold en_sa
  cases hr : en_ra with
  | none => rw [hr] at h; cases h
  | some r =>
    rw [hr] at h
    obtain ⟨a, ⟨b, c⟩, d⟩ := r
    have h2 := Option.some.inj h
    obtain ⟨h3, h4⟩ := Prod.mk.inj h2
    dsimp only at h3 h4
    subst h3; subst h4
    exact ⟨c, rfl⟩
def en_rb : Option en_T := F_X12_init [.inr (185, 12, 0, 0)] (186, 23, 10760) (en_nr en_sa 185)
def en_sb : en_M := match en_rb with | some r => r.2.2 | none => en_s0
theorem en_rb_e : ∃ z, en_rb = some (none, (209, z), en_sb) := by
  have h : en_rb.map (fun r => (r.1, r.2.1.1)) = some (none, 209) := by decide +kernel
  unfold en_sb
  cases hr : en_rb with
  | none => rw [hr] at h; cases h
  | some r =>
    rw [hr] at h
    obtain ⟨a, ⟨b, c⟩, d⟩ := r
    have h2 := Option.some.inj h
    obtain ⟨h3, h4⟩ := Prod.mk.inj h2
    dsimp only at h3 h4
    subst h3; subst h4
    exact ⟨c, rfl⟩
/-- the memory at the loop's first head -/
def en_s1 : en_M := en_nr en_sb 209
theorem t_law_0 (len : Nat) : B_law_0 [.inr (0, 30, len, 0), en_un, en_un, en_un, en_un, en_un, en_un] [] (0, 210, 30978) en_s0 = some (.inr (23, [.inr (0, 30, len, 0), .inr (0, 11, 0, 0), .inr (185, 12, 0, 0), .inr (209, 25, 1, 0), .inl 0, en_un, en_un], [], (210, 0, 0), en_s1)) := by
  obtain ⟨za, ha⟩ := en_ra_e
  obtain ⟨zb, hb⟩ := en_rb_e
  rw [← BG_law_e]
  exact t_law_gen _ _ len za zb en_sa en_sb ha hb
