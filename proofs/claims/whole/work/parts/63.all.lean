/-! ===== the start, and all calls ===== -/
def k0 (c : Nat) : Nat := ([0, 3, 1, 0, 4, 0, 7, 3, 2, 3, 0, 2] : List Nat).getD c 0
def mn0 : Nat → Int32 := (upd (upd (upd (upd (upd (upd (upd (upd (upd (upd (fun _ => 0) (Int32.toNatClampNeg (0 : Int32)) (4 : Int32)) (Int32.toNatClampNeg (1 : Int32)) (3 : Int32)) (Int32.toNatClampNeg (3 : Int32)) (3 : Int32)) (Int32.toNatClampNeg (4 : Int32)) (1 : Int32)) (Int32.toNatClampNeg (6 : Int32)) (4 : Int32)) (Int32.toNatClampNeg (8 : Int32)) (7 : Int32)) (Int32.toNatClampNeg (9 : Int32)) (3 : Int32)) (Int32.toNatClampNeg (10 : Int32)) (2 : Int32)) (Int32.toNatClampNeg (11 : Int32)) (3 : Int32)) (Int32.toNatClampNeg (13 : Int32)) (2 : Int32))
abbrev StP (c _z : Nat) : Prop := va_cpy fk_f (fun _ => 0) (Int32.toNatClampNeg 0) (Int32.toNatClampNeg 0) (Int32.toNatClampNeg 12) c = nI (k0 c) ∧ mn0 (2 + c) = nI (k0 c) ∧ k0 c ≤ 7
theorem st_fin {c : Nat} (h : c < 12) : StP c 0 := all2 (A := 12) (B := 1) (P := StP) (by decide +kernel) h (by decide)
theorem inv_start : InvP 4 3 (va_cpy fk_f (fun _ => 0) (Int32.toNatClampNeg 0) (Int32.toNatClampNeg 0) (Int32.toNatClampNeg 12)) 0 (fun _ => 0) 0 (fun _ => 0) (upd (upd (upd (upd (upd (upd (upd (upd (upd (upd (fun _ => 0) (Int32.toNatClampNeg (0 : Int32)) (4 : Int32)) (Int32.toNatClampNeg (1 : Int32)) (3 : Int32)) (Int32.toNatClampNeg (3 : Int32)) (3 : Int32)) (Int32.toNatClampNeg (4 : Int32)) (1 : Int32)) (Int32.toNatClampNeg (6 : Int32)) (4 : Int32)) (Int32.toNatClampNeg (8 : Int32)) (7 : Int32)) (Int32.toNatClampNeg (9 : Int32)) (3 : Int32)) (Int32.toNatClampNeg (10 : Int32)) (2 : Int32)) (Int32.toNatClampNeg (11 : Int32)) (3 : Int32)) (Int32.toNatClampNeg (13 : Int32)) (2 : Int32)) (fun _ => 0) 0 0 (fun _ => 0) := by
  refine ⟨(4, 3, k0), 0, fun _ => (4, 3, k0), ⟨⟨by decide, by decide, by decide, by decide⟩, fun c hc => (st_fin hc).2.2, by decide, by decide⟩, ⟨rfl, rfl, fun c hc => (st_fin hc).1⟩, ⟨?_, ?_, fun c hc => (st_fin hc).2.1⟩, by decide, rfl, rfl, ⟨rfl, fun i hi => absurd hi (Nat.not_lt_zero i)⟩, 0, by decide, rfl, rfl, fun i hi => absurd hi (Nat.not_lt_zero i)⟩
  · show mn0 0 = nI 4
    decide +kernel
  · show mn0 1 = nI 3
    decide +kernel
theorem all_ops : AllOps InvP := ⟨op_write, op_wipe, op_fault, op_lay, op_put, op_door, op_turn, op_undo, op_cell, op_doorAt, op_port, op_share, op_lost, op_bits, op_lit, op_far, op_alike, op_best, op_found, op_count⟩
