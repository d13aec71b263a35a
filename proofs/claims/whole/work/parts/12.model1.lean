-- method X6_in
theorem yd_X6_in : yX6_in.cls ≠ "java/lang/invoke/MethodHandle" ∧ yX6_in.cls ≠ "java/lang/invoke/VarHandle" ∧ (parseMethodDescriptor yX6_in.desc).map (fun d => d.parameters.length) = some 3 := by decide +kernel
def f_X6_in (x0 : Int32) (x1 : Int32) (x2 : Int32) : Option (Int32) :=
  (if x0 < x1 then some (0 : Int32) else (if x2 < x0 then some (0 : Int32) else some (1 : Int32)))
set_option maxHeartbeats 4000000 in
set_option maxRecDepth 100000 in
theorem b_X6_in {p : Program} {l : Launch} {e : Env} {s : State} {m : MethodId} {args : Array Value} {below : List Frame} {meth : Method} {c : Code} {Q : State → Prop} {D : va_G} {cI cJ cZ cQ : ClassId} {qs : Nat × Nat × Nat}  {x0 : Int32} {x1 : Int32} {x2 : Int32} {out : Int32} (F : CallFix p m c cX6_in 3 s args wsX6_in RX6) (hG : kR D (ty4 cI cJ cZ cQ) qs s s.heap) (hP : va_P D vwCl [] s.heap) (hf : f_X6_in x0 x1 x2 = some out) (hret : ∀ (pc : Nat) (ls : Array Slot), decode cX6_in pc = .ok (.ireturn, 1) → narrow .boolean (.int out) = .int out → W p l e { frames := 0, cells := 0, slots := 0, locals := 0 } s m args below meth c s.heap [] 0 0 Q (F0 m pc ls [.int out])) {ls : Array Slot} (hl : lv_has ls 3 [(0, .int x0), (1, .int x1), (2, .int x2)]) : W p l e { frames := 0, cells := 0, slots := 0, locals := 0 } s m args below meth c s.heap [] 0 0 Q (F0 m 0 ls []) := by
  have hx := F.1
  have hb := F.2.1
  have hown := F.2.2.2.1
  have hts := F.2.2.2.2
  have hK := hG.1.1
  rw [f_X6_in] at hf
  refine lv_iload_n hx hb dX6_in_0 rfl (lv_at hl 0 rfl) ?_
  refine lv_iload_n hx hb dX6_in_1 rfl (lv_at hl 1 rfl) ?_
  refine lv_icmp_lt (tgt := 14) hx hb dX6_in_2 (by decide) (fun c1 => ?_) (fun c1 => ?_)
  · have hf := fp_t hf c1
    refine lv_iconst (v := (0 : Int32)) hx hb dX6_in_14 (by decide) ?_
    cases hf
    exact hret _ _ dX6_in_15 nar_b0
  · have hf := fp_f hf c1
    refine lv_iload_n hx hb dX6_in_5 rfl (lv_at hl 0 rfl) ?_
    refine lv_iload_n hx hb dX6_in_6 rfl (lv_at hl 2 rfl) ?_
    refine lv_icmp_gt (tgt := 14) hx hb dX6_in_7 (by decide) (fun c2 => ?_) (fun c2 => ?_)
    · have hf := fp_t hf c2
      refine lv_iconst (v := (0 : Int32)) hx hb dX6_in_14 (by decide) ?_
      cases hf
      exact hret _ _ dX6_in_15 nar_b0
    · have hf := fp_f hf c2
      refine lv_iconst (v := (1 : Int32)) hx hb dX6_in_10 (by decide) ?_
      refine lv_goto (tgt := 15) hx hb dX6_in_11 (by decide) ?_
      cases hf
      exact hret _ _ dX6_in_15 nar_b1
set_option maxRecDepth 100000 in
theorem c_X6_in {l : Launch} {D : va_G} {cI cJ cZ cQ : ClassId} {qs : Nat × Nat × Nat}  {x0 : Int32} {x1 : Int32} {x2 : Int32} {out : Int32} (hf : f_X6_in x0 x1 x2 = some out) : RoI l yX6_in wsX6_in { frames := 0, cells := 0, slots := 0, locals := 0 } D (ty4 cI cJ cZ cQ) qs [.int x0, .int x1, .int x2] [] out :=
  RoI.of (own := RX6) (by decide +kernel) rfl rfl (Nat.le_of_ble_eq_true rfl) (fun F hG hP hret ls hl => b_X6_in F hG hP hf hret hl)
-- method X6_copies
theorem yd_X6_copies : yX6_copies.cls ≠ "java/lang/invoke/MethodHandle" ∧ yX6_copies.cls ≠ "java/lang/invoke/VarHandle" ∧ (parseMethodDescriptor yX6_copies.desc).map (fun d => d.parameters.length) = some 4 := by decide +kernel
def f_X6_copies_3 (na0 : Nat) (na2 : Nat) (fa0 : Nat → Int32) (y1 : Int32) (y3 : Int32) (y4 : Int32) (fa2 : Nat → Int32) : Option ((Int32 × (Nat → Int32)) ⊕ ((Nat → Int32))) :=
  (if (22 : Int32) ≤ y4 then some (Sum.inr fa2) else chk (aix (y1 + y4) na0) (chk (aix (y3 + y4) na2) (some (Sum.inl ((y4 + (1 : Int32)), (upd fa2 (Int32.toNatClampNeg (y3 + y4)) (fa0 (Int32.toNatClampNeg (y1 + y4)))))))))
set_option maxHeartbeats 4000000 in
set_option maxRecDepth 100000 in
theorem lp_X6_copies_3 {p : Program} {l : Launch} {e : Env} {s : State} {m : MethodId} {args : Array Value} {below : List Frame} {meth : Method} {c : Code} {Q : State → Prop} {A : Nat → Prop} {D : va_G} {cI cJ cZ cQ : ClassId} {qs : Nat × Nat × Nat} {hAI0 hAI2 : Nat} {na0 : Nat} {na2 : Nat} {fa0 : Nat → Int32} {y1 : Int32} {y3 : Int32} (F : CallFix p m c cX6_copies 5 s args wsX6_copies RX6) (hG : kW D (ty4 cI cJ cZ cQ) qs A s s.heap) (hA : ∀ q : Nat, s.heap.size ≤ q → A q) :
    ∀ (n : Nat) {y4 : Int32} {fa2 : Nat → Int32} (out : (Nat → Int32)), lpf (fun s => f_X6_copies_3 na0 na2 fa0 y1 y3 s.1 s.2) n (y4, fa2) = some out → ∀ {H : Heap} {locs : List Loc} {ls : Array Slot}, va_P D vwCl [(hAI0, .inl (cI, na0, .inl fa0)), (hAI2, .inl (cI, na2, .inl fa2))] H → va_D A [(hAI0, .inl (cI, na0, .inl fa0)), (hAI2, .inl (cI, na2, .inl fa2))] → va_S A s.heap H locs → lv_has ls 5 [(0, .ref hAI0), (1, .int y1), (2, .ref hAI2), (3, .int y3), (4, .int y4)] → (∀ (H : Heap) (locs : List Loc) (ls : Array Slot), va_P D vwCl [(hAI0, .inl (cI, na0, .inl fa0)), (hAI2, .inl (cI, na2, .inl out))] H → va_D A [(hAI0, .inl (cI, na0, .inl fa0)), (hAI2, .inl (cI, na2, .inl out))] → va_S A s.heap H locs → lv_has ls 5 [(0, .ref hAI0), (1, .int y1), (2, .ref hAI2), (3, .int y3)] → W p l e { frames := 0, cells := 0, slots := 0, locals := 0 } s m args below meth c H locs 0 0 Q (F0 m 28 ls [])) → W p l e { frames := 0, cells := 0, slots := 0, locals := 0 } s m args below meth c H locs 0 0 Q (F0 m 3 ls []) := by
  have hx := F.1
  have hb := F.2.1
  have hown := F.2.2.2.1
  have hts := F.2.2.2.2
  have hK := hG.1.1
  intro n
  induction n with
  | zero =>
    intro y4 fa2 out ho
    exact (fp_l0 ho).elim
  | succ n ih =>
    intro y4 fa2 out ho H locs ls hP hD hS hl hex
    obtain ⟨o, hf, ho⟩ := fp_l ho
    have hf : f_X6_copies_3 na0 na2 fa0 y1 y3 y4 fa2 = some o := hf
    rw [f_X6_copies_3] at hf
    refine lv_iload hx hb dX6_copies_3 (lv_at hl 4 rfl) ?_
    refine lv_bipush (v := (22 : Int32)) hx hb dX6_copies_5 (by decide) ?_
    refine lv_icmp_ge (tgt := 28) hx hb dX6_copies_7 (by decide) (fun c3 => ?_) (fun c3 => ?_)
    · have hf := fp_t hf c3
      cases hf
      have ho := fp_inr ho
      cases ho
      exact hex _ _ _ hP hD hS (lv_sub hl [0, 1, 2, 3] rfl)
    · have hf := fp_f hf c3
      refine lv_aload_n hx hb dX6_copies_10 rfl (lv_at hl 2 rfl) ?_
      refine lv_iload_n hx hb dX6_copies_11 rfl (lv_at hl 3 rfl) ?_
      refine lv_iload hx hb dX6_copies_12 (lv_at hl 4 rfl) ?_
      refine lv_iadd hx hb dX6_copies_14 ?_
      refine lv_aload_n hx hb dX6_copies_15 rfl (lv_at hl 0 rfl) ?_
      refine lv_iload_n hx hb dX6_copies_16 rfl (lv_at hl 1 rfl) ?_
      refine lv_iload hx hb dX6_copies_17 (lv_at hl 4 rfl) ?_
      refine lv_iadd hx hb dX6_copies_19 ?_
      obtain ⟨k4, hf⟩ := fp_c hf
      refine va_iald hx hb hK hP 0 0 rfl rfl k4 dX6_copies_20 ?_
      obtain ⟨k5, hf⟩ := fp_c hf
      refine va_iast hx hb hK hP hD hS 1 0 rfl rfl k5 dX6_copies_21 (fun H locs hP hD hS => ?_)
      have hP : va_P D vwCl [(hAI0, .inl (cI, na0, .inl fa0)), (hAI2, .inl (cI, na2, .inl (upd fa2 (Int32.toNatClampNeg (y3 + y4)) (fa0 (Int32.toNatClampNeg (y1 + y4))))))] H := hP
      have hD : va_D A [(hAI0, .inl (cI, na0, .inl fa0)), (hAI2, .inl (cI, na2, .inl (upd fa2 (Int32.toNatClampNeg (y3 + y4)) (fa0 (Int32.toNatClampNeg (y1 + y4))))))] := hD
      refine lv_iinc (v := (y4 + (1 : Int32))) (lv' := [(4, .int (y4 + (1 : Int32))), (0, .ref hAI0), (1, .int y1), (2, .ref hAI2), (3, .int y3)]) hx hb dX6_copies_22 hl (k := 4) rfl rfl (by decide) rfl (fun ls hl => ?_)
      refine lv_goto (tgt := 3) hx hb dX6_copies_25 (by decide) ?_
      cases hf
      exact ih _ (fp_inl ho) hP hD hS (lv_sub hl [1, 2, 3, 4, 0] rfl) hex
def f_X6_copies (na0 : Nat) (na2 : Nat) (fa0 : Nat → Int32) (fa2 : Nat → Int32) (x1 : Int32) (x3 : Int32) : Option ((Nat → Int32)) :=
  Option.bind (lpf (fun s => f_X6_copies_3 na0 na2 fa0 x1 x3 s.1 s.2) 1000 ((0 : Int32), fa2)) (fun o6 => some o6)
set_option maxHeartbeats 4000000 in
set_option maxRecDepth 100000 in
theorem b_X6_copies {p : Program} {l : Launch} {e : Env} {s : State} {m : MethodId} {args : Array Value} {below : List Frame} {meth : Method} {c : Code} {Q : State → Prop} {A : Nat → Prop} {H : Heap} {locs : List Loc} {D : va_G} {cI cJ cZ cQ : ClassId} {qs : Nat × Nat × Nat} {hAI0 hAI2 : Nat} {na0 : Nat} {na2 : Nat} {fa0 : Nat → Int32} {fa2 : Nat → Int32} {x1 : Int32} {x3 : Int32} {out : (Nat → Int32)} (F : CallFix p m c cX6_copies 5 s args wsX6_copies RX6) (hG : kW D (ty4 cI cJ cZ cQ) qs A s s.heap) (hA : ∀ q : Nat, s.heap.size ≤ q → A q) (hP : va_P D vwCl [(hAI0, .inl (cI, na0, .inl fa0)), (hAI2, .inl (cI, na2, .inl fa2))] H) (hD : va_D A [(hAI0, .inl (cI, na0, .inl fa0)), (hAI2, .inl (cI, na2, .inl fa2))]) (hS : va_S A s.heap H locs) (hf : f_X6_copies na0 na2 fa0 fa2 x1 x3 = some out) (hret : ∀ (pc : Nat) (H : Heap) (locs : List Loc) (ls : Array Slot), decode cX6_copies pc = .ok (.return_, 1) → va_P D vwCl [(hAI0, .inl (cI, na0, .inl fa0)), (hAI2, .inl (cI, na2, .inl out))] H → va_D A [(hAI0, .inl (cI, na0, .inl fa0)), (hAI2, .inl (cI, na2, .inl out))] → va_S A s.heap H locs → W p l e { frames := 0, cells := 0, slots := 0, locals := 0 } s m args below meth c H locs 0 0 Q (F0 m pc ls [])) {ls : Array Slot} (hl : lv_has ls 5 [(0, .ref hAI0), (1, .int x1), (2, .ref hAI2), (3, .int x3)]) : W p l e { frames := 0, cells := 0, slots := 0, locals := 0 } s m args below meth c H locs 0 0 Q (F0 m 0 ls []) := by
  have hx := F.1
  have hb := F.2.1
  have hown := F.2.2.2.1
  have hts := F.2.2.2.2
  have hK := hG.1.1
  rw [f_X6_copies] at hf
  refine lv_iconst (v := (0 : Int32)) hx hb dX6_copies_0 (by decide) ?_
  refine lv_istore (lv' := [(4, .int (0 : Int32)), (0, .ref hAI0), (1, .int x1), (2, .ref hAI2), (3, .int x3)]) hx hb dX6_copies_1 hl (by decide) rfl (fun ls hl => ?_)
  obtain ⟨o6, eo6, hf⟩ := fp_b hf
  refine lp_X6_copies_3 F hG hA _ _ eo6 hP hD hS (lv_sub hl [1, 2, 3, 4, 0] rfl) (fun H locs ls hP hD hS hl => ?_)
  cases hf
  exact hret _ _ _ _ dX6_copies_28 hP hD hS
set_option maxRecDepth 100000 in
theorem c_X6_copies {l : Launch} {D : va_G} {cI cJ cZ cQ : ClassId} {qs : Nat × Nat × Nat} {hAI0 hAI2 : Nat} {na0 : Nat} {na2 : Nat} {fa0 : Nat → Int32} {fa2 : Nat → Int32} {x1 : Int32} {x3 : Int32} {out : (Nat → Int32)} (hf : f_X6_copies na0 na2 fa0 fa2 x1 x3 = some out) : RwV l yX6_copies wsX6_copies { frames := 0, cells := 0, slots := 0, locals := 0 } D (ty4 cI cJ cZ cQ) qs [.ref hAI0, .int x1, .ref hAI2, .int x3] [(hAI0, .inl (cI, na0, .inl fa0)), (hAI2, .inl (cI, na2, .inl fa2))] [(hAI0, .inl (cI, na0, .inl fa0)), (hAI2, .inl (cI, na2, .inl out))] :=
  RwV.of (own := RX6) (by decide +kernel) rfl rfl (Nat.le_of_ble_eq_true rfl) (fun F hG hA hP hD hS hret ls hl => b_X6_copies F hG hA hP hD hS hf hret hl)
-- method X6_cells
theorem yd_X6_cells : yX6_cells.cls ≠ "java/lang/invoke/MethodHandle" ∧ yX6_cells.cls ≠ "java/lang/invoke/VarHandle" ∧ (parseMethodDescriptor yX6_cells.desc).map (fun d => d.parameters.length) = some 1 := by decide +kernel
def f_X6_cells (fr0 : Nat → Int32) : Option (Int32) :=
  some ((fr0 (Int32.toNatClampNeg (0 : Int32))) * (fr0 (Int32.toNatClampNeg (1 : Int32))))
set_option maxHeartbeats 4000000 in
set_option maxRecDepth 100000 in
theorem b_X6_cells {p : Program} {l : Launch} {e : Env} {s : State} {m : MethodId} {args : Array Value} {below : List Frame} {meth : Method} {c : Code} {Q : State → Prop} {D : va_G} {cI cJ cZ cQ : ClassId} {qs : Nat × Nat × Nat} {hAR0 : Nat} {fr0 : Nat → Int32} {out : Int32} (F : CallFix p m c cX6_cells 1 s args wsX6_cells RX6) (hG : kR D (ty4 cI cJ cZ cQ) qs s s.heap) (hP : va_P D vwCl [(hAR0, .inl (cI, 22, .inl fr0))] s.heap) (hf : f_X6_cells fr0 = some out) (hret : ∀ (pc : Nat) (ls : Array Slot), decode cX6_cells pc = .ok (.ireturn, 1) → narrow .int (.int out) = .int out → W p l e { frames := 0, cells := 0, slots := 0, locals := 0 } s m args below meth c s.heap [] 0 0 Q (F0 m pc ls [.int out])) {ls : Array Slot} (hl : lv_has ls 1 [(0, .ref hAR0)]) : W p l e { frames := 0, cells := 0, slots := 0, locals := 0 } s m args below meth c s.heap [] 0 0 Q (F0 m 0 ls []) := by
  have hx := F.1
  have hb := F.2.1
  have hown := F.2.2.2.1
  have hts := F.2.2.2.2
  have hK := hG.1.1
  rw [f_X6_cells] at hf
  refine lv_aload_n hx hb dX6_cells_0 rfl (lv_at hl 0 rfl) ?_
  refine lv_iconst (v := (0 : Int32)) hx hb dX6_cells_1 (by decide) ?_
  refine va_iald hx hb hK hP 0 0 rfl rfl (show aix (0 : Int32) 22 by decide) dX6_cells_2 ?_
  refine lv_aload_n hx hb dX6_cells_3 rfl (lv_at hl 0 rfl) ?_
  refine lv_iconst (v := (1 : Int32)) hx hb dX6_cells_4 (by decide) ?_
  refine va_iald hx hb hK hP 0 0 rfl rfl (show aix (1 : Int32) 22 by decide) dX6_cells_5 ?_
  refine lv_imul hx hb dX6_cells_6 ?_
  cases hf
  exact hret _ _ dX6_cells_7 (vp_nar_int _)
set_option maxRecDepth 100000 in
theorem c_X6_cells {l : Launch} {D : va_G} {cI cJ cZ cQ : ClassId} {qs : Nat × Nat × Nat} {hAR0 : Nat} {fr0 : Nat → Int32} {out : Int32} (hf : f_X6_cells fr0 = some out) : RoI l yX6_cells wsX6_cells { frames := 0, cells := 0, slots := 0, locals := 0 } D (ty4 cI cJ cZ cQ) qs [.ref hAR0] [(hAR0, .inl (cI, 22, .inl fr0))] out :=
  RoI.of (own := RX6) (by decide +kernel) rfl rfl (Nat.le_of_ble_eq_true rfl) (fun F hG hP hret ls hl => b_X6_cells F hG hP hf hret hl)
-- method X6_isHalf
theorem yd_X6_isHalf : yX6_isHalf.cls ≠ "java/lang/invoke/MethodHandle" ∧ yX6_isHalf.cls ≠ "java/lang/invoke/VarHandle" ∧ (parseMethodDescriptor yX6_isHalf.desc).map (fun d => d.parameters.length) = some 1 := by decide +kernel
def f_X6_isHalf (x0 : Int32) : Option (Int32) :=
  Option.bind (f_X6_in x0 (3 : Int32) (4 : Int32)) (fun r7 => chk (r7 = 0 ∨ r7 = 1) (some r7))
set_option maxHeartbeats 4000000 in
set_option maxRecDepth 100000 in
theorem b_X6_isHalf {p : Program} {l : Launch} {e : Env} {s : State} {m : MethodId} {args : Array Value} {below : List Frame} {meth : Method} {c : Code} {Q : State → Prop} {D : va_G} {cI cJ cZ cQ : ClassId} {qs : Nat × Nat × Nat}  {x0 : Int32} {out : Int32} (F : CallFix p m c cX6_isHalf 1 s args wsX6_isHalf RX6) (hG : kR D (ty4 cI cJ cZ cQ) qs s s.heap) (hP : va_P D vwCl [] s.heap) (hf : f_X6_isHalf x0 = some out) (hret : ∀ (pc : Nat) (ls : Array Slot), decode cX6_isHalf pc = .ok (.ireturn, 1) → narrow .boolean (.int out) = .int out → W p l e { frames := 1, cells := 0, slots := 0, locals := 22 } s m args below meth c s.heap [] 0 0 Q (F0 m pc ls [.int out])) {ls : Array Slot} (hl : lv_has ls 1 [(0, .int x0)]) : W p l e { frames := 1, cells := 0, slots := 0, locals := 22 } s m args below meth c s.heap [] 0 0 Q (F0 m 0 ls []) := by
  have hx := F.1
  have hb := F.2.1
  have hown := F.2.2.2.1
  have hts := F.2.2.2.2
  have hK := hG.1.1
  rw [f_X6_isHalf] at hf
  refine lv_iload_n hx hb dX6_isHalf_0 rfl (lv_at hl 0 rfl) ?_
  refine lv_iconst (v := (3 : Int32)) hx hb dX6_isHalf_1 (by decide) ?_
  refine lv_iconst (v := (4 : Int32)) hx hb dX6_isHalf_2 (by decide) ?_
  obtain ⟨r7, er7, hf⟩ := fp_b hf
  refine RoI.callS (c_X6_in (l := l) (D := D) (cI := cI) (cJ := cJ) (cZ := cZ) (cQ := cQ) (qs := qs) er7) F (va_cwS 3 hts gX6_isHalf_X6_in rfl rfl rfl yd_X6_in ⟨Nat.le_of_ble_eq_true rfl, Nat.le_of_ble_eq_true rfl⟩) hG hP [] rfl rfl hl.1 rfl (Nat.le_of_ble_eq_true rfl) dX6_isHalf_3 ⟨Nat.zero_le _, Nat.zero_le _⟩ ?_
  obtain ⟨k8, hf⟩ := fp_c hf
  cases hf
  exact hret _ _ dX6_isHalf_6 (nar_b k8)
set_option maxRecDepth 100000 in
theorem c_X6_isHalf {l : Launch} {D : va_G} {cI cJ cZ cQ : ClassId} {qs : Nat × Nat × Nat}  {x0 : Int32} {out : Int32} (hf : f_X6_isHalf x0 = some out) : RoI l yX6_isHalf wsX6_isHalf { frames := 1, cells := 0, slots := 0, locals := 22 } D (ty4 cI cJ cZ cQ) qs [.int x0] [] out :=
  RoI.of (own := RX6) (by decide +kernel) rfl rfl (Nat.le_of_ble_eq_true rfl) (fun F hG hP hret ls hl => b_X6_isHalf F hG hP hf hret hl)
-- method X6_isDoor
theorem yd_X6_isDoor : yX6_isDoor.cls ≠ "java/lang/invoke/MethodHandle" ∧ yX6_isDoor.cls ≠ "java/lang/invoke/VarHandle" ∧ (parseMethodDescriptor yX6_isDoor.desc).map (fun d => d.parameters.length) = some 1 := by decide +kernel
def f_X6_isDoor (x0 : Int32) : Option (Int32) :=
  Option.bind (f_X6_in x0 (6 : Int32) (7 : Int32)) (fun r9 => chk (r9 = 0 ∨ r9 = 1) (some r9))
set_option maxHeartbeats 4000000 in
set_option maxRecDepth 100000 in
theorem b_X6_isDoor {p : Program} {l : Launch} {e : Env} {s : State} {m : MethodId} {args : Array Value} {below : List Frame} {meth : Method} {c : Code} {Q : State → Prop} {D : va_G} {cI cJ cZ cQ : ClassId} {qs : Nat × Nat × Nat}  {x0 : Int32} {out : Int32} (F : CallFix p m c cX6_isDoor 1 s args wsX6_isDoor RX6) (hG : kR D (ty4 cI cJ cZ cQ) qs s s.heap) (hP : va_P D vwCl [] s.heap) (hf : f_X6_isDoor x0 = some out) (hret : ∀ (pc : Nat) (ls : Array Slot), decode cX6_isDoor pc = .ok (.ireturn, 1) → narrow .boolean (.int out) = .int out → W p l e { frames := 1, cells := 0, slots := 0, locals := 22 } s m args below meth c s.heap [] 0 0 Q (F0 m pc ls [.int out])) {ls : Array Slot} (hl : lv_has ls 1 [(0, .int x0)]) : W p l e { frames := 1, cells := 0, slots := 0, locals := 22 } s m args below meth c s.heap [] 0 0 Q (F0 m 0 ls []) := by
  have hx := F.1
  have hb := F.2.1
  have hown := F.2.2.2.1
  have hts := F.2.2.2.2
  have hK := hG.1.1
  rw [f_X6_isDoor] at hf
  refine lv_iload_n hx hb dX6_isDoor_0 rfl (lv_at hl 0 rfl) ?_
  refine lv_bipush (v := (6 : Int32)) hx hb dX6_isDoor_1 (by decide) ?_
  refine lv_bipush (v := (7 : Int32)) hx hb dX6_isDoor_3 (by decide) ?_
  obtain ⟨r9, er9, hf⟩ := fp_b hf
  refine RoI.callS (c_X6_in (l := l) (D := D) (cI := cI) (cJ := cJ) (cZ := cZ) (cQ := cQ) (qs := qs) er9) F (va_cwS 3 hts gX6_isDoor_X6_in rfl rfl rfl yd_X6_in ⟨Nat.le_of_ble_eq_true rfl, Nat.le_of_ble_eq_true rfl⟩) hG hP [] rfl rfl hl.1 rfl (Nat.le_of_ble_eq_true rfl) dX6_isDoor_5 ⟨Nat.zero_le _, Nat.zero_le _⟩ ?_
  obtain ⟨k10, hf⟩ := fp_c hf
  cases hf
  exact hret _ _ dX6_isDoor_8 (nar_b k10)
set_option maxRecDepth 100000 in
theorem c_X6_isDoor {l : Launch} {D : va_G} {cI cJ cZ cQ : ClassId} {qs : Nat × Nat × Nat}  {x0 : Int32} {out : Int32} (hf : f_X6_isDoor x0 = some out) : RoI l yX6_isDoor wsX6_isDoor { frames := 1, cells := 0, slots := 0, locals := 22 } D (ty4 cI cJ cZ cQ) qs [.int x0] [] out :=
  RoI.of (own := RX6) (by decide +kernel) rfl rfl (Nat.le_of_ble_eq_true rfl) (fun F hG hP hret ls hl => b_X6_isDoor F hG hP hf hret hl)
-- method X6_halves
theorem yd_X6_halves : yX6_halves.cls ≠ "java/lang/invoke/MethodHandle" ∧ yX6_halves.cls ≠ "java/lang/invoke/VarHandle" ∧ (parseMethodDescriptor yX6_halves.desc).map (fun d => d.parameters.length) = some 1 := by decide +kernel
def f_X6_halves_4 (fr0 : Nat → Int32) (y1 : Int32) (y2 : Int32) : Option ((Int32 × Int32) ⊕ (Int32)) :=
  Option.bind (f_X6_cells fr0) (fun r11 => (if r11 ≤ y2 then some (Sum.inr y1) else chk (aix ((2 : Int32) + y2) 22) (Option.bind (f_X6_isHalf (fr0 (Int32.toNatClampNeg ((2 : Int32) + y2)))) (fun r14 => (if r14 = 0 then some (Sum.inl ((y1 + (0 : Int32)), (y2 + (1 : Int32)))) else some (Sum.inl ((y1 + (1 : Int32)), (y2 + (1 : Int32)))))))))
set_option maxHeartbeats 4000000 in
set_option maxRecDepth 100000 in
theorem lp_X6_halves_4 {p : Program} {l : Launch} {e : Env} {s : State} {m : MethodId} {args : Array Value} {below : List Frame} {meth : Method} {c : Code} {Q : State → Prop} {D : va_G} {cI cJ cZ cQ : ClassId} {qs : Nat × Nat × Nat} {hAR0 : Nat} {fr0 : Nat → Int32}  (F : CallFix p m c cX6_halves 3 s args wsX6_halves RX6) (hG : kR D (ty4 cI cJ cZ cQ) qs s s.heap) (hP : va_P D vwCl [(hAR0, .inl (cI, 22, .inl fr0))] s.heap) :
    ∀ (n : Nat) {y1 : Int32} {y2 : Int32} (out : Int32), lpf (fun s => f_X6_halves_4 fr0 s.1 s.2) n (y1, y2) = some out → ∀ {ls : Array Slot}, lv_has ls 3 [(0, .ref hAR0), (1, .int y1), (2, .int y2)] → (∀ ls : Array Slot, lv_has ls 3 [(0, .ref hAR0), (1, .int out)] → W p l e { frames := 2, cells := 0, slots := 0, locals := 42 } s m args below meth c s.heap [] 0 0 Q (F0 m 37 ls [])) → W p l e { frames := 2, cells := 0, slots := 0, locals := 42 } s m args below meth c s.heap [] 0 0 Q (F0 m 4 ls []) := by
  have hx := F.1
  have hb := F.2.1
  have hown := F.2.2.2.1
  have hts := F.2.2.2.2
  have hK := hG.1.1
  intro n
  induction n with
  | zero =>
    intro y1 y2 out ho
    exact (fp_l0 ho).elim
  | succ n ih =>
    intro y1 y2 out ho ls hl hex
    obtain ⟨o, hf, ho⟩ := fp_l ho
    have hf : f_X6_halves_4 fr0 y1 y2 = some o := hf
    rw [f_X6_halves_4] at hf
    refine lv_iload_n hx hb dX6_halves_4 rfl (lv_at hl 2 rfl) ?_
    refine lv_aload_n hx hb dX6_halves_5 rfl (lv_at hl 0 rfl) ?_
    obtain ⟨r11, er11, hf⟩ := fp_b hf
    refine RoI.callS (c_X6_cells (l := l) (D := D) (cI := cI) (cJ := cJ) (cZ := cZ) (cQ := cQ) (qs := qs) er11) F (va_cwS 1 hts gX6_halves_X6_cells rfl rfl rfl yd_X6_cells ⟨Nat.le_of_ble_eq_true rfl, Nat.le_of_ble_eq_true rfl⟩) hG hP [0] rfl rfl hl.1 rfl (Nat.le_of_ble_eq_true rfl) dX6_halves_6 ⟨Nat.zero_le _, Nat.zero_le _⟩ ?_
    refine lv_icmp_ge (tgt := 37) hx hb dX6_halves_9 (by decide) (fun c12 => ?_) (fun c12 => ?_)
    · have hf := fp_t hf c12
      cases hf
      have ho := fp_inr ho
      cases ho
      exact hex _ (lv_sub hl [0, 1] rfl)
    · have hf := fp_f hf c12
      refine lv_iload_n hx hb dX6_halves_12 rfl (lv_at hl 1 rfl) ?_
      refine lv_aload_n hx hb dX6_halves_13 rfl (lv_at hl 0 rfl) ?_
      refine lv_iconst (v := (2 : Int32)) hx hb dX6_halves_14 (by decide) ?_
      refine lv_iload_n hx hb dX6_halves_15 rfl (lv_at hl 2 rfl) ?_
      refine lv_iadd hx hb dX6_halves_16 ?_
      obtain ⟨k13, hf⟩ := fp_c hf
      refine va_iald hx hb hK hP 0 0 rfl rfl k13 dX6_halves_17 ?_
      obtain ⟨r14, er14, hf⟩ := fp_b hf
      refine RoI.callS (c_X6_isHalf (l := l) (D := D) (cI := cI) (cJ := cJ) (cZ := cZ) (cQ := cQ) (qs := qs) er14) F (va_cwS 1 hts gX6_halves_X6_isHalf rfl rfl rfl yd_X6_isHalf ⟨Nat.le_of_ble_eq_true rfl, Nat.le_of_ble_eq_true rfl⟩) hG hP [] rfl rfl hl.1 rfl (Nat.le_of_ble_eq_true rfl) dX6_halves_18 ⟨Nat.zero_le _, Nat.zero_le _⟩ ?_
      refine lv_if_eq (tgt := 28) hx hb dX6_halves_21 (by decide) (fun c15 => ?_) (fun c15 => ?_)
      · have hf := fp_t hf c15
        refine lv_iconst (v := (0 : Int32)) hx hb dX6_halves_28 (by decide) ?_
        refine lv_iadd hx hb dX6_halves_29 ?_
        refine lv_istore_n (lv' := [(1, .int (y1 + (0 : Int32))), (0, .ref hAR0), (2, .int y2)]) hx hb dX6_halves_30 rfl hl (by decide) rfl (fun ls hl => ?_)
        refine lv_iinc (v := (y2 + (1 : Int32))) (lv' := [(2, .int (y2 + (1 : Int32))), (1, .int (y1 + (0 : Int32))), (0, .ref hAR0)]) hx hb dX6_halves_31 hl (k := 2) rfl rfl (by decide) rfl (fun ls hl => ?_)
        refine lv_goto (tgt := 4) hx hb dX6_halves_34 (by decide) ?_
        cases hf
        exact ih _ (fp_inl ho) (lv_sub hl [2, 1, 0] rfl) hex
      · have hf := fp_f hf c15
        refine lv_iconst (v := (1 : Int32)) hx hb dX6_halves_24 (by decide) ?_
        refine lv_goto (tgt := 29) hx hb dX6_halves_25 (by decide) ?_
        refine lv_iadd hx hb dX6_halves_29 ?_
        refine lv_istore_n (lv' := [(1, .int (y1 + (1 : Int32))), (0, .ref hAR0), (2, .int y2)]) hx hb dX6_halves_30 rfl hl (by decide) rfl (fun ls hl => ?_)
        refine lv_iinc (v := (y2 + (1 : Int32))) (lv' := [(2, .int (y2 + (1 : Int32))), (1, .int (y1 + (1 : Int32))), (0, .ref hAR0)]) hx hb dX6_halves_31 hl (k := 2) rfl rfl (by decide) rfl (fun ls hl => ?_)
        refine lv_goto (tgt := 4) hx hb dX6_halves_34 (by decide) ?_
        cases hf
        exact ih _ (fp_inl ho) (lv_sub hl [2, 1, 0] rfl) hex
def f_X6_halves (fr0 : Nat → Int32) : Option (Int32) :=
  Option.bind (lpf (fun s => f_X6_halves_4 fr0 s.1 s.2) 1000 ((0 : Int32), (0 : Int32))) (fun o16 => some o16)
set_option maxHeartbeats 4000000 in
set_option maxRecDepth 100000 in
theorem b_X6_halves {p : Program} {l : Launch} {e : Env} {s : State} {m : MethodId} {args : Array Value} {below : List Frame} {meth : Method} {c : Code} {Q : State → Prop} {D : va_G} {cI cJ cZ cQ : ClassId} {qs : Nat × Nat × Nat} {hAR0 : Nat} {fr0 : Nat → Int32} {out : Int32} (F : CallFix p m c cX6_halves 3 s args wsX6_halves RX6) (hG : kR D (ty4 cI cJ cZ cQ) qs s s.heap) (hP : va_P D vwCl [(hAR0, .inl (cI, 22, .inl fr0))] s.heap) (hf : f_X6_halves fr0 = some out) (hret : ∀ (pc : Nat) (ls : Array Slot), decode cX6_halves pc = .ok (.ireturn, 1) → narrow .int (.int out) = .int out → W p l e { frames := 2, cells := 0, slots := 0, locals := 42 } s m args below meth c s.heap [] 0 0 Q (F0 m pc ls [.int out])) {ls : Array Slot} (hl : lv_has ls 3 [(0, .ref hAR0)]) : W p l e { frames := 2, cells := 0, slots := 0, locals := 42 } s m args below meth c s.heap [] 0 0 Q (F0 m 0 ls []) := by
  have hx := F.1
  have hb := F.2.1
  have hown := F.2.2.2.1
  have hts := F.2.2.2.2
  have hK := hG.1.1
  rw [f_X6_halves] at hf
  refine lv_iconst (v := (0 : Int32)) hx hb dX6_halves_0 (by decide) ?_
  refine lv_istore_n (lv' := [(1, .int (0 : Int32)), (0, .ref hAR0)]) hx hb dX6_halves_1 rfl hl (by decide) rfl (fun ls hl => ?_)
  refine lv_iconst (v := (0 : Int32)) hx hb dX6_halves_2 (by decide) ?_
  refine lv_istore_n (lv' := [(2, .int (0 : Int32)), (1, .int (0 : Int32)), (0, .ref hAR0)]) hx hb dX6_halves_3 rfl hl (by decide) rfl (fun ls hl => ?_)
  obtain ⟨o16, eo16, hf⟩ := fp_b hf
  refine lp_X6_halves_4 F hG hP _ _ eo16 (lv_sub hl [2, 1, 0] rfl) (fun ls hl => ?_)
  refine lv_iload_n hx hb dX6_halves_37 rfl (lv_at hl 1 rfl) ?_
  cases hf
  exact hret _ _ dX6_halves_38 (vp_nar_int _)
set_option maxRecDepth 100000 in
theorem c_X6_halves {l : Launch} {D : va_G} {cI cJ cZ cQ : ClassId} {qs : Nat × Nat × Nat} {hAR0 : Nat} {fr0 : Nat → Int32} {out : Int32} (hf : f_X6_halves fr0 = some out) : RoI l yX6_halves wsX6_halves { frames := 2, cells := 0, slots := 0, locals := 42 } D (ty4 cI cJ cZ cQ) qs [.ref hAR0] [(hAR0, .inl (cI, 22, .inl fr0))] out :=
  RoI.of (own := RX6) (by decide +kernel) rfl rfl (Nat.le_of_ble_eq_true rfl) (fun F hG hP hret ls hl => b_X6_halves F hG hP hf hret hl)
-- method X6_doors
theorem yd_X6_doors : yX6_doors.cls ≠ "java/lang/invoke/MethodHandle" ∧ yX6_doors.cls ≠ "java/lang/invoke/VarHandle" ∧ (parseMethodDescriptor yX6_doors.desc).map (fun d => d.parameters.length) = some 1 := by decide +kernel
def f_X6_doors_4 (fr0 : Nat → Int32) (y1 : Int32) (y2 : Int32) : Option ((Int32 × Int32) ⊕ (Int32)) :=
  Option.bind (f_X6_cells fr0) (fun r17 => (if r17 ≤ y2 then some (Sum.inr y1) else chk (aix ((2 : Int32) + y2) 22) (Option.bind (f_X6_isDoor (fr0 (Int32.toNatClampNeg ((2 : Int32) + y2)))) (fun r20 => (if r20 = 0 then some (Sum.inl ((y1 + (0 : Int32)), (y2 + (1 : Int32)))) else some (Sum.inl ((y1 + (1 : Int32)), (y2 + (1 : Int32)))))))))
set_option maxHeartbeats 4000000 in
set_option maxRecDepth 100000 in
theorem lp_X6_doors_4 {p : Program} {l : Launch} {e : Env} {s : State} {m : MethodId} {args : Array Value} {below : List Frame} {meth : Method} {c : Code} {Q : State → Prop} {D : va_G} {cI cJ cZ cQ : ClassId} {qs : Nat × Nat × Nat} {hAR0 : Nat} {fr0 : Nat → Int32}  (F : CallFix p m c cX6_doors 3 s args wsX6_doors RX6) (hG : kR D (ty4 cI cJ cZ cQ) qs s s.heap) (hP : va_P D vwCl [(hAR0, .inl (cI, 22, .inl fr0))] s.heap) :
    ∀ (n : Nat) {y1 : Int32} {y2 : Int32} (out : Int32), lpf (fun s => f_X6_doors_4 fr0 s.1 s.2) n (y1, y2) = some out → ∀ {ls : Array Slot}, lv_has ls 3 [(0, .ref hAR0), (1, .int y1), (2, .int y2)] → (∀ ls : Array Slot, lv_has ls 3 [(0, .ref hAR0), (1, .int out)] → W p l e { frames := 2, cells := 0, slots := 0, locals := 42 } s m args below meth c s.heap [] 0 0 Q (F0 m 37 ls [])) → W p l e { frames := 2, cells := 0, slots := 0, locals := 42 } s m args below meth c s.heap [] 0 0 Q (F0 m 4 ls []) := by
  have hx := F.1
  have hb := F.2.1
  have hown := F.2.2.2.1
  have hts := F.2.2.2.2
  have hK := hG.1.1
  intro n
  induction n with
  | zero =>
    intro y1 y2 out ho
    exact (fp_l0 ho).elim
  | succ n ih =>
    intro y1 y2 out ho ls hl hex
    obtain ⟨o, hf, ho⟩ := fp_l ho
    have hf : f_X6_doors_4 fr0 y1 y2 = some o := hf
    rw [f_X6_doors_4] at hf
    refine lv_iload_n hx hb dX6_doors_4 rfl (lv_at hl 2 rfl) ?_
    refine lv_aload_n hx hb dX6_doors_5 rfl (lv_at hl 0 rfl) ?_
    obtain ⟨r17, er17, hf⟩ := fp_b hf
    refine RoI.callS (c_X6_cells (l := l) (D := D) (cI := cI) (cJ := cJ) (cZ := cZ) (cQ := cQ) (qs := qs) er17) F (va_cwS 1 hts gX6_doors_X6_cells rfl rfl rfl yd_X6_cells ⟨Nat.le_of_ble_eq_true rfl, Nat.le_of_ble_eq_true rfl⟩) hG hP [0] rfl rfl hl.1 rfl (Nat.le_of_ble_eq_true rfl) dX6_doors_6 ⟨Nat.zero_le _, Nat.zero_le _⟩ ?_
    refine lv_icmp_ge (tgt := 37) hx hb dX6_doors_9 (by decide) (fun c18 => ?_) (fun c18 => ?_)
    · have hf := fp_t hf c18
      cases hf
      have ho := fp_inr ho
      cases ho
      exact hex _ (lv_sub hl [0, 1] rfl)
    · have hf := fp_f hf c18
      refine lv_iload_n hx hb dX6_doors_12 rfl (lv_at hl 1 rfl) ?_
      refine lv_aload_n hx hb dX6_doors_13 rfl (lv_at hl 0 rfl) ?_
      refine lv_iconst (v := (2 : Int32)) hx hb dX6_doors_14 (by decide) ?_
      refine lv_iload_n hx hb dX6_doors_15 rfl (lv_at hl 2 rfl) ?_
      refine lv_iadd hx hb dX6_doors_16 ?_
      obtain ⟨k19, hf⟩ := fp_c hf
      refine va_iald hx hb hK hP 0 0 rfl rfl k19 dX6_doors_17 ?_
      obtain ⟨r20, er20, hf⟩ := fp_b hf
      refine RoI.callS (c_X6_isDoor (l := l) (D := D) (cI := cI) (cJ := cJ) (cZ := cZ) (cQ := cQ) (qs := qs) er20) F (va_cwS 1 hts gX6_doors_X6_isDoor rfl rfl rfl yd_X6_isDoor ⟨Nat.le_of_ble_eq_true rfl, Nat.le_of_ble_eq_true rfl⟩) hG hP [] rfl rfl hl.1 rfl (Nat.le_of_ble_eq_true rfl) dX6_doors_18 ⟨Nat.zero_le _, Nat.zero_le _⟩ ?_
      refine lv_if_eq (tgt := 28) hx hb dX6_doors_21 (by decide) (fun c21 => ?_) (fun c21 => ?_)
      · have hf := fp_t hf c21
        refine lv_iconst (v := (0 : Int32)) hx hb dX6_doors_28 (by decide) ?_
        refine lv_iadd hx hb dX6_doors_29 ?_
        refine lv_istore_n (lv' := [(1, .int (y1 + (0 : Int32))), (0, .ref hAR0), (2, .int y2)]) hx hb dX6_doors_30 rfl hl (by decide) rfl (fun ls hl => ?_)
        refine lv_iinc (v := (y2 + (1 : Int32))) (lv' := [(2, .int (y2 + (1 : Int32))), (1, .int (y1 + (0 : Int32))), (0, .ref hAR0)]) hx hb dX6_doors_31 hl (k := 2) rfl rfl (by decide) rfl (fun ls hl => ?_)
        refine lv_goto (tgt := 4) hx hb dX6_doors_34 (by decide) ?_
        cases hf
        exact ih _ (fp_inl ho) (lv_sub hl [2, 1, 0] rfl) hex
      · have hf := fp_f hf c21
        refine lv_iconst (v := (1 : Int32)) hx hb dX6_doors_24 (by decide) ?_
        refine lv_goto (tgt := 29) hx hb dX6_doors_25 (by decide) ?_
        refine lv_iadd hx hb dX6_doors_29 ?_
        refine lv_istore_n (lv' := [(1, .int (y1 + (1 : Int32))), (0, .ref hAR0), (2, .int y2)]) hx hb dX6_doors_30 rfl hl (by decide) rfl (fun ls hl => ?_)
        refine lv_iinc (v := (y2 + (1 : Int32))) (lv' := [(2, .int (y2 + (1 : Int32))), (1, .int (y1 + (1 : Int32))), (0, .ref hAR0)]) hx hb dX6_doors_31 hl (k := 2) rfl rfl (by decide) rfl (fun ls hl => ?_)
        refine lv_goto (tgt := 4) hx hb dX6_doors_34 (by decide) ?_
        cases hf
        exact ih _ (fp_inl ho) (lv_sub hl [2, 1, 0] rfl) hex
def f_X6_doors (fr0 : Nat → Int32) : Option (Int32) :=
  Option.bind (lpf (fun s => f_X6_doors_4 fr0 s.1 s.2) 1000 ((0 : Int32), (0 : Int32))) (fun o22 => some o22)
set_option maxHeartbeats 4000000 in
set_option maxRecDepth 100000 in
theorem b_X6_doors {p : Program} {l : Launch} {e : Env} {s : State} {m : MethodId} {args : Array Value} {below : List Frame} {meth : Method} {c : Code} {Q : State → Prop} {D : va_G} {cI cJ cZ cQ : ClassId} {qs : Nat × Nat × Nat} {hAR0 : Nat} {fr0 : Nat → Int32} {out : Int32} (F : CallFix p m c cX6_doors 3 s args wsX6_doors RX6) (hG : kR D (ty4 cI cJ cZ cQ) qs s s.heap) (hP : va_P D vwCl [(hAR0, .inl (cI, 22, .inl fr0))] s.heap) (hf : f_X6_doors fr0 = some out) (hret : ∀ (pc : Nat) (ls : Array Slot), decode cX6_doors pc = .ok (.ireturn, 1) → narrow .int (.int out) = .int out → W p l e { frames := 2, cells := 0, slots := 0, locals := 42 } s m args below meth c s.heap [] 0 0 Q (F0 m pc ls [.int out])) {ls : Array Slot} (hl : lv_has ls 3 [(0, .ref hAR0)]) : W p l e { frames := 2, cells := 0, slots := 0, locals := 42 } s m args below meth c s.heap [] 0 0 Q (F0 m 0 ls []) := by
  have hx := F.1
  have hb := F.2.1
  have hown := F.2.2.2.1
  have hts := F.2.2.2.2
  have hK := hG.1.1
  rw [f_X6_doors] at hf
  refine lv_iconst (v := (0 : Int32)) hx hb dX6_doors_0 (by decide) ?_
  refine lv_istore_n (lv' := [(1, .int (0 : Int32)), (0, .ref hAR0)]) hx hb dX6_doors_1 rfl hl (by decide) rfl (fun ls hl => ?_)
  refine lv_iconst (v := (0 : Int32)) hx hb dX6_doors_2 (by decide) ?_
  refine lv_istore_n (lv' := [(2, .int (0 : Int32)), (1, .int (0 : Int32)), (0, .ref hAR0)]) hx hb dX6_doors_3 rfl hl (by decide) rfl (fun ls hl => ?_)
  obtain ⟨o22, eo22, hf⟩ := fp_b hf
  refine lp_X6_doors_4 F hG hP _ _ eo22 (lv_sub hl [2, 1, 0] rfl) (fun ls hl => ?_)
  refine lv_iload_n hx hb dX6_doors_37 rfl (lv_at hl 1 rfl) ?_
  cases hf
  exact hret _ _ dX6_doors_38 (vp_nar_int _)
set_option maxRecDepth 100000 in
theorem c_X6_doors {l : Launch} {D : va_G} {cI cJ cZ cQ : ClassId} {qs : Nat × Nat × Nat} {hAR0 : Nat} {fr0 : Nat → Int32} {out : Int32} (hf : f_X6_doors fr0 = some out) : RoI l yX6_doors wsX6_doors { frames := 2, cells := 0, slots := 0, locals := 42 } D (ty4 cI cJ cZ cQ) qs [.ref hAR0] [(hAR0, .inl (cI, 22, .inl fr0))] out :=
  RoI.of (own := RX6) (by decide +kernel) rfl rfl (Nat.le_of_ble_eq_true rfl) (fun F hG hP hret ls hl => b_X6_doors F hG hP hf hret hl)
-- method X6_kindOf
theorem yd_X6_kindOf : yX6_kindOf.cls ≠ "java/lang/invoke/MethodHandle" ∧ yX6_kindOf.cls ≠ "java/lang/invoke/VarHandle" ∧ (parseMethodDescriptor yX6_kindOf.desc).map (fun d => d.parameters.length) = some 1 := by decide +kernel
def f_X6_kindOf (x0 : Int32) : Option (Int32) :=
  (if x0 = (35 : Int32) then some (5 : Int32) else (if x0 = (46 : Int32) then some (0 : Int32) else (if x0 = (47 : Int32) then some (1 : Int32) else (if x0 = (92 : Int32) then some (2 : Int32) else (if x0 = (98 : Int32) then some (4 : Int32) else (if x0 = (102 : Int32) then some (3 : Int32) else (if x0 = (111 : Int32) then some (6 : Int32) else (if x0 = (120 : Int32) then some (7 : Int32) else some (-4 : Int32)))))))))
set_option maxHeartbeats 4000000 in
set_option maxRecDepth 100000 in
theorem b_X6_kindOf {p : Program} {l : Launch} {e : Env} {s : State} {m : MethodId} {args : Array Value} {below : List Frame} {meth : Method} {c : Code} {Q : State → Prop} {D : va_G} {cI cJ cZ cQ : ClassId} {qs : Nat × Nat × Nat}  {x0 : Int32} {out : Int32} (F : CallFix p m c cX6_kindOf 1 s args wsX6_kindOf RX6) (hG : kR D (ty4 cI cJ cZ cQ) qs s s.heap) (hP : va_P D vwCl [] s.heap) (hf : f_X6_kindOf x0 = some out) (hret : ∀ (pc : Nat) (ls : Array Slot), decode cX6_kindOf pc = .ok (.ireturn, 1) → narrow .int (.int out) = .int out → W p l e { frames := 0, cells := 0, slots := 0, locals := 0 } s m args below meth c s.heap [] 0 0 Q (F0 m pc ls [.int out])) {ls : Array Slot} (hl : lv_has ls 1 [(0, .int x0)]) : W p l e { frames := 0, cells := 0, slots := 0, locals := 0 } s m args below meth c s.heap [] 0 0 Q (F0 m 0 ls []) := by
  have hx := F.1
  have hb := F.2.1
  have hown := F.2.2.2.1
  have hts := F.2.2.2.2
  have hK := hG.1.1
  rw [f_X6_kindOf] at hf
  refine lv_iload_n hx hb dX6_kindOf_0 rfl (lv_at hl 0 rfl) ?_
  by_cases c23 : x0 = (35 : Int32)
  · have hf := fp_t hf c23
    rw [c23]
    refine lv_lookup (off := 85) (tgt := 86) hx hb dX6_kindOf_1 (by decide) (by decide) (by decide) ?_
    refine lv_iconst (v := (5 : Int32)) hx hb dX6_kindOf_86 (by decide) ?_
    cases hf
    exact hret _ _ dX6_kindOf_87 (vp_nar_int _)
  have hf := fp_f hf c23
  by_cases c24 : x0 = (46 : Int32)
  · have hf := fp_t hf c24
    rw [c24]
    refine lv_lookup (off := 75) (tgt := 76) hx hb dX6_kindOf_1 (by decide) (by decide) (by decide) ?_
    refine lv_iconst (v := (0 : Int32)) hx hb dX6_kindOf_76 (by decide) ?_
    cases hf
    exact hret _ _ dX6_kindOf_77 (vp_nar_int _)
  have hf := fp_f hf c24
  by_cases c25 : x0 = (47 : Int32)
  · have hf := fp_t hf c25
    rw [c25]
    refine lv_lookup (off := 77) (tgt := 78) hx hb dX6_kindOf_1 (by decide) (by decide) (by decide) ?_
    refine lv_iconst (v := (1 : Int32)) hx hb dX6_kindOf_78 (by decide) ?_
    cases hf
    exact hret _ _ dX6_kindOf_79 (vp_nar_int _)
  have hf := fp_f hf c25
  by_cases c26 : x0 = (92 : Int32)
  · have hf := fp_t hf c26
    rw [c26]
    refine lv_lookup (off := 79) (tgt := 80) hx hb dX6_kindOf_1 (by decide) (by decide) (by decide) ?_
    refine lv_iconst (v := (2 : Int32)) hx hb dX6_kindOf_80 (by decide) ?_
    cases hf
    exact hret _ _ dX6_kindOf_81 (vp_nar_int _)
  have hf := fp_f hf c26
  by_cases c27 : x0 = (98 : Int32)
  · have hf := fp_t hf c27
    rw [c27]
    refine lv_lookup (off := 83) (tgt := 84) hx hb dX6_kindOf_1 (by decide) (by decide) (by decide) ?_
    refine lv_iconst (v := (4 : Int32)) hx hb dX6_kindOf_84 (by decide) ?_
    cases hf
    exact hret _ _ dX6_kindOf_85 (vp_nar_int _)
  have hf := fp_f hf c27
  by_cases c28 : x0 = (102 : Int32)
  · have hf := fp_t hf c28
    rw [c28]
    refine lv_lookup (off := 81) (tgt := 82) hx hb dX6_kindOf_1 (by decide) (by decide) (by decide) ?_
    refine lv_iconst (v := (3 : Int32)) hx hb dX6_kindOf_82 (by decide) ?_
    cases hf
    exact hret _ _ dX6_kindOf_83 (vp_nar_int _)
  have hf := fp_f hf c28
  by_cases c29 : x0 = (111 : Int32)
  · have hf := fp_t hf c29
    rw [c29]
    refine lv_lookup (off := 87) (tgt := 88) hx hb dX6_kindOf_1 (by decide) (by decide) (by decide) ?_
    refine lv_bipush (v := (6 : Int32)) hx hb dX6_kindOf_88 (by decide) ?_
    cases hf
    exact hret _ _ dX6_kindOf_90 (vp_nar_int _)
  have hf := fp_f hf c29
  by_cases c30 : x0 = (120 : Int32)
  · have hf := fp_t hf c30
    rw [c30]
    refine lv_lookup (off := 90) (tgt := 91) hx hb dX6_kindOf_1 (by decide) (by decide) (by decide) ?_
    refine lv_bipush (v := (7 : Int32)) hx hb dX6_kindOf_91 (by decide) ?_
    cases hf
    exact hret _ _ dX6_kindOf_93 (vp_nar_int _)
  have hf := fp_f hf c30
  refine lv_lookup (off := 93) (tgt := 94) hx hb dX6_kindOf_1 (by decide) ((lv_osw c23 (by decide)).trans ((lv_osw c24 (by decide)).trans ((lv_osw c25 (by decide)).trans ((lv_osw c26 (by decide)).trans ((lv_osw c27 (by decide)).trans ((lv_osw c28 (by decide)).trans ((lv_osw c29 (by decide)).trans ((lv_osw c30 (by decide)).trans (rfl))))))))) (by decide) ?_
  refine lv_bipush (v := (-4 : Int32)) hx hb dX6_kindOf_94 (by decide) ?_
  cases hf
  exact hret _ _ dX6_kindOf_96 (vp_nar_int _)
set_option maxRecDepth 100000 in
theorem c_X6_kindOf {l : Launch} {D : va_G} {cI cJ cZ cQ : ClassId} {qs : Nat × Nat × Nat}  {x0 : Int32} {out : Int32} (hf : f_X6_kindOf x0 = some out) : RoI l yX6_kindOf wsX6_kindOf { frames := 0, cells := 0, slots := 0, locals := 0 } D (ty4 cI cJ cZ cQ) qs [.int x0] [] out :=
  RoI.of (own := RX6) (by decide +kernel) rfl rfl (Nat.le_of_ble_eq_true rfl) (fun F hG hP hret ls hl => b_X6_kindOf F hG hP hf hret hl)
-- method X6_takesRow
theorem yd_X6_takesRow : yX6_takesRow.cls = RX6 ∧ yX6_takesRow.cls ≠ "java/lang/invoke/MethodHandle" ∧ yX6_takesRow.cls ≠ "java/lang/invoke/VarHandle" ∧ (parseMethodDescriptor yX6_takesRow.desc).map (fun d => d.parameters.length) = some 0 := by decide +kernel
theorem ku_X6_takesRow_X6 : ∀ w ∈ u_ws RX6 TX6 19, w ∈ wsX6_takesRow := by decide +kernel
theorem kw_X6_takesRow_1 : Cond.fieldLink RX6 22 "MirrorSharesModel" "text" "[I" ∈ wsX6_takesRow := List.mem_of_getElem? (i := 1) rfl
theorem kw_X6_takesRow_2 : Cond.fieldLink RX6 63 "MirrorSharesModel" "spot" "I" ∈ wsX6_takesRow := List.mem_of_getElem? (i := 2) rfl
theorem kw_X6_takesRow_3 : Cond.fieldLink RX6 13 "MirrorSharesModel" "read" "[I" ∈ wsX6_takesRow := List.mem_of_getElem? (i := 3) rfl
theorem kw_X6_takesRow_4 : Cond.fieldLink RX6 67 "MirrorSharesModel" "letters" "I" ∈ wsX6_takesRow := List.mem_of_getElem? (i := 4) rfl
def f_X6_takesRow_74 (ml : Int32) (mt : Nat → Int32) (y2 : Int32) (y3 : Int32) (y1 : Int32) (ms : Int32) (mr : Nat → Int32) : Option ((Int32 × Int32 × (Nat → Int32)) ⊕ (Int32 × Int32 × (Nat → Int32))) :=
  (if ml ≤ ms then some (Sum.inr (y1, ms, mr)) else (if y2 ≤ y1 then some (Sum.inr (y1, ms, mr)) else chk (aix ms 60) (Option.bind (f_X6_kindOf (mt ms.toNatClampNeg)) (fun r39 => (if r39 = (-4 : Int32) then some (Sum.inr (y1, ms, mr)) else Option.bind (f_X6_kindOf (mt ms.toNatClampNeg)) (fun r41 => chk (aix (y3 + y1) 22) (some (Sum.inl ((y1 + (1 : Int32)), (ms + (1 : Int32)), (upd mr (Int32.toNatClampNeg (y3 + y1)) r41))))))))))
set_option maxHeartbeats 4000000 in
set_option maxRecDepth 100000 in
theorem lp_X6_takesRow_74 {p : Program} {l : Launch} {e : Env} {s : State} {m : MethodId} {args : Array Value} {below : List Frame} {meth : Method} {c : Code} {Q : State → Prop} {A : Nat → Prop} {D : va_G} {cI cJ cZ cQ : ClassId} {qs : Nat × Nat × Nat} {hMo hMn hMr hMa hMp hMt hMd hMk hMy hMl hMw hMi hMx : Nat} {ml : Int32} {mt : Nat → Int32} {y2 : Int32} {y3 : Int32} {mc : Int32} {mm : Int32} {mu : Int64} {mv : Int64} {me : Int32} (F : CallFix p m c cX6_takesRow 4 s args wsX6_takesRow RX6) (hG : kW D (ty4 cI cJ cZ cQ) qs A s s.heap) (hA : ∀ q : Nat, s.heap.size ≤ q → A q) :
    ∀ (n : Nat) {y1 : Int32} {ms : Int32} {mr : Nat → Int32} (out : Int32 × Int32 × (Nat → Int32)), lpf (fun s => f_X6_takesRow_74 ml mt y2 y3 s.1 s.2.1 s.2.2) n (y1, ms, mr) = some out → ∀ {H : Heap} {locs : List Loc} {ls : Array Slot}, va_P D vwCl [(hMo, .inr (6, [.ref hMn, .ref hMr, .ref hMa, .ref hMp, .int mc, .ref hMt, .int ml, .int ms, .ref hMd, .ref hMk, .ref hMy, .int mm, .ref hMl, .ref hMw, .long mu, .long mv, .ref hMi, .ref hMx, .int me])), (hMr, .inl (cI, 22, .inl mr)), (hMt, .inl (cI, 60, .inl mt))] H → va_D A [(hMo, .inr (6, [.ref hMn, .ref hMr, .ref hMa, .ref hMp, .int mc, .ref hMt, .int ml, .int ms, .ref hMd, .ref hMk, .ref hMy, .int mm, .ref hMl, .ref hMw, .long mu, .long mv, .ref hMi, .ref hMx, .int me])), (hMr, .inl (cI, 22, .inl mr)), (hMt, .inl (cI, 60, .inl mt))] → va_S A s.heap H locs → lv_has ls 4 [(0, .ref hMo), (1, .int y1), (2, .int y2), (3, .int y3)] → (∀ (H : Heap) (locs : List Loc) (ls : Array Slot), va_P D vwCl [(hMo, .inr (6, [.ref hMn, .ref hMr, .ref hMa, .ref hMp, .int mc, .ref hMt, .int ml, .int out.2.1, .ref hMd, .ref hMk, .ref hMy, .int mm, .ref hMl, .ref hMw, .long mu, .long mv, .ref hMi, .ref hMx, .int me])), (hMr, .inl (cI, 22, .inl out.2.2)), (hMt, .inl (cI, 60, .inl mt))] H → va_D A [(hMo, .inr (6, [.ref hMn, .ref hMr, .ref hMa, .ref hMp, .int mc, .ref hMt, .int ml, .int out.2.1, .ref hMd, .ref hMk, .ref hMy, .int mm, .ref hMl, .ref hMw, .long mu, .long mv, .ref hMi, .ref hMx, .int me])), (hMr, .inl (cI, 22, .inl out.2.2)), (hMt, .inl (cI, 60, .inl mt))] → va_S A s.heap H locs → lv_has ls 4 [(0, .ref hMo), (1, .int out.1), (2, .int y2), (3, .int y3)] → W p l e { frames := 3, cells := 0, slots := 0, locals := 64 } s m args below meth c H locs 0 0 Q (F0 m 143 ls [])) → W p l e { frames := 3, cells := 0, slots := 0, locals := 64 } s m args below meth c H locs 0 0 Q (F0 m 74 ls []) := by
  have hx := F.1
  have hb := F.2.1
  have hown := F.2.2.2.1
  have hts := F.2.2.2.2
  have hK := hG.1.1
  intro n
  induction n with
  | zero =>
    intro y1 ms mr out ho
    exact (fp_l0 ho).elim
  | succ n ih =>
    intro y1 ms mr out ho H locs ls hP hD hS hl hex
    obtain ⟨o, hf, ho⟩ := fp_l ho
    have hf : f_X6_takesRow_74 ml mt y2 y3 y1 ms mr = some o := hf
    rw [f_X6_takesRow_74] at hf
    refine lv_aload_n hx hb dX6_takesRow_74 rfl (lv_at hl 0 rfl) ?_
    refine va_get (D := D) (ci := 6) (v := .int ms) (C := RX6) (T := TX6) (N := 19) hx hb hts ku_X6_takesRow_X6 hown hK hP 0 rfl rfl 7 (by decide) (hts _ kw_X6_takesRow_2) (fun _ h9 => h9) rfl dX6_takesRow_75 ?_
    refine lv_aload_n hx hb dX6_takesRow_78 rfl (lv_at hl 0 rfl) ?_
    refine va_get (D := D) (ci := 6) (v := .int ml) (C := RX6) (T := TX6) (N := 19) hx hb hts ku_X6_takesRow_X6 hown hK hP 0 rfl rfl 6 (by decide) (hts _ kw_X6_takesRow_4) (fun _ h9 => h9) rfl dX6_takesRow_79 ?_
    refine lv_icmp_ge (tgt := 143) hx hb dX6_takesRow_82 (by decide) (fun c36 => ?_) (fun c36 => ?_)
    · have hf := fp_t hf c36
      cases hf
      have ho := fp_inr ho
      cases ho
      exact hex _ _ _ hP hD hS (lv_sub hl [0, 1, 2, 3] rfl)
    · have hf := fp_f hf c36
      refine lv_iload_n hx hb dX6_takesRow_85 rfl (lv_at hl 1 rfl) ?_
      refine lv_iload_n hx hb dX6_takesRow_86 rfl (lv_at hl 2 rfl) ?_
      refine lv_icmp_ge (tgt := 143) hx hb dX6_takesRow_87 (by decide) (fun c37 => ?_) (fun c37 => ?_)
      · have hf := fp_t hf c37
        cases hf
        have ho := fp_inr ho
        cases ho
        exact hex _ _ _ hP hD hS (lv_sub hl [0, 1, 2, 3] rfl)
      · have hf := fp_f hf c37
        refine lv_aload_n hx hb dX6_takesRow_90 rfl (lv_at hl 0 rfl) ?_
        refine va_get (D := D) (ci := 6) (v := .ref hMt) (C := RX6) (T := TX6) (N := 19) hx hb hts ku_X6_takesRow_X6 hown hK hP 0 rfl rfl 5 (by decide) (hts _ kw_X6_takesRow_1) (fun _ h9 => h9) rfl dX6_takesRow_91 ?_
        refine lv_aload_n hx hb dX6_takesRow_94 rfl (lv_at hl 0 rfl) ?_
        refine va_get (D := D) (ci := 6) (v := .int ms) (C := RX6) (T := TX6) (N := 19) hx hb hts ku_X6_takesRow_X6 hown hK hP 0 rfl rfl 7 (by decide) (hts _ kw_X6_takesRow_2) (fun _ h9 => h9) rfl dX6_takesRow_95 ?_
        obtain ⟨k38, hf⟩ := fp_c hf
        refine va_iald hx hb hK hP 2 0 rfl rfl k38 dX6_takesRow_98 ?_
        obtain ⟨r39, er39, hf⟩ := fp_b hf
        refine RoI.callS (c_X6_kindOf (l := l) (D := D) (cI := cI) (cJ := cJ) (cZ := cZ) (cQ := cQ) (qs := qs) er39) F (va_cwS 1 hts gX6_takesRow_X6_kindOf rfl rfl rfl yd_X6_kindOf ⟨Nat.le_of_ble_eq_true rfl, Nat.le_of_ble_eq_true rfl⟩) (hG.r hS) hP [] rfl rfl hl.1 rfl (Nat.le_of_ble_eq_true rfl) dX6_takesRow_99 ⟨Nat.zero_le _, Nat.zero_le _⟩ ?_
        refine lv_bipush (v := (-4 : Int32)) hx hb dX6_takesRow_102 (by decide) ?_
        refine lv_icmp_eq (tgt := 143) hx hb dX6_takesRow_104 (by decide) (fun c40 => ?_) (fun c40 => ?_)
        · have hf := fp_t hf c40
          cases hf
          have ho := fp_inr ho
          cases ho
          exact hex _ _ _ hP hD hS (lv_sub hl [0, 1, 2, 3] rfl)
        · have hf := fp_f hf c40
          refine lv_aload_n hx hb dX6_takesRow_107 rfl (lv_at hl 0 rfl) ?_
          refine va_get (D := D) (ci := 6) (v := .ref hMr) (C := RX6) (T := TX6) (N := 19) hx hb hts ku_X6_takesRow_X6 hown hK hP 0 rfl rfl 1 (by decide) (hts _ kw_X6_takesRow_3) (fun _ h9 => h9) rfl dX6_takesRow_108 ?_
          refine lv_iload_n hx hb dX6_takesRow_111 rfl (lv_at hl 3 rfl) ?_
          refine lv_iload_n hx hb dX6_takesRow_112 rfl (lv_at hl 1 rfl) ?_
          refine lv_iadd hx hb dX6_takesRow_113 ?_
          refine lv_aload_n hx hb dX6_takesRow_114 rfl (lv_at hl 0 rfl) ?_
          refine va_get (D := D) (ci := 6) (v := .ref hMt) (C := RX6) (T := TX6) (N := 19) hx hb hts ku_X6_takesRow_X6 hown hK hP 0 rfl rfl 5 (by decide) (hts _ kw_X6_takesRow_1) (fun _ h9 => h9) rfl dX6_takesRow_115 ?_
          refine lv_aload_n hx hb dX6_takesRow_118 rfl (lv_at hl 0 rfl) ?_
          refine va_get (D := D) (ci := 6) (v := .int ms) (C := RX6) (T := TX6) (N := 19) hx hb hts ku_X6_takesRow_X6 hown hK hP 0 rfl rfl 7 (by decide) (hts _ kw_X6_takesRow_2) (fun _ h9 => h9) rfl dX6_takesRow_119 ?_
          refine va_iald hx hb hK hP 2 0 rfl rfl k38 dX6_takesRow_122 ?_
          obtain ⟨r41, er41, hf⟩ := fp_b hf
          refine RoI.callS (c_X6_kindOf (l := l) (D := D) (cI := cI) (cJ := cJ) (cZ := cZ) (cQ := cQ) (qs := qs) er41) F (va_cwS 1 hts gX6_takesRow_X6_kindOf rfl rfl rfl yd_X6_kindOf ⟨Nat.le_of_ble_eq_true rfl, Nat.le_of_ble_eq_true rfl⟩) (hG.r hS) hP [] rfl rfl hl.1 rfl (Nat.le_of_ble_eq_true rfl) dX6_takesRow_123 ⟨Nat.zero_le _, Nat.zero_le _⟩ ?_
          obtain ⟨k42, hf⟩ := fp_c hf
          refine va_iast hx hb hK hP hD hS 1 0 rfl rfl k42 dX6_takesRow_126 (fun H locs hP hD hS => ?_)
          have hP : va_P D vwCl [(hMo, .inr (6, [.ref hMn, .ref hMr, .ref hMa, .ref hMp, .int mc, .ref hMt, .int ml, .int ms, .ref hMd, .ref hMk, .ref hMy, .int mm, .ref hMl, .ref hMw, .long mu, .long mv, .ref hMi, .ref hMx, .int me])), (hMr, .inl (cI, 22, .inl (upd mr (Int32.toNatClampNeg (y3 + y1)) r41))), (hMt, .inl (cI, 60, .inl mt))] H := hP
          have hD : va_D A [(hMo, .inr (6, [.ref hMn, .ref hMr, .ref hMa, .ref hMp, .int mc, .ref hMt, .int ml, .int ms, .ref hMd, .ref hMk, .ref hMy, .int mm, .ref hMl, .ref hMw, .long mu, .long mv, .ref hMi, .ref hMx, .int me])), (hMr, .inl (cI, 22, .inl (upd mr (Int32.toNatClampNeg (y3 + y1)) r41))), (hMt, .inl (cI, 60, .inl mt))] := hD
          refine lv_iinc (v := (y1 + (1 : Int32))) (lv' := [(1, .int (y1 + (1 : Int32))), (0, .ref hMo), (2, .int y2), (3, .int y3)]) hx hb dX6_takesRow_127 hl (k := 1) rfl rfl (by decide) rfl (fun ls hl => ?_)
          refine lv_aload_n hx hb dX6_takesRow_130 rfl (lv_at hl 1 rfl) ?_
          refine lv_dup hx hb dX6_takesRow_131 rfl ?_
          refine va_get (D := D) (ci := 6) (v := .int ms) (C := RX6) (T := TX6) (N := 19) hx hb hts ku_X6_takesRow_X6 hown hK hP 0 rfl rfl 7 (by decide) (hts _ kw_X6_takesRow_2) (fun _ h9 => h9) rfl dX6_takesRow_132 ?_
          refine lv_iconst (v := (1 : Int32)) hx hb dX6_takesRow_135 (by decide) ?_
          refine lv_iadd hx hb dX6_takesRow_136 ?_
          refine va_put (D := D) (ci := 6) (v := .int (ms + (1 : Int32))) (ty := .int) (C := RX6) (T := TX6) (N := 19) hx hb hts ku_X6_takesRow_X6 tyX6 tyX6_ok nmX6 hown hK hP hD hS 0 rfl rfl 7 (by decide) (hts _ kw_X6_takesRow_2) (fun _ h9 => h9) rfl (by decide +kernel) rfl rfl (Nat.le_of_ble_eq_true rfl) dX6_takesRow_137 (fun H locs hP hD hS => ?_)
          have hP : va_P D vwCl [(hMo, .inr (6, [.ref hMn, .ref hMr, .ref hMa, .ref hMp, .int mc, .ref hMt, .int ml, .int (ms + (1 : Int32)), .ref hMd, .ref hMk, .ref hMy, .int mm, .ref hMl, .ref hMw, .long mu, .long mv, .ref hMi, .ref hMx, .int me])), (hMr, .inl (cI, 22, .inl (upd mr (Int32.toNatClampNeg (y3 + y1)) r41))), (hMt, .inl (cI, 60, .inl mt))] H := hP
          have hD : va_D A [(hMo, .inr (6, [.ref hMn, .ref hMr, .ref hMa, .ref hMp, .int mc, .ref hMt, .int ml, .int (ms + (1 : Int32)), .ref hMd, .ref hMk, .ref hMy, .int mm, .ref hMl, .ref hMw, .long mu, .long mv, .ref hMi, .ref hMx, .int me])), (hMr, .inl (cI, 22, .inl (upd mr (Int32.toNatClampNeg (y3 + y1)) r41))), (hMt, .inl (cI, 60, .inl mt))] := hD
          refine lv_goto (tgt := 74) hx hb dX6_takesRow_140 (by decide) ?_
          cases hf
          exact ih _ (fp_inl ho) hP hD hS (lv_sub hl [1, 0, 2, 3] rfl) hex
def f_X6_takesRow (ml : Int32) (ms : Int32) (mr : Nat → Int32) (mt : Nat → Int32) : Option (Int32 × Int32 × (Nat → Int32)) :=
  chk (aix ms 60) ((if (mt ms.toNatClampNeg) = (114 : Int32) then (if (mr (Int32.toNatClampNeg (1 : Int32))) = (4 : Int32) then some ((0 : Int32), ms, mr) else Option.bind (if (mr (Int32.toNatClampNeg (1 : Int32))) = 0 then some (5 : Int32) else some (mr (Int32.toNatClampNeg (0 : Int32)))) (fun j34 => Option.bind (lpf (fun s => f_X6_takesRow_74 ml mt j34 ((2 : Int32) + ((mr (Int32.toNatClampNeg (0 : Int32))) * (mr (Int32.toNatClampNeg (1 : Int32))))) s.1 s.2.1 s.2.2) 1000 ((0 : Int32), (ms + (1 : Int32)), mr)) (fun o43 => (if o43.1 < (2 : Int32) then some ((0 : Int32), o43.2.1, o43.2.2) else (if (o43.2.2 (Int32.toNatClampNeg (1 : Int32))) ≤ 0 then (if o43.2.1 = ml then some ((0 : Int32), o43.2.1, o43.2.2) else chk (aix o43.2.1 60) ((if (mt (Int32.toNatClampNeg o43.2.1)) = (59 : Int32) then Option.bind (f_X6_halves (upd (upd o43.2.2 (Int32.toNatClampNeg (0 : Int32)) o43.1) (Int32.toNatClampNeg (1 : Int32)) (((upd o43.2.2 (Int32.toNatClampNeg (0 : Int32)) o43.1) (Int32.toNatClampNeg (1 : Int32))) + (1 : Int32)))) (fun r49 => (if (5 : Int32) < r49 then some ((0 : Int32), (o43.2.1 + (1 : Int32)), (upd (upd o43.2.2 (Int32.toNatClampNeg (0 : Int32)) o43.1) (Int32.toNatClampNeg (1 : Int32)) (((upd o43.2.2 (Int32.toNatClampNeg (0 : Int32)) o43.1) (Int32.toNatClampNeg (1 : Int32))) + (1 : Int32)))) else Option.bind (f_X6_doors (upd (upd o43.2.2 (Int32.toNatClampNeg (0 : Int32)) o43.1) (Int32.toNatClampNeg (1 : Int32)) (((upd o43.2.2 (Int32.toNatClampNeg (0 : Int32)) o43.1) (Int32.toNatClampNeg (1 : Int32))) + (1 : Int32)))) (fun r51 => (if (4 : Int32) < r51 then some ((0 : Int32), (o43.2.1 + (1 : Int32)), (upd (upd o43.2.2 (Int32.toNatClampNeg (0 : Int32)) o43.1) (Int32.toNatClampNeg (1 : Int32)) (((upd o43.2.2 (Int32.toNatClampNeg (0 : Int32)) o43.1) (Int32.toNatClampNeg (1 : Int32))) + (1 : Int32)))) else some ((1 : Int32), (o43.2.1 + (1 : Int32)), (upd (upd o43.2.2 (Int32.toNatClampNeg (0 : Int32)) o43.1) (Int32.toNatClampNeg (1 : Int32)) (((upd o43.2.2 (Int32.toNatClampNeg (0 : Int32)) o43.1) (Int32.toNatClampNeg (1 : Int32))) + (1 : Int32)))))))) else some ((0 : Int32), o43.2.1, o43.2.2)))) else (if o43.1 < j34 then some ((0 : Int32), o43.2.1, o43.2.2) else (if o43.2.1 = ml then some ((0 : Int32), o43.2.1, o43.2.2) else chk (aix o43.2.1 60) ((if (mt (Int32.toNatClampNeg o43.2.1)) = (59 : Int32) then Option.bind (f_X6_halves (upd (upd o43.2.2 (Int32.toNatClampNeg (0 : Int32)) o43.1) (Int32.toNatClampNeg (1 : Int32)) (((upd o43.2.2 (Int32.toNatClampNeg (0 : Int32)) o43.1) (Int32.toNatClampNeg (1 : Int32))) + (1 : Int32)))) (fun r57 => (if (5 : Int32) < r57 then some ((0 : Int32), (o43.2.1 + (1 : Int32)), (upd (upd o43.2.2 (Int32.toNatClampNeg (0 : Int32)) o43.1) (Int32.toNatClampNeg (1 : Int32)) (((upd o43.2.2 (Int32.toNatClampNeg (0 : Int32)) o43.1) (Int32.toNatClampNeg (1 : Int32))) + (1 : Int32)))) else Option.bind (f_X6_doors (upd (upd o43.2.2 (Int32.toNatClampNeg (0 : Int32)) o43.1) (Int32.toNatClampNeg (1 : Int32)) (((upd o43.2.2 (Int32.toNatClampNeg (0 : Int32)) o43.1) (Int32.toNatClampNeg (1 : Int32))) + (1 : Int32)))) (fun r59 => (if (4 : Int32) < r59 then some ((0 : Int32), (o43.2.1 + (1 : Int32)), (upd (upd o43.2.2 (Int32.toNatClampNeg (0 : Int32)) o43.1) (Int32.toNatClampNeg (1 : Int32)) (((upd o43.2.2 (Int32.toNatClampNeg (0 : Int32)) o43.1) (Int32.toNatClampNeg (1 : Int32))) + (1 : Int32)))) else some ((1 : Int32), (o43.2.1 + (1 : Int32)), (upd (upd o43.2.2 (Int32.toNatClampNeg (0 : Int32)) o43.1) (Int32.toNatClampNeg (1 : Int32)) (((upd o43.2.2 (Int32.toNatClampNeg (0 : Int32)) o43.1) (Int32.toNatClampNeg (1 : Int32))) + (1 : Int32)))))))) else some ((0 : Int32), o43.2.1, o43.2.2)))))))))) else some ((0 : Int32), ms, mr)))
set_option maxHeartbeats 4000000 in
set_option maxRecDepth 100000 in
theorem b_X6_takesRow {p : Program} {l : Launch} {e : Env} {s : State} {m : MethodId} {args : Array Value} {below : List Frame} {meth : Method} {c : Code} {Q : State → Prop} {A : Nat → Prop} {H : Heap} {locs : List Loc} {D : va_G} {cI cJ cZ cQ : ClassId} {qs : Nat × Nat × Nat} {hMo hMn hMr hMa hMp hMt hMd hMk hMy hMl hMw hMi hMx : Nat} {mc : Int32} {ml : Int32} {ms : Int32} {mm : Int32} {mu : Int64} {mv : Int64} {me : Int32} {mr : Nat → Int32} {mt : Nat → Int32} {out : Int32 × Int32 × (Nat → Int32)} (F : CallFix p m c cX6_takesRow 4 s args wsX6_takesRow RX6) (hG : kW D (ty4 cI cJ cZ cQ) qs A s s.heap) (hA : ∀ q : Nat, s.heap.size ≤ q → A q) (hP : va_P D vwCl [(hMo, .inr (6, [.ref hMn, .ref hMr, .ref hMa, .ref hMp, .int mc, .ref hMt, .int ml, .int ms, .ref hMd, .ref hMk, .ref hMy, .int mm, .ref hMl, .ref hMw, .long mu, .long mv, .ref hMi, .ref hMx, .int me])), (hMr, .inl (cI, 22, .inl mr)), (hMt, .inl (cI, 60, .inl mt))] H) (hD : va_D A [(hMo, .inr (6, [.ref hMn, .ref hMr, .ref hMa, .ref hMp, .int mc, .ref hMt, .int ml, .int ms, .ref hMd, .ref hMk, .ref hMy, .int mm, .ref hMl, .ref hMw, .long mu, .long mv, .ref hMi, .ref hMx, .int me])), (hMr, .inl (cI, 22, .inl mr)), (hMt, .inl (cI, 60, .inl mt))]) (hS : va_S A s.heap H locs) (hf : f_X6_takesRow ml ms mr mt = some out) (hret : ∀ (pc : Nat) (H : Heap) (locs : List Loc) (ls : Array Slot), decode cX6_takesRow pc = .ok (.ireturn, 1) → narrow .boolean (.int out.1) = .int out.1 → va_P D vwCl [(hMo, .inr (6, [.ref hMn, .ref hMr, .ref hMa, .ref hMp, .int mc, .ref hMt, .int ml, .int out.2.1, .ref hMd, .ref hMk, .ref hMy, .int mm, .ref hMl, .ref hMw, .long mu, .long mv, .ref hMi, .ref hMx, .int me])), (hMr, .inl (cI, 22, .inl out.2.2)), (hMt, .inl (cI, 60, .inl mt))] H → va_D A [(hMo, .inr (6, [.ref hMn, .ref hMr, .ref hMa, .ref hMp, .int mc, .ref hMt, .int ml, .int out.2.1, .ref hMd, .ref hMk, .ref hMy, .int mm, .ref hMl, .ref hMw, .long mu, .long mv, .ref hMi, .ref hMx, .int me])), (hMr, .inl (cI, 22, .inl out.2.2)), (hMt, .inl (cI, 60, .inl mt))] → va_S A s.heap H locs → W p l e { frames := 3, cells := 0, slots := 0, locals := 64 } s m args below meth c H locs 0 0 Q (F0 m pc ls [.int out.1])) {ls : Array Slot} (hl : lv_has ls 4 [(0, .ref hMo)]) : W p l e { frames := 3, cells := 0, slots := 0, locals := 64 } s m args below meth c H locs 0 0 Q (F0 m 0 ls []) := by
  have hx := F.1
  have hb := F.2.1
  have hown := F.2.2.2.1
  have hts := F.2.2.2.2
  have hK := hG.1.1
  rw [f_X6_takesRow] at hf
  refine lv_aload_n hx hb dX6_takesRow_0 rfl (lv_at hl 0 rfl) ?_
  refine va_get (D := D) (ci := 6) (v := .ref hMt) (C := RX6) (T := TX6) (N := 19) hx hb hts ku_X6_takesRow_X6 hown hK hP 0 rfl rfl 5 (by decide) (hts _ kw_X6_takesRow_1) (fun _ h9 => h9) rfl dX6_takesRow_1 ?_
  refine lv_aload_n hx hb dX6_takesRow_4 rfl (lv_at hl 0 rfl) ?_
  refine va_get (D := D) (ci := 6) (v := .int ms) (C := RX6) (T := TX6) (N := 19) hx hb hts ku_X6_takesRow_X6 hown hK hP 0 rfl rfl 7 (by decide) (hts _ kw_X6_takesRow_2) (fun _ h9 => h9) rfl dX6_takesRow_5 ?_
  obtain ⟨k31, hf⟩ := fp_c hf
  refine va_iald hx hb hK hP 2 0 rfl rfl k31 dX6_takesRow_8 ?_
  refine lv_bipush (v := (114 : Int32)) hx hb dX6_takesRow_9 (by decide) ?_
  refine lv_icmp_ne (tgt := 24) hx hb dX6_takesRow_11 (by decide) (fun c32 => ?_) (fun c32 => ?_)
  · have hf := fp_f hf c32
    refine lv_iconst (v := (0 : Int32)) hx hb dX6_takesRow_24 (by decide) ?_
    cases hf
    exact hret _ _ _ _ dX6_takesRow_25 nar_b0 hP hD hS
  · have hf := fp_t hf c32
    refine lv_aload_n hx hb dX6_takesRow_14 rfl (lv_at hl 0 rfl) ?_
    refine va_get (D := D) (ci := 6) (v := .ref hMr) (C := RX6) (T := TX6) (N := 19) hx hb hts ku_X6_takesRow_X6 hown hK hP 0 rfl rfl 1 (by decide) (hts _ kw_X6_takesRow_3) (fun _ h9 => h9) rfl dX6_takesRow_15 ?_
    refine lv_iconst (v := (1 : Int32)) hx hb dX6_takesRow_18 (by decide) ?_
    refine va_iald hx hb hK hP 1 0 rfl rfl (show aix (1 : Int32) 22 by decide) dX6_takesRow_19 ?_
    refine lv_iconst (v := (4 : Int32)) hx hb dX6_takesRow_20 (by decide) ?_
    refine lv_icmp_ne (tgt := 26) hx hb dX6_takesRow_21 (by decide) (fun c33 => ?_) (fun c33 => ?_)
    · have hf := fp_f hf c33
      refine lv_aload_n hx hb dX6_takesRow_26 rfl (lv_at hl 0 rfl) ?_
      refine lv_dup hx hb dX6_takesRow_27 rfl ?_
      refine va_get (D := D) (ci := 6) (v := .int ms) (C := RX6) (T := TX6) (N := 19) hx hb hts ku_X6_takesRow_X6 hown hK hP 0 rfl rfl 7 (by decide) (hts _ kw_X6_takesRow_2) (fun _ h9 => h9) rfl dX6_takesRow_28 ?_
      refine lv_iconst (v := (1 : Int32)) hx hb dX6_takesRow_31 (by decide) ?_
      refine lv_iadd hx hb dX6_takesRow_32 ?_
      refine va_put (D := D) (ci := 6) (v := .int (ms + (1 : Int32))) (ty := .int) (C := RX6) (T := TX6) (N := 19) hx hb hts ku_X6_takesRow_X6 tyX6 tyX6_ok nmX6 hown hK hP hD hS 0 rfl rfl 7 (by decide) (hts _ kw_X6_takesRow_2) (fun _ h9 => h9) rfl (by decide +kernel) rfl rfl (Nat.le_of_ble_eq_true rfl) dX6_takesRow_33 (fun H locs hP hD hS => ?_)
      have hP : va_P D vwCl [(hMo, .inr (6, [.ref hMn, .ref hMr, .ref hMa, .ref hMp, .int mc, .ref hMt, .int ml, .int (ms + (1 : Int32)), .ref hMd, .ref hMk, .ref hMy, .int mm, .ref hMl, .ref hMw, .long mu, .long mv, .ref hMi, .ref hMx, .int me])), (hMr, .inl (cI, 22, .inl mr)), (hMt, .inl (cI, 60, .inl mt))] H := hP
      have hD : va_D A [(hMo, .inr (6, [.ref hMn, .ref hMr, .ref hMa, .ref hMp, .int mc, .ref hMt, .int ml, .int (ms + (1 : Int32)), .ref hMd, .ref hMk, .ref hMy, .int mm, .ref hMl, .ref hMw, .long mu, .long mv, .ref hMi, .ref hMx, .int me])), (hMr, .inl (cI, 22, .inl mr)), (hMt, .inl (cI, 60, .inl mt))] := hD
      refine lv_iconst (v := (0 : Int32)) hx hb dX6_takesRow_36 (by decide) ?_
      refine lv_istore_n (lv' := [(1, .int (0 : Int32)), (0, .ref hMo)]) hx hb dX6_takesRow_37 rfl hl (by decide) rfl (fun ls hl => ?_)
      refine lv_aload_n hx hb dX6_takesRow_38 rfl (lv_at hl 1 rfl) ?_
      refine va_get (D := D) (ci := 6) (v := .ref hMr) (C := RX6) (T := TX6) (N := 19) hx hb hts ku_X6_takesRow_X6 hown hK hP 0 rfl rfl 1 (by decide) (hts _ kw_X6_takesRow_3) (fun _ h9 => h9) rfl dX6_takesRow_39 ?_
      refine lv_iconst (v := (1 : Int32)) hx hb dX6_takesRow_42 (by decide) ?_
      refine va_iald hx hb hK hP 1 0 rfl rfl (show aix (1 : Int32) 22 by decide) dX6_takesRow_43 ?_
      obtain ⟨j34, ej34, hf⟩ := fp_b hf
      have hj35 : ∀ (H : Heap) (locs : List Loc) (ls : Array Slot), va_P D vwCl [(hMo, .inr (6, [.ref hMn, .ref hMr, .ref hMa, .ref hMp, .int mc, .ref hMt, .int ml, .int (ms + (1 : Int32)), .ref hMd, .ref hMk, .ref hMy, .int mm, .ref hMl, .ref hMw, .long mu, .long mv, .ref hMi, .ref hMx, .int me])), (hMr, .inl (cI, 22, .inl mr)), (hMt, .inl (cI, 60, .inl mt))] H → va_D A [(hMo, .inr (6, [.ref hMn, .ref hMr, .ref hMa, .ref hMp, .int mc, .ref hMt, .int ml, .int (ms + (1 : Int32)), .ref hMd, .ref hMk, .ref hMy, .int mm, .ref hMl, .ref hMw, .long mu, .long mv, .ref hMi, .ref hMx, .int me])), (hMr, .inl (cI, 22, .inl mr)), (hMt, .inl (cI, 60, .inl mt))] → va_S A s.heap H locs → lv_has ls 4 [(0, .ref hMo), (1, .int (0 : Int32))] → W p l e { frames := 3, cells := 0, slots := 0, locals := 64 } s m args below meth c H locs 0 0 Q (F0 m 57 ls [.int j34]) := by
        intro H locs ls hP hD hS hl
        refine lv_istore_n (lv' := [(2, .int j34), (0, .ref hMo), (1, .int (0 : Int32))]) hx hb dX6_takesRow_57 rfl hl (by decide) rfl (fun ls hl => ?_)
        refine lv_iconst (v := (2 : Int32)) hx hb dX6_takesRow_58 (by decide) ?_
        refine lv_aload_n hx hb dX6_takesRow_59 rfl (lv_at hl 1 rfl) ?_
        refine va_get (D := D) (ci := 6) (v := .ref hMr) (C := RX6) (T := TX6) (N := 19) hx hb hts ku_X6_takesRow_X6 hown hK hP 0 rfl rfl 1 (by decide) (hts _ kw_X6_takesRow_3) (fun _ h9 => h9) rfl dX6_takesRow_60 ?_
        refine lv_iconst (v := (0 : Int32)) hx hb dX6_takesRow_63 (by decide) ?_
        refine va_iald hx hb hK hP 1 0 rfl rfl (show aix (0 : Int32) 22 by decide) dX6_takesRow_64 ?_
        refine lv_aload_n hx hb dX6_takesRow_65 rfl (lv_at hl 1 rfl) ?_
        refine va_get (D := D) (ci := 6) (v := .ref hMr) (C := RX6) (T := TX6) (N := 19) hx hb hts ku_X6_takesRow_X6 hown hK hP 0 rfl rfl 1 (by decide) (hts _ kw_X6_takesRow_3) (fun _ h9 => h9) rfl dX6_takesRow_66 ?_
        refine lv_iconst (v := (1 : Int32)) hx hb dX6_takesRow_69 (by decide) ?_
        refine va_iald hx hb hK hP 1 0 rfl rfl (show aix (1 : Int32) 22 by decide) dX6_takesRow_70 ?_
        refine lv_imul hx hb dX6_takesRow_71 ?_
        refine lv_iadd hx hb dX6_takesRow_72 ?_
        refine lv_istore_n (lv' := [(3, .int ((2 : Int32) + ((mr (Int32.toNatClampNeg (0 : Int32))) * (mr (Int32.toNatClampNeg (1 : Int32)))))), (2, .int j34), (0, .ref hMo), (1, .int (0 : Int32))]) hx hb dX6_takesRow_73 rfl hl (by decide) rfl (fun ls hl => ?_)
        obtain ⟨o43, eo43, hf⟩ := fp_b hf
        refine lp_X6_takesRow_74 F hG hA _ _ eo43 hP hD hS (lv_sub hl [2, 3, 1, 0] rfl) (fun H locs ls hP hD hS hl => ?_)
        refine lv_iload_n hx hb dX6_takesRow_143 rfl (lv_at hl 1 rfl) ?_
        refine lv_iconst (v := (2 : Int32)) hx hb dX6_takesRow_144 (by decide) ?_
        refine lv_icmp_lt (tgt := 187) hx hb dX6_takesRow_145 (by decide) (fun c44 => ?_) (fun c44 => ?_)
        · have hf := fp_t hf c44
          refine lv_iconst (v := (0 : Int32)) hx hb dX6_takesRow_187 (by decide) ?_
          cases hf
          exact hret _ _ _ _ dX6_takesRow_188 nar_b0 hP hD hS
        · have hf := fp_f hf c44
          refine lv_aload_n hx hb dX6_takesRow_148 rfl (lv_at hl 0 rfl) ?_
          refine va_get (D := D) (ci := 6) (v := .ref hMr) (C := RX6) (T := TX6) (N := 19) hx hb hts ku_X6_takesRow_X6 hown hK hP 0 rfl rfl 1 (by decide) (hts _ kw_X6_takesRow_3) (fun _ h9 => h9) rfl dX6_takesRow_149 ?_
          refine lv_iconst (v := (1 : Int32)) hx hb dX6_takesRow_152 (by decide) ?_
          refine va_iald hx hb hK hP 1 0 rfl rfl (show aix (1 : Int32) 22 by decide) dX6_takesRow_153 ?_
          refine lv_if_le (tgt := 162) hx hb dX6_takesRow_154 (by decide) (fun c45 => ?_) (fun c45 => ?_)
          · have hf := fp_t hf c45
            refine lv_aload_n hx hb dX6_takesRow_162 rfl (lv_at hl 0 rfl) ?_
            refine va_get (D := D) (ci := 6) (v := .int o43.2.1) (C := RX6) (T := TX6) (N := 19) hx hb hts ku_X6_takesRow_X6 hown hK hP 0 rfl rfl 7 (by decide) (hts _ kw_X6_takesRow_2) (fun _ h9 => h9) rfl dX6_takesRow_163 ?_
            refine lv_aload_n hx hb dX6_takesRow_166 rfl (lv_at hl 0 rfl) ?_
            refine va_get (D := D) (ci := 6) (v := .int ml) (C := RX6) (T := TX6) (N := 19) hx hb hts ku_X6_takesRow_X6 hown hK hP 0 rfl rfl 6 (by decide) (hts _ kw_X6_takesRow_4) (fun _ h9 => h9) rfl dX6_takesRow_167 ?_
            refine lv_icmp_eq (tgt := 187) hx hb dX6_takesRow_170 (by decide) (fun c46 => ?_) (fun c46 => ?_)
            · have hf := fp_t hf c46
              refine lv_iconst (v := (0 : Int32)) hx hb dX6_takesRow_187 (by decide) ?_
              cases hf
              exact hret _ _ _ _ dX6_takesRow_188 nar_b0 hP hD hS
            · have hf := fp_f hf c46
              refine lv_aload_n hx hb dX6_takesRow_173 rfl (lv_at hl 0 rfl) ?_
              refine va_get (D := D) (ci := 6) (v := .ref hMt) (C := RX6) (T := TX6) (N := 19) hx hb hts ku_X6_takesRow_X6 hown hK hP 0 rfl rfl 5 (by decide) (hts _ kw_X6_takesRow_1) (fun _ h9 => h9) rfl dX6_takesRow_174 ?_
              refine lv_aload_n hx hb dX6_takesRow_177 rfl (lv_at hl 0 rfl) ?_
              refine va_get (D := D) (ci := 6) (v := .int o43.2.1) (C := RX6) (T := TX6) (N := 19) hx hb hts ku_X6_takesRow_X6 hown hK hP 0 rfl rfl 7 (by decide) (hts _ kw_X6_takesRow_2) (fun _ h9 => h9) rfl dX6_takesRow_178 ?_
              obtain ⟨k47, hf⟩ := fp_c hf
              refine va_iald hx hb hK hP 2 0 rfl rfl k47 dX6_takesRow_181 ?_
              refine lv_bipush (v := (59 : Int32)) hx hb dX6_takesRow_182 (by decide) ?_
              refine lv_icmp_eq (tgt := 189) hx hb dX6_takesRow_184 (by decide) (fun c48 => ?_) (fun c48 => ?_)
              · have hf := fp_t hf c48
                refine lv_aload_n hx hb dX6_takesRow_189 rfl (lv_at hl 0 rfl) ?_
                refine lv_dup hx hb dX6_takesRow_190 rfl ?_
                refine va_get (D := D) (ci := 6) (v := .int o43.2.1) (C := RX6) (T := TX6) (N := 19) hx hb hts ku_X6_takesRow_X6 hown hK hP 0 rfl rfl 7 (by decide) (hts _ kw_X6_takesRow_2) (fun _ h9 => h9) rfl dX6_takesRow_191 ?_
                refine lv_iconst (v := (1 : Int32)) hx hb dX6_takesRow_194 (by decide) ?_
                refine lv_iadd hx hb dX6_takesRow_195 ?_
                refine va_put (D := D) (ci := 6) (v := .int (o43.2.1 + (1 : Int32))) (ty := .int) (C := RX6) (T := TX6) (N := 19) hx hb hts ku_X6_takesRow_X6 tyX6 tyX6_ok nmX6 hown hK hP hD hS 0 rfl rfl 7 (by decide) (hts _ kw_X6_takesRow_2) (fun _ h9 => h9) rfl (by decide +kernel) rfl rfl (Nat.le_of_ble_eq_true rfl) dX6_takesRow_196 (fun H locs hP hD hS => ?_)
                have hP : va_P D vwCl [(hMo, .inr (6, [.ref hMn, .ref hMr, .ref hMa, .ref hMp, .int mc, .ref hMt, .int ml, .int (o43.2.1 + (1 : Int32)), .ref hMd, .ref hMk, .ref hMy, .int mm, .ref hMl, .ref hMw, .long mu, .long mv, .ref hMi, .ref hMx, .int me])), (hMr, .inl (cI, 22, .inl o43.2.2)), (hMt, .inl (cI, 60, .inl mt))] H := hP
                have hD : va_D A [(hMo, .inr (6, [.ref hMn, .ref hMr, .ref hMa, .ref hMp, .int mc, .ref hMt, .int ml, .int (o43.2.1 + (1 : Int32)), .ref hMd, .ref hMk, .ref hMy, .int mm, .ref hMl, .ref hMw, .long mu, .long mv, .ref hMi, .ref hMx, .int me])), (hMr, .inl (cI, 22, .inl o43.2.2)), (hMt, .inl (cI, 60, .inl mt))] := hD
                refine lv_aload_n hx hb dX6_takesRow_199 rfl (lv_at hl 0 rfl) ?_
                refine va_get (D := D) (ci := 6) (v := .ref hMr) (C := RX6) (T := TX6) (N := 19) hx hb hts ku_X6_takesRow_X6 hown hK hP 0 rfl rfl 1 (by decide) (hts _ kw_X6_takesRow_3) (fun _ h9 => h9) rfl dX6_takesRow_200 ?_
                refine lv_iconst (v := (0 : Int32)) hx hb dX6_takesRow_203 (by decide) ?_
                refine lv_iload_n hx hb dX6_takesRow_204 rfl (lv_at hl 1 rfl) ?_
                refine va_iast hx hb hK hP hD hS 1 0 rfl rfl (show aix (0 : Int32) 22 by decide) dX6_takesRow_205 (fun H locs hP hD hS => ?_)
                have hP : va_P D vwCl [(hMo, .inr (6, [.ref hMn, .ref hMr, .ref hMa, .ref hMp, .int mc, .ref hMt, .int ml, .int (o43.2.1 + (1 : Int32)), .ref hMd, .ref hMk, .ref hMy, .int mm, .ref hMl, .ref hMw, .long mu, .long mv, .ref hMi, .ref hMx, .int me])), (hMr, .inl (cI, 22, .inl (upd o43.2.2 (Int32.toNatClampNeg (0 : Int32)) o43.1))), (hMt, .inl (cI, 60, .inl mt))] H := hP
                have hD : va_D A [(hMo, .inr (6, [.ref hMn, .ref hMr, .ref hMa, .ref hMp, .int mc, .ref hMt, .int ml, .int (o43.2.1 + (1 : Int32)), .ref hMd, .ref hMk, .ref hMy, .int mm, .ref hMl, .ref hMw, .long mu, .long mv, .ref hMi, .ref hMx, .int me])), (hMr, .inl (cI, 22, .inl (upd o43.2.2 (Int32.toNatClampNeg (0 : Int32)) o43.1))), (hMt, .inl (cI, 60, .inl mt))] := hD
                refine lv_aload_n hx hb dX6_takesRow_206 rfl (lv_at hl 0 rfl) ?_
                refine va_get (D := D) (ci := 6) (v := .ref hMr) (C := RX6) (T := TX6) (N := 19) hx hb hts ku_X6_takesRow_X6 hown hK hP 0 rfl rfl 1 (by decide) (hts _ kw_X6_takesRow_3) (fun _ h9 => h9) rfl dX6_takesRow_207 ?_
                refine lv_iconst (v := (1 : Int32)) hx hb dX6_takesRow_210 (by decide) ?_
                refine lv_dup2_11 hx hb dX6_takesRow_211 rfl rfl ?_
                refine va_iald hx hb hK hP 1 0 rfl rfl (show aix (1 : Int32) 22 by decide) dX6_takesRow_212 ?_
                refine lv_iconst (v := (1 : Int32)) hx hb dX6_takesRow_213 (by decide) ?_
                refine lv_iadd hx hb dX6_takesRow_214 ?_
                refine va_iast hx hb hK hP hD hS 1 0 rfl rfl (show aix (1 : Int32) 22 by decide) dX6_takesRow_215 (fun H locs hP hD hS => ?_)
                have hP : va_P D vwCl [(hMo, .inr (6, [.ref hMn, .ref hMr, .ref hMa, .ref hMp, .int mc, .ref hMt, .int ml, .int (o43.2.1 + (1 : Int32)), .ref hMd, .ref hMk, .ref hMy, .int mm, .ref hMl, .ref hMw, .long mu, .long mv, .ref hMi, .ref hMx, .int me])), (hMr, .inl (cI, 22, .inl (upd (upd o43.2.2 (Int32.toNatClampNeg (0 : Int32)) o43.1) (Int32.toNatClampNeg (1 : Int32)) (((upd o43.2.2 (Int32.toNatClampNeg (0 : Int32)) o43.1) (Int32.toNatClampNeg (1 : Int32))) + (1 : Int32))))), (hMt, .inl (cI, 60, .inl mt))] H := hP
                have hD : va_D A [(hMo, .inr (6, [.ref hMn, .ref hMr, .ref hMa, .ref hMp, .int mc, .ref hMt, .int ml, .int (o43.2.1 + (1 : Int32)), .ref hMd, .ref hMk, .ref hMy, .int mm, .ref hMl, .ref hMw, .long mu, .long mv, .ref hMi, .ref hMx, .int me])), (hMr, .inl (cI, 22, .inl (upd (upd o43.2.2 (Int32.toNatClampNeg (0 : Int32)) o43.1) (Int32.toNatClampNeg (1 : Int32)) (((upd o43.2.2 (Int32.toNatClampNeg (0 : Int32)) o43.1) (Int32.toNatClampNeg (1 : Int32))) + (1 : Int32))))), (hMt, .inl (cI, 60, .inl mt))] := hD
                refine lv_aload_n hx hb dX6_takesRow_216 rfl (lv_at hl 0 rfl) ?_
                refine va_get (D := D) (ci := 6) (v := .ref hMr) (C := RX6) (T := TX6) (N := 19) hx hb hts ku_X6_takesRow_X6 hown hK hP 0 rfl rfl 1 (by decide) (hts _ kw_X6_takesRow_3) (fun _ h9 => h9) rfl dX6_takesRow_217 ?_
                obtain ⟨r49, er49, hf⟩ := fp_b hf
                refine RoI.callS (c_X6_halves (l := l) (D := D) (cI := cI) (cJ := cJ) (cZ := cZ) (cQ := cQ) (qs := qs) er49) F (va_cwS 1 hts gX6_takesRow_X6_halves rfl rfl rfl yd_X6_halves ⟨Nat.le_of_ble_eq_true rfl, Nat.le_of_ble_eq_true rfl⟩) (hG.r hS) hP [1] rfl rfl hl.1 rfl (Nat.le_of_ble_eq_true rfl) dX6_takesRow_220 ⟨Nat.zero_le _, Nat.zero_le _⟩ ?_
                refine lv_iconst (v := (5 : Int32)) hx hb dX6_takesRow_223 (by decide) ?_
                refine lv_icmp_gt (tgt := 242) hx hb dX6_takesRow_224 (by decide) (fun c50 => ?_) (fun c50 => ?_)
                · have hf := fp_t hf c50
                  refine lv_iconst (v := (0 : Int32)) hx hb dX6_takesRow_242 (by decide) ?_
                  cases hf
                  exact hret _ _ _ _ dX6_takesRow_243 nar_b0 hP hD hS
                · have hf := fp_f hf c50
                  refine lv_aload_n hx hb dX6_takesRow_227 rfl (lv_at hl 0 rfl) ?_
                  refine va_get (D := D) (ci := 6) (v := .ref hMr) (C := RX6) (T := TX6) (N := 19) hx hb hts ku_X6_takesRow_X6 hown hK hP 0 rfl rfl 1 (by decide) (hts _ kw_X6_takesRow_3) (fun _ h9 => h9) rfl dX6_takesRow_228 ?_
                  obtain ⟨r51, er51, hf⟩ := fp_b hf
                  refine RoI.callS (c_X6_doors (l := l) (D := D) (cI := cI) (cJ := cJ) (cZ := cZ) (cQ := cQ) (qs := qs) er51) F (va_cwS 1 hts gX6_takesRow_X6_doors rfl rfl rfl yd_X6_doors ⟨Nat.le_of_ble_eq_true rfl, Nat.le_of_ble_eq_true rfl⟩) (hG.r hS) hP [1] rfl rfl hl.1 rfl (Nat.le_of_ble_eq_true rfl) dX6_takesRow_231 ⟨Nat.zero_le _, Nat.zero_le _⟩ ?_
                  refine lv_iconst (v := (4 : Int32)) hx hb dX6_takesRow_234 (by decide) ?_
                  refine lv_icmp_gt (tgt := 242) hx hb dX6_takesRow_235 (by decide) (fun c52 => ?_) (fun c52 => ?_)
                  · have hf := fp_t hf c52
                    refine lv_iconst (v := (0 : Int32)) hx hb dX6_takesRow_242 (by decide) ?_
                    cases hf
                    exact hret _ _ _ _ dX6_takesRow_243 nar_b0 hP hD hS
                  · have hf := fp_f hf c52
                    refine lv_iconst (v := (1 : Int32)) hx hb dX6_takesRow_238 (by decide) ?_
                    refine lv_goto (tgt := 243) hx hb dX6_takesRow_239 (by decide) ?_
                    cases hf
                    exact hret _ _ _ _ dX6_takesRow_243 nar_b1 hP hD hS
              · have hf := fp_f hf c48
                refine lv_iconst (v := (0 : Int32)) hx hb dX6_takesRow_187 (by decide) ?_
                cases hf
                exact hret _ _ _ _ dX6_takesRow_188 nar_b0 hP hD hS
          · have hf := fp_f hf c45
            refine lv_iload_n hx hb dX6_takesRow_157 rfl (lv_at hl 1 rfl) ?_
            refine lv_iload_n hx hb dX6_takesRow_158 rfl (lv_at hl 2 rfl) ?_
            refine lv_icmp_lt (tgt := 187) hx hb dX6_takesRow_159 (by decide) (fun c53 => ?_) (fun c53 => ?_)
            · have hf := fp_t hf c53
              refine lv_iconst (v := (0 : Int32)) hx hb dX6_takesRow_187 (by decide) ?_
              cases hf
              exact hret _ _ _ _ dX6_takesRow_188 nar_b0 hP hD hS
            · have hf := fp_f hf c53
              refine lv_aload_n hx hb dX6_takesRow_162 rfl (lv_at hl 0 rfl) ?_
              refine va_get (D := D) (ci := 6) (v := .int o43.2.1) (C := RX6) (T := TX6) (N := 19) hx hb hts ku_X6_takesRow_X6 hown hK hP 0 rfl rfl 7 (by decide) (hts _ kw_X6_takesRow_2) (fun _ h9 => h9) rfl dX6_takesRow_163 ?_
              refine lv_aload_n hx hb dX6_takesRow_166 rfl (lv_at hl 0 rfl) ?_
              refine va_get (D := D) (ci := 6) (v := .int ml) (C := RX6) (T := TX6) (N := 19) hx hb hts ku_X6_takesRow_X6 hown hK hP 0 rfl rfl 6 (by decide) (hts _ kw_X6_takesRow_4) (fun _ h9 => h9) rfl dX6_takesRow_167 ?_
              refine lv_icmp_eq (tgt := 187) hx hb dX6_takesRow_170 (by decide) (fun c54 => ?_) (fun c54 => ?_)
              · have hf := fp_t hf c54
                refine lv_iconst (v := (0 : Int32)) hx hb dX6_takesRow_187 (by decide) ?_
                cases hf
                exact hret _ _ _ _ dX6_takesRow_188 nar_b0 hP hD hS
              · have hf := fp_f hf c54
                refine lv_aload_n hx hb dX6_takesRow_173 rfl (lv_at hl 0 rfl) ?_
                refine va_get (D := D) (ci := 6) (v := .ref hMt) (C := RX6) (T := TX6) (N := 19) hx hb hts ku_X6_takesRow_X6 hown hK hP 0 rfl rfl 5 (by decide) (hts _ kw_X6_takesRow_1) (fun _ h9 => h9) rfl dX6_takesRow_174 ?_
                refine lv_aload_n hx hb dX6_takesRow_177 rfl (lv_at hl 0 rfl) ?_
                refine va_get (D := D) (ci := 6) (v := .int o43.2.1) (C := RX6) (T := TX6) (N := 19) hx hb hts ku_X6_takesRow_X6 hown hK hP 0 rfl rfl 7 (by decide) (hts _ kw_X6_takesRow_2) (fun _ h9 => h9) rfl dX6_takesRow_178 ?_
                obtain ⟨k55, hf⟩ := fp_c hf
                refine va_iald hx hb hK hP 2 0 rfl rfl k55 dX6_takesRow_181 ?_
                refine lv_bipush (v := (59 : Int32)) hx hb dX6_takesRow_182 (by decide) ?_
                refine lv_icmp_eq (tgt := 189) hx hb dX6_takesRow_184 (by decide) (fun c56 => ?_) (fun c56 => ?_)
                · have hf := fp_t hf c56
                  refine lv_aload_n hx hb dX6_takesRow_189 rfl (lv_at hl 0 rfl) ?_
                  refine lv_dup hx hb dX6_takesRow_190 rfl ?_
                  refine va_get (D := D) (ci := 6) (v := .int o43.2.1) (C := RX6) (T := TX6) (N := 19) hx hb hts ku_X6_takesRow_X6 hown hK hP 0 rfl rfl 7 (by decide) (hts _ kw_X6_takesRow_2) (fun _ h9 => h9) rfl dX6_takesRow_191 ?_
                  refine lv_iconst (v := (1 : Int32)) hx hb dX6_takesRow_194 (by decide) ?_
                  refine lv_iadd hx hb dX6_takesRow_195 ?_
                  refine va_put (D := D) (ci := 6) (v := .int (o43.2.1 + (1 : Int32))) (ty := .int) (C := RX6) (T := TX6) (N := 19) hx hb hts ku_X6_takesRow_X6 tyX6 tyX6_ok nmX6 hown hK hP hD hS 0 rfl rfl 7 (by decide) (hts _ kw_X6_takesRow_2) (fun _ h9 => h9) rfl (by decide +kernel) rfl rfl (Nat.le_of_ble_eq_true rfl) dX6_takesRow_196 (fun H locs hP hD hS => ?_)
                  have hP : va_P D vwCl [(hMo, .inr (6, [.ref hMn, .ref hMr, .ref hMa, .ref hMp, .int mc, .ref hMt, .int ml, .int (o43.2.1 + (1 : Int32)), .ref hMd, .ref hMk, .ref hMy, .int mm, .ref hMl, .ref hMw, .long mu, .long mv, .ref hMi, .ref hMx, .int me])), (hMr, .inl (cI, 22, .inl o43.2.2)), (hMt, .inl (cI, 60, .inl mt))] H := hP
                  have hD : va_D A [(hMo, .inr (6, [.ref hMn, .ref hMr, .ref hMa, .ref hMp, .int mc, .ref hMt, .int ml, .int (o43.2.1 + (1 : Int32)), .ref hMd, .ref hMk, .ref hMy, .int mm, .ref hMl, .ref hMw, .long mu, .long mv, .ref hMi, .ref hMx, .int me])), (hMr, .inl (cI, 22, .inl o43.2.2)), (hMt, .inl (cI, 60, .inl mt))] := hD
                  refine lv_aload_n hx hb dX6_takesRow_199 rfl (lv_at hl 0 rfl) ?_
                  refine va_get (D := D) (ci := 6) (v := .ref hMr) (C := RX6) (T := TX6) (N := 19) hx hb hts ku_X6_takesRow_X6 hown hK hP 0 rfl rfl 1 (by decide) (hts _ kw_X6_takesRow_3) (fun _ h9 => h9) rfl dX6_takesRow_200 ?_
                  refine lv_iconst (v := (0 : Int32)) hx hb dX6_takesRow_203 (by decide) ?_
                  refine lv_iload_n hx hb dX6_takesRow_204 rfl (lv_at hl 1 rfl) ?_
                  refine va_iast hx hb hK hP hD hS 1 0 rfl rfl (show aix (0 : Int32) 22 by decide) dX6_takesRow_205 (fun H locs hP hD hS => ?_)
                  have hP : va_P D vwCl [(hMo, .inr (6, [.ref hMn, .ref hMr, .ref hMa, .ref hMp, .int mc, .ref hMt, .int ml, .int (o43.2.1 + (1 : Int32)), .ref hMd, .ref hMk, .ref hMy, .int mm, .ref hMl, .ref hMw, .long mu, .long mv, .ref hMi, .ref hMx, .int me])), (hMr, .inl (cI, 22, .inl (upd o43.2.2 (Int32.toNatClampNeg (0 : Int32)) o43.1))), (hMt, .inl (cI, 60, .inl mt))] H := hP
                  have hD : va_D A [(hMo, .inr (6, [.ref hMn, .ref hMr, .ref hMa, .ref hMp, .int mc, .ref hMt, .int ml, .int (o43.2.1 + (1 : Int32)), .ref hMd, .ref hMk, .ref hMy, .int mm, .ref hMl, .ref hMw, .long mu, .long mv, .ref hMi, .ref hMx, .int me])), (hMr, .inl (cI, 22, .inl (upd o43.2.2 (Int32.toNatClampNeg (0 : Int32)) o43.1))), (hMt, .inl (cI, 60, .inl mt))] := hD
                  refine lv_aload_n hx hb dX6_takesRow_206 rfl (lv_at hl 0 rfl) ?_
                  refine va_get (D := D) (ci := 6) (v := .ref hMr) (C := RX6) (T := TX6) (N := 19) hx hb hts ku_X6_takesRow_X6 hown hK hP 0 rfl rfl 1 (by decide) (hts _ kw_X6_takesRow_3) (fun _ h9 => h9) rfl dX6_takesRow_207 ?_
                  refine lv_iconst (v := (1 : Int32)) hx hb dX6_takesRow_210 (by decide) ?_
                  refine lv_dup2_11 hx hb dX6_takesRow_211 rfl rfl ?_
                  refine va_iald hx hb hK hP 1 0 rfl rfl (show aix (1 : Int32) 22 by decide) dX6_takesRow_212 ?_
                  refine lv_iconst (v := (1 : Int32)) hx hb dX6_takesRow_213 (by decide) ?_
                  refine lv_iadd hx hb dX6_takesRow_214 ?_
                  refine va_iast hx hb hK hP hD hS 1 0 rfl rfl (show aix (1 : Int32) 22 by decide) dX6_takesRow_215 (fun H locs hP hD hS => ?_)
                  have hP : va_P D vwCl [(hMo, .inr (6, [.ref hMn, .ref hMr, .ref hMa, .ref hMp, .int mc, .ref hMt, .int ml, .int (o43.2.1 + (1 : Int32)), .ref hMd, .ref hMk, .ref hMy, .int mm, .ref hMl, .ref hMw, .long mu, .long mv, .ref hMi, .ref hMx, .int me])), (hMr, .inl (cI, 22, .inl (upd (upd o43.2.2 (Int32.toNatClampNeg (0 : Int32)) o43.1) (Int32.toNatClampNeg (1 : Int32)) (((upd o43.2.2 (Int32.toNatClampNeg (0 : Int32)) o43.1) (Int32.toNatClampNeg (1 : Int32))) + (1 : Int32))))), (hMt, .inl (cI, 60, .inl mt))] H := hP
                  have hD : va_D A [(hMo, .inr (6, [.ref hMn, .ref hMr, .ref hMa, .ref hMp, .int mc, .ref hMt, .int ml, .int (o43.2.1 + (1 : Int32)), .ref hMd, .ref hMk, .ref hMy, .int mm, .ref hMl, .ref hMw, .long mu, .long mv, .ref hMi, .ref hMx, .int me])), (hMr, .inl (cI, 22, .inl (upd (upd o43.2.2 (Int32.toNatClampNeg (0 : Int32)) o43.1) (Int32.toNatClampNeg (1 : Int32)) (((upd o43.2.2 (Int32.toNatClampNeg (0 : Int32)) o43.1) (Int32.toNatClampNeg (1 : Int32))) + (1 : Int32))))), (hMt, .inl (cI, 60, .inl mt))] := hD
                  refine lv_aload_n hx hb dX6_takesRow_216 rfl (lv_at hl 0 rfl) ?_
                  refine va_get (D := D) (ci := 6) (v := .ref hMr) (C := RX6) (T := TX6) (N := 19) hx hb hts ku_X6_takesRow_X6 hown hK hP 0 rfl rfl 1 (by decide) (hts _ kw_X6_takesRow_3) (fun _ h9 => h9) rfl dX6_takesRow_217 ?_
                  obtain ⟨r57, er57, hf⟩ := fp_b hf
                  refine RoI.callS (c_X6_halves (l := l) (D := D) (cI := cI) (cJ := cJ) (cZ := cZ) (cQ := cQ) (qs := qs) er57) F (va_cwS 1 hts gX6_takesRow_X6_halves rfl rfl rfl yd_X6_halves ⟨Nat.le_of_ble_eq_true rfl, Nat.le_of_ble_eq_true rfl⟩) (hG.r hS) hP [1] rfl rfl hl.1 rfl (Nat.le_of_ble_eq_true rfl) dX6_takesRow_220 ⟨Nat.zero_le _, Nat.zero_le _⟩ ?_
                  refine lv_iconst (v := (5 : Int32)) hx hb dX6_takesRow_223 (by decide) ?_
                  refine lv_icmp_gt (tgt := 242) hx hb dX6_takesRow_224 (by decide) (fun c58 => ?_) (fun c58 => ?_)
                  · have hf := fp_t hf c58
                    refine lv_iconst (v := (0 : Int32)) hx hb dX6_takesRow_242 (by decide) ?_
                    cases hf
                    exact hret _ _ _ _ dX6_takesRow_243 nar_b0 hP hD hS
                  · have hf := fp_f hf c58
                    refine lv_aload_n hx hb dX6_takesRow_227 rfl (lv_at hl 0 rfl) ?_
                    refine va_get (D := D) (ci := 6) (v := .ref hMr) (C := RX6) (T := TX6) (N := 19) hx hb hts ku_X6_takesRow_X6 hown hK hP 0 rfl rfl 1 (by decide) (hts _ kw_X6_takesRow_3) (fun _ h9 => h9) rfl dX6_takesRow_228 ?_
                    obtain ⟨r59, er59, hf⟩ := fp_b hf
                    refine RoI.callS (c_X6_doors (l := l) (D := D) (cI := cI) (cJ := cJ) (cZ := cZ) (cQ := cQ) (qs := qs) er59) F (va_cwS 1 hts gX6_takesRow_X6_doors rfl rfl rfl yd_X6_doors ⟨Nat.le_of_ble_eq_true rfl, Nat.le_of_ble_eq_true rfl⟩) (hG.r hS) hP [1] rfl rfl hl.1 rfl (Nat.le_of_ble_eq_true rfl) dX6_takesRow_231 ⟨Nat.zero_le _, Nat.zero_le _⟩ ?_
                    refine lv_iconst (v := (4 : Int32)) hx hb dX6_takesRow_234 (by decide) ?_
                    refine lv_icmp_gt (tgt := 242) hx hb dX6_takesRow_235 (by decide) (fun c60 => ?_) (fun c60 => ?_)
                    · have hf := fp_t hf c60
                      refine lv_iconst (v := (0 : Int32)) hx hb dX6_takesRow_242 (by decide) ?_
                      cases hf
                      exact hret _ _ _ _ dX6_takesRow_243 nar_b0 hP hD hS
                    · have hf := fp_f hf c60
                      refine lv_iconst (v := (1 : Int32)) hx hb dX6_takesRow_238 (by decide) ?_
                      refine lv_goto (tgt := 243) hx hb dX6_takesRow_239 (by decide) ?_
                      cases hf
                      exact hret _ _ _ _ dX6_takesRow_243 nar_b1 hP hD hS
                · have hf := fp_f hf c56
                  refine lv_iconst (v := (0 : Int32)) hx hb dX6_takesRow_187 (by decide) ?_
                  cases hf
                  exact hret _ _ _ _ dX6_takesRow_188 nar_b0 hP hD hS
      replace hf := ej34
      refine lv_if_ne (tgt := 51) hx hb dX6_takesRow_44 (by decide) (fun c61 => ?_) (fun c61 => ?_)
      · have hf := fp_f hf c61
        refine lv_aload_n hx hb dX6_takesRow_51 rfl (lv_at hl 1 rfl) ?_
        refine va_get (D := D) (ci := 6) (v := .ref hMr) (C := RX6) (T := TX6) (N := 19) hx hb hts ku_X6_takesRow_X6 hown hK hP 0 rfl rfl 1 (by decide) (hts _ kw_X6_takesRow_3) (fun _ h9 => h9) rfl dX6_takesRow_52 ?_
        refine lv_iconst (v := (0 : Int32)) hx hb dX6_takesRow_55 (by decide) ?_
        refine va_iald hx hb hK hP 1 0 rfl rfl (show aix (0 : Int32) 22 by decide) dX6_takesRow_56 ?_
        cases hf
        exact hj35 _ _ _ hP hD hS (lv_sub hl [1, 0] rfl)
      · have hf := fp_t hf c61
        refine lv_iconst (v := (5 : Int32)) hx hb dX6_takesRow_47 (by decide) ?_
        refine lv_goto (tgt := 57) hx hb dX6_takesRow_48 (by decide) ?_
        cases hf
        exact hj35 _ _ _ hP hD hS (lv_sub hl [1, 0] rfl)
    · have hf := fp_t hf c33
      refine lv_iconst (v := (0 : Int32)) hx hb dX6_takesRow_24 (by decide) ?_
      cases hf
      exact hret _ _ _ _ dX6_takesRow_25 nar_b0 hP hD hS
set_option maxRecDepth 100000 in
theorem c_X6_takesRow {l : Launch} {D : va_G} {cI cJ cZ cQ : ClassId} {qs : Nat × Nat × Nat} {hMo hMn hMr hMa hMp hMt hMd hMk hMy hMl hMw hMi hMx : Nat} {mc : Int32} {ml : Int32} {ms : Int32} {mm : Int32} {mu : Int64} {mv : Int64} {me : Int32} {mr : Nat → Int32} {mt : Nat → Int32} {out : Int32 × Int32 × (Nat → Int32)} (hf : f_X6_takesRow ml ms mr mt = some out) : RwI l yX6_takesRow wsX6_takesRow { frames := 3, cells := 0, slots := 0, locals := 64 } D (ty4 cI cJ cZ cQ) qs [.ref hMo] [(hMo, .inr (6, [.ref hMn, .ref hMr, .ref hMa, .ref hMp, .int mc, .ref hMt, .int ml, .int ms, .ref hMd, .ref hMk, .ref hMy, .int mm, .ref hMl, .ref hMw, .long mu, .long mv, .ref hMi, .ref hMx, .int me])), (hMr, .inl (cI, 22, .inl mr)), (hMt, .inl (cI, 60, .inl mt))] [(hMo, .inr (6, [.ref hMn, .ref hMr, .ref hMa, .ref hMp, .int mc, .ref hMt, .int ml, .int out.2.1, .ref hMd, .ref hMk, .ref hMy, .int mm, .ref hMl, .ref hMw, .long mu, .long mv, .ref hMi, .ref hMx, .int me])), (hMr, .inl (cI, 22, .inl out.2.2)), (hMt, .inl (cI, 60, .inl mt))] out.1 :=
  RwI.of (own := RX6) (by decide +kernel) rfl rfl (Nat.le_of_ble_eq_true rfl) (fun F hG hA hP hD hS hret ls hl => b_X6_takesRow F hG hA hP hD hS hf hret hl)
-- method X6_reads
theorem yd_X6_reads : yX6_reads.cls = RX6 ∧ yX6_reads.cls ≠ "java/lang/invoke/MethodHandle" ∧ yX6_reads.cls ≠ "java/lang/invoke/VarHandle" ∧ (parseMethodDescriptor yX6_reads.desc).map (fun d => d.parameters.length) = some 0 := by decide +kernel
theorem ku_X6_reads_X6 : ∀ w ∈ u_ws RX6 TX6 19, w ∈ wsX6_reads := by decide +kernel
theorem kw_X6_reads_1 : Cond.fieldLink RX6 13 "MirrorSharesModel" "read" "[I" ∈ wsX6_reads := List.mem_of_getElem? (i := 1) rfl
theorem kw_X6_reads_2 : Cond.fieldLink RX6 63 "MirrorSharesModel" "spot" "I" ∈ wsX6_reads := List.mem_of_getElem? (i := 2) rfl
theorem kw_X6_reads_3 : Cond.fieldLink RX6 67 "MirrorSharesModel" "letters" "I" ∈ wsX6_reads := List.mem_of_getElem? (i := 3) rfl
def f_X6_reads_2 (ml : Int32) (ms : Int32) (mt : Nat → Int32) (y1 : Int32) (mr : Nat → Int32) : Option ((Int32 × (Nat → Int32)) ⊕ ((Nat → Int32))) :=
  (if (22 : Int32) ≤ y1 then some (Sum.inr mr) else chk (aix y1 22) (some (Sum.inl ((y1 + (1 : Int32)), (upd mr y1.toNatClampNeg (0 : Int32))))))
set_option maxHeartbeats 4000000 in
set_option maxRecDepth 100000 in
theorem lp_X6_reads_2 {p : Program} {l : Launch} {e : Env} {s : State} {m : MethodId} {args : Array Value} {below : List Frame} {meth : Method} {c : Code} {Q : State → Prop} {A : Nat → Prop} {D : va_G} {cI cJ cZ cQ : ClassId} {qs : Nat × Nat × Nat} {hMo hMn hMr hMa hMp hMt hMd hMk hMy hMl hMw hMi hMx : Nat} {ml : Int32} {ms : Int32} {mt : Nat → Int32} {mc : Int32} {mm : Int32} {mu : Int64} {mv : Int64} {me : Int32} (F : CallFix p m c cX6_reads 2 s args wsX6_reads RX6) (hG : kW D (ty4 cI cJ cZ cQ) qs A s s.heap) (hA : ∀ q : Nat, s.heap.size ≤ q → A q) :
    ∀ (n : Nat) {y1 : Int32} {mr : Nat → Int32} (out : (Nat → Int32)), lpf (fun s => f_X6_reads_2 ml ms mt s.1 s.2) n (y1, mr) = some out → ∀ {H : Heap} {locs : List Loc} {ls : Array Slot}, va_P D vwCl [(hMo, .inr (6, [.ref hMn, .ref hMr, .ref hMa, .ref hMp, .int mc, .ref hMt, .int ml, .int ms, .ref hMd, .ref hMk, .ref hMy, .int mm, .ref hMl, .ref hMw, .long mu, .long mv, .ref hMi, .ref hMx, .int me])), (hMr, .inl (cI, 22, .inl mr)), (hMt, .inl (cI, 60, .inl mt))] H → va_D A [(hMo, .inr (6, [.ref hMn, .ref hMr, .ref hMa, .ref hMp, .int mc, .ref hMt, .int ml, .int ms, .ref hMd, .ref hMk, .ref hMy, .int mm, .ref hMl, .ref hMw, .long mu, .long mv, .ref hMi, .ref hMx, .int me])), (hMr, .inl (cI, 22, .inl mr)), (hMt, .inl (cI, 60, .inl mt))] → va_S A s.heap H locs → lv_has ls 2 [(0, .ref hMo), (1, .int y1)] → (∀ (H : Heap) (locs : List Loc) (ls : Array Slot), va_P D vwCl [(hMo, .inr (6, [.ref hMn, .ref hMr, .ref hMa, .ref hMp, .int mc, .ref hMt, .int ml, .int ms, .ref hMd, .ref hMk, .ref hMy, .int mm, .ref hMl, .ref hMw, .long mu, .long mv, .ref hMi, .ref hMx, .int me])), (hMr, .inl (cI, 22, .inl out)), (hMt, .inl (cI, 60, .inl mt))] H → va_D A [(hMo, .inr (6, [.ref hMn, .ref hMr, .ref hMa, .ref hMp, .int mc, .ref hMt, .int ml, .int ms, .ref hMd, .ref hMk, .ref hMy, .int mm, .ref hMl, .ref hMw, .long mu, .long mv, .ref hMi, .ref hMx, .int me])), (hMr, .inl (cI, 22, .inl out)), (hMt, .inl (cI, 60, .inl mt))] → va_S A s.heap H locs → lv_has ls 2 [(0, .ref hMo)] → W p l e { frames := 4, cells := 0, slots := 0, locals := 87 } s m args below meth c H locs 0 0 Q (F0 m 21 ls [])) → W p l e { frames := 4, cells := 0, slots := 0, locals := 87 } s m args below meth c H locs 0 0 Q (F0 m 2 ls []) := by
  have hx := F.1
  have hb := F.2.1
  have hown := F.2.2.2.1
  have hts := F.2.2.2.2
  have hK := hG.1.1
  intro n
  induction n with
  | zero =>
    intro y1 mr out ho
    exact (fp_l0 ho).elim
  | succ n ih =>
    intro y1 mr out ho H locs ls hP hD hS hl hex
    obtain ⟨o, hf, ho⟩ := fp_l ho
    have hf : f_X6_reads_2 ml ms mt y1 mr = some o := hf
    rw [f_X6_reads_2] at hf
    refine lv_iload_n hx hb dX6_reads_2 rfl (lv_at hl 1 rfl) ?_
    refine lv_bipush (v := (22 : Int32)) hx hb dX6_reads_3 (by decide) ?_
    refine lv_icmp_ge (tgt := 21) hx hb dX6_reads_5 (by decide) (fun c62 => ?_) (fun c62 => ?_)
    · have hf := fp_t hf c62
      cases hf
      have ho := fp_inr ho
      cases ho
      exact hex _ _ _ hP hD hS (lv_sub hl [0] rfl)
    · have hf := fp_f hf c62
      refine lv_aload_n hx hb dX6_reads_8 rfl (lv_at hl 0 rfl) ?_
      refine va_get (D := D) (ci := 6) (v := .ref hMr) (C := RX6) (T := TX6) (N := 19) hx hb hts ku_X6_reads_X6 hown hK hP 0 rfl rfl 1 (by decide) (hts _ kw_X6_reads_1) (fun _ h9 => h9) rfl dX6_reads_9 ?_
      refine lv_iload_n hx hb dX6_reads_12 rfl (lv_at hl 1 rfl) ?_
      refine lv_iconst (v := (0 : Int32)) hx hb dX6_reads_13 (by decide) ?_
      obtain ⟨k63, hf⟩ := fp_c hf
      refine va_iast hx hb hK hP hD hS 1 0 rfl rfl k63 dX6_reads_14 (fun H locs hP hD hS => ?_)
      have hP : va_P D vwCl [(hMo, .inr (6, [.ref hMn, .ref hMr, .ref hMa, .ref hMp, .int mc, .ref hMt, .int ml, .int ms, .ref hMd, .ref hMk, .ref hMy, .int mm, .ref hMl, .ref hMw, .long mu, .long mv, .ref hMi, .ref hMx, .int me])), (hMr, .inl (cI, 22, .inl (upd mr y1.toNatClampNeg (0 : Int32)))), (hMt, .inl (cI, 60, .inl mt))] H := hP
      have hD : va_D A [(hMo, .inr (6, [.ref hMn, .ref hMr, .ref hMa, .ref hMp, .int mc, .ref hMt, .int ml, .int ms, .ref hMd, .ref hMk, .ref hMy, .int mm, .ref hMl, .ref hMw, .long mu, .long mv, .ref hMi, .ref hMx, .int me])), (hMr, .inl (cI, 22, .inl (upd mr y1.toNatClampNeg (0 : Int32)))), (hMt, .inl (cI, 60, .inl mt))] := hD
      refine lv_iinc (v := (y1 + (1 : Int32))) (lv' := [(1, .int (y1 + (1 : Int32))), (0, .ref hMo)]) hx hb dX6_reads_15 hl (k := 1) rfl rfl (by decide) rfl (fun ls hl => ?_)
      refine lv_goto (tgt := 2) hx hb dX6_reads_18 (by decide) ?_
      cases hf
      exact ih _ (fp_inl ho) hP hD hS (lv_sub hl [1, 0] rfl) hex
def f_X6_reads_26 (ml : Int32) (mt : Nat → Int32) (ms : Int32) (mr : Nat → Int32) : Option ((Int32 × (Nat → Int32)) ⊕ ((Int32 × Int32 × (Nat → Int32)) ⊕ (Int32 × (Nat → Int32)))) :=
  (if ml ≤ ms then some (Sum.inr (Sum.inr (ms, mr))) else Option.bind (f_X6_takesRow ml ms mr mt) (fun r66 => (if r66.1 = 0 then some (Sum.inr (Sum.inl (ms, r66.2.1, r66.2.2))) else some (Sum.inl (r66.2.1, r66.2.2)))))
set_option maxHeartbeats 4000000 in
set_option maxRecDepth 100000 in
theorem lp_X6_reads_26 {p : Program} {l : Launch} {e : Env} {s : State} {m : MethodId} {args : Array Value} {below : List Frame} {meth : Method} {c : Code} {Q : State → Prop} {A : Nat → Prop} {D : va_G} {cI cJ cZ cQ : ClassId} {qs : Nat × Nat × Nat} {hMo hMn hMr hMa hMp hMt hMd hMk hMy hMl hMw hMi hMx : Nat} {ml : Int32} {mt : Nat → Int32} {mc : Int32} {mm : Int32} {mu : Int64} {mv : Int64} {me : Int32} (F : CallFix p m c cX6_reads 2 s args wsX6_reads RX6) (hG : kW D (ty4 cI cJ cZ cQ) qs A s s.heap) (hA : ∀ q : Nat, s.heap.size ≤ q → A q) :
    ∀ (n : Nat) {ms : Int32} {mr : Nat → Int32} (out : (Int32 × Int32 × (Nat → Int32)) ⊕ (Int32 × (Nat → Int32))), lpf (fun s => f_X6_reads_26 ml mt s.1 s.2) n (ms, mr) = some out → ∀ {H : Heap} {locs : List Loc} {ls : Array Slot}, va_P D vwCl [(hMo, .inr (6, [.ref hMn, .ref hMr, .ref hMa, .ref hMp, .int mc, .ref hMt, .int ml, .int ms, .ref hMd, .ref hMk, .ref hMy, .int mm, .ref hMl, .ref hMw, .long mu, .long mv, .ref hMi, .ref hMx, .int me])), (hMr, .inl (cI, 22, .inl mr)), (hMt, .inl (cI, 60, .inl mt))] H → va_D A [(hMo, .inr (6, [.ref hMn, .ref hMr, .ref hMa, .ref hMp, .int mc, .ref hMt, .int ml, .int ms, .ref hMd, .ref hMk, .ref hMy, .int mm, .ref hMl, .ref hMw, .long mu, .long mv, .ref hMi, .ref hMx, .int me])), (hMr, .inl (cI, 22, .inl mr)), (hMt, .inl (cI, 60, .inl mt))] → va_S A s.heap H locs → lv_has ls 2 [(0, .ref hMo)] → (∀ xx, out = Sum.inr xx → ∀ (H : Heap) (locs : List Loc) (ls : Array Slot), va_P D vwCl [(hMo, .inr (6, [.ref hMn, .ref hMr, .ref hMa, .ref hMp, .int mc, .ref hMt, .int ml, .int xx.1, .ref hMd, .ref hMk, .ref hMy, .int mm, .ref hMl, .ref hMw, .long mu, .long mv, .ref hMi, .ref hMx, .int me])), (hMr, .inl (cI, 22, .inl xx.2)), (hMt, .inl (cI, 60, .inl mt))] H → va_D A [(hMo, .inr (6, [.ref hMn, .ref hMr, .ref hMa, .ref hMp, .int mc, .ref hMt, .int ml, .int xx.1, .ref hMd, .ref hMk, .ref hMy, .int mm, .ref hMl, .ref hMw, .long mu, .long mv, .ref hMi, .ref hMx, .int me])), (hMr, .inl (cI, 22, .inl xx.2)), (hMt, .inl (cI, 60, .inl mt))] → va_S A s.heap H locs → lv_has ls 2 [(0, .ref hMo)] → W p l e { frames := 4, cells := 0, slots := 0, locals := 87 } s m args below meth c H locs 0 0 Q (F0 m 54 ls [])) → (∀ r9, out = Sum.inl r9 → ∀ (pc : Nat) (H : Heap) (locs : List Loc) (ls : Array Slot), decode cX6_reads pc = .ok (.ireturn, 1) → narrow .int (.int r9.1) = .int r9.1 → va_P D vwCl [(hMo, .inr (6, [.ref hMn, .ref hMr, .ref hMa, .ref hMp, .int mc, .ref hMt, .int ml, .int r9.2.1, .ref hMd, .ref hMk, .ref hMy, .int mm, .ref hMl, .ref hMw, .long mu, .long mv, .ref hMi, .ref hMx, .int me])), (hMr, .inl (cI, 22, .inl r9.2.2)), (hMt, .inl (cI, 60, .inl mt))] H → va_D A [(hMo, .inr (6, [.ref hMn, .ref hMr, .ref hMa, .ref hMp, .int mc, .ref hMt, .int ml, .int r9.2.1, .ref hMd, .ref hMk, .ref hMy, .int mm, .ref hMl, .ref hMw, .long mu, .long mv, .ref hMi, .ref hMx, .int me])), (hMr, .inl (cI, 22, .inl r9.2.2)), (hMt, .inl (cI, 60, .inl mt))] → va_S A s.heap H locs → W p l e { frames := 4, cells := 0, slots := 0, locals := 87 } s m args below meth c H locs 0 0 Q (F0 m pc ls [.int r9.1])) → W p l e { frames := 4, cells := 0, slots := 0, locals := 87 } s m args below meth c H locs 0 0 Q (F0 m 26 ls []) := by
  have hx := F.1
  have hb := F.2.1
  have hown := F.2.2.2.1
  have hts := F.2.2.2.2
  have hK := hG.1.1
  intro n
  induction n with
  | zero =>
    intro ms mr out ho
    exact (fp_l0 ho).elim
  | succ n ih =>
    intro ms mr out ho H locs ls hP hD hS hl hex hre
    obtain ⟨o, hf, ho⟩ := fp_l ho
    have hf : f_X6_reads_26 ml mt ms mr = some o := hf
    rw [f_X6_reads_26] at hf
    refine lv_aload_n hx hb dX6_reads_26 rfl (lv_at hl 0 rfl) ?_
    refine va_get (D := D) (ci := 6) (v := .int ms) (C := RX6) (T := TX6) (N := 19) hx hb hts ku_X6_reads_X6 hown hK hP 0 rfl rfl 7 (by decide) (hts _ kw_X6_reads_2) (fun _ h9 => h9) rfl dX6_reads_27 ?_
    refine lv_aload_n hx hb dX6_reads_30 rfl (lv_at hl 0 rfl) ?_
    refine va_get (D := D) (ci := 6) (v := .int ml) (C := RX6) (T := TX6) (N := 19) hx hb hts ku_X6_reads_X6 hown hK hP 0 rfl rfl 6 (by decide) (hts _ kw_X6_reads_3) (fun _ h9 => h9) rfl dX6_reads_31 ?_
    refine lv_icmp_ge (tgt := 54) hx hb dX6_reads_34 (by decide) (fun c65 => ?_) (fun c65 => ?_)
    · have hf := fp_t hf c65
      cases hf
      have ho := fp_inr ho
      cases ho
      exact hex _ rfl _ _ _ hP hD hS (lv_sub hl [0] rfl)
    · have hf := fp_f hf c65
      refine lv_aload_n hx hb dX6_reads_37 rfl (lv_at hl 0 rfl) ?_
      refine va_get (D := D) (ci := 6) (v := .int ms) (C := RX6) (T := TX6) (N := 19) hx hb hts ku_X6_reads_X6 hown hK hP 0 rfl rfl 7 (by decide) (hts _ kw_X6_reads_2) (fun _ h9 => h9) rfl dX6_reads_38 ?_
      refine lv_istore_n (lv' := [(1, .int ms), (0, .ref hMo)]) hx hb dX6_reads_41 rfl hl (by decide) rfl (fun ls hl => ?_)
      refine lv_aload_n hx hb dX6_reads_42 rfl (lv_at hl 1 rfl) ?_
      obtain ⟨r66, er66, hf⟩ := fp_b hf
      refine kc_rwI (w2 := [(hMo, .inr (6, [.ref hMn, .ref hMr, .ref hMa, .ref hMp, .int mc, .ref hMt, .int ml, .int r66.2.1, .ref hMd, .ref hMk, .ref hMy, .int mm, .ref hMl, .ref hMw, .long mu, .long mv, .ref hMi, .ref hMx, .int me])), (hMr, .inl (cI, 22, .inl r66.2.2)), (hMt, .inl (cI, 60, .inl mt))]) (RwI.runV (c_X6_takesRow (l := l) (D := D) (cI := cI) (cJ := cJ) (cZ := cZ) (cQ := cQ) (qs := qs) er66) F (cwV 0 hts gX6_reads_X6_takesRow rfl rfl rfl yd_X6_takesRow ⟨Nat.le_of_ble_eq_true rfl, Nat.le_of_ble_eq_true rfl⟩) hG hP hD hS hA [0, 1, 2] (by decide) rfl 6 rfl rfl rfl hl.1 rfl (Nat.le_of_ble_eq_true rfl) dX6_reads_43 ⟨Nat.zero_le _, Nat.zero_le _⟩) hP hD hS hA [0, 1, 2] [] [0, 1, 2] rfl (wr := []) rfl (by decide) (by decide) rfl (by decide) (fun H locs hP hD hS => ?_)
      refine lv_if_ne (tgt := 51) hx hb dX6_reads_46 (by decide) (fun c67 => ?_) (fun c67 => ?_)
      · have hf := fp_f hf c67
        refine lv_goto (tgt := 26) hx hb dX6_reads_51 (by decide) ?_
        cases hf
        exact ih _ (fp_inl ho) hP hD hS (lv_sub hl [1] rfl) hex hre
      · have hf := fp_t hf c67
        refine lv_iload_n hx hb dX6_reads_49 rfl (lv_at hl 0 rfl) ?_
        cases hf
        have ho := fp_inr ho
        cases ho
        exact hre _ rfl _ _ _ _ dX6_reads_50 (vp_nar_int _) hP hD hS
def f_X6_reads (ml : Int32) (ms : Int32) (mr : Nat → Int32) (mt : Nat → Int32) : Option (Int32 × Int32 × (Nat → Int32)) :=
  Option.bind (lpf (fun s => f_X6_reads_2 ml ms mt s.1 s.2) 1000 ((0 : Int32), mr)) (fun o64 => Option.bind (lpf (fun s => f_X6_reads_26 ml mt s.1 s.2) 1000 ((0 : Int32), o64)) (fun o68 => Sum.elim (fun r9 => some r9) (fun z69 => some ((-4 : Int32), z69.1, z69.2)) o68))
set_option maxHeartbeats 4000000 in
set_option maxRecDepth 100000 in
theorem b_X6_reads {p : Program} {l : Launch} {e : Env} {s : State} {m : MethodId} {args : Array Value} {below : List Frame} {meth : Method} {c : Code} {Q : State → Prop} {A : Nat → Prop} {H : Heap} {locs : List Loc} {D : va_G} {cI cJ cZ cQ : ClassId} {qs : Nat × Nat × Nat} {hMo hMn hMr hMa hMp hMt hMd hMk hMy hMl hMw hMi hMx : Nat} {mc : Int32} {ml : Int32} {ms : Int32} {mm : Int32} {mu : Int64} {mv : Int64} {me : Int32} {mr : Nat → Int32} {mt : Nat → Int32} {out : Int32 × Int32 × (Nat → Int32)} (F : CallFix p m c cX6_reads 2 s args wsX6_reads RX6) (hG : kW D (ty4 cI cJ cZ cQ) qs A s s.heap) (hA : ∀ q : Nat, s.heap.size ≤ q → A q) (hP : va_P D vwCl [(hMo, .inr (6, [.ref hMn, .ref hMr, .ref hMa, .ref hMp, .int mc, .ref hMt, .int ml, .int ms, .ref hMd, .ref hMk, .ref hMy, .int mm, .ref hMl, .ref hMw, .long mu, .long mv, .ref hMi, .ref hMx, .int me])), (hMr, .inl (cI, 22, .inl mr)), (hMt, .inl (cI, 60, .inl mt))] H) (hD : va_D A [(hMo, .inr (6, [.ref hMn, .ref hMr, .ref hMa, .ref hMp, .int mc, .ref hMt, .int ml, .int ms, .ref hMd, .ref hMk, .ref hMy, .int mm, .ref hMl, .ref hMw, .long mu, .long mv, .ref hMi, .ref hMx, .int me])), (hMr, .inl (cI, 22, .inl mr)), (hMt, .inl (cI, 60, .inl mt))]) (hS : va_S A s.heap H locs) (hf : f_X6_reads ml ms mr mt = some out) (hret : ∀ (pc : Nat) (H : Heap) (locs : List Loc) (ls : Array Slot), decode cX6_reads pc = .ok (.ireturn, 1) → narrow .int (.int out.1) = .int out.1 → va_P D vwCl [(hMo, .inr (6, [.ref hMn, .ref hMr, .ref hMa, .ref hMp, .int mc, .ref hMt, .int ml, .int out.2.1, .ref hMd, .ref hMk, .ref hMy, .int mm, .ref hMl, .ref hMw, .long mu, .long mv, .ref hMi, .ref hMx, .int me])), (hMr, .inl (cI, 22, .inl out.2.2)), (hMt, .inl (cI, 60, .inl mt))] H → va_D A [(hMo, .inr (6, [.ref hMn, .ref hMr, .ref hMa, .ref hMp, .int mc, .ref hMt, .int ml, .int out.2.1, .ref hMd, .ref hMk, .ref hMy, .int mm, .ref hMl, .ref hMw, .long mu, .long mv, .ref hMi, .ref hMx, .int me])), (hMr, .inl (cI, 22, .inl out.2.2)), (hMt, .inl (cI, 60, .inl mt))] → va_S A s.heap H locs → W p l e { frames := 4, cells := 0, slots := 0, locals := 87 } s m args below meth c H locs 0 0 Q (F0 m pc ls [.int out.1])) {ls : Array Slot} (hl : lv_has ls 2 [(0, .ref hMo)]) : W p l e { frames := 4, cells := 0, slots := 0, locals := 87 } s m args below meth c H locs 0 0 Q (F0 m 0 ls []) := by
  have hx := F.1
  have hb := F.2.1
  have hown := F.2.2.2.1
  have hts := F.2.2.2.2
  have hK := hG.1.1
  rw [f_X6_reads] at hf
  refine lv_iconst (v := (0 : Int32)) hx hb dX6_reads_0 (by decide) ?_
  refine lv_istore_n (lv' := [(1, .int (0 : Int32)), (0, .ref hMo)]) hx hb dX6_reads_1 rfl hl (by decide) rfl (fun ls hl => ?_)
  obtain ⟨o64, eo64, hf⟩ := fp_b hf
  refine lp_X6_reads_2 F hG hA _ _ eo64 hP hD hS (lv_sub hl [1, 0] rfl) (fun H locs ls hP hD hS hl => ?_)
  refine lv_aload_n hx hb dX6_reads_21 rfl (lv_at hl 0 rfl) ?_
  refine lv_iconst (v := (0 : Int32)) hx hb dX6_reads_22 (by decide) ?_
  refine va_put (D := D) (ci := 6) (v := .int (0 : Int32)) (ty := .int) (C := RX6) (T := TX6) (N := 19) hx hb hts ku_X6_reads_X6 tyX6 tyX6_ok nmX6 hown hK hP hD hS 0 rfl rfl 7 (by decide) (hts _ kw_X6_reads_2) (fun _ h9 => h9) rfl (by decide +kernel) rfl rfl (Nat.le_of_ble_eq_true rfl) dX6_reads_23 (fun H locs hP hD hS => ?_)
  have hP : va_P D vwCl [(hMo, .inr (6, [.ref hMn, .ref hMr, .ref hMa, .ref hMp, .int mc, .ref hMt, .int ml, .int (0 : Int32), .ref hMd, .ref hMk, .ref hMy, .int mm, .ref hMl, .ref hMw, .long mu, .long mv, .ref hMi, .ref hMx, .int me])), (hMr, .inl (cI, 22, .inl o64)), (hMt, .inl (cI, 60, .inl mt))] H := hP
  have hD : va_D A [(hMo, .inr (6, [.ref hMn, .ref hMr, .ref hMa, .ref hMp, .int mc, .ref hMt, .int ml, .int (0 : Int32), .ref hMd, .ref hMk, .ref hMy, .int mm, .ref hMl, .ref hMw, .long mu, .long mv, .ref hMi, .ref hMx, .int me])), (hMr, .inl (cI, 22, .inl o64)), (hMt, .inl (cI, 60, .inl mt))] := hD
  obtain ⟨o68, eo68, hf⟩ := fp_b hf
  refine lp_X6_reads_26 F hG hA _ _ eo68 hP hD hS (lv_sub hl [0] rfl) (fun z69 hz69 H locs ls hP hD hS hl => ?_) (fun r9 h9 => ?_)
  · subst hz69
    have hf := fp_inr hf
    refine lv_bipush (v := (-4 : Int32)) hx hb dX6_reads_54 (by decide) ?_
    cases hf
    exact hret _ _ _ _ dX6_reads_56 (vp_nar_int _) hP hD hS
  · subst h9
    have hf := fp_inl hf
    cases hf
    exact hret
set_option maxRecDepth 100000 in
theorem c_X6_reads {l : Launch} {D : va_G} {cI cJ cZ cQ : ClassId} {qs : Nat × Nat × Nat} {hMo hMn hMr hMa hMp hMt hMd hMk hMy hMl hMw hMi hMx : Nat} {mc : Int32} {ml : Int32} {ms : Int32} {mm : Int32} {mu : Int64} {mv : Int64} {me : Int32} {mr : Nat → Int32} {mt : Nat → Int32} {out : Int32 × Int32 × (Nat → Int32)} (hf : f_X6_reads ml ms mr mt = some out) : RwI l yX6_reads wsX6_reads { frames := 4, cells := 0, slots := 0, locals := 87 } D (ty4 cI cJ cZ cQ) qs [.ref hMo] [(hMo, .inr (6, [.ref hMn, .ref hMr, .ref hMa, .ref hMp, .int mc, .ref hMt, .int ml, .int ms, .ref hMd, .ref hMk, .ref hMy, .int mm, .ref hMl, .ref hMw, .long mu, .long mv, .ref hMi, .ref hMx, .int me])), (hMr, .inl (cI, 22, .inl mr)), (hMt, .inl (cI, 60, .inl mt))] [(hMo, .inr (6, [.ref hMn, .ref hMr, .ref hMa, .ref hMp, .int mc, .ref hMt, .int ml, .int out.2.1, .ref hMd, .ref hMk, .ref hMy, .int mm, .ref hMl, .ref hMw, .long mu, .long mv, .ref hMi, .ref hMx, .int me])), (hMr, .inl (cI, 22, .inl out.2.2)), (hMt, .inl (cI, 60, .inl mt))] out.1 :=
  RwI.of (own := RX6) (by decide +kernel) rfl rfl (Nat.le_of_ble_eq_true rfl) (fun F hG hA hP hD hS hret ls hl => b_X6_reads F hG hA hP hD hS hf hret hl)
-- method X6_write
theorem yd_X6_write : yX6_write.cls = RX6 ∧ yX6_write.cls ≠ "java/lang/invoke/MethodHandle" ∧ yX6_write.cls ≠ "java/lang/invoke/VarHandle" ∧ (parseMethodDescriptor yX6_write.desc).map (fun d => d.parameters.length) = some 1 := by decide +kernel
theorem ku_X6_write_X6 : ∀ w ∈ u_ws RX6 TX6 19, w ∈ wsX6_write := by decide +kernel
theorem kw_X6_write_1 : Cond.fieldLink RX6 67 "MirrorSharesModel" "letters" "I" ∈ wsX6_write := List.mem_of_getElem? (i := 1) rfl
theorem kw_X6_write_2 : Cond.fieldLink RX6 22 "MirrorSharesModel" "text" "[I" ∈ wsX6_write := List.mem_of_getElem? (i := 2) rfl
def f_X6_write (ml : Int32) (mt : Nat → Int32) (x1 : Int32) : Option (Int32 × Int32 × (Nat → Int32)) :=
  Option.bind (f_X6_in x1 (32 : Int32) (126 : Int32)) (fun r70 => (if r70 = 0 then some ((-1 : Int32), ml, mt) else (if ml = (60 : Int32) then some ((-3 : Int32), ml, mt) else chk (aix ml 60) (some ((ml + (1 : Int32)), (ml + (1 : Int32)), (upd mt ml.toNatClampNeg x1))))))
set_option maxHeartbeats 4000000 in
set_option maxRecDepth 100000 in
theorem b_X6_write {p : Program} {l : Launch} {e : Env} {s : State} {m : MethodId} {args : Array Value} {below : List Frame} {meth : Method} {c : Code} {Q : State → Prop} {A : Nat → Prop} {H : Heap} {locs : List Loc} {D : va_G} {cI cJ cZ cQ : ClassId} {qs : Nat × Nat × Nat} {hMo hMn hMr hMa hMp hMt hMd hMk hMy hMl hMw hMi hMx : Nat} {mc : Int32} {ml : Int32} {ms : Int32} {mm : Int32} {mu : Int64} {mv : Int64} {me : Int32} {mt : Nat → Int32} {x1 : Int32} {out : Int32 × Int32 × (Nat → Int32)} (F : CallFix p m c cX6_write 2 s args wsX6_write RX6) (hG : kW D (ty4 cI cJ cZ cQ) qs A s s.heap) (hA : ∀ q : Nat, s.heap.size ≤ q → A q) (hP : va_P D vwCl [(hMo, .inr (6, [.ref hMn, .ref hMr, .ref hMa, .ref hMp, .int mc, .ref hMt, .int ml, .int ms, .ref hMd, .ref hMk, .ref hMy, .int mm, .ref hMl, .ref hMw, .long mu, .long mv, .ref hMi, .ref hMx, .int me])), (hMt, .inl (cI, 60, .inl mt))] H) (hD : va_D A [(hMo, .inr (6, [.ref hMn, .ref hMr, .ref hMa, .ref hMp, .int mc, .ref hMt, .int ml, .int ms, .ref hMd, .ref hMk, .ref hMy, .int mm, .ref hMl, .ref hMw, .long mu, .long mv, .ref hMi, .ref hMx, .int me])), (hMt, .inl (cI, 60, .inl mt))]) (hS : va_S A s.heap H locs) (hf : f_X6_write ml mt x1 = some out) (hret : ∀ (pc : Nat) (H : Heap) (locs : List Loc) (ls : Array Slot), decode cX6_write pc = .ok (.ireturn, 1) → narrow .int (.int out.1) = .int out.1 → va_P D vwCl [(hMo, .inr (6, [.ref hMn, .ref hMr, .ref hMa, .ref hMp, .int mc, .ref hMt, .int out.2.1, .int ms, .ref hMd, .ref hMk, .ref hMy, .int mm, .ref hMl, .ref hMw, .long mu, .long mv, .ref hMi, .ref hMx, .int me])), (hMt, .inl (cI, 60, .inl out.2.2))] H → va_D A [(hMo, .inr (6, [.ref hMn, .ref hMr, .ref hMa, .ref hMp, .int mc, .ref hMt, .int out.2.1, .int ms, .ref hMd, .ref hMk, .ref hMy, .int mm, .ref hMl, .ref hMw, .long mu, .long mv, .ref hMi, .ref hMx, .int me])), (hMt, .inl (cI, 60, .inl out.2.2))] → va_S A s.heap H locs → W p l e { frames := 1, cells := 0, slots := 0, locals := 22 } s m args below meth c H locs 0 0 Q (F0 m pc ls [.int out.1])) {ls : Array Slot} (hl : lv_has ls 2 [(0, .ref hMo), (1, .int x1)]) : W p l e { frames := 1, cells := 0, slots := 0, locals := 22 } s m args below meth c H locs 0 0 Q (F0 m 0 ls []) := by
  have hx := F.1
  have hb := F.2.1
  have hown := F.2.2.2.1
  have hts := F.2.2.2.2
  have hK := hG.1.1
  rw [f_X6_write] at hf
  refine lv_iload_n hx hb dX6_write_0 rfl (lv_at hl 1 rfl) ?_
  refine lv_bipush (v := (32 : Int32)) hx hb dX6_write_1 (by decide) ?_
  refine lv_bipush (v := (126 : Int32)) hx hb dX6_write_3 (by decide) ?_
  obtain ⟨r70, er70, hf⟩ := fp_b hf
  refine RoI.callS (c_X6_in (l := l) (D := D) (cI := cI) (cJ := cJ) (cZ := cZ) (cQ := cQ) (qs := qs) er70) F (va_cwS 3 hts gX6_write_X6_in rfl rfl rfl yd_X6_in ⟨Nat.le_of_ble_eq_true rfl, Nat.le_of_ble_eq_true rfl⟩) (hG.r hS) hP [] rfl rfl hl.1 rfl (Nat.le_of_ble_eq_true rfl) dX6_write_5 ⟨Nat.zero_le _, Nat.zero_le _⟩ ?_
  refine lv_if_ne (tgt := 13) hx hb dX6_write_8 (by decide) (fun c71 => ?_) (fun c71 => ?_)
  · have hf := fp_f hf c71
    refine lv_aload_n hx hb dX6_write_13 rfl (lv_at hl 0 rfl) ?_
    refine va_get (D := D) (ci := 6) (v := .int ml) (C := RX6) (T := TX6) (N := 19) hx hb hts ku_X6_write_X6 hown hK hP 0 rfl rfl 6 (by decide) (hts _ kw_X6_write_1) (fun _ h9 => h9) rfl dX6_write_14 ?_
    refine lv_bipush (v := (60 : Int32)) hx hb dX6_write_17 (by decide) ?_
    refine lv_icmp_ne (tgt := 25) hx hb dX6_write_19 (by decide) (fun c72 => ?_) (fun c72 => ?_)
    · have hf := fp_f hf c72
      refine lv_aload_n hx hb dX6_write_25 rfl (lv_at hl 0 rfl) ?_
      refine va_get (D := D) (ci := 6) (v := .ref hMt) (C := RX6) (T := TX6) (N := 19) hx hb hts ku_X6_write_X6 hown hK hP 0 rfl rfl 5 (by decide) (hts _ kw_X6_write_2) (fun _ h9 => h9) rfl dX6_write_26 ?_
      refine lv_aload_n hx hb dX6_write_29 rfl (lv_at hl 0 rfl) ?_
      refine va_get (D := D) (ci := 6) (v := .int ml) (C := RX6) (T := TX6) (N := 19) hx hb hts ku_X6_write_X6 hown hK hP 0 rfl rfl 6 (by decide) (hts _ kw_X6_write_1) (fun _ h9 => h9) rfl dX6_write_30 ?_
      refine lv_iload_n hx hb dX6_write_33 rfl (lv_at hl 1 rfl) ?_
      obtain ⟨k73, hf⟩ := fp_c hf
      refine va_iast hx hb hK hP hD hS 1 0 rfl rfl k73 dX6_write_34 (fun H locs hP hD hS => ?_)
      have hP : va_P D vwCl [(hMo, .inr (6, [.ref hMn, .ref hMr, .ref hMa, .ref hMp, .int mc, .ref hMt, .int ml, .int ms, .ref hMd, .ref hMk, .ref hMy, .int mm, .ref hMl, .ref hMw, .long mu, .long mv, .ref hMi, .ref hMx, .int me])), (hMt, .inl (cI, 60, .inl (upd mt ml.toNatClampNeg x1)))] H := hP
      have hD : va_D A [(hMo, .inr (6, [.ref hMn, .ref hMr, .ref hMa, .ref hMp, .int mc, .ref hMt, .int ml, .int ms, .ref hMd, .ref hMk, .ref hMy, .int mm, .ref hMl, .ref hMw, .long mu, .long mv, .ref hMi, .ref hMx, .int me])), (hMt, .inl (cI, 60, .inl (upd mt ml.toNatClampNeg x1)))] := hD
      refine lv_aload_n hx hb dX6_write_35 rfl (lv_at hl 0 rfl) ?_
      refine lv_dup hx hb dX6_write_36 rfl ?_
      refine va_get (D := D) (ci := 6) (v := .int ml) (C := RX6) (T := TX6) (N := 19) hx hb hts ku_X6_write_X6 hown hK hP 0 rfl rfl 6 (by decide) (hts _ kw_X6_write_1) (fun _ h9 => h9) rfl dX6_write_37 ?_
      refine lv_iconst (v := (1 : Int32)) hx hb dX6_write_40 (by decide) ?_
      refine lv_iadd hx hb dX6_write_41 ?_
      refine va_put (D := D) (ci := 6) (v := .int (ml + (1 : Int32))) (ty := .int) (C := RX6) (T := TX6) (N := 19) hx hb hts ku_X6_write_X6 tyX6 tyX6_ok nmX6 hown hK hP hD hS 0 rfl rfl 6 (by decide) (hts _ kw_X6_write_1) (fun _ h9 => h9) rfl (by decide +kernel) rfl rfl (Nat.le_of_ble_eq_true rfl) dX6_write_42 (fun H locs hP hD hS => ?_)
      have hP : va_P D vwCl [(hMo, .inr (6, [.ref hMn, .ref hMr, .ref hMa, .ref hMp, .int mc, .ref hMt, .int (ml + (1 : Int32)), .int ms, .ref hMd, .ref hMk, .ref hMy, .int mm, .ref hMl, .ref hMw, .long mu, .long mv, .ref hMi, .ref hMx, .int me])), (hMt, .inl (cI, 60, .inl (upd mt ml.toNatClampNeg x1)))] H := hP
      have hD : va_D A [(hMo, .inr (6, [.ref hMn, .ref hMr, .ref hMa, .ref hMp, .int mc, .ref hMt, .int (ml + (1 : Int32)), .int ms, .ref hMd, .ref hMk, .ref hMy, .int mm, .ref hMl, .ref hMw, .long mu, .long mv, .ref hMi, .ref hMx, .int me])), (hMt, .inl (cI, 60, .inl (upd mt ml.toNatClampNeg x1)))] := hD
      refine lv_aload_n hx hb dX6_write_45 rfl (lv_at hl 0 rfl) ?_
      refine va_get (D := D) (ci := 6) (v := .int (ml + (1 : Int32))) (C := RX6) (T := TX6) (N := 19) hx hb hts ku_X6_write_X6 hown hK hP 0 rfl rfl 6 (by decide) (hts _ kw_X6_write_1) (fun _ h9 => h9) rfl dX6_write_46 ?_
      cases hf
      exact hret _ _ _ _ dX6_write_49 (vp_nar_int _) hP hD hS
    · have hf := fp_t hf c72
      refine lv_bipush (v := (-3 : Int32)) hx hb dX6_write_22 (by decide) ?_
      cases hf
      exact hret _ _ _ _ dX6_write_24 (vp_nar_int _) hP hD hS
  · have hf := fp_t hf c71
    refine lv_iconst (v := (-1 : Int32)) hx hb dX6_write_11 (by decide) ?_
    cases hf
    exact hret _ _ _ _ dX6_write_12 (vp_nar_int _) hP hD hS
set_option maxRecDepth 100000 in
theorem c_X6_write {l : Launch} {D : va_G} {cI cJ cZ cQ : ClassId} {qs : Nat × Nat × Nat} {hMo hMn hMr hMa hMp hMt hMd hMk hMy hMl hMw hMi hMx : Nat} {mc : Int32} {ml : Int32} {ms : Int32} {mm : Int32} {mu : Int64} {mv : Int64} {me : Int32} {mt : Nat → Int32} {x1 : Int32} {out : Int32 × Int32 × (Nat → Int32)} (hf : f_X6_write ml mt x1 = some out) : RwI l yX6_write wsX6_write { frames := 1, cells := 0, slots := 0, locals := 22 } D (ty4 cI cJ cZ cQ) qs [.ref hMo, .int x1] [(hMo, .inr (6, [.ref hMn, .ref hMr, .ref hMa, .ref hMp, .int mc, .ref hMt, .int ml, .int ms, .ref hMd, .ref hMk, .ref hMy, .int mm, .ref hMl, .ref hMw, .long mu, .long mv, .ref hMi, .ref hMx, .int me])), (hMt, .inl (cI, 60, .inl mt))] [(hMo, .inr (6, [.ref hMn, .ref hMr, .ref hMa, .ref hMp, .int mc, .ref hMt, .int out.2.1, .int ms, .ref hMd, .ref hMk, .ref hMy, .int mm, .ref hMl, .ref hMw, .long mu, .long mv, .ref hMi, .ref hMx, .int me])), (hMt, .inl (cI, 60, .inl out.2.2))] out.1 :=
  RwI.of (own := RX6) (by decide +kernel) rfl rfl (Nat.le_of_ble_eq_true rfl) (fun F hG hA hP hD hS hret ls hl => b_X6_write F hG hA hP hD hS hf hret hl)
-- method X6_wipe
theorem yd_X6_wipe : yX6_wipe.cls = RX6 ∧ yX6_wipe.cls ≠ "java/lang/invoke/MethodHandle" ∧ yX6_wipe.cls ≠ "java/lang/invoke/VarHandle" ∧ (parseMethodDescriptor yX6_wipe.desc).map (fun d => d.parameters.length) = some 0 := by decide +kernel
theorem ku_X6_wipe_X6 : ∀ w ∈ u_ws RX6 TX6 19, w ∈ wsX6_wipe := by decide +kernel
theorem kw_X6_wipe_1 : Cond.fieldLink RX6 67 "MirrorSharesModel" "letters" "I" ∈ wsX6_wipe := List.mem_of_getElem? (i := 1) rfl
def f_X6_wipe (ml : Int32) : Option (Int32 × Int32) :=
  some (ml, (0 : Int32))
set_option maxHeartbeats 4000000 in
set_option maxRecDepth 100000 in
theorem b_X6_wipe {p : Program} {l : Launch} {e : Env} {s : State} {m : MethodId} {args : Array Value} {below : List Frame} {meth : Method} {c : Code} {Q : State → Prop} {A : Nat → Prop} {H : Heap} {locs : List Loc} {D : va_G} {cI cJ cZ cQ : ClassId} {qs : Nat × Nat × Nat} {hMo hMn hMr hMa hMp hMt hMd hMk hMy hMl hMw hMi hMx : Nat} {mc : Int32} {ml : Int32} {ms : Int32} {mm : Int32} {mu : Int64} {mv : Int64} {me : Int32} {out : Int32 × Int32} (F : CallFix p m c cX6_wipe 2 s args wsX6_wipe RX6) (hG : kW D (ty4 cI cJ cZ cQ) qs A s s.heap) (hA : ∀ q : Nat, s.heap.size ≤ q → A q) (hP : va_P D vwCl [(hMo, .inr (6, [.ref hMn, .ref hMr, .ref hMa, .ref hMp, .int mc, .ref hMt, .int ml, .int ms, .ref hMd, .ref hMk, .ref hMy, .int mm, .ref hMl, .ref hMw, .long mu, .long mv, .ref hMi, .ref hMx, .int me]))] H) (hD : va_D A [(hMo, .inr (6, [.ref hMn, .ref hMr, .ref hMa, .ref hMp, .int mc, .ref hMt, .int ml, .int ms, .ref hMd, .ref hMk, .ref hMy, .int mm, .ref hMl, .ref hMw, .long mu, .long mv, .ref hMi, .ref hMx, .int me]))]) (hS : va_S A s.heap H locs) (hf : f_X6_wipe ml = some out) (hret : ∀ (pc : Nat) (H : Heap) (locs : List Loc) (ls : Array Slot), decode cX6_wipe pc = .ok (.ireturn, 1) → narrow .int (.int out.1) = .int out.1 → va_P D vwCl [(hMo, .inr (6, [.ref hMn, .ref hMr, .ref hMa, .ref hMp, .int mc, .ref hMt, .int out.2, .int ms, .ref hMd, .ref hMk, .ref hMy, .int mm, .ref hMl, .ref hMw, .long mu, .long mv, .ref hMi, .ref hMx, .int me]))] H → va_D A [(hMo, .inr (6, [.ref hMn, .ref hMr, .ref hMa, .ref hMp, .int mc, .ref hMt, .int out.2, .int ms, .ref hMd, .ref hMk, .ref hMy, .int mm, .ref hMl, .ref hMw, .long mu, .long mv, .ref hMi, .ref hMx, .int me]))] → va_S A s.heap H locs → W p l e { frames := 0, cells := 0, slots := 0, locals := 0 } s m args below meth c H locs 0 0 Q (F0 m pc ls [.int out.1])) {ls : Array Slot} (hl : lv_has ls 2 [(0, .ref hMo)]) : W p l e { frames := 0, cells := 0, slots := 0, locals := 0 } s m args below meth c H locs 0 0 Q (F0 m 0 ls []) := by
  have hx := F.1
  have hb := F.2.1
  have hown := F.2.2.2.1
  have hts := F.2.2.2.2
  have hK := hG.1.1
  rw [f_X6_wipe] at hf
  refine lv_aload_n hx hb dX6_wipe_0 rfl (lv_at hl 0 rfl) ?_
  refine va_get (D := D) (ci := 6) (v := .int ml) (C := RX6) (T := TX6) (N := 19) hx hb hts ku_X6_wipe_X6 hown hK hP 0 rfl rfl 6 (by decide) (hts _ kw_X6_wipe_1) (fun _ h9 => h9) rfl dX6_wipe_1 ?_
  refine lv_istore_n (lv' := [(1, .int ml), (0, .ref hMo)]) hx hb dX6_wipe_4 rfl hl (by decide) rfl (fun ls hl => ?_)
  refine lv_aload_n hx hb dX6_wipe_5 rfl (lv_at hl 1 rfl) ?_
  refine lv_iconst (v := (0 : Int32)) hx hb dX6_wipe_6 (by decide) ?_
  refine va_put (D := D) (ci := 6) (v := .int (0 : Int32)) (ty := .int) (C := RX6) (T := TX6) (N := 19) hx hb hts ku_X6_wipe_X6 tyX6 tyX6_ok nmX6 hown hK hP hD hS 0 rfl rfl 6 (by decide) (hts _ kw_X6_wipe_1) (fun _ h9 => h9) rfl (by decide +kernel) rfl rfl (Nat.le_of_ble_eq_true rfl) dX6_wipe_7 (fun H locs hP hD hS => ?_)
  have hP : va_P D vwCl [(hMo, .inr (6, [.ref hMn, .ref hMr, .ref hMa, .ref hMp, .int mc, .ref hMt, .int (0 : Int32), .int ms, .ref hMd, .ref hMk, .ref hMy, .int mm, .ref hMl, .ref hMw, .long mu, .long mv, .ref hMi, .ref hMx, .int me]))] H := hP
  have hD : va_D A [(hMo, .inr (6, [.ref hMn, .ref hMr, .ref hMa, .ref hMp, .int mc, .ref hMt, .int (0 : Int32), .int ms, .ref hMd, .ref hMk, .ref hMy, .int mm, .ref hMl, .ref hMw, .long mu, .long mv, .ref hMi, .ref hMx, .int me]))] := hD
  refine lv_iload_n hx hb dX6_wipe_10 rfl (lv_at hl 0 rfl) ?_
  cases hf
  exact hret _ _ _ _ dX6_wipe_11 (vp_nar_int _) hP hD hS
set_option maxRecDepth 100000 in
theorem c_X6_wipe {l : Launch} {D : va_G} {cI cJ cZ cQ : ClassId} {qs : Nat × Nat × Nat} {hMo hMn hMr hMa hMp hMt hMd hMk hMy hMl hMw hMi hMx : Nat} {mc : Int32} {ml : Int32} {ms : Int32} {mm : Int32} {mu : Int64} {mv : Int64} {me : Int32} {out : Int32 × Int32} (hf : f_X6_wipe ml = some out) : RwI l yX6_wipe wsX6_wipe { frames := 0, cells := 0, slots := 0, locals := 0 } D (ty4 cI cJ cZ cQ) qs [.ref hMo] [(hMo, .inr (6, [.ref hMn, .ref hMr, .ref hMa, .ref hMp, .int mc, .ref hMt, .int ml, .int ms, .ref hMd, .ref hMk, .ref hMy, .int mm, .ref hMl, .ref hMw, .long mu, .long mv, .ref hMi, .ref hMx, .int me]))] [(hMo, .inr (6, [.ref hMn, .ref hMr, .ref hMa, .ref hMp, .int mc, .ref hMt, .int out.2, .int ms, .ref hMd, .ref hMk, .ref hMy, .int mm, .ref hMl, .ref hMw, .long mu, .long mv, .ref hMi, .ref hMx, .int me]))] out.1 :=
  RwI.of (own := RX6) (by decide +kernel) rfl rfl (Nat.le_of_ble_eq_true rfl) (fun F hG hA hP hD hS hret ls hl => b_X6_wipe F hG hA hP hD hS hf hret hl)
-- method X6_fault
theorem yd_X6_fault : yX6_fault.cls = RX6 ∧ yX6_fault.cls ≠ "java/lang/invoke/MethodHandle" ∧ yX6_fault.cls ≠ "java/lang/invoke/VarHandle" ∧ (parseMethodDescriptor yX6_fault.desc).map (fun d => d.parameters.length) = some 0 := by decide +kernel
def f_X6_fault (ml : Int32) (ms : Int32) (mr : Nat → Int32) (mt : Nat → Int32) : Option (Int32 × Int32 × (Nat → Int32)) :=
  Option.bind (f_X6_reads ml ms mr mt) (fun r74 => some (r74.1, r74.2.1, r74.2.2))
set_option maxHeartbeats 4000000 in
set_option maxRecDepth 100000 in
theorem b_X6_fault {p : Program} {l : Launch} {e : Env} {s : State} {m : MethodId} {args : Array Value} {below : List Frame} {meth : Method} {c : Code} {Q : State → Prop} {A : Nat → Prop} {H : Heap} {locs : List Loc} {D : va_G} {cI cJ cZ cQ : ClassId} {qs : Nat × Nat × Nat} {hMo hMn hMr hMa hMp hMt hMd hMk hMy hMl hMw hMi hMx : Nat} {mc : Int32} {ml : Int32} {ms : Int32} {mm : Int32} {mu : Int64} {mv : Int64} {me : Int32} {mr : Nat → Int32} {mt : Nat → Int32} {out : Int32 × Int32 × (Nat → Int32)} (F : CallFix p m c cX6_fault 1 s args wsX6_fault RX6) (hG : kW D (ty4 cI cJ cZ cQ) qs A s s.heap) (hA : ∀ q : Nat, s.heap.size ≤ q → A q) (hP : va_P D vwCl [(hMo, .inr (6, [.ref hMn, .ref hMr, .ref hMa, .ref hMp, .int mc, .ref hMt, .int ml, .int ms, .ref hMd, .ref hMk, .ref hMy, .int mm, .ref hMl, .ref hMw, .long mu, .long mv, .ref hMi, .ref hMx, .int me])), (hMr, .inl (cI, 22, .inl mr)), (hMt, .inl (cI, 60, .inl mt))] H) (hD : va_D A [(hMo, .inr (6, [.ref hMn, .ref hMr, .ref hMa, .ref hMp, .int mc, .ref hMt, .int ml, .int ms, .ref hMd, .ref hMk, .ref hMy, .int mm, .ref hMl, .ref hMw, .long mu, .long mv, .ref hMi, .ref hMx, .int me])), (hMr, .inl (cI, 22, .inl mr)), (hMt, .inl (cI, 60, .inl mt))]) (hS : va_S A s.heap H locs) (hf : f_X6_fault ml ms mr mt = some out) (hret : ∀ (pc : Nat) (H : Heap) (locs : List Loc) (ls : Array Slot), decode cX6_fault pc = .ok (.ireturn, 1) → narrow .int (.int out.1) = .int out.1 → va_P D vwCl [(hMo, .inr (6, [.ref hMn, .ref hMr, .ref hMa, .ref hMp, .int mc, .ref hMt, .int ml, .int out.2.1, .ref hMd, .ref hMk, .ref hMy, .int mm, .ref hMl, .ref hMw, .long mu, .long mv, .ref hMi, .ref hMx, .int me])), (hMr, .inl (cI, 22, .inl out.2.2)), (hMt, .inl (cI, 60, .inl mt))] H → va_D A [(hMo, .inr (6, [.ref hMn, .ref hMr, .ref hMa, .ref hMp, .int mc, .ref hMt, .int ml, .int out.2.1, .ref hMd, .ref hMk, .ref hMy, .int mm, .ref hMl, .ref hMw, .long mu, .long mv, .ref hMi, .ref hMx, .int me])), (hMr, .inl (cI, 22, .inl out.2.2)), (hMt, .inl (cI, 60, .inl mt))] → va_S A s.heap H locs → W p l e { frames := 5, cells := 0, slots := 0, locals := 108 } s m args below meth c H locs 0 0 Q (F0 m pc ls [.int out.1])) {ls : Array Slot} (hl : lv_has ls 1 [(0, .ref hMo)]) : W p l e { frames := 5, cells := 0, slots := 0, locals := 108 } s m args below meth c H locs 0 0 Q (F0 m 0 ls []) := by
  have hx := F.1
  have hb := F.2.1
  have hown := F.2.2.2.1
  have hts := F.2.2.2.2
  have hK := hG.1.1
  rw [f_X6_fault] at hf
  refine lv_aload_n hx hb dX6_fault_0 rfl (lv_at hl 0 rfl) ?_
  obtain ⟨r74, er74, hf⟩ := fp_b hf
  refine kc_rwI (w2 := [(hMo, .inr (6, [.ref hMn, .ref hMr, .ref hMa, .ref hMp, .int mc, .ref hMt, .int ml, .int r74.2.1, .ref hMd, .ref hMk, .ref hMy, .int mm, .ref hMl, .ref hMw, .long mu, .long mv, .ref hMi, .ref hMx, .int me])), (hMr, .inl (cI, 22, .inl r74.2.2)), (hMt, .inl (cI, 60, .inl mt))]) (RwI.runV (c_X6_reads (l := l) (D := D) (cI := cI) (cJ := cJ) (cZ := cZ) (cQ := cQ) (qs := qs) er74) F (cwV 0 hts gX6_fault_X6_reads rfl rfl rfl yd_X6_reads ⟨Nat.le_of_ble_eq_true rfl, Nat.le_of_ble_eq_true rfl⟩) hG hP hD hS hA [0, 1, 2] (by decide) rfl 6 rfl rfl rfl hl.1 rfl (Nat.le_of_ble_eq_true rfl) dX6_fault_1 ⟨Nat.zero_le _, Nat.zero_le _⟩) hP hD hS hA [0, 1, 2] [] [0, 1, 2] rfl (wr := []) rfl (by decide) (by decide) rfl (by decide) (fun H locs hP hD hS => ?_)
  cases hf
  exact hret _ _ _ _ dX6_fault_4 (vp_nar_int _) hP hD hS
set_option maxRecDepth 100000 in
theorem c_X6_fault {l : Launch} {D : va_G} {cI cJ cZ cQ : ClassId} {qs : Nat × Nat × Nat} {hMo hMn hMr hMa hMp hMt hMd hMk hMy hMl hMw hMi hMx : Nat} {mc : Int32} {ml : Int32} {ms : Int32} {mm : Int32} {mu : Int64} {mv : Int64} {me : Int32} {mr : Nat → Int32} {mt : Nat → Int32} {out : Int32 × Int32 × (Nat → Int32)} (hf : f_X6_fault ml ms mr mt = some out) : RwI l yX6_fault wsX6_fault { frames := 5, cells := 0, slots := 0, locals := 108 } D (ty4 cI cJ cZ cQ) qs [.ref hMo] [(hMo, .inr (6, [.ref hMn, .ref hMr, .ref hMa, .ref hMp, .int mc, .ref hMt, .int ml, .int ms, .ref hMd, .ref hMk, .ref hMy, .int mm, .ref hMl, .ref hMw, .long mu, .long mv, .ref hMi, .ref hMx, .int me])), (hMr, .inl (cI, 22, .inl mr)), (hMt, .inl (cI, 60, .inl mt))] [(hMo, .inr (6, [.ref hMn, .ref hMr, .ref hMa, .ref hMp, .int mc, .ref hMt, .int ml, .int out.2.1, .ref hMd, .ref hMk, .ref hMy, .int mm, .ref hMl, .ref hMw, .long mu, .long mv, .ref hMi, .ref hMx, .int me])), (hMr, .inl (cI, 22, .inl out.2.2)), (hMt, .inl (cI, 60, .inl mt))] out.1 :=
  RwI.of (own := RX6) (by decide +kernel) rfl rfl (Nat.le_of_ble_eq_true rfl) (fun F hG hA hP hD hS hret ls hl => b_X6_fault F hG hA hP hD hS hf hret hl)
-- method X6_lay
theorem yd_X6_lay : yX6_lay.cls = RX6 ∧ yX6_lay.cls ≠ "java/lang/invoke/MethodHandle" ∧ yX6_lay.cls ≠ "java/lang/invoke/VarHandle" ∧ (parseMethodDescriptor yX6_lay.desc).map (fun d => d.parameters.length) = some 0 := by decide +kernel
theorem ku_X6_lay_X6 : ∀ w ∈ u_ws RX6 TX6 19, w ∈ wsX6_lay := by decide +kernel
theorem kw_X6_lay_1 : Cond.fieldLink RX6 13 "MirrorSharesModel" "read" "[I" ∈ wsX6_lay := List.mem_of_getElem? (i := 1) rfl
theorem kw_X6_lay_2 : Cond.fieldLink RX6 7 "MirrorSharesModel" "now" "[I" ∈ wsX6_lay := List.mem_of_getElem? (i := 2) rfl
theorem kw_X6_lay_3 : Cond.fieldLink RX6 92 "MirrorSharesModel" "changes" "I" ∈ wsX6_lay := List.mem_of_getElem? (i := 3) rfl
def f_X6_lay (mc : Int32) (ml : Int32) (ms : Int32) (mn : Nat → Int32) (mr : Nat → Int32) (mt : Nat → Int32) : Option (Int32 × Int32 × Int32 × (Nat → Int32) × (Nat → Int32)) :=
  Option.bind (f_X6_reads ml ms mr mt) (fun r75 => (if r75.1 = (-4 : Int32) then (if (r75.2.2 (Int32.toNatClampNeg (1 : Int32))) = 0 then some ((-2 : Int32), mc, r75.2.1, mn, r75.2.2) else Option.bind (f_X6_copies 22 22 r75.2.2 mn (0 : Int32) (0 : Int32)) (fun r78 => Option.bind (f_X6_cells r78) (fun r79 => some (r79, (0 : Int32), r75.2.1, r78, r75.2.2)))) else some ((-2 : Int32), mc, r75.2.1, mn, r75.2.2)))
set_option maxHeartbeats 4000000 in
set_option maxRecDepth 100000 in
theorem b_X6_lay {p : Program} {l : Launch} {e : Env} {s : State} {m : MethodId} {args : Array Value} {below : List Frame} {meth : Method} {c : Code} {Q : State → Prop} {A : Nat → Prop} {H : Heap} {locs : List Loc} {D : va_G} {cI cJ cZ cQ : ClassId} {qs : Nat × Nat × Nat} {hMo hMn hMr hMa hMp hMt hMd hMk hMy hMl hMw hMi hMx : Nat} {mc : Int32} {ml : Int32} {ms : Int32} {mm : Int32} {mu : Int64} {mv : Int64} {me : Int32} {mn : Nat → Int32} {mr : Nat → Int32} {mt : Nat → Int32} {out : Int32 × Int32 × Int32 × (Nat → Int32) × (Nat → Int32)} (F : CallFix p m c cX6_lay 1 s args wsX6_lay RX6) (hG : kW D (ty4 cI cJ cZ cQ) qs A s s.heap) (hA : ∀ q : Nat, s.heap.size ≤ q → A q) (hP : va_P D vwCl [(hMo, .inr (6, [.ref hMn, .ref hMr, .ref hMa, .ref hMp, .int mc, .ref hMt, .int ml, .int ms, .ref hMd, .ref hMk, .ref hMy, .int mm, .ref hMl, .ref hMw, .long mu, .long mv, .ref hMi, .ref hMx, .int me])), (hMn, .inl (cI, 22, .inl mn)), (hMr, .inl (cI, 22, .inl mr)), (hMt, .inl (cI, 60, .inl mt))] H) (hD : va_D A [(hMo, .inr (6, [.ref hMn, .ref hMr, .ref hMa, .ref hMp, .int mc, .ref hMt, .int ml, .int ms, .ref hMd, .ref hMk, .ref hMy, .int mm, .ref hMl, .ref hMw, .long mu, .long mv, .ref hMi, .ref hMx, .int me])), (hMn, .inl (cI, 22, .inl mn)), (hMr, .inl (cI, 22, .inl mr)), (hMt, .inl (cI, 60, .inl mt))]) (hS : va_S A s.heap H locs) (hf : f_X6_lay mc ml ms mn mr mt = some out) (hret : ∀ (pc : Nat) (H : Heap) (locs : List Loc) (ls : Array Slot), decode cX6_lay pc = .ok (.ireturn, 1) → narrow .int (.int out.1) = .int out.1 → va_P D vwCl [(hMo, .inr (6, [.ref hMn, .ref hMr, .ref hMa, .ref hMp, .int out.2.1, .ref hMt, .int ml, .int out.2.2.1, .ref hMd, .ref hMk, .ref hMy, .int mm, .ref hMl, .ref hMw, .long mu, .long mv, .ref hMi, .ref hMx, .int me])), (hMn, .inl (cI, 22, .inl out.2.2.2.1)), (hMr, .inl (cI, 22, .inl out.2.2.2.2)), (hMt, .inl (cI, 60, .inl mt))] H → va_D A [(hMo, .inr (6, [.ref hMn, .ref hMr, .ref hMa, .ref hMp, .int out.2.1, .ref hMt, .int ml, .int out.2.2.1, .ref hMd, .ref hMk, .ref hMy, .int mm, .ref hMl, .ref hMw, .long mu, .long mv, .ref hMi, .ref hMx, .int me])), (hMn, .inl (cI, 22, .inl out.2.2.2.1)), (hMr, .inl (cI, 22, .inl out.2.2.2.2)), (hMt, .inl (cI, 60, .inl mt))] → va_S A s.heap H locs → W p l e { frames := 5, cells := 0, slots := 0, locals := 108 } s m args below meth c H locs 0 0 Q (F0 m pc ls [.int out.1])) {ls : Array Slot} (hl : lv_has ls 1 [(0, .ref hMo)]) : W p l e { frames := 5, cells := 0, slots := 0, locals := 108 } s m args below meth c H locs 0 0 Q (F0 m 0 ls []) := by
  have hx := F.1
  have hb := F.2.1
  have hown := F.2.2.2.1
  have hts := F.2.2.2.2
  have hK := hG.1.1
  rw [f_X6_lay] at hf
  refine lv_aload_n hx hb dX6_lay_0 rfl (lv_at hl 0 rfl) ?_
  obtain ⟨r75, er75, hf⟩ := fp_b hf
  refine kc_rwI (w2 := [(hMo, .inr (6, [.ref hMn, .ref hMr, .ref hMa, .ref hMp, .int mc, .ref hMt, .int ml, .int r75.2.1, .ref hMd, .ref hMk, .ref hMy, .int mm, .ref hMl, .ref hMw, .long mu, .long mv, .ref hMi, .ref hMx, .int me])), (hMn, .inl (cI, 22, .inl mn)), (hMr, .inl (cI, 22, .inl r75.2.2)), (hMt, .inl (cI, 60, .inl mt))]) (RwI.runV (c_X6_reads (l := l) (D := D) (cI := cI) (cJ := cJ) (cZ := cZ) (cQ := cQ) (qs := qs) er75) F (cwV 0 hts gX6_lay_X6_reads rfl rfl rfl yd_X6_reads ⟨Nat.le_of_ble_eq_true rfl, Nat.le_of_ble_eq_true rfl⟩) hG hP hD hS hA [0, 2, 3] (by decide) rfl 6 rfl rfl rfl hl.1 rfl (Nat.le_of_ble_eq_true rfl) dX6_lay_1 ⟨Nat.zero_le _, Nat.zero_le _⟩) hP hD hS hA [0, 2, 3] [1] [1, 0, 2, 3] rfl (wr := [(hMn, .inl (cI, 22, .inl mn))]) rfl (by decide) (by decide) rfl (by decide) (fun H locs hP hD hS => ?_)
  refine lv_bipush (v := (-4 : Int32)) hx hb dX6_lay_4 (by decide) ?_
  refine lv_icmp_ne (tgt := 18) hx hb dX6_lay_6 (by decide) (fun c76 => ?_) (fun c76 => ?_)
  · have hf := fp_f hf c76
    refine lv_bipush (v := (-2 : Int32)) hx hb dX6_lay_18 (by decide) ?_
    cases hf
    exact hret _ _ _ _ dX6_lay_20 (vp_nar_int _) hP hD hS
  · have hf := fp_t hf c76
    refine lv_aload_n hx hb dX6_lay_9 rfl (lv_at hl 0 rfl) ?_
    refine va_get (D := D) (ci := 6) (v := .ref hMr) (C := RX6) (T := TX6) (N := 19) hx hb hts ku_X6_lay_X6 hown hK hP 0 rfl rfl 1 (by decide) (hts _ kw_X6_lay_1) (fun _ h9 => h9) rfl dX6_lay_10 ?_
    refine lv_iconst (v := (1 : Int32)) hx hb dX6_lay_13 (by decide) ?_
    refine va_iald hx hb hK hP 2 0 rfl rfl (show aix (1 : Int32) 22 by decide) dX6_lay_14 ?_
    refine lv_if_ne (tgt := 21) hx hb dX6_lay_15 (by decide) (fun c77 => ?_) (fun c77 => ?_)
    · have hf := fp_f hf c77
      refine lv_aload_n hx hb dX6_lay_21 rfl (lv_at hl 0 rfl) ?_
      refine va_get (D := D) (ci := 6) (v := .ref hMr) (C := RX6) (T := TX6) (N := 19) hx hb hts ku_X6_lay_X6 hown hK hP 0 rfl rfl 1 (by decide) (hts _ kw_X6_lay_1) (fun _ h9 => h9) rfl dX6_lay_22 ?_
      refine lv_iconst (v := (0 : Int32)) hx hb dX6_lay_25 (by decide) ?_
      refine lv_aload_n hx hb dX6_lay_26 rfl (lv_at hl 0 rfl) ?_
      refine va_get (D := D) (ci := 6) (v := .ref hMn) (C := RX6) (T := TX6) (N := 19) hx hb hts ku_X6_lay_X6 hown hK hP 0 rfl rfl 0 (by decide) (hts _ kw_X6_lay_2) (fun _ h9 => h9) rfl dX6_lay_27 ?_
      refine lv_iconst (v := (0 : Int32)) hx hb dX6_lay_30 (by decide) ?_
      obtain ⟨r78, er78, hf⟩ := fp_b hf
      refine kc_rwV (w2 := [(hMo, .inr (6, [.ref hMn, .ref hMr, .ref hMa, .ref hMp, .int mc, .ref hMt, .int ml, .int r75.2.1, .ref hMd, .ref hMk, .ref hMy, .int mm, .ref hMl, .ref hMw, .long mu, .long mv, .ref hMi, .ref hMx, .int me])), (hMn, .inl (cI, 22, .inl r78)), (hMr, .inl (cI, 22, .inl r75.2.2)), (hMt, .inl (cI, 60, .inl mt))]) (RwV.runS (c_X6_copies (l := l) (D := D) (cI := cI) (cJ := cJ) (cZ := cZ) (cQ := cQ) (qs := qs) er78) F (va_cwS 4 hts gX6_lay_X6_copies rfl rfl rfl yd_X6_copies ⟨Nat.le_of_ble_eq_true rfl, Nat.le_of_ble_eq_true rfl⟩) hG hP hD hS hA [2, 1] (by decide) rfl rfl hl.1 rfl (Nat.le_of_ble_eq_true rfl) dX6_lay_31 ⟨Nat.zero_le _, Nat.zero_le _⟩) hP hD hS hA [2, 1] [0, 3] [0, 3, 2, 1] rfl (wr := [(hMo, .inr (6, [.ref hMn, .ref hMr, .ref hMa, .ref hMp, .int mc, .ref hMt, .int ml, .int r75.2.1, .ref hMd, .ref hMk, .ref hMy, .int mm, .ref hMl, .ref hMw, .long mu, .long mv, .ref hMi, .ref hMx, .int me])), (hMt, .inl (cI, 60, .inl mt))]) rfl (by decide) (by decide) rfl (by decide) (fun H locs hP hD hS => ?_)
      refine lv_aload_n hx hb dX6_lay_34 rfl (lv_at hl 0 rfl) ?_
      refine lv_iconst (v := (0 : Int32)) hx hb dX6_lay_35 (by decide) ?_
      refine va_put (D := D) (ci := 6) (v := .int (0 : Int32)) (ty := .int) (C := RX6) (T := TX6) (N := 19) hx hb hts ku_X6_lay_X6 tyX6 tyX6_ok nmX6 hown hK hP hD hS 0 rfl rfl 4 (by decide) (hts _ kw_X6_lay_3) (fun _ h9 => h9) rfl (by decide +kernel) rfl rfl (Nat.le_of_ble_eq_true rfl) dX6_lay_36 (fun H locs hP hD hS => ?_)
      have hP : va_P D vwCl [(hMo, .inr (6, [.ref hMn, .ref hMr, .ref hMa, .ref hMp, .int (0 : Int32), .ref hMt, .int ml, .int r75.2.1, .ref hMd, .ref hMk, .ref hMy, .int mm, .ref hMl, .ref hMw, .long mu, .long mv, .ref hMi, .ref hMx, .int me])), (hMn, .inl (cI, 22, .inl r78)), (hMr, .inl (cI, 22, .inl r75.2.2)), (hMt, .inl (cI, 60, .inl mt))] H := hP
      have hD : va_D A [(hMo, .inr (6, [.ref hMn, .ref hMr, .ref hMa, .ref hMp, .int (0 : Int32), .ref hMt, .int ml, .int r75.2.1, .ref hMd, .ref hMk, .ref hMy, .int mm, .ref hMl, .ref hMw, .long mu, .long mv, .ref hMi, .ref hMx, .int me])), (hMn, .inl (cI, 22, .inl r78)), (hMr, .inl (cI, 22, .inl r75.2.2)), (hMt, .inl (cI, 60, .inl mt))] := hD
      refine lv_aload_n hx hb dX6_lay_39 rfl (lv_at hl 0 rfl) ?_
      refine va_get (D := D) (ci := 6) (v := .ref hMn) (C := RX6) (T := TX6) (N := 19) hx hb hts ku_X6_lay_X6 hown hK hP 0 rfl rfl 0 (by decide) (hts _ kw_X6_lay_2) (fun _ h9 => h9) rfl dX6_lay_40 ?_
      obtain ⟨r79, er79, hf⟩ := fp_b hf
      refine RoI.callS (c_X6_cells (l := l) (D := D) (cI := cI) (cJ := cJ) (cZ := cZ) (cQ := cQ) (qs := qs) er79) F (va_cwS 1 hts gX6_lay_X6_cells rfl rfl rfl yd_X6_cells ⟨Nat.le_of_ble_eq_true rfl, Nat.le_of_ble_eq_true rfl⟩) (hG.r hS) hP [1] rfl rfl hl.1 rfl (Nat.le_of_ble_eq_true rfl) dX6_lay_43 ⟨Nat.zero_le _, Nat.zero_le _⟩ ?_
      cases hf
      exact hret _ _ _ _ dX6_lay_46 (vp_nar_int _) hP hD hS
    · have hf := fp_t hf c77
      refine lv_bipush (v := (-2 : Int32)) hx hb dX6_lay_18 (by decide) ?_
      cases hf
      exact hret _ _ _ _ dX6_lay_20 (vp_nar_int _) hP hD hS
set_option maxRecDepth 100000 in
theorem c_X6_lay {l : Launch} {D : va_G} {cI cJ cZ cQ : ClassId} {qs : Nat × Nat × Nat} {hMo hMn hMr hMa hMp hMt hMd hMk hMy hMl hMw hMi hMx : Nat} {mc : Int32} {ml : Int32} {ms : Int32} {mm : Int32} {mu : Int64} {mv : Int64} {me : Int32} {mn : Nat → Int32} {mr : Nat → Int32} {mt : Nat → Int32} {out : Int32 × Int32 × Int32 × (Nat → Int32) × (Nat → Int32)} (hf : f_X6_lay mc ml ms mn mr mt = some out) : RwI l yX6_lay wsX6_lay { frames := 5, cells := 0, slots := 0, locals := 108 } D (ty4 cI cJ cZ cQ) qs [.ref hMo] [(hMo, .inr (6, [.ref hMn, .ref hMr, .ref hMa, .ref hMp, .int mc, .ref hMt, .int ml, .int ms, .ref hMd, .ref hMk, .ref hMy, .int mm, .ref hMl, .ref hMw, .long mu, .long mv, .ref hMi, .ref hMx, .int me])), (hMn, .inl (cI, 22, .inl mn)), (hMr, .inl (cI, 22, .inl mr)), (hMt, .inl (cI, 60, .inl mt))] [(hMo, .inr (6, [.ref hMn, .ref hMr, .ref hMa, .ref hMp, .int out.2.1, .ref hMt, .int ml, .int out.2.2.1, .ref hMd, .ref hMk, .ref hMy, .int mm, .ref hMl, .ref hMw, .long mu, .long mv, .ref hMi, .ref hMx, .int me])), (hMn, .inl (cI, 22, .inl out.2.2.2.1)), (hMr, .inl (cI, 22, .inl out.2.2.2.2)), (hMt, .inl (cI, 60, .inl mt))] out.1 :=
  RwI.of (own := RX6) (by decide +kernel) rfl rfl (Nat.le_of_ble_eq_true rfl) (fun F hG hA hP hD hS hret ls hl => b_X6_lay F hG hA hP hD hS hf hret hl)
-- method X6_keeps
theorem yd_X6_keeps : yX6_keeps.cls = RX6 ∧ yX6_keeps.cls ≠ "java/lang/invoke/MethodHandle" ∧ yX6_keeps.cls ≠ "java/lang/invoke/VarHandle" ∧ (parseMethodDescriptor yX6_keeps.desc).map (fun d => d.parameters.length) = some 0 := by decide +kernel
theorem ku_X6_keeps_X6 : ∀ w ∈ u_ws RX6 TX6 19, w ∈ wsX6_keeps := by decide +kernel
theorem kw_X6_keeps_1 : Cond.fieldLink RX6 92 "MirrorSharesModel" "changes" "I" ∈ wsX6_keeps := List.mem_of_getElem? (i := 1) rfl
theorem kw_X6_keeps_3 : Cond.fieldLink RX6 7 "MirrorSharesModel" "now" "[I" ∈ wsX6_keeps := List.mem_of_getElem? (i := 3) rfl
theorem kw_X6_keeps_2 : Cond.fieldLink RX6 19 "MirrorSharesModel" "past" "[I" ∈ wsX6_keeps := List.mem_of_getElem? (i := 2) rfl
def f_X6_keeps_10 (mc : Int32) (mn : Nat → Int32) (y1 : Int32) (mp : Nat → Int32) : Option ((Int32 × (Nat → Int32)) ⊕ ((Nat → Int32))) :=
  (if (66 : Int32) ≤ y1 then some (Sum.inr mp) else chk (aix (y1 + (22 : Int32)) 88) (chk (aix y1 88) (some (Sum.inl ((y1 + (1 : Int32)), (upd mp y1.toNatClampNeg (mp (Int32.toNatClampNeg (y1 + (22 : Int32))))))))))
set_option maxHeartbeats 4000000 in
set_option maxRecDepth 100000 in
theorem lp_X6_keeps_10 {p : Program} {l : Launch} {e : Env} {s : State} {m : MethodId} {args : Array Value} {below : List Frame} {meth : Method} {c : Code} {Q : State → Prop} {A : Nat → Prop} {D : va_G} {cI cJ cZ cQ : ClassId} {qs : Nat × Nat × Nat} {hMo hMn hMr hMa hMp hMt hMd hMk hMy hMl hMw hMi hMx : Nat} {mc : Int32} {mn : Nat → Int32} {ml : Int32} {ms : Int32} {mm : Int32} {mu : Int64} {mv : Int64} {me : Int32} (F : CallFix p m c cX6_keeps 2 s args wsX6_keeps RX6) (hG : kW D (ty4 cI cJ cZ cQ) qs A s s.heap) (hA : ∀ q : Nat, s.heap.size ≤ q → A q) :
    ∀ (n : Nat) {y1 : Int32} {mp : Nat → Int32} (out : (Nat → Int32)), lpf (fun s => f_X6_keeps_10 mc mn s.1 s.2) n (y1, mp) = some out → ∀ {H : Heap} {locs : List Loc} {ls : Array Slot}, va_P D vwCl [(hMo, .inr (6, [.ref hMn, .ref hMr, .ref hMa, .ref hMp, .int mc, .ref hMt, .int ml, .int ms, .ref hMd, .ref hMk, .ref hMy, .int mm, .ref hMl, .ref hMw, .long mu, .long mv, .ref hMi, .ref hMx, .int me])), (hMn, .inl (cI, 22, .inl mn)), (hMp, .inl (cI, 88, .inl mp))] H → va_D A [(hMo, .inr (6, [.ref hMn, .ref hMr, .ref hMa, .ref hMp, .int mc, .ref hMt, .int ml, .int ms, .ref hMd, .ref hMk, .ref hMy, .int mm, .ref hMl, .ref hMw, .long mu, .long mv, .ref hMi, .ref hMx, .int me])), (hMn, .inl (cI, 22, .inl mn)), (hMp, .inl (cI, 88, .inl mp))] → va_S A s.heap H locs → lv_has ls 2 [(0, .ref hMo), (1, .int y1)] → (∀ (H : Heap) (locs : List Loc) (ls : Array Slot), va_P D vwCl [(hMo, .inr (6, [.ref hMn, .ref hMr, .ref hMa, .ref hMp, .int mc, .ref hMt, .int ml, .int ms, .ref hMd, .ref hMk, .ref hMy, .int mm, .ref hMl, .ref hMw, .long mu, .long mv, .ref hMi, .ref hMx, .int me])), (hMn, .inl (cI, 22, .inl mn)), (hMp, .inl (cI, 88, .inl out))] H → va_D A [(hMo, .inr (6, [.ref hMn, .ref hMr, .ref hMa, .ref hMp, .int mc, .ref hMt, .int ml, .int ms, .ref hMd, .ref hMk, .ref hMy, .int mm, .ref hMl, .ref hMw, .long mu, .long mv, .ref hMi, .ref hMx, .int me])), (hMn, .inl (cI, 22, .inl mn)), (hMp, .inl (cI, 88, .inl out))] → va_S A s.heap H locs → lv_has ls 2 [(0, .ref hMo)] → W p l e { frames := 1, cells := 0, slots := 0, locals := 24 } s m args below meth c H locs 0 0 Q (F0 m 37 ls [])) → W p l e { frames := 1, cells := 0, slots := 0, locals := 24 } s m args below meth c H locs 0 0 Q (F0 m 10 ls []) := by
  have hx := F.1
  have hb := F.2.1
  have hown := F.2.2.2.1
  have hts := F.2.2.2.2
  have hK := hG.1.1
  intro n
  induction n with
  | zero =>
    intro y1 mp out ho
    exact (fp_l0 ho).elim
  | succ n ih =>
    intro y1 mp out ho H locs ls hP hD hS hl hex
    obtain ⟨o, hf, ho⟩ := fp_l ho
    have hf : f_X6_keeps_10 mc mn y1 mp = some o := hf
    rw [f_X6_keeps_10] at hf
    refine lv_iload_n hx hb dX6_keeps_10 rfl (lv_at hl 1 rfl) ?_
    refine lv_bipush (v := (66 : Int32)) hx hb dX6_keeps_11 (by decide) ?_
    refine lv_icmp_ge (tgt := 37) hx hb dX6_keeps_13 (by decide) (fun c84 => ?_) (fun c84 => ?_)
    · have hf := fp_t hf c84
      cases hf
      have ho := fp_inr ho
      cases ho
      exact hex _ _ _ hP hD hS (lv_sub hl [0] rfl)
    · have hf := fp_f hf c84
      refine lv_aload_n hx hb dX6_keeps_16 rfl (lv_at hl 0 rfl) ?_
      refine va_get (D := D) (ci := 6) (v := .ref hMp) (C := RX6) (T := TX6) (N := 19) hx hb hts ku_X6_keeps_X6 hown hK hP 0 rfl rfl 3 (by decide) (hts _ kw_X6_keeps_2) (fun _ h9 => h9) rfl dX6_keeps_17 ?_
      refine lv_iload_n hx hb dX6_keeps_20 rfl (lv_at hl 1 rfl) ?_
      refine lv_aload_n hx hb dX6_keeps_21 rfl (lv_at hl 0 rfl) ?_
      refine va_get (D := D) (ci := 6) (v := .ref hMp) (C := RX6) (T := TX6) (N := 19) hx hb hts ku_X6_keeps_X6 hown hK hP 0 rfl rfl 3 (by decide) (hts _ kw_X6_keeps_2) (fun _ h9 => h9) rfl dX6_keeps_22 ?_
      refine lv_iload_n hx hb dX6_keeps_25 rfl (lv_at hl 1 rfl) ?_
      refine lv_bipush (v := (22 : Int32)) hx hb dX6_keeps_26 (by decide) ?_
      refine lv_iadd hx hb dX6_keeps_28 ?_
      obtain ⟨k85, hf⟩ := fp_c hf
      refine va_iald hx hb hK hP 2 0 rfl rfl k85 dX6_keeps_29 ?_
      obtain ⟨k86, hf⟩ := fp_c hf
      refine va_iast hx hb hK hP hD hS 2 0 rfl rfl k86 dX6_keeps_30 (fun H locs hP hD hS => ?_)
      have hP : va_P D vwCl [(hMo, .inr (6, [.ref hMn, .ref hMr, .ref hMa, .ref hMp, .int mc, .ref hMt, .int ml, .int ms, .ref hMd, .ref hMk, .ref hMy, .int mm, .ref hMl, .ref hMw, .long mu, .long mv, .ref hMi, .ref hMx, .int me])), (hMn, .inl (cI, 22, .inl mn)), (hMp, .inl (cI, 88, .inl (upd mp y1.toNatClampNeg (mp (Int32.toNatClampNeg (y1 + (22 : Int32)))))))] H := hP
      have hD : va_D A [(hMo, .inr (6, [.ref hMn, .ref hMr, .ref hMa, .ref hMp, .int mc, .ref hMt, .int ml, .int ms, .ref hMd, .ref hMk, .ref hMy, .int mm, .ref hMl, .ref hMw, .long mu, .long mv, .ref hMi, .ref hMx, .int me])), (hMn, .inl (cI, 22, .inl mn)), (hMp, .inl (cI, 88, .inl (upd mp y1.toNatClampNeg (mp (Int32.toNatClampNeg (y1 + (22 : Int32)))))))] := hD
      refine lv_iinc (v := (y1 + (1 : Int32))) (lv' := [(1, .int (y1 + (1 : Int32))), (0, .ref hMo)]) hx hb dX6_keeps_31 hl (k := 1) rfl rfl (by decide) rfl (fun ls hl => ?_)
      refine lv_goto (tgt := 10) hx hb dX6_keeps_34 (by decide) ?_
      cases hf
      exact ih _ (fp_inl ho) hP hD hS (lv_sub hl [1, 0] rfl) hex
def f_X6_keeps (mc : Int32) (mn : Nat → Int32) (mp : Nat → Int32) : Option (Int32 × (Nat → Int32)) :=
  Option.bind (if mc = (4 : Int32) then Option.bind (lpf (fun s => f_X6_keeps_10 mc mn s.1 s.2) 1000 ((0 : Int32), mp)) (fun o87 => some ((mc - (1 : Int32)), o87)) else some (mc, mp)) (fun j80 => Option.bind (f_X6_copies 22 88 mn j80.2 (0 : Int32) ((22 : Int32) * j80.1)) (fun r82 => some ((j80.1 + (1 : Int32)), r82)))
set_option maxHeartbeats 4000000 in
set_option maxRecDepth 100000 in
theorem b_X6_keeps {p : Program} {l : Launch} {e : Env} {s : State} {m : MethodId} {args : Array Value} {below : List Frame} {meth : Method} {c : Code} {Q : State → Prop} {A : Nat → Prop} {H : Heap} {locs : List Loc} {D : va_G} {cI cJ cZ cQ : ClassId} {qs : Nat × Nat × Nat} {hMo hMn hMr hMa hMp hMt hMd hMk hMy hMl hMw hMi hMx : Nat} {mc : Int32} {ml : Int32} {ms : Int32} {mm : Int32} {mu : Int64} {mv : Int64} {me : Int32} {mn : Nat → Int32} {mp : Nat → Int32} {out : Int32 × (Nat → Int32)} (F : CallFix p m c cX6_keeps 2 s args wsX6_keeps RX6) (hG : kW D (ty4 cI cJ cZ cQ) qs A s s.heap) (hA : ∀ q : Nat, s.heap.size ≤ q → A q) (hP : va_P D vwCl [(hMo, .inr (6, [.ref hMn, .ref hMr, .ref hMa, .ref hMp, .int mc, .ref hMt, .int ml, .int ms, .ref hMd, .ref hMk, .ref hMy, .int mm, .ref hMl, .ref hMw, .long mu, .long mv, .ref hMi, .ref hMx, .int me])), (hMn, .inl (cI, 22, .inl mn)), (hMp, .inl (cI, 88, .inl mp))] H) (hD : va_D A [(hMo, .inr (6, [.ref hMn, .ref hMr, .ref hMa, .ref hMp, .int mc, .ref hMt, .int ml, .int ms, .ref hMd, .ref hMk, .ref hMy, .int mm, .ref hMl, .ref hMw, .long mu, .long mv, .ref hMi, .ref hMx, .int me])), (hMn, .inl (cI, 22, .inl mn)), (hMp, .inl (cI, 88, .inl mp))]) (hS : va_S A s.heap H locs) (hf : f_X6_keeps mc mn mp = some out) (hret : ∀ (pc : Nat) (H : Heap) (locs : List Loc) (ls : Array Slot), decode cX6_keeps pc = .ok (.return_, 1) → va_P D vwCl [(hMo, .inr (6, [.ref hMn, .ref hMr, .ref hMa, .ref hMp, .int out.1, .ref hMt, .int ml, .int ms, .ref hMd, .ref hMk, .ref hMy, .int mm, .ref hMl, .ref hMw, .long mu, .long mv, .ref hMi, .ref hMx, .int me])), (hMn, .inl (cI, 22, .inl mn)), (hMp, .inl (cI, 88, .inl out.2))] H → va_D A [(hMo, .inr (6, [.ref hMn, .ref hMr, .ref hMa, .ref hMp, .int out.1, .ref hMt, .int ml, .int ms, .ref hMd, .ref hMk, .ref hMy, .int mm, .ref hMl, .ref hMw, .long mu, .long mv, .ref hMi, .ref hMx, .int me])), (hMn, .inl (cI, 22, .inl mn)), (hMp, .inl (cI, 88, .inl out.2))] → va_S A s.heap H locs → W p l e { frames := 1, cells := 0, slots := 0, locals := 24 } s m args below meth c H locs 0 0 Q (F0 m pc ls [])) {ls : Array Slot} (hl : lv_has ls 2 [(0, .ref hMo)]) : W p l e { frames := 1, cells := 0, slots := 0, locals := 24 } s m args below meth c H locs 0 0 Q (F0 m 0 ls []) := by
  have hx := F.1
  have hb := F.2.1
  have hown := F.2.2.2.1
  have hts := F.2.2.2.2
  have hK := hG.1.1
  rw [f_X6_keeps] at hf
  refine lv_aload_n hx hb dX6_keeps_0 rfl (lv_at hl 0 rfl) ?_
  refine va_get (D := D) (ci := 6) (v := .int mc) (C := RX6) (T := TX6) (N := 19) hx hb hts ku_X6_keeps_X6 hown hK hP 0 rfl rfl 4 (by decide) (hts _ kw_X6_keeps_1) (fun _ h9 => h9) rfl dX6_keeps_1 ?_
  refine lv_iconst (v := (4 : Int32)) hx hb dX6_keeps_4 (by decide) ?_
  obtain ⟨j80, ej80, hf⟩ := fp_b hf
  have hj81 : ∀ (H : Heap) (locs : List Loc) (ls : Array Slot), va_P D vwCl [(hMo, .inr (6, [.ref hMn, .ref hMr, .ref hMa, .ref hMp, .int j80.1, .ref hMt, .int ml, .int ms, .ref hMd, .ref hMk, .ref hMy, .int mm, .ref hMl, .ref hMw, .long mu, .long mv, .ref hMi, .ref hMx, .int me])), (hMn, .inl (cI, 22, .inl mn)), (hMp, .inl (cI, 88, .inl j80.2))] H → va_D A [(hMo, .inr (6, [.ref hMn, .ref hMr, .ref hMa, .ref hMp, .int j80.1, .ref hMt, .int ml, .int ms, .ref hMd, .ref hMk, .ref hMy, .int mm, .ref hMl, .ref hMw, .long mu, .long mv, .ref hMi, .ref hMx, .int me])), (hMn, .inl (cI, 22, .inl mn)), (hMp, .inl (cI, 88, .inl j80.2))] → va_S A s.heap H locs → lv_has ls 2 [(0, .ref hMo)] → W p l e { frames := 1, cells := 0, slots := 0, locals := 24 } s m args below meth c H locs 0 0 Q (F0 m 47 ls []) := by
    intro H locs ls hP hD hS hl
    refine lv_aload_n hx hb dX6_keeps_47 rfl (lv_at hl 0 rfl) ?_
    refine va_get (D := D) (ci := 6) (v := .ref hMn) (C := RX6) (T := TX6) (N := 19) hx hb hts ku_X6_keeps_X6 hown hK hP 0 rfl rfl 0 (by decide) (hts _ kw_X6_keeps_3) (fun _ h9 => h9) rfl dX6_keeps_48 ?_
    refine lv_iconst (v := (0 : Int32)) hx hb dX6_keeps_51 (by decide) ?_
    refine lv_aload_n hx hb dX6_keeps_52 rfl (lv_at hl 0 rfl) ?_
    refine va_get (D := D) (ci := 6) (v := .ref hMp) (C := RX6) (T := TX6) (N := 19) hx hb hts ku_X6_keeps_X6 hown hK hP 0 rfl rfl 3 (by decide) (hts _ kw_X6_keeps_2) (fun _ h9 => h9) rfl dX6_keeps_53 ?_
    refine lv_bipush (v := (22 : Int32)) hx hb dX6_keeps_56 (by decide) ?_
    refine lv_aload_n hx hb dX6_keeps_58 rfl (lv_at hl 0 rfl) ?_
    refine va_get (D := D) (ci := 6) (v := .int j80.1) (C := RX6) (T := TX6) (N := 19) hx hb hts ku_X6_keeps_X6 hown hK hP 0 rfl rfl 4 (by decide) (hts _ kw_X6_keeps_1) (fun _ h9 => h9) rfl dX6_keeps_59 ?_
    refine lv_imul hx hb dX6_keeps_62 ?_
    obtain ⟨r82, er82, hf⟩ := fp_b hf
    refine kc_rwV (w2 := [(hMo, .inr (6, [.ref hMn, .ref hMr, .ref hMa, .ref hMp, .int j80.1, .ref hMt, .int ml, .int ms, .ref hMd, .ref hMk, .ref hMy, .int mm, .ref hMl, .ref hMw, .long mu, .long mv, .ref hMi, .ref hMx, .int me])), (hMn, .inl (cI, 22, .inl mn)), (hMp, .inl (cI, 88, .inl r82))]) (RwV.runS (c_X6_copies (l := l) (D := D) (cI := cI) (cJ := cJ) (cZ := cZ) (cQ := cQ) (qs := qs) er82) F (va_cwS 4 hts gX6_keeps_X6_copies rfl rfl rfl yd_X6_copies ⟨Nat.le_of_ble_eq_true rfl, Nat.le_of_ble_eq_true rfl⟩) hG hP hD hS hA [1, 2] (by decide) rfl rfl hl.1 rfl (Nat.le_of_ble_eq_true rfl) dX6_keeps_63 ⟨Nat.zero_le _, Nat.zero_le _⟩) hP hD hS hA [1, 2] [0] [0, 1, 2] rfl (wr := [(hMo, .inr (6, [.ref hMn, .ref hMr, .ref hMa, .ref hMp, .int j80.1, .ref hMt, .int ml, .int ms, .ref hMd, .ref hMk, .ref hMy, .int mm, .ref hMl, .ref hMw, .long mu, .long mv, .ref hMi, .ref hMx, .int me]))]) rfl (by decide) (by decide) rfl (by decide) (fun H locs hP hD hS => ?_)
    refine lv_aload_n hx hb dX6_keeps_66 rfl (lv_at hl 0 rfl) ?_
    refine lv_dup hx hb dX6_keeps_67 rfl ?_
    refine va_get (D := D) (ci := 6) (v := .int j80.1) (C := RX6) (T := TX6) (N := 19) hx hb hts ku_X6_keeps_X6 hown hK hP 0 rfl rfl 4 (by decide) (hts _ kw_X6_keeps_1) (fun _ h9 => h9) rfl dX6_keeps_68 ?_
    refine lv_iconst (v := (1 : Int32)) hx hb dX6_keeps_71 (by decide) ?_
    refine lv_iadd hx hb dX6_keeps_72 ?_
    refine va_put (D := D) (ci := 6) (v := .int (j80.1 + (1 : Int32))) (ty := .int) (C := RX6) (T := TX6) (N := 19) hx hb hts ku_X6_keeps_X6 tyX6 tyX6_ok nmX6 hown hK hP hD hS 0 rfl rfl 4 (by decide) (hts _ kw_X6_keeps_1) (fun _ h9 => h9) rfl (by decide +kernel) rfl rfl (Nat.le_of_ble_eq_true rfl) dX6_keeps_73 (fun H locs hP hD hS => ?_)
    have hP : va_P D vwCl [(hMo, .inr (6, [.ref hMn, .ref hMr, .ref hMa, .ref hMp, .int (j80.1 + (1 : Int32)), .ref hMt, .int ml, .int ms, .ref hMd, .ref hMk, .ref hMy, .int mm, .ref hMl, .ref hMw, .long mu, .long mv, .ref hMi, .ref hMx, .int me])), (hMn, .inl (cI, 22, .inl mn)), (hMp, .inl (cI, 88, .inl r82))] H := hP
    have hD : va_D A [(hMo, .inr (6, [.ref hMn, .ref hMr, .ref hMa, .ref hMp, .int (j80.1 + (1 : Int32)), .ref hMt, .int ml, .int ms, .ref hMd, .ref hMk, .ref hMy, .int mm, .ref hMl, .ref hMw, .long mu, .long mv, .ref hMi, .ref hMx, .int me])), (hMn, .inl (cI, 22, .inl mn)), (hMp, .inl (cI, 88, .inl r82))] := hD
    cases hf
    exact hret _ _ _ _ dX6_keeps_76 hP hD hS
  replace hf := ej80
  refine lv_icmp_ne (tgt := 47) hx hb dX6_keeps_5 (by decide) (fun c83 => ?_) (fun c83 => ?_)
  · have hf := fp_f hf c83
    cases hf
    exact hj81 _ _ _ hP hD hS (lv_sub hl [0] rfl)
  · have hf := fp_t hf c83
    refine lv_iconst (v := (0 : Int32)) hx hb dX6_keeps_8 (by decide) ?_
    refine lv_istore_n (lv' := [(1, .int (0 : Int32)), (0, .ref hMo)]) hx hb dX6_keeps_9 rfl hl (by decide) rfl (fun ls hl => ?_)
    obtain ⟨o87, eo87, hf⟩ := fp_b hf
    refine lp_X6_keeps_10 F hG hA _ _ eo87 hP hD hS (lv_sub hl [1, 0] rfl) (fun H locs ls hP hD hS hl => ?_)
    refine lv_aload_n hx hb dX6_keeps_37 rfl (lv_at hl 0 rfl) ?_
    refine lv_dup hx hb dX6_keeps_38 rfl ?_
    refine va_get (D := D) (ci := 6) (v := .int mc) (C := RX6) (T := TX6) (N := 19) hx hb hts ku_X6_keeps_X6 hown hK hP 0 rfl rfl 4 (by decide) (hts _ kw_X6_keeps_1) (fun _ h9 => h9) rfl dX6_keeps_39 ?_
    refine lv_iconst (v := (1 : Int32)) hx hb dX6_keeps_42 (by decide) ?_
    refine lv_isub hx hb dX6_keeps_43 ?_
    refine va_put (D := D) (ci := 6) (v := .int (mc - (1 : Int32))) (ty := .int) (C := RX6) (T := TX6) (N := 19) hx hb hts ku_X6_keeps_X6 tyX6 tyX6_ok nmX6 hown hK hP hD hS 0 rfl rfl 4 (by decide) (hts _ kw_X6_keeps_1) (fun _ h9 => h9) rfl (by decide +kernel) rfl rfl (Nat.le_of_ble_eq_true rfl) dX6_keeps_44 (fun H locs hP hD hS => ?_)
    have hP : va_P D vwCl [(hMo, .inr (6, [.ref hMn, .ref hMr, .ref hMa, .ref hMp, .int (mc - (1 : Int32)), .ref hMt, .int ml, .int ms, .ref hMd, .ref hMk, .ref hMy, .int mm, .ref hMl, .ref hMw, .long mu, .long mv, .ref hMi, .ref hMx, .int me])), (hMn, .inl (cI, 22, .inl mn)), (hMp, .inl (cI, 88, .inl o87))] H := hP
    have hD : va_D A [(hMo, .inr (6, [.ref hMn, .ref hMr, .ref hMa, .ref hMp, .int (mc - (1 : Int32)), .ref hMt, .int ml, .int ms, .ref hMd, .ref hMk, .ref hMy, .int mm, .ref hMl, .ref hMw, .long mu, .long mv, .ref hMi, .ref hMx, .int me])), (hMn, .inl (cI, 22, .inl mn)), (hMp, .inl (cI, 88, .inl o87))] := hD
    cases hf
    exact hj81 _ _ _ hP hD hS (lv_sub hl [0] rfl)
set_option maxRecDepth 100000 in
theorem c_X6_keeps {l : Launch} {D : va_G} {cI cJ cZ cQ : ClassId} {qs : Nat × Nat × Nat} {hMo hMn hMr hMa hMp hMt hMd hMk hMy hMl hMw hMi hMx : Nat} {mc : Int32} {ml : Int32} {ms : Int32} {mm : Int32} {mu : Int64} {mv : Int64} {me : Int32} {mn : Nat → Int32} {mp : Nat → Int32} {out : Int32 × (Nat → Int32)} (hf : f_X6_keeps mc mn mp = some out) : RwV l yX6_keeps wsX6_keeps { frames := 1, cells := 0, slots := 0, locals := 24 } D (ty4 cI cJ cZ cQ) qs [.ref hMo] [(hMo, .inr (6, [.ref hMn, .ref hMr, .ref hMa, .ref hMp, .int mc, .ref hMt, .int ml, .int ms, .ref hMd, .ref hMk, .ref hMy, .int mm, .ref hMl, .ref hMw, .long mu, .long mv, .ref hMi, .ref hMx, .int me])), (hMn, .inl (cI, 22, .inl mn)), (hMp, .inl (cI, 88, .inl mp))] [(hMo, .inr (6, [.ref hMn, .ref hMr, .ref hMa, .ref hMp, .int out.1, .ref hMt, .int ml, .int ms, .ref hMd, .ref hMk, .ref hMy, .int mm, .ref hMl, .ref hMw, .long mu, .long mv, .ref hMi, .ref hMx, .int me])), (hMn, .inl (cI, 22, .inl mn)), (hMp, .inl (cI, 88, .inl out.2))] :=
  RwV.of (own := RX6) (by decide +kernel) rfl rfl (Nat.le_of_ble_eq_true rfl) (fun F hG hA hP hD hS hret ls hl => b_X6_keeps F hG hA hP hD hS hf hret hl)
-- method X6_undo
theorem yd_X6_undo : yX6_undo.cls = RX6 ∧ yX6_undo.cls ≠ "java/lang/invoke/MethodHandle" ∧ yX6_undo.cls ≠ "java/lang/invoke/VarHandle" ∧ (parseMethodDescriptor yX6_undo.desc).map (fun d => d.parameters.length) = some 0 := by decide +kernel
theorem ku_X6_undo_X6 : ∀ w ∈ u_ws RX6 TX6 19, w ∈ wsX6_undo := by decide +kernel
theorem kw_X6_undo_1 : Cond.fieldLink RX6 92 "MirrorSharesModel" "changes" "I" ∈ wsX6_undo := List.mem_of_getElem? (i := 1) rfl
theorem kw_X6_undo_2 : Cond.fieldLink RX6 19 "MirrorSharesModel" "past" "[I" ∈ wsX6_undo := List.mem_of_getElem? (i := 2) rfl
theorem kw_X6_undo_3 : Cond.fieldLink RX6 7 "MirrorSharesModel" "now" "[I" ∈ wsX6_undo := List.mem_of_getElem? (i := 3) rfl
def f_X6_undo (mc : Int32) (mn : Nat → Int32) (mp : Nat → Int32) : Option (Int32 × Int32 × (Nat → Int32)) :=
  (if mc = 0 then some ((-2 : Int32), mc, mn) else Option.bind (f_X6_copies 88 22 mp mn ((22 : Int32) * (mc - (1 : Int32))) (0 : Int32)) (fun r89 => some ((mc - (1 : Int32)), (mc - (1 : Int32)), r89)))
set_option maxHeartbeats 4000000 in
set_option maxRecDepth 100000 in
theorem b_X6_undo {p : Program} {l : Launch} {e : Env} {s : State} {m : MethodId} {args : Array Value} {below : List Frame} {meth : Method} {c : Code} {Q : State → Prop} {A : Nat → Prop} {H : Heap} {locs : List Loc} {D : va_G} {cI cJ cZ cQ : ClassId} {qs : Nat × Nat × Nat} {hMo hMn hMr hMa hMp hMt hMd hMk hMy hMl hMw hMi hMx : Nat} {mc : Int32} {ml : Int32} {ms : Int32} {mm : Int32} {mu : Int64} {mv : Int64} {me : Int32} {mn : Nat → Int32} {mp : Nat → Int32} {out : Int32 × Int32 × (Nat → Int32)} (F : CallFix p m c cX6_undo 1 s args wsX6_undo RX6) (hG : kW D (ty4 cI cJ cZ cQ) qs A s s.heap) (hA : ∀ q : Nat, s.heap.size ≤ q → A q) (hP : va_P D vwCl [(hMo, .inr (6, [.ref hMn, .ref hMr, .ref hMa, .ref hMp, .int mc, .ref hMt, .int ml, .int ms, .ref hMd, .ref hMk, .ref hMy, .int mm, .ref hMl, .ref hMw, .long mu, .long mv, .ref hMi, .ref hMx, .int me])), (hMn, .inl (cI, 22, .inl mn)), (hMp, .inl (cI, 88, .inl mp))] H) (hD : va_D A [(hMo, .inr (6, [.ref hMn, .ref hMr, .ref hMa, .ref hMp, .int mc, .ref hMt, .int ml, .int ms, .ref hMd, .ref hMk, .ref hMy, .int mm, .ref hMl, .ref hMw, .long mu, .long mv, .ref hMi, .ref hMx, .int me])), (hMn, .inl (cI, 22, .inl mn)), (hMp, .inl (cI, 88, .inl mp))]) (hS : va_S A s.heap H locs) (hf : f_X6_undo mc mn mp = some out) (hret : ∀ (pc : Nat) (H : Heap) (locs : List Loc) (ls : Array Slot), decode cX6_undo pc = .ok (.ireturn, 1) → narrow .int (.int out.1) = .int out.1 → va_P D vwCl [(hMo, .inr (6, [.ref hMn, .ref hMr, .ref hMa, .ref hMp, .int out.2.1, .ref hMt, .int ml, .int ms, .ref hMd, .ref hMk, .ref hMy, .int mm, .ref hMl, .ref hMw, .long mu, .long mv, .ref hMi, .ref hMx, .int me])), (hMn, .inl (cI, 22, .inl out.2.2)), (hMp, .inl (cI, 88, .inl mp))] H → va_D A [(hMo, .inr (6, [.ref hMn, .ref hMr, .ref hMa, .ref hMp, .int out.2.1, .ref hMt, .int ml, .int ms, .ref hMd, .ref hMk, .ref hMy, .int mm, .ref hMl, .ref hMw, .long mu, .long mv, .ref hMi, .ref hMx, .int me])), (hMn, .inl (cI, 22, .inl out.2.2)), (hMp, .inl (cI, 88, .inl mp))] → va_S A s.heap H locs → W p l e { frames := 1, cells := 0, slots := 0, locals := 24 } s m args below meth c H locs 0 0 Q (F0 m pc ls [.int out.1])) {ls : Array Slot} (hl : lv_has ls 1 [(0, .ref hMo)]) : W p l e { frames := 1, cells := 0, slots := 0, locals := 24 } s m args below meth c H locs 0 0 Q (F0 m 0 ls []) := by
  have hx := F.1
  have hb := F.2.1
  have hown := F.2.2.2.1
  have hts := F.2.2.2.2
  have hK := hG.1.1
  rw [f_X6_undo] at hf
  refine lv_aload_n hx hb dX6_undo_0 rfl (lv_at hl 0 rfl) ?_
  refine va_get (D := D) (ci := 6) (v := .int mc) (C := RX6) (T := TX6) (N := 19) hx hb hts ku_X6_undo_X6 hown hK hP 0 rfl rfl 4 (by decide) (hts _ kw_X6_undo_1) (fun _ h9 => h9) rfl dX6_undo_1 ?_
  refine lv_if_ne (tgt := 10) hx hb dX6_undo_4 (by decide) (fun c88 => ?_) (fun c88 => ?_)
  · have hf := fp_f hf c88
    refine lv_aload_n hx hb dX6_undo_10 rfl (lv_at hl 0 rfl) ?_
    refine lv_dup hx hb dX6_undo_11 rfl ?_
    refine va_get (D := D) (ci := 6) (v := .int mc) (C := RX6) (T := TX6) (N := 19) hx hb hts ku_X6_undo_X6 hown hK hP 0 rfl rfl 4 (by decide) (hts _ kw_X6_undo_1) (fun _ h9 => h9) rfl dX6_undo_12 ?_
    refine lv_iconst (v := (1 : Int32)) hx hb dX6_undo_15 (by decide) ?_
    refine lv_isub hx hb dX6_undo_16 ?_
    refine va_put (D := D) (ci := 6) (v := .int (mc - (1 : Int32))) (ty := .int) (C := RX6) (T := TX6) (N := 19) hx hb hts ku_X6_undo_X6 tyX6 tyX6_ok nmX6 hown hK hP hD hS 0 rfl rfl 4 (by decide) (hts _ kw_X6_undo_1) (fun _ h9 => h9) rfl (by decide +kernel) rfl rfl (Nat.le_of_ble_eq_true rfl) dX6_undo_17 (fun H locs hP hD hS => ?_)
    have hP : va_P D vwCl [(hMo, .inr (6, [.ref hMn, .ref hMr, .ref hMa, .ref hMp, .int (mc - (1 : Int32)), .ref hMt, .int ml, .int ms, .ref hMd, .ref hMk, .ref hMy, .int mm, .ref hMl, .ref hMw, .long mu, .long mv, .ref hMi, .ref hMx, .int me])), (hMn, .inl (cI, 22, .inl mn)), (hMp, .inl (cI, 88, .inl mp))] H := hP
    have hD : va_D A [(hMo, .inr (6, [.ref hMn, .ref hMr, .ref hMa, .ref hMp, .int (mc - (1 : Int32)), .ref hMt, .int ml, .int ms, .ref hMd, .ref hMk, .ref hMy, .int mm, .ref hMl, .ref hMw, .long mu, .long mv, .ref hMi, .ref hMx, .int me])), (hMn, .inl (cI, 22, .inl mn)), (hMp, .inl (cI, 88, .inl mp))] := hD
    refine lv_aload_n hx hb dX6_undo_20 rfl (lv_at hl 0 rfl) ?_
    refine va_get (D := D) (ci := 6) (v := .ref hMp) (C := RX6) (T := TX6) (N := 19) hx hb hts ku_X6_undo_X6 hown hK hP 0 rfl rfl 3 (by decide) (hts _ kw_X6_undo_2) (fun _ h9 => h9) rfl dX6_undo_21 ?_
    refine lv_bipush (v := (22 : Int32)) hx hb dX6_undo_24 (by decide) ?_
    refine lv_aload_n hx hb dX6_undo_26 rfl (lv_at hl 0 rfl) ?_
    refine va_get (D := D) (ci := 6) (v := .int (mc - (1 : Int32))) (C := RX6) (T := TX6) (N := 19) hx hb hts ku_X6_undo_X6 hown hK hP 0 rfl rfl 4 (by decide) (hts _ kw_X6_undo_1) (fun _ h9 => h9) rfl dX6_undo_27 ?_
    refine lv_imul hx hb dX6_undo_30 ?_
    refine lv_aload_n hx hb dX6_undo_31 rfl (lv_at hl 0 rfl) ?_
    refine va_get (D := D) (ci := 6) (v := .ref hMn) (C := RX6) (T := TX6) (N := 19) hx hb hts ku_X6_undo_X6 hown hK hP 0 rfl rfl 0 (by decide) (hts _ kw_X6_undo_3) (fun _ h9 => h9) rfl dX6_undo_32 ?_
    refine lv_iconst (v := (0 : Int32)) hx hb dX6_undo_35 (by decide) ?_
    obtain ⟨r89, er89, hf⟩ := fp_b hf
    refine kc_rwV (w2 := [(hMo, .inr (6, [.ref hMn, .ref hMr, .ref hMa, .ref hMp, .int (mc - (1 : Int32)), .ref hMt, .int ml, .int ms, .ref hMd, .ref hMk, .ref hMy, .int mm, .ref hMl, .ref hMw, .long mu, .long mv, .ref hMi, .ref hMx, .int me])), (hMn, .inl (cI, 22, .inl r89)), (hMp, .inl (cI, 88, .inl mp))]) (RwV.runS (c_X6_copies (l := l) (D := D) (cI := cI) (cJ := cJ) (cZ := cZ) (cQ := cQ) (qs := qs) er89) F (va_cwS 4 hts gX6_undo_X6_copies rfl rfl rfl yd_X6_copies ⟨Nat.le_of_ble_eq_true rfl, Nat.le_of_ble_eq_true rfl⟩) hG hP hD hS hA [2, 1] (by decide) rfl rfl hl.1 rfl (Nat.le_of_ble_eq_true rfl) dX6_undo_36 ⟨Nat.zero_le _, Nat.zero_le _⟩) hP hD hS hA [2, 1] [0] [0, 2, 1] rfl (wr := [(hMo, .inr (6, [.ref hMn, .ref hMr, .ref hMa, .ref hMp, .int (mc - (1 : Int32)), .ref hMt, .int ml, .int ms, .ref hMd, .ref hMk, .ref hMy, .int mm, .ref hMl, .ref hMw, .long mu, .long mv, .ref hMi, .ref hMx, .int me]))]) rfl (by decide) (by decide) rfl (by decide) (fun H locs hP hD hS => ?_)
    refine lv_aload_n hx hb dX6_undo_39 rfl (lv_at hl 0 rfl) ?_
    refine va_get (D := D) (ci := 6) (v := .int (mc - (1 : Int32))) (C := RX6) (T := TX6) (N := 19) hx hb hts ku_X6_undo_X6 hown hK hP 0 rfl rfl 4 (by decide) (hts _ kw_X6_undo_1) (fun _ h9 => h9) rfl dX6_undo_40 ?_
    cases hf
    exact hret _ _ _ _ dX6_undo_43 (vp_nar_int _) hP hD hS
  · have hf := fp_t hf c88
    refine lv_bipush (v := (-2 : Int32)) hx hb dX6_undo_7 (by decide) ?_
    cases hf
    exact hret _ _ _ _ dX6_undo_9 (vp_nar_int _) hP hD hS
set_option maxRecDepth 100000 in
theorem c_X6_undo {l : Launch} {D : va_G} {cI cJ cZ cQ : ClassId} {qs : Nat × Nat × Nat} {hMo hMn hMr hMa hMp hMt hMd hMk hMy hMl hMw hMi hMx : Nat} {mc : Int32} {ml : Int32} {ms : Int32} {mm : Int32} {mu : Int64} {mv : Int64} {me : Int32} {mn : Nat → Int32} {mp : Nat → Int32} {out : Int32 × Int32 × (Nat → Int32)} (hf : f_X6_undo mc mn mp = some out) : RwI l yX6_undo wsX6_undo { frames := 1, cells := 0, slots := 0, locals := 24 } D (ty4 cI cJ cZ cQ) qs [.ref hMo] [(hMo, .inr (6, [.ref hMn, .ref hMr, .ref hMa, .ref hMp, .int mc, .ref hMt, .int ml, .int ms, .ref hMd, .ref hMk, .ref hMy, .int mm, .ref hMl, .ref hMw, .long mu, .long mv, .ref hMi, .ref hMx, .int me])), (hMn, .inl (cI, 22, .inl mn)), (hMp, .inl (cI, 88, .inl mp))] [(hMo, .inr (6, [.ref hMn, .ref hMr, .ref hMa, .ref hMp, .int out.2.1, .ref hMt, .int ml, .int ms, .ref hMd, .ref hMk, .ref hMy, .int mm, .ref hMl, .ref hMw, .long mu, .long mv, .ref hMi, .ref hMx, .int me])), (hMn, .inl (cI, 22, .inl out.2.2)), (hMp, .inl (cI, 88, .inl mp))] out.1 :=
  RwI.of (own := RX6) (by decide +kernel) rfl rfl (Nat.le_of_ble_eq_true rfl) (fun F hG hA hP hD hS hret ls hl => b_X6_undo F hG hA hP hD hS hf hret hl)
-- method X6_isCell
theorem yd_X6_isCell : yX6_isCell.cls = RX6 ∧ yX6_isCell.cls ≠ "java/lang/invoke/MethodHandle" ∧ yX6_isCell.cls ≠ "java/lang/invoke/VarHandle" ∧ (parseMethodDescriptor yX6_isCell.desc).map (fun d => d.parameters.length) = some 1 := by decide +kernel
theorem ku_X6_isCell_X6 : ∀ w ∈ u_ws RX6 TX6 19, w ∈ wsX6_isCell := by decide +kernel
theorem kw_X6_isCell_1 : Cond.fieldLink RX6 7 "MirrorSharesModel" "now" "[I" ∈ wsX6_isCell := List.mem_of_getElem? (i := 1) rfl
def f_X6_isCell (mn : Nat → Int32) (x1 : Int32) : Option (Int32) :=
  Option.bind (f_X6_cells mn) (fun r90 => Option.bind (f_X6_in x1 (0 : Int32) (r90 - (1 : Int32))) (fun r91 => chk (r91 = 0 ∨ r91 = 1) (some r91)))
set_option maxHeartbeats 4000000 in
set_option maxRecDepth 100000 in
theorem b_X6_isCell {p : Program} {l : Launch} {e : Env} {s : State} {m : MethodId} {args : Array Value} {below : List Frame} {meth : Method} {c : Code} {Q : State → Prop} {D : va_G} {cI cJ cZ cQ : ClassId} {qs : Nat × Nat × Nat} {hMo hMn hMr hMa hMp hMt hMd hMk hMy hMl hMw hMi hMx : Nat} {mc : Int32} {ml : Int32} {ms : Int32} {mm : Int32} {mu : Int64} {mv : Int64} {me : Int32} {mn : Nat → Int32} {x1 : Int32} {out : Int32} (F : CallFix p m c cX6_isCell 2 s args wsX6_isCell RX6) (hG : kR D (ty4 cI cJ cZ cQ) qs s s.heap) (hP : va_P D vwCl [(hMo, .inr (6, [.ref hMn, .ref hMr, .ref hMa, .ref hMp, .int mc, .ref hMt, .int ml, .int ms, .ref hMd, .ref hMk, .ref hMy, .int mm, .ref hMl, .ref hMw, .long mu, .long mv, .ref hMi, .ref hMx, .int me])), (hMn, .inl (cI, 22, .inl mn))] s.heap) (hf : f_X6_isCell mn x1 = some out) (hret : ∀ (pc : Nat) (ls : Array Slot), decode cX6_isCell pc = .ok (.ireturn, 1) → narrow .boolean (.int out) = .int out → W p l e { frames := 1, cells := 0, slots := 0, locals := 22 } s m args below meth c s.heap [] 0 0 Q (F0 m pc ls [.int out])) {ls : Array Slot} (hl : lv_has ls 2 [(0, .ref hMo), (1, .int x1)]) : W p l e { frames := 1, cells := 0, slots := 0, locals := 22 } s m args below meth c s.heap [] 0 0 Q (F0 m 0 ls []) := by
  have hx := F.1
  have hb := F.2.1
  have hown := F.2.2.2.1
  have hts := F.2.2.2.2
  have hK := hG.1.1
  rw [f_X6_isCell] at hf
  refine lv_iload_n hx hb dX6_isCell_0 rfl (lv_at hl 1 rfl) ?_
  refine lv_iconst (v := (0 : Int32)) hx hb dX6_isCell_1 (by decide) ?_
  refine lv_aload_n hx hb dX6_isCell_2 rfl (lv_at hl 0 rfl) ?_
  refine va_get (D := D) (ci := 6) (v := .ref hMn) (C := RX6) (T := TX6) (N := 19) hx hb hts ku_X6_isCell_X6 hown hK hP 0 rfl rfl 0 (by decide) (hts _ kw_X6_isCell_1) (fun _ h9 => h9) rfl dX6_isCell_3 ?_
  obtain ⟨r90, er90, hf⟩ := fp_b hf
  refine RoI.callS (c_X6_cells (l := l) (D := D) (cI := cI) (cJ := cJ) (cZ := cZ) (cQ := cQ) (qs := qs) er90) F (va_cwS 1 hts gX6_isCell_X6_cells rfl rfl rfl yd_X6_cells ⟨Nat.le_of_ble_eq_true rfl, Nat.le_of_ble_eq_true rfl⟩) hG hP [1] rfl rfl hl.1 rfl (Nat.le_of_ble_eq_true rfl) dX6_isCell_6 ⟨Nat.zero_le _, Nat.zero_le _⟩ ?_
  refine lv_iconst (v := (1 : Int32)) hx hb dX6_isCell_9 (by decide) ?_
  refine lv_isub hx hb dX6_isCell_10 ?_
  obtain ⟨r91, er91, hf⟩ := fp_b hf
  refine RoI.callS (c_X6_in (l := l) (D := D) (cI := cI) (cJ := cJ) (cZ := cZ) (cQ := cQ) (qs := qs) er91) F (va_cwS 3 hts gX6_isCell_X6_in rfl rfl rfl yd_X6_in ⟨Nat.le_of_ble_eq_true rfl, Nat.le_of_ble_eq_true rfl⟩) hG hP [] rfl rfl hl.1 rfl (Nat.le_of_ble_eq_true rfl) dX6_isCell_11 ⟨Nat.zero_le _, Nat.zero_le _⟩ ?_
  obtain ⟨k92, hf⟩ := fp_c hf
  cases hf
  exact hret _ _ dX6_isCell_14 (nar_b k92)
set_option maxRecDepth 100000 in
theorem c_X6_isCell {l : Launch} {D : va_G} {cI cJ cZ cQ : ClassId} {qs : Nat × Nat × Nat} {hMo hMn hMr hMa hMp hMt hMd hMk hMy hMl hMw hMi hMx : Nat} {mc : Int32} {ml : Int32} {ms : Int32} {mm : Int32} {mu : Int64} {mv : Int64} {me : Int32} {mn : Nat → Int32} {x1 : Int32} {out : Int32} (hf : f_X6_isCell mn x1 = some out) : RoI l yX6_isCell wsX6_isCell { frames := 1, cells := 0, slots := 0, locals := 22 } D (ty4 cI cJ cZ cQ) qs [.ref hMo, .int x1] [(hMo, .inr (6, [.ref hMn, .ref hMr, .ref hMa, .ref hMp, .int mc, .ref hMt, .int ml, .int ms, .ref hMd, .ref hMk, .ref hMy, .int mm, .ref hMl, .ref hMw, .long mu, .long mv, .ref hMi, .ref hMx, .int me])), (hMn, .inl (cI, 22, .inl mn))] out :=
  RoI.of (own := RX6) (by decide +kernel) rfl rfl (Nat.le_of_ble_eq_true rfl) (fun F hG hP hret ls hl => b_X6_isCell F hG hP hf hret hl)
-- method X6_put
theorem yd_X6_put : yX6_put.cls = RX6 ∧ yX6_put.cls ≠ "java/lang/invoke/MethodHandle" ∧ yX6_put.cls ≠ "java/lang/invoke/VarHandle" ∧ (parseMethodDescriptor yX6_put.desc).map (fun d => d.parameters.length) = some 2 := by decide +kernel
theorem ku_X6_put_X6 : ∀ w ∈ u_ws RX6 TX6 19, w ∈ wsX6_put := by decide +kernel
theorem kw_X6_put_1 : Cond.fieldLink RX6 7 "MirrorSharesModel" "now" "[I" ∈ wsX6_put := List.mem_of_getElem? (i := 1) rfl
def f_X6_put (mc : Int32) (mn : Nat → Int32) (mp : Nat → Int32) (x1 : Int32) (x2 : Int32) : Option (Int32 × Int32 × (Nat → Int32) × (Nat → Int32)) :=
  Option.bind (f_X6_isCell mn x1) (fun r93 => (if r93 = 0 then some ((-1 : Int32), mc, mn, mp) else Option.bind (f_X6_in x2 (0 : Int32) (7 : Int32)) (fun r95 => (if r95 = 0 then some ((-1 : Int32), mc, mn, mp) else chk (aix ((2 : Int32) + x1) 22) ((if (mn (Int32.toNatClampNeg ((2 : Int32) + x1))) = x2 then some ((-2 : Int32), mc, mn, mp) else Option.bind (f_X6_isHalf x2) (fun r99 => Option.bind (if r99 = 0 then some (0 : Int32) else Option.bind (f_X6_isHalf (mn (Int32.toNatClampNeg ((2 : Int32) + x1)))) (fun r114 => (if r114 = 0 then Option.bind (f_X6_halves mn) (fun r116 => (if r116 = (5 : Int32) then some (1 : Int32) else some (0 : Int32))) else some (0 : Int32)))) (fun j100 => Option.bind (f_X6_isDoor x2) (fun r102 => Option.bind (if r102 = 0 then some (0 : Int32) else Option.bind (f_X6_isDoor (mn (Int32.toNatClampNeg ((2 : Int32) + x1)))) (fun r109 => (if r109 = 0 then Option.bind (f_X6_doors mn) (fun r111 => (if r111 = (4 : Int32) then some (1 : Int32) else some (0 : Int32))) else some (0 : Int32)))) (fun j103 => (if j100 = 0 then (if j103 = 0 then Option.bind (f_X6_keeps mc mn mp) (fun r107 => some ((mn (Int32.toNatClampNeg ((2 : Int32) + x1))), r107.1, (upd mn (Int32.toNatClampNeg ((2 : Int32) + x1)) x2), r107.2)) else some ((-3 : Int32), mc, mn, mp)) else some ((-3 : Int32), mc, mn, mp))))))))))))
set_option maxHeartbeats 4000000 in
set_option maxRecDepth 100000 in
theorem b_X6_put {p : Program} {l : Launch} {e : Env} {s : State} {m : MethodId} {args : Array Value} {below : List Frame} {meth : Method} {c : Code} {Q : State → Prop} {A : Nat → Prop} {H : Heap} {locs : List Loc} {D : va_G} {cI cJ cZ cQ : ClassId} {qs : Nat × Nat × Nat} {hMo hMn hMr hMa hMp hMt hMd hMk hMy hMl hMw hMi hMx : Nat} {mc : Int32} {ml : Int32} {ms : Int32} {mm : Int32} {mu : Int64} {mv : Int64} {me : Int32} {mn : Nat → Int32} {mp : Nat → Int32} {x1 : Int32} {x2 : Int32} {out : Int32 × Int32 × (Nat → Int32) × (Nat → Int32)} (F : CallFix p m c cX6_put 6 s args wsX6_put RX6) (hG : kW D (ty4 cI cJ cZ cQ) qs A s s.heap) (hA : ∀ q : Nat, s.heap.size ≤ q → A q) (hP : va_P D vwCl [(hMo, .inr (6, [.ref hMn, .ref hMr, .ref hMa, .ref hMp, .int mc, .ref hMt, .int ml, .int ms, .ref hMd, .ref hMk, .ref hMy, .int mm, .ref hMl, .ref hMw, .long mu, .long mv, .ref hMi, .ref hMx, .int me])), (hMn, .inl (cI, 22, .inl mn)), (hMp, .inl (cI, 88, .inl mp))] H) (hD : va_D A [(hMo, .inr (6, [.ref hMn, .ref hMr, .ref hMa, .ref hMp, .int mc, .ref hMt, .int ml, .int ms, .ref hMd, .ref hMk, .ref hMy, .int mm, .ref hMl, .ref hMw, .long mu, .long mv, .ref hMi, .ref hMx, .int me])), (hMn, .inl (cI, 22, .inl mn)), (hMp, .inl (cI, 88, .inl mp))]) (hS : va_S A s.heap H locs) (hf : f_X6_put mc mn mp x1 x2 = some out) (hret : ∀ (pc : Nat) (H : Heap) (locs : List Loc) (ls : Array Slot), decode cX6_put pc = .ok (.ireturn, 1) → narrow .int (.int out.1) = .int out.1 → va_P D vwCl [(hMo, .inr (6, [.ref hMn, .ref hMr, .ref hMa, .ref hMp, .int out.2.1, .ref hMt, .int ml, .int ms, .ref hMd, .ref hMk, .ref hMy, .int mm, .ref hMl, .ref hMw, .long mu, .long mv, .ref hMi, .ref hMx, .int me])), (hMn, .inl (cI, 22, .inl out.2.2.1)), (hMp, .inl (cI, 88, .inl out.2.2.2))] H → va_D A [(hMo, .inr (6, [.ref hMn, .ref hMr, .ref hMa, .ref hMp, .int out.2.1, .ref hMt, .int ml, .int ms, .ref hMd, .ref hMk, .ref hMy, .int mm, .ref hMl, .ref hMw, .long mu, .long mv, .ref hMi, .ref hMx, .int me])), (hMn, .inl (cI, 22, .inl out.2.2.1)), (hMp, .inl (cI, 88, .inl out.2.2.2))] → va_S A s.heap H locs → W p l e { frames := 3, cells := 0, slots := 0, locals := 64 } s m args below meth c H locs 0 0 Q (F0 m pc ls [.int out.1])) {ls : Array Slot} (hl : lv_has ls 6 [(0, .ref hMo), (1, .int x1), (2, .int x2)]) : W p l e { frames := 3, cells := 0, slots := 0, locals := 64 } s m args below meth c H locs 0 0 Q (F0 m 0 ls []) := by
  have hx := F.1
  have hb := F.2.1
  have hown := F.2.2.2.1
  have hts := F.2.2.2.2
  have hK := hG.1.1
  rw [f_X6_put] at hf
  refine lv_aload_n hx hb dX6_put_0 rfl (lv_at hl 0 rfl) ?_
  refine lv_iload_n hx hb dX6_put_1 rfl (lv_at hl 1 rfl) ?_
  obtain ⟨r93, er93, hf⟩ := fp_b hf
  refine RoI.callV (c_X6_isCell (l := l) (D := D) (cI := cI) (cJ := cJ) (cZ := cZ) (cQ := cQ) (qs := qs) er93) F (cwV 1 hts gX6_put_X6_isCell rfl rfl rfl yd_X6_isCell ⟨Nat.le_of_ble_eq_true rfl, Nat.le_of_ble_eq_true rfl⟩) (hG.r hS) hP [0, 1] rfl 6 rfl rfl rfl hl.1 rfl (Nat.le_of_ble_eq_true rfl) dX6_put_2 ⟨Nat.zero_le _, Nat.zero_le _⟩ ?_
  refine lv_if_eq (tgt := 18) hx hb dX6_put_5 (by decide) (fun c94 => ?_) (fun c94 => ?_)
  · have hf := fp_t hf c94
    refine lv_iconst (v := (-1 : Int32)) hx hb dX6_put_18 (by decide) ?_
    cases hf
    exact hret _ _ _ _ dX6_put_19 (vp_nar_int _) hP hD hS
  · have hf := fp_f hf c94
    refine lv_iload_n hx hb dX6_put_8 rfl (lv_at hl 2 rfl) ?_
    refine lv_iconst (v := (0 : Int32)) hx hb dX6_put_9 (by decide) ?_
    refine lv_bipush (v := (7 : Int32)) hx hb dX6_put_10 (by decide) ?_
    obtain ⟨r95, er95, hf⟩ := fp_b hf
    refine RoI.callS (c_X6_in (l := l) (D := D) (cI := cI) (cJ := cJ) (cZ := cZ) (cQ := cQ) (qs := qs) er95) F (va_cwS 3 hts gX6_put_X6_in rfl rfl rfl yd_X6_in ⟨Nat.le_of_ble_eq_true rfl, Nat.le_of_ble_eq_true rfl⟩) (hG.r hS) hP [] rfl rfl hl.1 rfl (Nat.le_of_ble_eq_true rfl) dX6_put_12 ⟨Nat.zero_le _, Nat.zero_le _⟩ ?_
    refine lv_if_ne (tgt := 20) hx hb dX6_put_15 (by decide) (fun c96 => ?_) (fun c96 => ?_)
    · have hf := fp_f hf c96
      refine lv_aload_n hx hb dX6_put_20 rfl (lv_at hl 0 rfl) ?_
      refine va_get (D := D) (ci := 6) (v := .ref hMn) (C := RX6) (T := TX6) (N := 19) hx hb hts ku_X6_put_X6 hown hK hP 0 rfl rfl 0 (by decide) (hts _ kw_X6_put_1) (fun _ h9 => h9) rfl dX6_put_21 ?_
      refine lv_iconst (v := (2 : Int32)) hx hb dX6_put_24 (by decide) ?_
      refine lv_iload_n hx hb dX6_put_25 rfl (lv_at hl 1 rfl) ?_
      refine lv_iadd hx hb dX6_put_26 ?_
      obtain ⟨k97, hf⟩ := fp_c hf
      refine va_iald hx hb hK hP 1 0 rfl rfl k97 dX6_put_27 ?_
      refine lv_istore_n (lv' := [(3, .int (mn (Int32.toNatClampNeg ((2 : Int32) + x1)))), (0, .ref hMo), (1, .int x1), (2, .int x2)]) hx hb dX6_put_28 rfl hl (by decide) rfl (fun ls hl => ?_)
      refine lv_iload_n hx hb dX6_put_29 rfl (lv_at hl 0 rfl) ?_
      refine lv_iload_n hx hb dX6_put_30 rfl (lv_at hl 3 rfl) ?_
      refine lv_icmp_ne (tgt := 37) hx hb dX6_put_31 (by decide) (fun c98 => ?_) (fun c98 => ?_)
      · have hf := fp_f hf c98
        refine lv_iload_n hx hb dX6_put_37 rfl (lv_at hl 3 rfl) ?_
        obtain ⟨r99, er99, hf⟩ := fp_b hf
        refine RoI.callS (c_X6_isHalf (l := l) (D := D) (cI := cI) (cJ := cJ) (cZ := cZ) (cQ := cQ) (qs := qs) er99) F (va_cwS 1 hts gX6_put_X6_isHalf rfl rfl rfl yd_X6_isHalf ⟨Nat.le_of_ble_eq_true rfl, Nat.le_of_ble_eq_true rfl⟩) (hG.r hS) hP [] rfl rfl hl.1 rfl (Nat.le_of_ble_eq_true rfl) dX6_put_38 ⟨Nat.zero_le _, Nat.zero_le _⟩ ?_
        obtain ⟨j100, ej100, hf⟩ := fp_b hf
        have hj101 : ∀ (H : Heap) (locs : List Loc) (ls : Array Slot), va_P D vwCl [(hMo, .inr (6, [.ref hMn, .ref hMr, .ref hMa, .ref hMp, .int mc, .ref hMt, .int ml, .int ms, .ref hMd, .ref hMk, .ref hMy, .int mm, .ref hMl, .ref hMw, .long mu, .long mv, .ref hMi, .ref hMx, .int me])), (hMn, .inl (cI, 22, .inl mn)), (hMp, .inl (cI, 88, .inl mp))] H → va_D A [(hMo, .inr (6, [.ref hMn, .ref hMr, .ref hMa, .ref hMp, .int mc, .ref hMt, .int ml, .int ms, .ref hMd, .ref hMk, .ref hMy, .int mm, .ref hMl, .ref hMw, .long mu, .long mv, .ref hMi, .ref hMx, .int me])), (hMn, .inl (cI, 22, .inl mn)), (hMp, .inl (cI, 88, .inl mp))] → va_S A s.heap H locs → lv_has ls 6 [(0, .ref hMo), (1, .int x1), (2, .int x2), (3, .int (mn (Int32.toNatClampNeg ((2 : Int32) + x1))))] → W p l e { frames := 3, cells := 0, slots := 0, locals := 64 } s m args below meth c H locs 0 0 Q (F0 m 67 ls [.int j100]) := by
          intro H locs ls hP hD hS hl
          refine lv_istore (lv' := [(4, .int j100), (0, .ref hMo), (1, .int x1), (2, .int x2), (3, .int (mn (Int32.toNatClampNeg ((2 : Int32) + x1))))]) hx hb dX6_put_67 hl (by decide) rfl (fun ls hl => ?_)
          refine lv_iload_n hx hb dX6_put_69 rfl (lv_at hl 3 rfl) ?_
          obtain ⟨r102, er102, hf⟩ := fp_b hf
          refine RoI.callS (c_X6_isDoor (l := l) (D := D) (cI := cI) (cJ := cJ) (cZ := cZ) (cQ := cQ) (qs := qs) er102) F (va_cwS 1 hts gX6_put_X6_isDoor rfl rfl rfl yd_X6_isDoor ⟨Nat.le_of_ble_eq_true rfl, Nat.le_of_ble_eq_true rfl⟩) (hG.r hS) hP [] rfl rfl hl.1 rfl (Nat.le_of_ble_eq_true rfl) dX6_put_70 ⟨Nat.zero_le _, Nat.zero_le _⟩ ?_
          obtain ⟨j103, ej103, hf⟩ := fp_b hf
          have hj104 : ∀ (H : Heap) (locs : List Loc) (ls : Array Slot), va_P D vwCl [(hMo, .inr (6, [.ref hMn, .ref hMr, .ref hMa, .ref hMp, .int mc, .ref hMt, .int ml, .int ms, .ref hMd, .ref hMk, .ref hMy, .int mm, .ref hMl, .ref hMw, .long mu, .long mv, .ref hMi, .ref hMx, .int me])), (hMn, .inl (cI, 22, .inl mn)), (hMp, .inl (cI, 88, .inl mp))] H → va_D A [(hMo, .inr (6, [.ref hMn, .ref hMr, .ref hMa, .ref hMp, .int mc, .ref hMt, .int ml, .int ms, .ref hMd, .ref hMk, .ref hMy, .int mm, .ref hMl, .ref hMw, .long mu, .long mv, .ref hMi, .ref hMx, .int me])), (hMn, .inl (cI, 22, .inl mn)), (hMp, .inl (cI, 88, .inl mp))] → va_S A s.heap H locs → lv_has ls 6 [(0, .ref hMo), (1, .int x1), (2, .int x2), (3, .int (mn (Int32.toNatClampNeg ((2 : Int32) + x1)))), (4, .int j100)] → W p l e { frames := 3, cells := 0, slots := 0, locals := 64 } s m args below meth c H locs 0 0 Q (F0 m 99 ls [.int j103]) := by
            intro H locs ls hP hD hS hl
            refine lv_istore (lv' := [(5, .int j103), (0, .ref hMo), (1, .int x1), (2, .int x2), (3, .int (mn (Int32.toNatClampNeg ((2 : Int32) + x1)))), (4, .int j100)]) hx hb dX6_put_99 hl (by decide) rfl (fun ls hl => ?_)
            refine lv_iload hx hb dX6_put_101 (lv_at hl 5 rfl) ?_
            refine lv_if_ne (tgt := 111) hx hb dX6_put_103 (by decide) (fun c105 => ?_) (fun c105 => ?_)
            · have hf := fp_f hf c105
              refine lv_bipush (v := (-3 : Int32)) hx hb dX6_put_111 (by decide) ?_
              cases hf
              exact hret _ _ _ _ dX6_put_113 (vp_nar_int _) hP hD hS
            · have hf := fp_t hf c105
              refine lv_iload hx hb dX6_put_106 (lv_at hl 0 rfl) ?_
              refine lv_if_eq (tgt := 114) hx hb dX6_put_108 (by decide) (fun c106 => ?_) (fun c106 => ?_)
              · have hf := fp_t hf c106
                refine lv_aload_n hx hb dX6_put_114 rfl (lv_at hl 1 rfl) ?_
                obtain ⟨r107, er107, hf⟩ := fp_b hf
                refine kc_rwV (w2 := [(hMo, .inr (6, [.ref hMn, .ref hMr, .ref hMa, .ref hMp, .int r107.1, .ref hMt, .int ml, .int ms, .ref hMd, .ref hMk, .ref hMy, .int mm, .ref hMl, .ref hMw, .long mu, .long mv, .ref hMi, .ref hMx, .int me])), (hMn, .inl (cI, 22, .inl mn)), (hMp, .inl (cI, 88, .inl r107.2))]) (RwV.runV (c_X6_keeps (l := l) (D := D) (cI := cI) (cJ := cJ) (cZ := cZ) (cQ := cQ) (qs := qs) er107) F (cwV 0 hts gX6_put_X6_keeps rfl rfl rfl yd_X6_keeps ⟨Nat.le_of_ble_eq_true rfl, Nat.le_of_ble_eq_true rfl⟩) hG hP hD hS hA [0, 1, 2] (by decide) rfl 6 rfl rfl rfl hl.1 rfl (Nat.le_of_ble_eq_true rfl) dX6_put_115 ⟨Nat.zero_le _, Nat.zero_le _⟩) hP hD hS hA [0, 1, 2] [] [0, 1, 2] rfl (wr := []) rfl (by decide) (by decide) rfl (by decide) (fun H locs hP hD hS => ?_)
                refine lv_aload_n hx hb dX6_put_118 rfl (lv_at hl 1 rfl) ?_
                refine va_get (D := D) (ci := 6) (v := .ref hMn) (C := RX6) (T := TX6) (N := 19) hx hb hts ku_X6_put_X6 hown hK hP 0 rfl rfl 0 (by decide) (hts _ kw_X6_put_1) (fun _ h9 => h9) rfl dX6_put_119 ?_
                refine lv_iconst (v := (2 : Int32)) hx hb dX6_put_122 (by decide) ?_
                refine lv_iload_n hx hb dX6_put_123 rfl (lv_at hl 2 rfl) ?_
                refine lv_iadd hx hb dX6_put_124 ?_
                refine lv_iload_n hx hb dX6_put_125 rfl (lv_at hl 3 rfl) ?_
                refine va_iast hx hb hK hP hD hS 1 0 rfl rfl k97 dX6_put_126 (fun H locs hP hD hS => ?_)
                have hP : va_P D vwCl [(hMo, .inr (6, [.ref hMn, .ref hMr, .ref hMa, .ref hMp, .int r107.1, .ref hMt, .int ml, .int ms, .ref hMd, .ref hMk, .ref hMy, .int mm, .ref hMl, .ref hMw, .long mu, .long mv, .ref hMi, .ref hMx, .int me])), (hMn, .inl (cI, 22, .inl (upd mn (Int32.toNatClampNeg ((2 : Int32) + x1)) x2))), (hMp, .inl (cI, 88, .inl r107.2))] H := hP
                have hD : va_D A [(hMo, .inr (6, [.ref hMn, .ref hMr, .ref hMa, .ref hMp, .int r107.1, .ref hMt, .int ml, .int ms, .ref hMd, .ref hMk, .ref hMy, .int mm, .ref hMl, .ref hMw, .long mu, .long mv, .ref hMi, .ref hMx, .int me])), (hMn, .inl (cI, 22, .inl (upd mn (Int32.toNatClampNeg ((2 : Int32) + x1)) x2))), (hMp, .inl (cI, 88, .inl r107.2))] := hD
                refine lv_iload_n hx hb dX6_put_127 rfl (lv_at hl 4 rfl) ?_
                cases hf
                exact hret _ _ _ _ dX6_put_128 (vp_nar_int _) hP hD hS
              · have hf := fp_f hf c106
                refine lv_bipush (v := (-3 : Int32)) hx hb dX6_put_111 (by decide) ?_
                cases hf
                exact hret _ _ _ _ dX6_put_113 (vp_nar_int _) hP hD hS
          replace hf := ej103
          refine lv_if_eq (tgt := 98) hx hb dX6_put_73 (by decide) (fun c108 => ?_) (fun c108 => ?_)
          · have hf := fp_t hf c108
            refine lv_iconst (v := (0 : Int32)) hx hb dX6_put_98 (by decide) ?_
            cases hf
            exact hj104 _ _ _ hP hD hS (lv_sub hl [1, 2, 3, 4, 0] rfl)
          · have hf := fp_f hf c108
            refine lv_iload_n hx hb dX6_put_76 rfl (lv_at hl 4 rfl) ?_
            obtain ⟨r109, er109, hf⟩ := fp_b hf
            refine RoI.callS (c_X6_isDoor (l := l) (D := D) (cI := cI) (cJ := cJ) (cZ := cZ) (cQ := cQ) (qs := qs) er109) F (va_cwS 1 hts gX6_put_X6_isDoor rfl rfl rfl yd_X6_isDoor ⟨Nat.le_of_ble_eq_true rfl, Nat.le_of_ble_eq_true rfl⟩) (hG.r hS) hP [] rfl rfl hl.1 rfl (Nat.le_of_ble_eq_true rfl) dX6_put_77 ⟨Nat.zero_le _, Nat.zero_le _⟩ ?_
            refine lv_if_ne (tgt := 98) hx hb dX6_put_80 (by decide) (fun c110 => ?_) (fun c110 => ?_)
            · have hf := fp_f hf c110
              refine lv_iconst (v := (0 : Int32)) hx hb dX6_put_98 (by decide) ?_
              cases hf
              exact hj104 _ _ _ hP hD hS (lv_sub hl [1, 2, 3, 4, 0] rfl)
            · have hf := fp_t hf c110
              refine lv_aload_n hx hb dX6_put_83 rfl (lv_at hl 1 rfl) ?_
              refine va_get (D := D) (ci := 6) (v := .ref hMn) (C := RX6) (T := TX6) (N := 19) hx hb hts ku_X6_put_X6 hown hK hP 0 rfl rfl 0 (by decide) (hts _ kw_X6_put_1) (fun _ h9 => h9) rfl dX6_put_84 ?_
              obtain ⟨r111, er111, hf⟩ := fp_b hf
              refine RoI.callS (c_X6_doors (l := l) (D := D) (cI := cI) (cJ := cJ) (cZ := cZ) (cQ := cQ) (qs := qs) er111) F (va_cwS 1 hts gX6_put_X6_doors rfl rfl rfl yd_X6_doors ⟨Nat.le_of_ble_eq_true rfl, Nat.le_of_ble_eq_true rfl⟩) (hG.r hS) hP [1] rfl rfl hl.1 rfl (Nat.le_of_ble_eq_true rfl) dX6_put_87 ⟨Nat.zero_le _, Nat.zero_le _⟩ ?_
              refine lv_iconst (v := (4 : Int32)) hx hb dX6_put_90 (by decide) ?_
              refine lv_icmp_ne (tgt := 98) hx hb dX6_put_91 (by decide) (fun c112 => ?_) (fun c112 => ?_)
              · have hf := fp_f hf c112
                refine lv_iconst (v := (0 : Int32)) hx hb dX6_put_98 (by decide) ?_
                cases hf
                exact hj104 _ _ _ hP hD hS (lv_sub hl [1, 2, 3, 4, 0] rfl)
              · have hf := fp_t hf c112
                refine lv_iconst (v := (1 : Int32)) hx hb dX6_put_94 (by decide) ?_
                refine lv_goto (tgt := 99) hx hb dX6_put_95 (by decide) ?_
                cases hf
                exact hj104 _ _ _ hP hD hS (lv_sub hl [1, 2, 3, 4, 0] rfl)
        replace hf := ej100
        refine lv_if_eq (tgt := 66) hx hb dX6_put_41 (by decide) (fun c113 => ?_) (fun c113 => ?_)
        · have hf := fp_t hf c113
          refine lv_iconst (v := (0 : Int32)) hx hb dX6_put_66 (by decide) ?_
          cases hf
          exact hj101 _ _ _ hP hD hS (lv_sub hl [1, 2, 3, 0] rfl)
        · have hf := fp_f hf c113
          refine lv_iload_n hx hb dX6_put_44 rfl (lv_at hl 0 rfl) ?_
          obtain ⟨r114, er114, hf⟩ := fp_b hf
          refine RoI.callS (c_X6_isHalf (l := l) (D := D) (cI := cI) (cJ := cJ) (cZ := cZ) (cQ := cQ) (qs := qs) er114) F (va_cwS 1 hts gX6_put_X6_isHalf rfl rfl rfl yd_X6_isHalf ⟨Nat.le_of_ble_eq_true rfl, Nat.le_of_ble_eq_true rfl⟩) (hG.r hS) hP [] rfl rfl hl.1 rfl (Nat.le_of_ble_eq_true rfl) dX6_put_45 ⟨Nat.zero_le _, Nat.zero_le _⟩ ?_
          refine lv_if_ne (tgt := 66) hx hb dX6_put_48 (by decide) (fun c115 => ?_) (fun c115 => ?_)
          · have hf := fp_f hf c115
            refine lv_iconst (v := (0 : Int32)) hx hb dX6_put_66 (by decide) ?_
            cases hf
            exact hj101 _ _ _ hP hD hS (lv_sub hl [1, 2, 3, 0] rfl)
          · have hf := fp_t hf c115
            refine lv_aload_n hx hb dX6_put_51 rfl (lv_at hl 1 rfl) ?_
            refine va_get (D := D) (ci := 6) (v := .ref hMn) (C := RX6) (T := TX6) (N := 19) hx hb hts ku_X6_put_X6 hown hK hP 0 rfl rfl 0 (by decide) (hts _ kw_X6_put_1) (fun _ h9 => h9) rfl dX6_put_52 ?_
            obtain ⟨r116, er116, hf⟩ := fp_b hf
            refine RoI.callS (c_X6_halves (l := l) (D := D) (cI := cI) (cJ := cJ) (cZ := cZ) (cQ := cQ) (qs := qs) er116) F (va_cwS 1 hts gX6_put_X6_halves rfl rfl rfl yd_X6_halves ⟨Nat.le_of_ble_eq_true rfl, Nat.le_of_ble_eq_true rfl⟩) (hG.r hS) hP [1] rfl rfl hl.1 rfl (Nat.le_of_ble_eq_true rfl) dX6_put_55 ⟨Nat.zero_le _, Nat.zero_le _⟩ ?_
            refine lv_iconst (v := (5 : Int32)) hx hb dX6_put_58 (by decide) ?_
            refine lv_icmp_ne (tgt := 66) hx hb dX6_put_59 (by decide) (fun c117 => ?_) (fun c117 => ?_)
            · have hf := fp_f hf c117
              refine lv_iconst (v := (0 : Int32)) hx hb dX6_put_66 (by decide) ?_
              cases hf
              exact hj101 _ _ _ hP hD hS (lv_sub hl [1, 2, 3, 0] rfl)
            · have hf := fp_t hf c117
              refine lv_iconst (v := (1 : Int32)) hx hb dX6_put_62 (by decide) ?_
              refine lv_goto (tgt := 67) hx hb dX6_put_63 (by decide) ?_
              cases hf
              exact hj101 _ _ _ hP hD hS (lv_sub hl [1, 2, 3, 0] rfl)
      · have hf := fp_t hf c98
        refine lv_bipush (v := (-2 : Int32)) hx hb dX6_put_34 (by decide) ?_
        cases hf
        exact hret _ _ _ _ dX6_put_36 (vp_nar_int _) hP hD hS
    · have hf := fp_t hf c96
      refine lv_iconst (v := (-1 : Int32)) hx hb dX6_put_18 (by decide) ?_
      cases hf
      exact hret _ _ _ _ dX6_put_19 (vp_nar_int _) hP hD hS
set_option maxRecDepth 100000 in
theorem c_X6_put {l : Launch} {D : va_G} {cI cJ cZ cQ : ClassId} {qs : Nat × Nat × Nat} {hMo hMn hMr hMa hMp hMt hMd hMk hMy hMl hMw hMi hMx : Nat} {mc : Int32} {ml : Int32} {ms : Int32} {mm : Int32} {mu : Int64} {mv : Int64} {me : Int32} {mn : Nat → Int32} {mp : Nat → Int32} {x1 : Int32} {x2 : Int32} {out : Int32 × Int32 × (Nat → Int32) × (Nat → Int32)} (hf : f_X6_put mc mn mp x1 x2 = some out) : RwI l yX6_put wsX6_put { frames := 3, cells := 0, slots := 0, locals := 64 } D (ty4 cI cJ cZ cQ) qs [.ref hMo, .int x1, .int x2] [(hMo, .inr (6, [.ref hMn, .ref hMr, .ref hMa, .ref hMp, .int mc, .ref hMt, .int ml, .int ms, .ref hMd, .ref hMk, .ref hMy, .int mm, .ref hMl, .ref hMw, .long mu, .long mv, .ref hMi, .ref hMx, .int me])), (hMn, .inl (cI, 22, .inl mn)), (hMp, .inl (cI, 88, .inl mp))] [(hMo, .inr (6, [.ref hMn, .ref hMr, .ref hMa, .ref hMp, .int out.2.1, .ref hMt, .int ml, .int ms, .ref hMd, .ref hMk, .ref hMy, .int mm, .ref hMl, .ref hMw, .long mu, .long mv, .ref hMi, .ref hMx, .int me])), (hMn, .inl (cI, 22, .inl out.2.2.1)), (hMp, .inl (cI, 88, .inl out.2.2.2))] out.1 :=
  RwI.of (own := RX6) (by decide +kernel) rfl rfl (Nat.le_of_ble_eq_true rfl) (fun F hG hA hP hD hS hret ls hl => b_X6_put F hG hA hP hD hS hf hret hl)
-- method X6_doorCell
theorem yd_X6_doorCell : yX6_doorCell.cls ≠ "java/lang/invoke/MethodHandle" ∧ yX6_doorCell.cls ≠ "java/lang/invoke/VarHandle" ∧ (parseMethodDescriptor yX6_doorCell.desc).map (fun d => d.parameters.length) = some 2 := by decide +kernel
def f_X6_doorCell_4 (fr0 : Nat → Int32) (y2 : Int32) (y3 : Int32) : Option ((Int32 × Int32) ⊕ ((Int32) ⊕ (Unit))) :=
  Option.bind (f_X6_cells fr0) (fun r118 => (if r118 ≤ y3 then some (Sum.inr (Sum.inr ())) else chk (aix ((2 : Int32) + y3) 22) (Option.bind (f_X6_isDoor (fr0 (Int32.toNatClampNeg ((2 : Int32) + y3)))) (fun r121 => (if r121 = 0 then some (Sum.inl (y2, (y3 + (1 : Int32)))) else (if y2 = 0 then some (Sum.inr (Sum.inl y3)) else some (Sum.inl ((y2 + (-1 : Int32)), (y3 + (1 : Int32))))))))))
set_option maxHeartbeats 4000000 in
set_option maxRecDepth 100000 in
theorem lp_X6_doorCell_4 {p : Program} {l : Launch} {e : Env} {s : State} {m : MethodId} {args : Array Value} {below : List Frame} {meth : Method} {c : Code} {Q : State → Prop} {D : va_G} {cI cJ cZ cQ : ClassId} {qs : Nat × Nat × Nat} {hAR0 : Nat} {fr0 : Nat → Int32}  (F : CallFix p m c cX6_doorCell 4 s args wsX6_doorCell RX6) (hG : kR D (ty4 cI cJ cZ cQ) qs s s.heap) (hP : va_P D vwCl [(hAR0, .inl (cI, 22, .inl fr0))] s.heap) :
    ∀ (n : Nat) {y2 : Int32} {y3 : Int32} (out : (Int32) ⊕ (Unit)), lpf (fun s => f_X6_doorCell_4 fr0 s.1 s.2) n (y2, y3) = some out → ∀ {ls : Array Slot}, lv_has ls 4 [(0, .ref hAR0), (2, .int y2), (3, .int y3)] → (∀ xx, out = Sum.inr xx → ∀ ls : Array Slot, lv_has ls 4 [(0, .ref hAR0)] → W p l e { frames := 2, cells := 0, slots := 0, locals := 42 } s m args below meth c s.heap [] 0 0 Q (F0 m 38 ls [])) → (∀ r9, out = Sum.inl r9 → ∀ (pc : Nat) (ls : Array Slot), decode cX6_doorCell pc = .ok (.ireturn, 1) → narrow .int (.int r9) = .int r9 → W p l e { frames := 2, cells := 0, slots := 0, locals := 42 } s m args below meth c s.heap [] 0 0 Q (F0 m pc ls [.int r9])) → W p l e { frames := 2, cells := 0, slots := 0, locals := 42 } s m args below meth c s.heap [] 0 0 Q (F0 m 4 ls []) := by
  have hx := F.1
  have hb := F.2.1
  have hown := F.2.2.2.1
  have hts := F.2.2.2.2
  have hK := hG.1.1
  intro n
  induction n with
  | zero =>
    intro y2 y3 out ho
    exact (fp_l0 ho).elim
  | succ n ih =>
    intro y2 y3 out ho ls hl hex hre
    obtain ⟨o, hf, ho⟩ := fp_l ho
    have hf : f_X6_doorCell_4 fr0 y2 y3 = some o := hf
    rw [f_X6_doorCell_4] at hf
    refine lv_iload_n hx hb dX6_doorCell_4 rfl (lv_at hl 2 rfl) ?_
    refine lv_aload_n hx hb dX6_doorCell_5 rfl (lv_at hl 0 rfl) ?_
    obtain ⟨r118, er118, hf⟩ := fp_b hf
    refine RoI.callS (c_X6_cells (l := l) (D := D) (cI := cI) (cJ := cJ) (cZ := cZ) (cQ := cQ) (qs := qs) er118) F (va_cwS 1 hts gX6_doorCell_X6_cells rfl rfl rfl yd_X6_cells ⟨Nat.le_of_ble_eq_true rfl, Nat.le_of_ble_eq_true rfl⟩) hG hP [0] rfl rfl hl.1 rfl (Nat.le_of_ble_eq_true rfl) dX6_doorCell_6 ⟨Nat.zero_le _, Nat.zero_le _⟩ ?_
    refine lv_icmp_ge (tgt := 38) hx hb dX6_doorCell_9 (by decide) (fun c119 => ?_) (fun c119 => ?_)
    · have hf := fp_t hf c119
      cases hf
      have ho := fp_inr ho
      cases ho
      exact hex _ rfl _ (lv_sub hl [0] rfl)
    · have hf := fp_f hf c119
      refine lv_aload_n hx hb dX6_doorCell_12 rfl (lv_at hl 0 rfl) ?_
      refine lv_iconst (v := (2 : Int32)) hx hb dX6_doorCell_13 (by decide) ?_
      refine lv_iload_n hx hb dX6_doorCell_14 rfl (lv_at hl 2 rfl) ?_
      refine lv_iadd hx hb dX6_doorCell_15 ?_
      obtain ⟨k120, hf⟩ := fp_c hf
      refine va_iald hx hb hK hP 0 0 rfl rfl k120 dX6_doorCell_16 ?_
      obtain ⟨r121, er121, hf⟩ := fp_b hf
      refine RoI.callS (c_X6_isDoor (l := l) (D := D) (cI := cI) (cJ := cJ) (cZ := cZ) (cQ := cQ) (qs := qs) er121) F (va_cwS 1 hts gX6_doorCell_X6_isDoor rfl rfl rfl yd_X6_isDoor ⟨Nat.le_of_ble_eq_true rfl, Nat.le_of_ble_eq_true rfl⟩) hG hP [] rfl rfl hl.1 rfl (Nat.le_of_ble_eq_true rfl) dX6_doorCell_17 ⟨Nat.zero_le _, Nat.zero_le _⟩ ?_
      refine lv_if_eq (tgt := 32) hx hb dX6_doorCell_20 (by decide) (fun c122 => ?_) (fun c122 => ?_)
      · have hf := fp_t hf c122
        refine lv_iinc (v := (y3 + (1 : Int32))) (lv' := [(3, .int (y3 + (1 : Int32))), (0, .ref hAR0), (2, .int y2)]) hx hb dX6_doorCell_32 hl (k := 2) rfl rfl (by decide) rfl (fun ls hl => ?_)
        refine lv_goto (tgt := 4) hx hb dX6_doorCell_35 (by decide) ?_
        cases hf
        exact ih _ (fp_inl ho) (lv_sub hl [1, 2, 0] rfl) hex hre
      · have hf := fp_f hf c122
        refine lv_iload_n hx hb dX6_doorCell_23 rfl (lv_at hl 1 rfl) ?_
        refine lv_if_ne (tgt := 29) hx hb dX6_doorCell_24 (by decide) (fun c123 => ?_) (fun c123 => ?_)
        · have hf := fp_f hf c123
          refine lv_iinc (v := (y2 + (-1 : Int32))) (lv' := [(2, .int (y2 + (-1 : Int32))), (0, .ref hAR0), (3, .int y3)]) hx hb dX6_doorCell_29 hl (k := 1) rfl rfl (by decide) rfl (fun ls hl => ?_)
          refine lv_iinc (v := (y3 + (1 : Int32))) (lv' := [(3, .int (y3 + (1 : Int32))), (2, .int (y2 + (-1 : Int32))), (0, .ref hAR0)]) hx hb dX6_doorCell_32 hl (k := 2) rfl rfl (by decide) rfl (fun ls hl => ?_)
          refine lv_goto (tgt := 4) hx hb dX6_doorCell_35 (by decide) ?_
          cases hf
          exact ih _ (fp_inl ho) (lv_sub hl [2, 1, 0] rfl) hex hre
        · have hf := fp_t hf c123
          refine lv_iload_n hx hb dX6_doorCell_27 rfl (lv_at hl 2 rfl) ?_
          cases hf
          have ho := fp_inr ho
          cases ho
          exact hre _ rfl _ _ dX6_doorCell_28 (vp_nar_int _)
def f_X6_doorCell (fr0 : Nat → Int32) (x1 : Int32) : Option (Int32) :=
  Option.bind (lpf (fun s => f_X6_doorCell_4 fr0 s.1 s.2) 1000 (x1, (0 : Int32))) (fun o124 => Sum.elim (fun r9 => some r9) (fun z125 => some (-4 : Int32)) o124)
set_option maxHeartbeats 4000000 in
set_option maxRecDepth 100000 in
theorem b_X6_doorCell {p : Program} {l : Launch} {e : Env} {s : State} {m : MethodId} {args : Array Value} {below : List Frame} {meth : Method} {c : Code} {Q : State → Prop} {D : va_G} {cI cJ cZ cQ : ClassId} {qs : Nat × Nat × Nat} {hAR0 : Nat} {fr0 : Nat → Int32} {x1 : Int32} {out : Int32} (F : CallFix p m c cX6_doorCell 4 s args wsX6_doorCell RX6) (hG : kR D (ty4 cI cJ cZ cQ) qs s s.heap) (hP : va_P D vwCl [(hAR0, .inl (cI, 22, .inl fr0))] s.heap) (hf : f_X6_doorCell fr0 x1 = some out) (hret : ∀ (pc : Nat) (ls : Array Slot), decode cX6_doorCell pc = .ok (.ireturn, 1) → narrow .int (.int out) = .int out → W p l e { frames := 2, cells := 0, slots := 0, locals := 42 } s m args below meth c s.heap [] 0 0 Q (F0 m pc ls [.int out])) {ls : Array Slot} (hl : lv_has ls 4 [(0, .ref hAR0), (1, .int x1)]) : W p l e { frames := 2, cells := 0, slots := 0, locals := 42 } s m args below meth c s.heap [] 0 0 Q (F0 m 0 ls []) := by
  have hx := F.1
  have hb := F.2.1
  have hown := F.2.2.2.1
  have hts := F.2.2.2.2
  have hK := hG.1.1
  rw [f_X6_doorCell] at hf
  refine lv_iload_n hx hb dX6_doorCell_0 rfl (lv_at hl 1 rfl) ?_
  refine lv_istore_n (lv' := [(2, .int x1), (0, .ref hAR0), (1, .int x1)]) hx hb dX6_doorCell_1 rfl hl (by decide) rfl (fun ls hl => ?_)
  refine lv_iconst (v := (0 : Int32)) hx hb dX6_doorCell_2 (by decide) ?_
  refine lv_istore_n (lv' := [(3, .int (0 : Int32)), (2, .int x1), (0, .ref hAR0), (1, .int x1)]) hx hb dX6_doorCell_3 rfl hl (by decide) rfl (fun ls hl => ?_)
  obtain ⟨o124, eo124, hf⟩ := fp_b hf
  refine lp_X6_doorCell_4 F hG hP _ _ eo124 (lv_sub hl [2, 1, 0] rfl) (fun z125 hz125 ls hl => ?_) (fun r9 h9 => ?_)
  · subst hz125
    have hf := fp_inr hf
    refine lv_bipush (v := (-4 : Int32)) hx hb dX6_doorCell_38 (by decide) ?_
    cases hf
    exact hret _ _ dX6_doorCell_40 (vp_nar_int _)
  · subst h9
    have hf := fp_inl hf
    cases hf
    exact hret
set_option maxRecDepth 100000 in
theorem c_X6_doorCell {l : Launch} {D : va_G} {cI cJ cZ cQ : ClassId} {qs : Nat × Nat × Nat} {hAR0 : Nat} {fr0 : Nat → Int32} {x1 : Int32} {out : Int32} (hf : f_X6_doorCell fr0 x1 = some out) : RoI l yX6_doorCell wsX6_doorCell { frames := 2, cells := 0, slots := 0, locals := 42 } D (ty4 cI cJ cZ cQ) qs [.ref hAR0, .int x1] [(hAR0, .inl (cI, 22, .inl fr0))] out :=
  RoI.of (own := RX6) (by decide +kernel) rfl rfl (Nat.le_of_ble_eq_true rfl) (fun F hG hP hret ls hl => b_X6_doorCell F hG hP hf hret hl)
-- method X6_openOf
theorem yd_X6_openOf : yX6_openOf.cls ≠ "java/lang/invoke/MethodHandle" ∧ yX6_openOf.cls ≠ "java/lang/invoke/VarHandle" ∧ (parseMethodDescriptor yX6_openOf.desc).map (fun d => d.parameters.length) = some 1 := by decide +kernel
def f_X6_openOf_4 (fr0 : Nat → Int32) (y1 : Int32) (y2 : Int32) : Option ((Int32 × Int32) ⊕ (Int32)) :=
  Option.bind (f_X6_cells fr0) (fun r126 => (if r126 ≤ y2 then some (Sum.inr y1) else chk (aix ((2 : Int32) + y2) 22) ((if (fr0 (Int32.toNatClampNeg ((2 : Int32) + y2))) = (6 : Int32) then some (Sum.inl ((y1 + (1 : Int32)), (y2 + (1 : Int32)))) else some (Sum.inl ((y1 + (0 : Int32)), (y2 + (1 : Int32))))))))
set_option maxHeartbeats 4000000 in
set_option maxRecDepth 100000 in
theorem lp_X6_openOf_4 {p : Program} {l : Launch} {e : Env} {s : State} {m : MethodId} {args : Array Value} {below : List Frame} {meth : Method} {c : Code} {Q : State → Prop} {D : va_G} {cI cJ cZ cQ : ClassId} {qs : Nat × Nat × Nat} {hAR0 : Nat} {fr0 : Nat → Int32}  (F : CallFix p m c cX6_openOf 3 s args wsX6_openOf RX6) (hG : kR D (ty4 cI cJ cZ cQ) qs s s.heap) (hP : va_P D vwCl [(hAR0, .inl (cI, 22, .inl fr0))] s.heap) :
    ∀ (n : Nat) {y1 : Int32} {y2 : Int32} (out : Int32), lpf (fun s => f_X6_openOf_4 fr0 s.1 s.2) n (y1, y2) = some out → ∀ {ls : Array Slot}, lv_has ls 3 [(0, .ref hAR0), (1, .int y1), (2, .int y2)] → (∀ ls : Array Slot, lv_has ls 3 [(0, .ref hAR0), (1, .int out)] → W p l e { frames := 1, cells := 0, slots := 0, locals := 20 } s m args below meth c s.heap [] 0 0 Q (F0 m 36 ls [])) → W p l e { frames := 1, cells := 0, slots := 0, locals := 20 } s m args below meth c s.heap [] 0 0 Q (F0 m 4 ls []) := by
  have hx := F.1
  have hb := F.2.1
  have hown := F.2.2.2.1
  have hts := F.2.2.2.2
  have hK := hG.1.1
  intro n
  induction n with
  | zero =>
    intro y1 y2 out ho
    exact (fp_l0 ho).elim
  | succ n ih =>
    intro y1 y2 out ho ls hl hex
    obtain ⟨o, hf, ho⟩ := fp_l ho
    have hf : f_X6_openOf_4 fr0 y1 y2 = some o := hf
    rw [f_X6_openOf_4] at hf
    refine lv_iload_n hx hb dX6_openOf_4 rfl (lv_at hl 2 rfl) ?_
    refine lv_aload_n hx hb dX6_openOf_5 rfl (lv_at hl 0 rfl) ?_
    obtain ⟨r126, er126, hf⟩ := fp_b hf
    refine RoI.callS (c_X6_cells (l := l) (D := D) (cI := cI) (cJ := cJ) (cZ := cZ) (cQ := cQ) (qs := qs) er126) F (va_cwS 1 hts gX6_openOf_X6_cells rfl rfl rfl yd_X6_cells ⟨Nat.le_of_ble_eq_true rfl, Nat.le_of_ble_eq_true rfl⟩) hG hP [0] rfl rfl hl.1 rfl (Nat.le_of_ble_eq_true rfl) dX6_openOf_6 ⟨Nat.zero_le _, Nat.zero_le _⟩ ?_
    refine lv_icmp_ge (tgt := 36) hx hb dX6_openOf_9 (by decide) (fun c127 => ?_) (fun c127 => ?_)
    · have hf := fp_t hf c127
      cases hf
      have ho := fp_inr ho
      cases ho
      exact hex _ (lv_sub hl [0, 1] rfl)
    · have hf := fp_f hf c127
      refine lv_iload_n hx hb dX6_openOf_12 rfl (lv_at hl 1 rfl) ?_
      refine lv_aload_n hx hb dX6_openOf_13 rfl (lv_at hl 0 rfl) ?_
      refine lv_iconst (v := (2 : Int32)) hx hb dX6_openOf_14 (by decide) ?_
      refine lv_iload_n hx hb dX6_openOf_15 rfl (lv_at hl 2 rfl) ?_
      refine lv_iadd hx hb dX6_openOf_16 ?_
      obtain ⟨k128, hf⟩ := fp_c hf
      refine va_iald hx hb hK hP 0 0 rfl rfl k128 dX6_openOf_17 ?_
      refine lv_bipush (v := (6 : Int32)) hx hb dX6_openOf_18 (by decide) ?_
      refine lv_icmp_ne (tgt := 27) hx hb dX6_openOf_20 (by decide) (fun c129 => ?_) (fun c129 => ?_)
      · have hf := fp_f hf c129
        refine lv_iconst (v := (0 : Int32)) hx hb dX6_openOf_27 (by decide) ?_
        refine lv_iadd hx hb dX6_openOf_28 ?_
        refine lv_istore_n (lv' := [(1, .int (y1 + (0 : Int32))), (0, .ref hAR0), (2, .int y2)]) hx hb dX6_openOf_29 rfl hl (by decide) rfl (fun ls hl => ?_)
        refine lv_iinc (v := (y2 + (1 : Int32))) (lv' := [(2, .int (y2 + (1 : Int32))), (1, .int (y1 + (0 : Int32))), (0, .ref hAR0)]) hx hb dX6_openOf_30 hl (k := 2) rfl rfl (by decide) rfl (fun ls hl => ?_)
        refine lv_goto (tgt := 4) hx hb dX6_openOf_33 (by decide) ?_
        cases hf
        exact ih _ (fp_inl ho) (lv_sub hl [2, 1, 0] rfl) hex
      · have hf := fp_t hf c129
        refine lv_iconst (v := (1 : Int32)) hx hb dX6_openOf_23 (by decide) ?_
        refine lv_goto (tgt := 28) hx hb dX6_openOf_24 (by decide) ?_
        refine lv_iadd hx hb dX6_openOf_28 ?_
        refine lv_istore_n (lv' := [(1, .int (y1 + (1 : Int32))), (0, .ref hAR0), (2, .int y2)]) hx hb dX6_openOf_29 rfl hl (by decide) rfl (fun ls hl => ?_)
        refine lv_iinc (v := (y2 + (1 : Int32))) (lv' := [(2, .int (y2 + (1 : Int32))), (1, .int (y1 + (1 : Int32))), (0, .ref hAR0)]) hx hb dX6_openOf_30 hl (k := 2) rfl rfl (by decide) rfl (fun ls hl => ?_)
        refine lv_goto (tgt := 4) hx hb dX6_openOf_33 (by decide) ?_
        cases hf
        exact ih _ (fp_inl ho) (lv_sub hl [2, 1, 0] rfl) hex
def f_X6_openOf (fr0 : Nat → Int32) : Option (Int32) :=
  Option.bind (lpf (fun s => f_X6_openOf_4 fr0 s.1 s.2) 1000 ((0 : Int32), (0 : Int32))) (fun o130 => some o130)
set_option maxHeartbeats 4000000 in
set_option maxRecDepth 100000 in
theorem b_X6_openOf {p : Program} {l : Launch} {e : Env} {s : State} {m : MethodId} {args : Array Value} {below : List Frame} {meth : Method} {c : Code} {Q : State → Prop} {D : va_G} {cI cJ cZ cQ : ClassId} {qs : Nat × Nat × Nat} {hAR0 : Nat} {fr0 : Nat → Int32} {out : Int32} (F : CallFix p m c cX6_openOf 3 s args wsX6_openOf RX6) (hG : kR D (ty4 cI cJ cZ cQ) qs s s.heap) (hP : va_P D vwCl [(hAR0, .inl (cI, 22, .inl fr0))] s.heap) (hf : f_X6_openOf fr0 = some out) (hret : ∀ (pc : Nat) (ls : Array Slot), decode cX6_openOf pc = .ok (.ireturn, 1) → narrow .int (.int out) = .int out → W p l e { frames := 1, cells := 0, slots := 0, locals := 20 } s m args below meth c s.heap [] 0 0 Q (F0 m pc ls [.int out])) {ls : Array Slot} (hl : lv_has ls 3 [(0, .ref hAR0)]) : W p l e { frames := 1, cells := 0, slots := 0, locals := 20 } s m args below meth c s.heap [] 0 0 Q (F0 m 0 ls []) := by
  have hx := F.1
  have hb := F.2.1
  have hown := F.2.2.2.1
  have hts := F.2.2.2.2
  have hK := hG.1.1
  rw [f_X6_openOf] at hf
  refine lv_iconst (v := (0 : Int32)) hx hb dX6_openOf_0 (by decide) ?_
  refine lv_istore_n (lv' := [(1, .int (0 : Int32)), (0, .ref hAR0)]) hx hb dX6_openOf_1 rfl hl (by decide) rfl (fun ls hl => ?_)
  refine lv_iconst (v := (0 : Int32)) hx hb dX6_openOf_2 (by decide) ?_
  refine lv_istore_n (lv' := [(2, .int (0 : Int32)), (1, .int (0 : Int32)), (0, .ref hAR0)]) hx hb dX6_openOf_3 rfl hl (by decide) rfl (fun ls hl => ?_)
  obtain ⟨o130, eo130, hf⟩ := fp_b hf
  refine lp_X6_openOf_4 F hG hP _ _ eo130 (lv_sub hl [2, 1, 0] rfl) (fun ls hl => ?_)
  refine lv_iload_n hx hb dX6_openOf_36 rfl (lv_at hl 1 rfl) ?_
  cases hf
  exact hret _ _ dX6_openOf_37 (vp_nar_int _)
set_option maxRecDepth 100000 in
theorem c_X6_openOf {l : Launch} {D : va_G} {cI cJ cZ cQ : ClassId} {qs : Nat × Nat × Nat} {hAR0 : Nat} {fr0 : Nat → Int32} {out : Int32} (hf : f_X6_openOf fr0 = some out) : RoI l yX6_openOf wsX6_openOf { frames := 1, cells := 0, slots := 0, locals := 20 } D (ty4 cI cJ cZ cQ) qs [.ref hAR0] [(hAR0, .inl (cI, 22, .inl fr0))] out :=
  RoI.of (own := RX6) (by decide +kernel) rfl rfl (Nat.le_of_ble_eq_true rfl) (fun F hG hP hret ls hl => b_X6_openOf F hG hP hf hret hl)
-- method X6_isTheDoor
theorem yd_X6_isTheDoor : yX6_isTheDoor.cls = RX6 ∧ yX6_isTheDoor.cls ≠ "java/lang/invoke/MethodHandle" ∧ yX6_isTheDoor.cls ≠ "java/lang/invoke/VarHandle" ∧ (parseMethodDescriptor yX6_isTheDoor.desc).map (fun d => d.parameters.length) = some 1 := by decide +kernel
theorem ku_X6_isTheDoor_X6 : ∀ w ∈ u_ws RX6 TX6 19, w ∈ wsX6_isTheDoor := by decide +kernel
theorem kw_X6_isTheDoor_1 : Cond.fieldLink RX6 7 "MirrorSharesModel" "now" "[I" ∈ wsX6_isTheDoor := List.mem_of_getElem? (i := 1) rfl
def f_X6_isTheDoor (mn : Nat → Int32) (x1 : Int32) : Option (Int32) :=
  Option.bind (f_X6_doors mn) (fun r131 => Option.bind (f_X6_in x1 (0 : Int32) (r131 - (1 : Int32))) (fun r132 => chk (r132 = 0 ∨ r132 = 1) (some r132)))
set_option maxHeartbeats 4000000 in
set_option maxRecDepth 100000 in
theorem b_X6_isTheDoor {p : Program} {l : Launch} {e : Env} {s : State} {m : MethodId} {args : Array Value} {below : List Frame} {meth : Method} {c : Code} {Q : State → Prop} {D : va_G} {cI cJ cZ cQ : ClassId} {qs : Nat × Nat × Nat} {hMo hMn hMr hMa hMp hMt hMd hMk hMy hMl hMw hMi hMx : Nat} {mc : Int32} {ml : Int32} {ms : Int32} {mm : Int32} {mu : Int64} {mv : Int64} {me : Int32} {mn : Nat → Int32} {x1 : Int32} {out : Int32} (F : CallFix p m c cX6_isTheDoor 2 s args wsX6_isTheDoor RX6) (hG : kR D (ty4 cI cJ cZ cQ) qs s s.heap) (hP : va_P D vwCl [(hMo, .inr (6, [.ref hMn, .ref hMr, .ref hMa, .ref hMp, .int mc, .ref hMt, .int ml, .int ms, .ref hMd, .ref hMk, .ref hMy, .int mm, .ref hMl, .ref hMw, .long mu, .long mv, .ref hMi, .ref hMx, .int me])), (hMn, .inl (cI, 22, .inl mn))] s.heap) (hf : f_X6_isTheDoor mn x1 = some out) (hret : ∀ (pc : Nat) (ls : Array Slot), decode cX6_isTheDoor pc = .ok (.ireturn, 1) → narrow .boolean (.int out) = .int out → W p l e { frames := 3, cells := 0, slots := 0, locals := 64 } s m args below meth c s.heap [] 0 0 Q (F0 m pc ls [.int out])) {ls : Array Slot} (hl : lv_has ls 2 [(0, .ref hMo), (1, .int x1)]) : W p l e { frames := 3, cells := 0, slots := 0, locals := 64 } s m args below meth c s.heap [] 0 0 Q (F0 m 0 ls []) := by
  have hx := F.1
  have hb := F.2.1
  have hown := F.2.2.2.1
  have hts := F.2.2.2.2
  have hK := hG.1.1
  rw [f_X6_isTheDoor] at hf
  refine lv_iload_n hx hb dX6_isTheDoor_0 rfl (lv_at hl 1 rfl) ?_
  refine lv_iconst (v := (0 : Int32)) hx hb dX6_isTheDoor_1 (by decide) ?_
  refine lv_aload_n hx hb dX6_isTheDoor_2 rfl (lv_at hl 0 rfl) ?_
  refine va_get (D := D) (ci := 6) (v := .ref hMn) (C := RX6) (T := TX6) (N := 19) hx hb hts ku_X6_isTheDoor_X6 hown hK hP 0 rfl rfl 0 (by decide) (hts _ kw_X6_isTheDoor_1) (fun _ h9 => h9) rfl dX6_isTheDoor_3 ?_
  obtain ⟨r131, er131, hf⟩ := fp_b hf
  refine RoI.callS (c_X6_doors (l := l) (D := D) (cI := cI) (cJ := cJ) (cZ := cZ) (cQ := cQ) (qs := qs) er131) F (va_cwS 1 hts gX6_isTheDoor_X6_doors rfl rfl rfl yd_X6_doors ⟨Nat.le_of_ble_eq_true rfl, Nat.le_of_ble_eq_true rfl⟩) hG hP [1] rfl rfl hl.1 rfl (Nat.le_of_ble_eq_true rfl) dX6_isTheDoor_6 ⟨Nat.zero_le _, Nat.zero_le _⟩ ?_
  refine lv_iconst (v := (1 : Int32)) hx hb dX6_isTheDoor_9 (by decide) ?_
  refine lv_isub hx hb dX6_isTheDoor_10 ?_
  obtain ⟨r132, er132, hf⟩ := fp_b hf
  refine RoI.callS (c_X6_in (l := l) (D := D) (cI := cI) (cJ := cJ) (cZ := cZ) (cQ := cQ) (qs := qs) er132) F (va_cwS 3 hts gX6_isTheDoor_X6_in rfl rfl rfl yd_X6_in ⟨Nat.le_of_ble_eq_true rfl, Nat.le_of_ble_eq_true rfl⟩) hG hP [] rfl rfl hl.1 rfl (Nat.le_of_ble_eq_true rfl) dX6_isTheDoor_11 ⟨Nat.zero_le _, Nat.zero_le _⟩ ?_
  obtain ⟨k133, hf⟩ := fp_c hf
  cases hf
  exact hret _ _ dX6_isTheDoor_14 (nar_b k133)
set_option maxRecDepth 100000 in
theorem c_X6_isTheDoor {l : Launch} {D : va_G} {cI cJ cZ cQ : ClassId} {qs : Nat × Nat × Nat} {hMo hMn hMr hMa hMp hMt hMd hMk hMy hMl hMw hMi hMx : Nat} {mc : Int32} {ml : Int32} {ms : Int32} {mm : Int32} {mu : Int64} {mv : Int64} {me : Int32} {mn : Nat → Int32} {x1 : Int32} {out : Int32} (hf : f_X6_isTheDoor mn x1 = some out) : RoI l yX6_isTheDoor wsX6_isTheDoor { frames := 3, cells := 0, slots := 0, locals := 64 } D (ty4 cI cJ cZ cQ) qs [.ref hMo, .int x1] [(hMo, .inr (6, [.ref hMn, .ref hMr, .ref hMa, .ref hMp, .int mc, .ref hMt, .int ml, .int ms, .ref hMd, .ref hMk, .ref hMy, .int mm, .ref hMl, .ref hMw, .long mu, .long mv, .ref hMi, .ref hMx, .int me])), (hMn, .inl (cI, 22, .inl mn))] out :=
  RoI.of (own := RX6) (by decide +kernel) rfl rfl (Nat.le_of_ble_eq_true rfl) (fun F hG hP hret ls hl => b_X6_isTheDoor F hG hP hf hret hl)
-- method X6_door
theorem yd_X6_door : yX6_door.cls = RX6 ∧ yX6_door.cls ≠ "java/lang/invoke/MethodHandle" ∧ yX6_door.cls ≠ "java/lang/invoke/VarHandle" ∧ (parseMethodDescriptor yX6_door.desc).map (fun d => d.parameters.length) = some 2 := by decide +kernel
theorem ku_X6_door_X6 : ∀ w ∈ u_ws RX6 TX6 19, w ∈ wsX6_door := by decide +kernel
theorem kw_X6_door_1 : Cond.fieldLink RX6 7 "MirrorSharesModel" "now" "[I" ∈ wsX6_door := List.mem_of_getElem? (i := 1) rfl
def f_X6_door (mc : Int32) (mn : Nat → Int32) (mp : Nat → Int32) (x1 : Int32) (x2 : Int32) : Option (Int32 × Int32 × (Nat → Int32) × (Nat → Int32)) :=
  Option.bind (f_X6_isTheDoor mn x1) (fun r134 => (if r134 = 0 then some ((-1 : Int32), mc, mn, mp) else Option.bind (f_X6_in x2 (0 : Int32) (1 : Int32)) (fun r136 => (if r136 = 0 then some ((-1 : Int32), mc, mn, mp) else Option.bind (f_X6_doorCell mn x1) (fun r138 => chk (aix ((2 : Int32) + r138) 22) ((if (mn (Int32.toNatClampNeg ((2 : Int32) + r138))) = ((7 : Int32) - x2) then some ((-2 : Int32), mc, mn, mp) else Option.bind (f_X6_keeps mc mn mp) (fun r141 => Option.bind (f_X6_openOf (upd mn (Int32.toNatClampNeg ((2 : Int32) + r138)) ((7 : Int32) - x2))) (fun r142 => some (r142, r141.1, (upd mn (Int32.toNatClampNeg ((2 : Int32) + r138)) ((7 : Int32) - x2)), r141.2))))))))))
set_option maxHeartbeats 4000000 in
set_option maxRecDepth 100000 in
theorem b_X6_door {p : Program} {l : Launch} {e : Env} {s : State} {m : MethodId} {args : Array Value} {below : List Frame} {meth : Method} {c : Code} {Q : State → Prop} {A : Nat → Prop} {H : Heap} {locs : List Loc} {D : va_G} {cI cJ cZ cQ : ClassId} {qs : Nat × Nat × Nat} {hMo hMn hMr hMa hMp hMt hMd hMk hMy hMl hMw hMi hMx : Nat} {mc : Int32} {ml : Int32} {ms : Int32} {mm : Int32} {mu : Int64} {mv : Int64} {me : Int32} {mn : Nat → Int32} {mp : Nat → Int32} {x1 : Int32} {x2 : Int32} {out : Int32 × Int32 × (Nat → Int32) × (Nat → Int32)} (F : CallFix p m c cX6_door 4 s args wsX6_door RX6) (hG : kW D (ty4 cI cJ cZ cQ) qs A s s.heap) (hA : ∀ q : Nat, s.heap.size ≤ q → A q) (hP : va_P D vwCl [(hMo, .inr (6, [.ref hMn, .ref hMr, .ref hMa, .ref hMp, .int mc, .ref hMt, .int ml, .int ms, .ref hMd, .ref hMk, .ref hMy, .int mm, .ref hMl, .ref hMw, .long mu, .long mv, .ref hMi, .ref hMx, .int me])), (hMn, .inl (cI, 22, .inl mn)), (hMp, .inl (cI, 88, .inl mp))] H) (hD : va_D A [(hMo, .inr (6, [.ref hMn, .ref hMr, .ref hMa, .ref hMp, .int mc, .ref hMt, .int ml, .int ms, .ref hMd, .ref hMk, .ref hMy, .int mm, .ref hMl, .ref hMw, .long mu, .long mv, .ref hMi, .ref hMx, .int me])), (hMn, .inl (cI, 22, .inl mn)), (hMp, .inl (cI, 88, .inl mp))]) (hS : va_S A s.heap H locs) (hf : f_X6_door mc mn mp x1 x2 = some out) (hret : ∀ (pc : Nat) (H : Heap) (locs : List Loc) (ls : Array Slot), decode cX6_door pc = .ok (.ireturn, 1) → narrow .int (.int out.1) = .int out.1 → va_P D vwCl [(hMo, .inr (6, [.ref hMn, .ref hMr, .ref hMa, .ref hMp, .int out.2.1, .ref hMt, .int ml, .int ms, .ref hMd, .ref hMk, .ref hMy, .int mm, .ref hMl, .ref hMw, .long mu, .long mv, .ref hMi, .ref hMx, .int me])), (hMn, .inl (cI, 22, .inl out.2.2.1)), (hMp, .inl (cI, 88, .inl out.2.2.2))] H → va_D A [(hMo, .inr (6, [.ref hMn, .ref hMr, .ref hMa, .ref hMp, .int out.2.1, .ref hMt, .int ml, .int ms, .ref hMd, .ref hMk, .ref hMy, .int mm, .ref hMl, .ref hMw, .long mu, .long mv, .ref hMi, .ref hMx, .int me])), (hMn, .inl (cI, 22, .inl out.2.2.1)), (hMp, .inl (cI, 88, .inl out.2.2.2))] → va_S A s.heap H locs → W p l e { frames := 4, cells := 0, slots := 0, locals := 85 } s m args below meth c H locs 0 0 Q (F0 m pc ls [.int out.1])) {ls : Array Slot} (hl : lv_has ls 4 [(0, .ref hMo), (1, .int x1), (2, .int x2)]) : W p l e { frames := 4, cells := 0, slots := 0, locals := 85 } s m args below meth c H locs 0 0 Q (F0 m 0 ls []) := by
  have hx := F.1
  have hb := F.2.1
  have hown := F.2.2.2.1
  have hts := F.2.2.2.2
  have hK := hG.1.1
  rw [f_X6_door] at hf
  refine lv_aload_n hx hb dX6_door_0 rfl (lv_at hl 0 rfl) ?_
  refine lv_iload_n hx hb dX6_door_1 rfl (lv_at hl 1 rfl) ?_
  obtain ⟨r134, er134, hf⟩ := fp_b hf
  refine RoI.callV (c_X6_isTheDoor (l := l) (D := D) (cI := cI) (cJ := cJ) (cZ := cZ) (cQ := cQ) (qs := qs) er134) F (cwV 1 hts gX6_door_X6_isTheDoor rfl rfl rfl yd_X6_isTheDoor ⟨Nat.le_of_ble_eq_true rfl, Nat.le_of_ble_eq_true rfl⟩) (hG.r hS) hP [0, 1] rfl 6 rfl rfl rfl hl.1 rfl (Nat.le_of_ble_eq_true rfl) dX6_door_2 ⟨Nat.zero_le _, Nat.zero_le _⟩ ?_
  refine lv_if_eq (tgt := 17) hx hb dX6_door_5 (by decide) (fun c135 => ?_) (fun c135 => ?_)
  · have hf := fp_t hf c135
    refine lv_iconst (v := (-1 : Int32)) hx hb dX6_door_17 (by decide) ?_
    cases hf
    exact hret _ _ _ _ dX6_door_18 (vp_nar_int _) hP hD hS
  · have hf := fp_f hf c135
    refine lv_iload_n hx hb dX6_door_8 rfl (lv_at hl 2 rfl) ?_
    refine lv_iconst (v := (0 : Int32)) hx hb dX6_door_9 (by decide) ?_
    refine lv_iconst (v := (1 : Int32)) hx hb dX6_door_10 (by decide) ?_
    obtain ⟨r136, er136, hf⟩ := fp_b hf
    refine RoI.callS (c_X6_in (l := l) (D := D) (cI := cI) (cJ := cJ) (cZ := cZ) (cQ := cQ) (qs := qs) er136) F (va_cwS 3 hts gX6_door_X6_in rfl rfl rfl yd_X6_in ⟨Nat.le_of_ble_eq_true rfl, Nat.le_of_ble_eq_true rfl⟩) (hG.r hS) hP [] rfl rfl hl.1 rfl (Nat.le_of_ble_eq_true rfl) dX6_door_11 ⟨Nat.zero_le _, Nat.zero_le _⟩ ?_
    refine lv_if_ne (tgt := 19) hx hb dX6_door_14 (by decide) (fun c137 => ?_) (fun c137 => ?_)
    · have hf := fp_f hf c137
      refine lv_aload_n hx hb dX6_door_19 rfl (lv_at hl 0 rfl) ?_
      refine va_get (D := D) (ci := 6) (v := .ref hMn) (C := RX6) (T := TX6) (N := 19) hx hb hts ku_X6_door_X6 hown hK hP 0 rfl rfl 0 (by decide) (hts _ kw_X6_door_1) (fun _ h9 => h9) rfl dX6_door_20 ?_
      refine lv_iload_n hx hb dX6_door_23 rfl (lv_at hl 1 rfl) ?_
      obtain ⟨r138, er138, hf⟩ := fp_b hf
      refine RoI.callS (c_X6_doorCell (l := l) (D := D) (cI := cI) (cJ := cJ) (cZ := cZ) (cQ := cQ) (qs := qs) er138) F (va_cwS 2 hts gX6_door_X6_doorCell rfl rfl rfl yd_X6_doorCell ⟨Nat.le_of_ble_eq_true rfl, Nat.le_of_ble_eq_true rfl⟩) (hG.r hS) hP [1] rfl rfl hl.1 rfl (Nat.le_of_ble_eq_true rfl) dX6_door_24 ⟨Nat.zero_le _, Nat.zero_le _⟩ ?_
      refine lv_istore_n (lv' := [(3, .int r138), (0, .ref hMo), (1, .int x1), (2, .int x2)]) hx hb dX6_door_27 rfl hl (by decide) rfl (fun ls hl => ?_)
      refine lv_aload_n hx hb dX6_door_28 rfl (lv_at hl 1 rfl) ?_
      refine va_get (D := D) (ci := 6) (v := .ref hMn) (C := RX6) (T := TX6) (N := 19) hx hb hts ku_X6_door_X6 hown hK hP 0 rfl rfl 0 (by decide) (hts _ kw_X6_door_1) (fun _ h9 => h9) rfl dX6_door_29 ?_
      refine lv_iconst (v := (2 : Int32)) hx hb dX6_door_32 (by decide) ?_
      refine lv_iload_n hx hb dX6_door_33 rfl (lv_at hl 0 rfl) ?_
      refine lv_iadd hx hb dX6_door_34 ?_
      obtain ⟨k139, hf⟩ := fp_c hf
      refine va_iald hx hb hK hP 1 0 rfl rfl k139 dX6_door_35 ?_
      refine lv_bipush (v := (7 : Int32)) hx hb dX6_door_36 (by decide) ?_
      refine lv_iload_n hx hb dX6_door_38 rfl (lv_at hl 3 rfl) ?_
      refine lv_isub hx hb dX6_door_39 ?_
      refine lv_icmp_ne (tgt := 46) hx hb dX6_door_40 (by decide) (fun c140 => ?_) (fun c140 => ?_)
      · have hf := fp_f hf c140
        refine lv_aload_n hx hb dX6_door_46 rfl (lv_at hl 1 rfl) ?_
        obtain ⟨r141, er141, hf⟩ := fp_b hf
        refine kc_rwV (w2 := [(hMo, .inr (6, [.ref hMn, .ref hMr, .ref hMa, .ref hMp, .int r141.1, .ref hMt, .int ml, .int ms, .ref hMd, .ref hMk, .ref hMy, .int mm, .ref hMl, .ref hMw, .long mu, .long mv, .ref hMi, .ref hMx, .int me])), (hMn, .inl (cI, 22, .inl mn)), (hMp, .inl (cI, 88, .inl r141.2))]) (RwV.runV (c_X6_keeps (l := l) (D := D) (cI := cI) (cJ := cJ) (cZ := cZ) (cQ := cQ) (qs := qs) er141) F (cwV 0 hts gX6_door_X6_keeps rfl rfl rfl yd_X6_keeps ⟨Nat.le_of_ble_eq_true rfl, Nat.le_of_ble_eq_true rfl⟩) hG hP hD hS hA [0, 1, 2] (by decide) rfl 6 rfl rfl rfl hl.1 rfl (Nat.le_of_ble_eq_true rfl) dX6_door_47 ⟨Nat.zero_le _, Nat.zero_le _⟩) hP hD hS hA [0, 1, 2] [] [0, 1, 2] rfl (wr := []) rfl (by decide) (by decide) rfl (by decide) (fun H locs hP hD hS => ?_)
        refine lv_aload_n hx hb dX6_door_50 rfl (lv_at hl 1 rfl) ?_
        refine va_get (D := D) (ci := 6) (v := .ref hMn) (C := RX6) (T := TX6) (N := 19) hx hb hts ku_X6_door_X6 hown hK hP 0 rfl rfl 0 (by decide) (hts _ kw_X6_door_1) (fun _ h9 => h9) rfl dX6_door_51 ?_
        refine lv_iconst (v := (2 : Int32)) hx hb dX6_door_54 (by decide) ?_
        refine lv_iload_n hx hb dX6_door_55 rfl (lv_at hl 0 rfl) ?_
        refine lv_iadd hx hb dX6_door_56 ?_
        refine lv_bipush (v := (7 : Int32)) hx hb dX6_door_57 (by decide) ?_
        refine lv_iload_n hx hb dX6_door_59 rfl (lv_at hl 3 rfl) ?_
        refine lv_isub hx hb dX6_door_60 ?_
        refine va_iast hx hb hK hP hD hS 1 0 rfl rfl k139 dX6_door_61 (fun H locs hP hD hS => ?_)
        have hP : va_P D vwCl [(hMo, .inr (6, [.ref hMn, .ref hMr, .ref hMa, .ref hMp, .int r141.1, .ref hMt, .int ml, .int ms, .ref hMd, .ref hMk, .ref hMy, .int mm, .ref hMl, .ref hMw, .long mu, .long mv, .ref hMi, .ref hMx, .int me])), (hMn, .inl (cI, 22, .inl (upd mn (Int32.toNatClampNeg ((2 : Int32) + r138)) ((7 : Int32) - x2)))), (hMp, .inl (cI, 88, .inl r141.2))] H := hP
        have hD : va_D A [(hMo, .inr (6, [.ref hMn, .ref hMr, .ref hMa, .ref hMp, .int r141.1, .ref hMt, .int ml, .int ms, .ref hMd, .ref hMk, .ref hMy, .int mm, .ref hMl, .ref hMw, .long mu, .long mv, .ref hMi, .ref hMx, .int me])), (hMn, .inl (cI, 22, .inl (upd mn (Int32.toNatClampNeg ((2 : Int32) + r138)) ((7 : Int32) - x2)))), (hMp, .inl (cI, 88, .inl r141.2))] := hD
        refine lv_aload_n hx hb dX6_door_62 rfl (lv_at hl 1 rfl) ?_
        refine va_get (D := D) (ci := 6) (v := .ref hMn) (C := RX6) (T := TX6) (N := 19) hx hb hts ku_X6_door_X6 hown hK hP 0 rfl rfl 0 (by decide) (hts _ kw_X6_door_1) (fun _ h9 => h9) rfl dX6_door_63 ?_
        obtain ⟨r142, er142, hf⟩ := fp_b hf
        refine RoI.callS (c_X6_openOf (l := l) (D := D) (cI := cI) (cJ := cJ) (cZ := cZ) (cQ := cQ) (qs := qs) er142) F (va_cwS 1 hts gX6_door_X6_openOf rfl rfl rfl yd_X6_openOf ⟨Nat.le_of_ble_eq_true rfl, Nat.le_of_ble_eq_true rfl⟩) (hG.r hS) hP [1] rfl rfl hl.1 rfl (Nat.le_of_ble_eq_true rfl) dX6_door_66 ⟨Nat.zero_le _, Nat.zero_le _⟩ ?_
        cases hf
        exact hret _ _ _ _ dX6_door_69 (vp_nar_int _) hP hD hS
      · have hf := fp_t hf c140
        refine lv_bipush (v := (-2 : Int32)) hx hb dX6_door_43 (by decide) ?_
        cases hf
        exact hret _ _ _ _ dX6_door_45 (vp_nar_int _) hP hD hS
    · have hf := fp_t hf c137
      refine lv_iconst (v := (-1 : Int32)) hx hb dX6_door_17 (by decide) ?_
      cases hf
      exact hret _ _ _ _ dX6_door_18 (vp_nar_int _) hP hD hS
set_option maxRecDepth 100000 in
theorem c_X6_door {l : Launch} {D : va_G} {cI cJ cZ cQ : ClassId} {qs : Nat × Nat × Nat} {hMo hMn hMr hMa hMp hMt hMd hMk hMy hMl hMw hMi hMx : Nat} {mc : Int32} {ml : Int32} {ms : Int32} {mm : Int32} {mu : Int64} {mv : Int64} {me : Int32} {mn : Nat → Int32} {mp : Nat → Int32} {x1 : Int32} {x2 : Int32} {out : Int32 × Int32 × (Nat → Int32) × (Nat → Int32)} (hf : f_X6_door mc mn mp x1 x2 = some out) : RwI l yX6_door wsX6_door { frames := 4, cells := 0, slots := 0, locals := 85 } D (ty4 cI cJ cZ cQ) qs [.ref hMo, .int x1, .int x2] [(hMo, .inr (6, [.ref hMn, .ref hMr, .ref hMa, .ref hMp, .int mc, .ref hMt, .int ml, .int ms, .ref hMd, .ref hMk, .ref hMy, .int mm, .ref hMl, .ref hMw, .long mu, .long mv, .ref hMi, .ref hMx, .int me])), (hMn, .inl (cI, 22, .inl mn)), (hMp, .inl (cI, 88, .inl mp))] [(hMo, .inr (6, [.ref hMn, .ref hMr, .ref hMa, .ref hMp, .int out.2.1, .ref hMt, .int ml, .int ms, .ref hMd, .ref hMk, .ref hMy, .int mm, .ref hMl, .ref hMw, .long mu, .long mv, .ref hMi, .ref hMx, .int me])), (hMn, .inl (cI, 22, .inl out.2.2.1)), (hMp, .inl (cI, 88, .inl out.2.2.2))] out.1 :=
  RwI.of (own := RX6) (by decide +kernel) rfl rfl (Nat.le_of_ble_eq_true rfl) (fun F hG hA hP hD hS hret ls hl => b_X6_door F hG hA hP hD hS hf hret hl)
-- method X6_turn
theorem yd_X6_turn : yX6_turn.cls = RX6 ∧ yX6_turn.cls ≠ "java/lang/invoke/MethodHandle" ∧ yX6_turn.cls ≠ "java/lang/invoke/VarHandle" ∧ (parseMethodDescriptor yX6_turn.desc).map (fun d => d.parameters.length) = some 0 := by decide +kernel
theorem ku_X6_turn_X6 : ∀ w ∈ u_ws RX6 TX6 19, w ∈ wsX6_turn := by decide +kernel
theorem kw_X6_turn_1 : Cond.fieldLink RX6 7 "MirrorSharesModel" "now" "[I" ∈ wsX6_turn := List.mem_of_getElem? (i := 1) rfl
theorem kw_X6_turn_2 : Cond.fieldLink RX6 16 "MirrorSharesModel" "aside" "[I" ∈ wsX6_turn := List.mem_of_getElem? (i := 2) rfl
def f_X6_turn_45 (mc : Int32) (mn : Nat → Int32) (mp : Nat → Int32) (y1 : Int32) (y2 : Int32) (y3 : Int32) (y4 : Int32) (ma : Nat → Int32) : Option ((Int32 × (Nat → Int32)) ⊕ ((Nat → Int32))) :=
  (if y1 ≤ y4 then some (Sum.inr ma) else chk (aix (((2 : Int32) + (y1 * y3)) + y4) 22) (Option.bind (f_X6_in (mn (Int32.toNatClampNeg (((2 : Int32) + (y1 * y3)) + y4))) (1 : Int32) (2 : Int32)) (fun r150 => Option.bind (if r150 = 0 then Option.bind (f_X6_isHalf (mn (Int32.toNatClampNeg (((2 : Int32) + (y1 * y3)) + y4)))) (fun r155 => (if r155 = 0 then some (mn (Int32.toNatClampNeg (((2 : Int32) + (y1 * y3)) + y4))) else some ((7 : Int32) - (mn (Int32.toNatClampNeg (((2 : Int32) + (y1 * y3)) + y4)))))) else some ((3 : Int32) - (mn (Int32.toNatClampNeg (((2 : Int32) + (y1 * y3)) + y4))))) (fun j151 => chk (aix (((((2 : Int32) + (y2 * y4)) + y2) - (1 : Int32)) - y3) 22) (some (Sum.inl ((y4 + (1 : Int32)), (upd ma (Int32.toNatClampNeg (((((2 : Int32) + (y2 * y4)) + y2) - (1 : Int32)) - y3)) j151))))))))
set_option maxHeartbeats 4000000 in
set_option maxRecDepth 100000 in
theorem lp_X6_turn_45 {p : Program} {l : Launch} {e : Env} {s : State} {m : MethodId} {args : Array Value} {below : List Frame} {meth : Method} {c : Code} {Q : State → Prop} {A : Nat → Prop} {D : va_G} {cI cJ cZ cQ : ClassId} {qs : Nat × Nat × Nat} {hMo hMn hMr hMa hMp hMt hMd hMk hMy hMl hMw hMi hMx : Nat} {mc : Int32} {mn : Nat → Int32} {mp : Nat → Int32} {y1 : Int32} {y2 : Int32} {y3 : Int32} {ml : Int32} {ms : Int32} {mm : Int32} {mu : Int64} {mv : Int64} {me : Int32} (F : CallFix p m c cX6_turn 7 s args wsX6_turn RX6) (hG : kW D (ty4 cI cJ cZ cQ) qs A s s.heap) (hA : ∀ q : Nat, s.heap.size ≤ q → A q) :
    ∀ (n : Nat) {y4 : Int32} {ma : Nat → Int32} (out : (Nat → Int32)), lpf (fun s => f_X6_turn_45 mc mn mp y1 y2 y3 s.1 s.2) n (y4, ma) = some out → ∀ {H : Heap} {locs : List Loc} {ls : Array Slot}, va_P D vwCl [(hMo, .inr (6, [.ref hMn, .ref hMr, .ref hMa, .ref hMp, .int mc, .ref hMt, .int ml, .int ms, .ref hMd, .ref hMk, .ref hMy, .int mm, .ref hMl, .ref hMw, .long mu, .long mv, .ref hMi, .ref hMx, .int me])), (hMn, .inl (cI, 22, .inl mn)), (hMa, .inl (cI, 22, .inl ma)), (hMp, .inl (cI, 88, .inl mp))] H → va_D A [(hMo, .inr (6, [.ref hMn, .ref hMr, .ref hMa, .ref hMp, .int mc, .ref hMt, .int ml, .int ms, .ref hMd, .ref hMk, .ref hMy, .int mm, .ref hMl, .ref hMw, .long mu, .long mv, .ref hMi, .ref hMx, .int me])), (hMn, .inl (cI, 22, .inl mn)), (hMa, .inl (cI, 22, .inl ma)), (hMp, .inl (cI, 88, .inl mp))] → va_S A s.heap H locs → lv_has ls 7 [(0, .ref hMo), (1, .int y1), (2, .int y2), (3, .int y3), (4, .int y4)] → (∀ (H : Heap) (locs : List Loc) (ls : Array Slot), va_P D vwCl [(hMo, .inr (6, [.ref hMn, .ref hMr, .ref hMa, .ref hMp, .int mc, .ref hMt, .int ml, .int ms, .ref hMd, .ref hMk, .ref hMy, .int mm, .ref hMl, .ref hMw, .long mu, .long mv, .ref hMi, .ref hMx, .int me])), (hMn, .inl (cI, 22, .inl mn)), (hMa, .inl (cI, 22, .inl out)), (hMp, .inl (cI, 88, .inl mp))] H → va_D A [(hMo, .inr (6, [.ref hMn, .ref hMr, .ref hMa, .ref hMp, .int mc, .ref hMt, .int ml, .int ms, .ref hMd, .ref hMk, .ref hMy, .int mm, .ref hMl, .ref hMw, .long mu, .long mv, .ref hMi, .ref hMx, .int me])), (hMn, .inl (cI, 22, .inl mn)), (hMa, .inl (cI, 22, .inl out)), (hMp, .inl (cI, 88, .inl mp))] → va_S A s.heap H locs → lv_has ls 7 [(0, .ref hMo), (1, .int y1), (2, .int y2), (3, .int y3)] → W p l e { frames := 2, cells := 0, slots := 0, locals := 45 } s m args below meth c H locs 0 0 Q (F0 m 128 ls [])) → W p l e { frames := 2, cells := 0, slots := 0, locals := 45 } s m args below meth c H locs 0 0 Q (F0 m 45 ls []) := by
  have hx := F.1
  have hb := F.2.1
  have hown := F.2.2.2.1
  have hts := F.2.2.2.2
  have hK := hG.1.1
  intro n
  induction n with
  | zero =>
    intro y4 ma out ho
    exact (fp_l0 ho).elim
  | succ n ih =>
    intro y4 ma out ho H locs ls hP hD hS hl hex
    obtain ⟨o, hf, ho⟩ := fp_l ho
    have hf : f_X6_turn_45 mc mn mp y1 y2 y3 y4 ma = some o := hf
    rw [f_X6_turn_45] at hf
    refine lv_iload hx hb dX6_turn_45 (lv_at hl 4 rfl) ?_
    refine lv_iload_n hx hb dX6_turn_47 rfl (lv_at hl 1 rfl) ?_
    refine lv_icmp_ge (tgt := 128) hx hb dX6_turn_48 (by decide) (fun c148 => ?_) (fun c148 => ?_)
    · have hf := fp_t hf c148
      cases hf
      have ho := fp_inr ho
      cases ho
      exact hex _ _ _ hP hD hS (lv_sub hl [0, 1, 2, 3] rfl)
    · have hf := fp_f hf c148
      refine lv_aload_n hx hb dX6_turn_51 rfl (lv_at hl 0 rfl) ?_
      refine va_get (D := D) (ci := 6) (v := .ref hMn) (C := RX6) (T := TX6) (N := 19) hx hb hts ku_X6_turn_X6 hown hK hP 0 rfl rfl 0 (by decide) (hts _ kw_X6_turn_1) (fun _ h9 => h9) rfl dX6_turn_52 ?_
      refine lv_iconst (v := (2 : Int32)) hx hb dX6_turn_55 (by decide) ?_
      refine lv_iload_n hx hb dX6_turn_56 rfl (lv_at hl 1 rfl) ?_
      refine lv_iload_n hx hb dX6_turn_57 rfl (lv_at hl 3 rfl) ?_
      refine lv_imul hx hb dX6_turn_58 ?_
      refine lv_iadd hx hb dX6_turn_59 ?_
      refine lv_iload hx hb dX6_turn_60 (lv_at hl 4 rfl) ?_
      refine lv_iadd hx hb dX6_turn_62 ?_
      obtain ⟨k149, hf⟩ := fp_c hf
      refine va_iald hx hb hK hP 1 0 rfl rfl k149 dX6_turn_63 ?_
      refine lv_istore (lv' := [(5, .int (mn (Int32.toNatClampNeg (((2 : Int32) + (y1 * y3)) + y4)))), (0, .ref hMo), (1, .int y1), (2, .int y2), (3, .int y3), (4, .int y4)]) hx hb dX6_turn_64 hl (by decide) rfl (fun ls hl => ?_)
      refine lv_iload hx hb dX6_turn_66 (lv_at hl 0 rfl) ?_
      refine lv_iconst (v := (1 : Int32)) hx hb dX6_turn_68 (by decide) ?_
      refine lv_iconst (v := (2 : Int32)) hx hb dX6_turn_69 (by decide) ?_
      obtain ⟨r150, er150, hf⟩ := fp_b hf
      refine RoI.callS (c_X6_in (l := l) (D := D) (cI := cI) (cJ := cJ) (cZ := cZ) (cQ := cQ) (qs := qs) er150) F (va_cwS 3 hts gX6_turn_X6_in rfl rfl rfl yd_X6_in ⟨Nat.le_of_ble_eq_true rfl, Nat.le_of_ble_eq_true rfl⟩) (hG.r hS) hP [] rfl rfl hl.1 rfl (Nat.le_of_ble_eq_true rfl) dX6_turn_70 ⟨Nat.zero_le _, Nat.zero_le _⟩ ?_
      obtain ⟨j151, ej151, hf⟩ := fp_b hf
      have hj152 : ∀ (H : Heap) (locs : List Loc) (ls : Array Slot), va_P D vwCl [(hMo, .inr (6, [.ref hMn, .ref hMr, .ref hMa, .ref hMp, .int mc, .ref hMt, .int ml, .int ms, .ref hMd, .ref hMk, .ref hMy, .int mm, .ref hMl, .ref hMw, .long mu, .long mv, .ref hMi, .ref hMx, .int me])), (hMn, .inl (cI, 22, .inl mn)), (hMa, .inl (cI, 22, .inl ma)), (hMp, .inl (cI, 88, .inl mp))] H → va_D A [(hMo, .inr (6, [.ref hMn, .ref hMr, .ref hMa, .ref hMp, .int mc, .ref hMt, .int ml, .int ms, .ref hMd, .ref hMk, .ref hMy, .int mm, .ref hMl, .ref hMw, .long mu, .long mv, .ref hMi, .ref hMx, .int me])), (hMn, .inl (cI, 22, .inl mn)), (hMa, .inl (cI, 22, .inl ma)), (hMp, .inl (cI, 88, .inl mp))] → va_S A s.heap H locs → lv_has ls 7 [(0, .ref hMo), (1, .int y1), (2, .int y2), (3, .int y3), (4, .int y4)] → W p l e { frames := 2, cells := 0, slots := 0, locals := 45 } s m args below meth c H locs 0 0 Q (F0 m 101 ls [.int j151]) := by
        intro H locs ls hP hD hS hl
        refine lv_istore (lv' := [(6, .int j151), (0, .ref hMo), (1, .int y1), (2, .int y2), (3, .int y3), (4, .int y4)]) hx hb dX6_turn_101 hl (by decide) rfl (fun ls hl => ?_)
        refine lv_aload_n hx hb dX6_turn_103 rfl (lv_at hl 1 rfl) ?_
        refine va_get (D := D) (ci := 6) (v := .ref hMa) (C := RX6) (T := TX6) (N := 19) hx hb hts ku_X6_turn_X6 hown hK hP 0 rfl rfl 2 (by decide) (hts _ kw_X6_turn_2) (fun _ h9 => h9) rfl dX6_turn_104 ?_
        refine lv_iconst (v := (2 : Int32)) hx hb dX6_turn_107 (by decide) ?_
        refine lv_iload_n hx hb dX6_turn_108 rfl (lv_at hl 3 rfl) ?_
        refine lv_iload hx hb dX6_turn_109 (lv_at hl 5 rfl) ?_
        refine lv_imul hx hb dX6_turn_111 ?_
        refine lv_iadd hx hb dX6_turn_112 ?_
        refine lv_iload_n hx hb dX6_turn_113 rfl (lv_at hl 3 rfl) ?_
        refine lv_iadd hx hb dX6_turn_114 ?_
        refine lv_iconst (v := (1 : Int32)) hx hb dX6_turn_115 (by decide) ?_
        refine lv_isub hx hb dX6_turn_116 ?_
        refine lv_iload_n hx hb dX6_turn_117 rfl (lv_at hl 4 rfl) ?_
        refine lv_isub hx hb dX6_turn_118 ?_
        refine lv_iload hx hb dX6_turn_119 (lv_at hl 0 rfl) ?_
        obtain ⟨k153, hf⟩ := fp_c hf
        refine va_iast hx hb hK hP hD hS 2 0 rfl rfl k153 dX6_turn_121 (fun H locs hP hD hS => ?_)
        have hP : va_P D vwCl [(hMo, .inr (6, [.ref hMn, .ref hMr, .ref hMa, .ref hMp, .int mc, .ref hMt, .int ml, .int ms, .ref hMd, .ref hMk, .ref hMy, .int mm, .ref hMl, .ref hMw, .long mu, .long mv, .ref hMi, .ref hMx, .int me])), (hMn, .inl (cI, 22, .inl mn)), (hMa, .inl (cI, 22, .inl (upd ma (Int32.toNatClampNeg (((((2 : Int32) + (y2 * y4)) + y2) - (1 : Int32)) - y3)) j151))), (hMp, .inl (cI, 88, .inl mp))] H := hP
        have hD : va_D A [(hMo, .inr (6, [.ref hMn, .ref hMr, .ref hMa, .ref hMp, .int mc, .ref hMt, .int ml, .int ms, .ref hMd, .ref hMk, .ref hMy, .int mm, .ref hMl, .ref hMw, .long mu, .long mv, .ref hMi, .ref hMx, .int me])), (hMn, .inl (cI, 22, .inl mn)), (hMa, .inl (cI, 22, .inl (upd ma (Int32.toNatClampNeg (((((2 : Int32) + (y2 * y4)) + y2) - (1 : Int32)) - y3)) j151))), (hMp, .inl (cI, 88, .inl mp))] := hD
        refine lv_iinc (v := (y4 + (1 : Int32))) (lv' := [(4, .int (y4 + (1 : Int32))), (6, .int j151), (0, .ref hMo), (1, .int y1), (2, .int y2), (3, .int y3)]) hx hb dX6_turn_122 hl (k := 5) rfl rfl (by decide) rfl (fun ls hl => ?_)
        refine lv_goto (tgt := 45) hx hb dX6_turn_125 (by decide) ?_
        cases hf
        exact ih _ (fp_inl ho) hP hD hS (lv_sub hl [2, 3, 4, 5, 0] rfl) hex
      replace hf := ej151
      refine lv_if_eq (tgt := 83) hx hb dX6_turn_73 (by decide) (fun c154 => ?_) (fun c154 => ?_)
      · have hf := fp_t hf c154
        refine lv_iload hx hb dX6_turn_83 (lv_at hl 0 rfl) ?_
        obtain ⟨r155, er155, hf⟩ := fp_b hf
        refine RoI.callS (c_X6_isHalf (l := l) (D := D) (cI := cI) (cJ := cJ) (cZ := cZ) (cQ := cQ) (qs := qs) er155) F (va_cwS 1 hts gX6_turn_X6_isHalf rfl rfl rfl yd_X6_isHalf ⟨Nat.le_of_ble_eq_true rfl, Nat.le_of_ble_eq_true rfl⟩) (hG.r hS) hP [] rfl rfl hl.1 rfl (Nat.le_of_ble_eq_true rfl) dX6_turn_85 ⟨Nat.zero_le _, Nat.zero_le _⟩ ?_
        refine lv_if_eq (tgt := 99) hx hb dX6_turn_88 (by decide) (fun c156 => ?_) (fun c156 => ?_)
        · have hf := fp_t hf c156
          refine lv_iload hx hb dX6_turn_99 (lv_at hl 0 rfl) ?_
          cases hf
          exact hj152 _ _ _ hP hD hS (lv_sub hl [1, 2, 3, 4, 5] rfl)
        · have hf := fp_f hf c156
          refine lv_bipush (v := (7 : Int32)) hx hb dX6_turn_91 (by decide) ?_
          refine lv_iload hx hb dX6_turn_93 (lv_at hl 0 rfl) ?_
          refine lv_isub hx hb dX6_turn_95 ?_
          refine lv_goto (tgt := 101) hx hb dX6_turn_96 (by decide) ?_
          cases hf
          exact hj152 _ _ _ hP hD hS (lv_sub hl [1, 2, 3, 4, 5] rfl)
      · have hf := fp_f hf c154
        refine lv_iconst (v := (3 : Int32)) hx hb dX6_turn_76 (by decide) ?_
        refine lv_iload hx hb dX6_turn_77 (lv_at hl 0 rfl) ?_
        refine lv_isub hx hb dX6_turn_79 ?_
        refine lv_goto (tgt := 101) hx hb dX6_turn_80 (by decide) ?_
        cases hf
        exact hj152 _ _ _ hP hD hS (lv_sub hl [1, 2, 3, 4, 5] rfl)
def f_X6_turn_37 (mc : Int32) (mn : Nat → Int32) (mp : Nat → Int32) (y1 : Int32) (y2 : Int32) (y3 : Int32) (ma : Nat → Int32) : Option ((Int32 × (Nat → Int32)) ⊕ ((Nat → Int32))) :=
  (if y2 ≤ y3 then some (Sum.inr ma) else Option.bind (lpf (fun s => f_X6_turn_45 mc mn mp y1 y2 y3 s.1 s.2) 1000 ((0 : Int32), ma)) (fun o157 => some (Sum.inl ((y3 + (1 : Int32)), o157))))
set_option maxHeartbeats 4000000 in
set_option maxRecDepth 100000 in
theorem lp_X6_turn_37 {p : Program} {l : Launch} {e : Env} {s : State} {m : MethodId} {args : Array Value} {below : List Frame} {meth : Method} {c : Code} {Q : State → Prop} {A : Nat → Prop} {D : va_G} {cI cJ cZ cQ : ClassId} {qs : Nat × Nat × Nat} {hMo hMn hMr hMa hMp hMt hMd hMk hMy hMl hMw hMi hMx : Nat} {mc : Int32} {mn : Nat → Int32} {mp : Nat → Int32} {y1 : Int32} {y2 : Int32} {ml : Int32} {ms : Int32} {mm : Int32} {mu : Int64} {mv : Int64} {me : Int32} (F : CallFix p m c cX6_turn 7 s args wsX6_turn RX6) (hG : kW D (ty4 cI cJ cZ cQ) qs A s s.heap) (hA : ∀ q : Nat, s.heap.size ≤ q → A q) :
    ∀ (n : Nat) {y3 : Int32} {ma : Nat → Int32} (out : (Nat → Int32)), lpf (fun s => f_X6_turn_37 mc mn mp y1 y2 s.1 s.2) n (y3, ma) = some out → ∀ {H : Heap} {locs : List Loc} {ls : Array Slot}, va_P D vwCl [(hMo, .inr (6, [.ref hMn, .ref hMr, .ref hMa, .ref hMp, .int mc, .ref hMt, .int ml, .int ms, .ref hMd, .ref hMk, .ref hMy, .int mm, .ref hMl, .ref hMw, .long mu, .long mv, .ref hMi, .ref hMx, .int me])), (hMn, .inl (cI, 22, .inl mn)), (hMa, .inl (cI, 22, .inl ma)), (hMp, .inl (cI, 88, .inl mp))] H → va_D A [(hMo, .inr (6, [.ref hMn, .ref hMr, .ref hMa, .ref hMp, .int mc, .ref hMt, .int ml, .int ms, .ref hMd, .ref hMk, .ref hMy, .int mm, .ref hMl, .ref hMw, .long mu, .long mv, .ref hMi, .ref hMx, .int me])), (hMn, .inl (cI, 22, .inl mn)), (hMa, .inl (cI, 22, .inl ma)), (hMp, .inl (cI, 88, .inl mp))] → va_S A s.heap H locs → lv_has ls 7 [(0, .ref hMo), (1, .int y1), (2, .int y2), (3, .int y3)] → (∀ (H : Heap) (locs : List Loc) (ls : Array Slot), va_P D vwCl [(hMo, .inr (6, [.ref hMn, .ref hMr, .ref hMa, .ref hMp, .int mc, .ref hMt, .int ml, .int ms, .ref hMd, .ref hMk, .ref hMy, .int mm, .ref hMl, .ref hMw, .long mu, .long mv, .ref hMi, .ref hMx, .int me])), (hMn, .inl (cI, 22, .inl mn)), (hMa, .inl (cI, 22, .inl out)), (hMp, .inl (cI, 88, .inl mp))] H → va_D A [(hMo, .inr (6, [.ref hMn, .ref hMr, .ref hMa, .ref hMp, .int mc, .ref hMt, .int ml, .int ms, .ref hMd, .ref hMk, .ref hMy, .int mm, .ref hMl, .ref hMw, .long mu, .long mv, .ref hMi, .ref hMx, .int me])), (hMn, .inl (cI, 22, .inl mn)), (hMa, .inl (cI, 22, .inl out)), (hMp, .inl (cI, 88, .inl mp))] → va_S A s.heap H locs → lv_has ls 7 [(0, .ref hMo), (1, .int y1), (2, .int y2)] → W p l e { frames := 2, cells := 0, slots := 0, locals := 45 } s m args below meth c H locs 0 0 Q (F0 m 134 ls [])) → W p l e { frames := 2, cells := 0, slots := 0, locals := 45 } s m args below meth c H locs 0 0 Q (F0 m 37 ls []) := by
  have hx := F.1
  have hb := F.2.1
  have hown := F.2.2.2.1
  have hts := F.2.2.2.2
  have hK := hG.1.1
  intro n
  induction n with
  | zero =>
    intro y3 ma out ho
    exact (fp_l0 ho).elim
  | succ n ih =>
    intro y3 ma out ho H locs ls hP hD hS hl hex
    obtain ⟨o, hf, ho⟩ := fp_l ho
    have hf : f_X6_turn_37 mc mn mp y1 y2 y3 ma = some o := hf
    rw [f_X6_turn_37] at hf
    refine lv_iload_n hx hb dX6_turn_37 rfl (lv_at hl 3 rfl) ?_
    refine lv_iload_n hx hb dX6_turn_38 rfl (lv_at hl 2 rfl) ?_
    refine lv_icmp_ge (tgt := 134) hx hb dX6_turn_39 (by decide) (fun c147 => ?_) (fun c147 => ?_)
    · have hf := fp_t hf c147
      cases hf
      have ho := fp_inr ho
      cases ho
      exact hex _ _ _ hP hD hS (lv_sub hl [0, 1, 2] rfl)
    · have hf := fp_f hf c147
      refine lv_iconst (v := (0 : Int32)) hx hb dX6_turn_42 (by decide) ?_
      refine lv_istore (lv' := [(4, .int (0 : Int32)), (0, .ref hMo), (1, .int y1), (2, .int y2), (3, .int y3)]) hx hb dX6_turn_43 hl (by decide) rfl (fun ls hl => ?_)
      obtain ⟨o157, eo157, hf⟩ := fp_b hf
      refine lp_X6_turn_45 F hG hA _ _ eo157 hP hD hS (lv_sub hl [1, 2, 3, 4, 0] rfl) (fun H locs ls hP hD hS hl => ?_)
      refine lv_iinc (v := (y3 + (1 : Int32))) (lv' := [(3, .int (y3 + (1 : Int32))), (0, .ref hMo), (1, .int y1), (2, .int y2)]) hx hb dX6_turn_128 hl (k := 3) rfl rfl (by decide) rfl (fun ls hl => ?_)
      refine lv_goto (tgt := 37) hx hb dX6_turn_131 (by decide) ?_
      cases hf
      exact ih _ (fp_inl ho) hP hD hS (lv_sub hl [1, 2, 3, 0] rfl) hex
def f_X6_turn (mc : Int32) (mn : Nat → Int32) (ma : Nat → Int32) (mp : Nat → Int32) : Option (Int32 × Int32 × (Nat → Int32) × (Nat → Int32) × (Nat → Int32)) :=
  Option.bind (f_X6_in (mn (Int32.toNatClampNeg (1 : Int32))) (2 : Int32) (5 : Int32)) (fun r143 => (if r143 = 0 then some ((-2 : Int32), mc, mn, ma, mp) else (if (mn (Int32.toNatClampNeg (0 : Int32))) ≤ (4 : Int32) then Option.bind (f_X6_keeps mc mn mp) (fun r146 => Option.bind (lpf (fun s => f_X6_turn_37 r146.1 mn r146.2 (mn (Int32.toNatClampNeg (0 : Int32))) (mn (Int32.toNatClampNeg (1 : Int32))) s.1 s.2) 1000 ((0 : Int32), ma)) (fun o158 => Option.bind (f_X6_copies 22 22 (upd (upd o158 (Int32.toNatClampNeg (0 : Int32)) (mn (Int32.toNatClampNeg (1 : Int32)))) (Int32.toNatClampNeg (1 : Int32)) (mn (Int32.toNatClampNeg (0 : Int32)))) mn (0 : Int32) (0 : Int32)) (fun r159 => some ((mn (Int32.toNatClampNeg (1 : Int32))), r146.1, r159, (upd (upd o158 (Int32.toNatClampNeg (0 : Int32)) (mn (Int32.toNatClampNeg (1 : Int32)))) (Int32.toNatClampNeg (1 : Int32)) (mn (Int32.toNatClampNeg (0 : Int32)))), r146.2)))) else some ((-2 : Int32), mc, mn, ma, mp))))
set_option maxHeartbeats 4000000 in
set_option maxRecDepth 100000 in
theorem b_X6_turn {p : Program} {l : Launch} {e : Env} {s : State} {m : MethodId} {args : Array Value} {below : List Frame} {meth : Method} {c : Code} {Q : State → Prop} {A : Nat → Prop} {H : Heap} {locs : List Loc} {D : va_G} {cI cJ cZ cQ : ClassId} {qs : Nat × Nat × Nat} {hMo hMn hMr hMa hMp hMt hMd hMk hMy hMl hMw hMi hMx : Nat} {mc : Int32} {ml : Int32} {ms : Int32} {mm : Int32} {mu : Int64} {mv : Int64} {me : Int32} {mn : Nat → Int32} {ma : Nat → Int32} {mp : Nat → Int32} {out : Int32 × Int32 × (Nat → Int32) × (Nat → Int32) × (Nat → Int32)} (F : CallFix p m c cX6_turn 7 s args wsX6_turn RX6) (hG : kW D (ty4 cI cJ cZ cQ) qs A s s.heap) (hA : ∀ q : Nat, s.heap.size ≤ q → A q) (hP : va_P D vwCl [(hMo, .inr (6, [.ref hMn, .ref hMr, .ref hMa, .ref hMp, .int mc, .ref hMt, .int ml, .int ms, .ref hMd, .ref hMk, .ref hMy, .int mm, .ref hMl, .ref hMw, .long mu, .long mv, .ref hMi, .ref hMx, .int me])), (hMn, .inl (cI, 22, .inl mn)), (hMa, .inl (cI, 22, .inl ma)), (hMp, .inl (cI, 88, .inl mp))] H) (hD : va_D A [(hMo, .inr (6, [.ref hMn, .ref hMr, .ref hMa, .ref hMp, .int mc, .ref hMt, .int ml, .int ms, .ref hMd, .ref hMk, .ref hMy, .int mm, .ref hMl, .ref hMw, .long mu, .long mv, .ref hMi, .ref hMx, .int me])), (hMn, .inl (cI, 22, .inl mn)), (hMa, .inl (cI, 22, .inl ma)), (hMp, .inl (cI, 88, .inl mp))]) (hS : va_S A s.heap H locs) (hf : f_X6_turn mc mn ma mp = some out) (hret : ∀ (pc : Nat) (H : Heap) (locs : List Loc) (ls : Array Slot), decode cX6_turn pc = .ok (.ireturn, 1) → narrow .int (.int out.1) = .int out.1 → va_P D vwCl [(hMo, .inr (6, [.ref hMn, .ref hMr, .ref hMa, .ref hMp, .int out.2.1, .ref hMt, .int ml, .int ms, .ref hMd, .ref hMk, .ref hMy, .int mm, .ref hMl, .ref hMw, .long mu, .long mv, .ref hMi, .ref hMx, .int me])), (hMn, .inl (cI, 22, .inl out.2.2.1)), (hMa, .inl (cI, 22, .inl out.2.2.2.1)), (hMp, .inl (cI, 88, .inl out.2.2.2.2))] H → va_D A [(hMo, .inr (6, [.ref hMn, .ref hMr, .ref hMa, .ref hMp, .int out.2.1, .ref hMt, .int ml, .int ms, .ref hMd, .ref hMk, .ref hMy, .int mm, .ref hMl, .ref hMw, .long mu, .long mv, .ref hMi, .ref hMx, .int me])), (hMn, .inl (cI, 22, .inl out.2.2.1)), (hMa, .inl (cI, 22, .inl out.2.2.2.1)), (hMp, .inl (cI, 88, .inl out.2.2.2.2))] → va_S A s.heap H locs → W p l e { frames := 2, cells := 0, slots := 0, locals := 45 } s m args below meth c H locs 0 0 Q (F0 m pc ls [.int out.1])) {ls : Array Slot} (hl : lv_has ls 7 [(0, .ref hMo)]) : W p l e { frames := 2, cells := 0, slots := 0, locals := 45 } s m args below meth c H locs 0 0 Q (F0 m 0 ls []) := by
  have hx := F.1
  have hb := F.2.1
  have hown := F.2.2.2.1
  have hts := F.2.2.2.2
  have hK := hG.1.1
  rw [f_X6_turn] at hf
  refine lv_aload_n hx hb dX6_turn_0 rfl (lv_at hl 0 rfl) ?_
  refine va_get (D := D) (ci := 6) (v := .ref hMn) (C := RX6) (T := TX6) (N := 19) hx hb hts ku_X6_turn_X6 hown hK hP 0 rfl rfl 0 (by decide) (hts _ kw_X6_turn_1) (fun _ h9 => h9) rfl dX6_turn_1 ?_
  refine lv_iconst (v := (0 : Int32)) hx hb dX6_turn_4 (by decide) ?_
  refine va_iald hx hb hK hP 1 0 rfl rfl (show aix (0 : Int32) 22 by decide) dX6_turn_5 ?_
  refine lv_istore_n (lv' := [(1, .int (mn (Int32.toNatClampNeg (0 : Int32)))), (0, .ref hMo)]) hx hb dX6_turn_6 rfl hl (by decide) rfl (fun ls hl => ?_)
  refine lv_aload_n hx hb dX6_turn_7 rfl (lv_at hl 1 rfl) ?_
  refine va_get (D := D) (ci := 6) (v := .ref hMn) (C := RX6) (T := TX6) (N := 19) hx hb hts ku_X6_turn_X6 hown hK hP 0 rfl rfl 0 (by decide) (hts _ kw_X6_turn_1) (fun _ h9 => h9) rfl dX6_turn_8 ?_
  refine lv_iconst (v := (1 : Int32)) hx hb dX6_turn_11 (by decide) ?_
  refine va_iald hx hb hK hP 1 0 rfl rfl (show aix (1 : Int32) 22 by decide) dX6_turn_12 ?_
  refine lv_istore_n (lv' := [(2, .int (mn (Int32.toNatClampNeg (1 : Int32)))), (1, .int (mn (Int32.toNatClampNeg (0 : Int32)))), (0, .ref hMo)]) hx hb dX6_turn_13 rfl hl (by decide) rfl (fun ls hl => ?_)
  refine lv_iload_n hx hb dX6_turn_14 rfl (lv_at hl 0 rfl) ?_
  refine lv_iconst (v := (2 : Int32)) hx hb dX6_turn_15 (by decide) ?_
  refine lv_iconst (v := (5 : Int32)) hx hb dX6_turn_16 (by decide) ?_
  obtain ⟨r143, er143, hf⟩ := fp_b hf
  refine RoI.callS (c_X6_in (l := l) (D := D) (cI := cI) (cJ := cJ) (cZ := cZ) (cQ := cQ) (qs := qs) er143) F (va_cwS 3 hts gX6_turn_X6_in rfl rfl rfl yd_X6_in ⟨Nat.le_of_ble_eq_true rfl, Nat.le_of_ble_eq_true rfl⟩) (hG.r hS) hP [] rfl rfl hl.1 rfl (Nat.le_of_ble_eq_true rfl) dX6_turn_17 ⟨Nat.zero_le _, Nat.zero_le _⟩ ?_
  refine lv_if_eq (tgt := 28) hx hb dX6_turn_20 (by decide) (fun c144 => ?_) (fun c144 => ?_)
  · have hf := fp_t hf c144
    refine lv_bipush (v := (-2 : Int32)) hx hb dX6_turn_28 (by decide) ?_
    cases hf
    exact hret _ _ _ _ dX6_turn_30 (vp_nar_int _) hP hD hS
  · have hf := fp_f hf c144
    refine lv_iload_n hx hb dX6_turn_23 rfl (lv_at hl 1 rfl) ?_
    refine lv_iconst (v := (4 : Int32)) hx hb dX6_turn_24 (by decide) ?_
    refine lv_icmp_le (tgt := 31) hx hb dX6_turn_25 (by decide) (fun c145 => ?_) (fun c145 => ?_)
    · have hf := fp_t hf c145
      refine lv_aload_n hx hb dX6_turn_31 rfl (lv_at hl 2 rfl) ?_
      obtain ⟨r146, er146, hf⟩ := fp_b hf
      refine kc_rwV (w2 := [(hMo, .inr (6, [.ref hMn, .ref hMr, .ref hMa, .ref hMp, .int r146.1, .ref hMt, .int ml, .int ms, .ref hMd, .ref hMk, .ref hMy, .int mm, .ref hMl, .ref hMw, .long mu, .long mv, .ref hMi, .ref hMx, .int me])), (hMn, .inl (cI, 22, .inl mn)), (hMa, .inl (cI, 22, .inl ma)), (hMp, .inl (cI, 88, .inl r146.2))]) (RwV.runV (c_X6_keeps (l := l) (D := D) (cI := cI) (cJ := cJ) (cZ := cZ) (cQ := cQ) (qs := qs) er146) F (cwV 0 hts gX6_turn_X6_keeps rfl rfl rfl yd_X6_keeps ⟨Nat.le_of_ble_eq_true rfl, Nat.le_of_ble_eq_true rfl⟩) hG hP hD hS hA [0, 1, 3] (by decide) rfl 6 rfl rfl rfl hl.1 rfl (Nat.le_of_ble_eq_true rfl) dX6_turn_32 ⟨Nat.zero_le _, Nat.zero_le _⟩) hP hD hS hA [0, 1, 3] [2] [1, 2, 0, 3] rfl (wr := [(hMa, .inl (cI, 22, .inl ma))]) rfl (by decide) (by decide) rfl (by decide) (fun H locs hP hD hS => ?_)
      refine lv_iconst (v := (0 : Int32)) hx hb dX6_turn_35 (by decide) ?_
      refine lv_istore_n (lv' := [(3, .int (0 : Int32)), (2, .int (mn (Int32.toNatClampNeg (1 : Int32)))), (1, .int (mn (Int32.toNatClampNeg (0 : Int32)))), (0, .ref hMo)]) hx hb dX6_turn_36 rfl hl (by decide) rfl (fun ls hl => ?_)
      obtain ⟨o158, eo158, hf⟩ := fp_b hf
      refine lp_X6_turn_37 F hG hA _ _ eo158 hP hD hS (lv_sub hl [3, 2, 1, 0] rfl) (fun H locs ls hP hD hS hl => ?_)
      refine lv_aload_n hx hb dX6_turn_134 rfl (lv_at hl 0 rfl) ?_
      refine va_get (D := D) (ci := 6) (v := .ref hMa) (C := RX6) (T := TX6) (N := 19) hx hb hts ku_X6_turn_X6 hown hK hP 0 rfl rfl 2 (by decide) (hts _ kw_X6_turn_2) (fun _ h9 => h9) rfl dX6_turn_135 ?_
      refine lv_iconst (v := (0 : Int32)) hx hb dX6_turn_138 (by decide) ?_
      refine lv_iload_n hx hb dX6_turn_139 rfl (lv_at hl 2 rfl) ?_
      refine va_iast hx hb hK hP hD hS 2 0 rfl rfl (show aix (0 : Int32) 22 by decide) dX6_turn_140 (fun H locs hP hD hS => ?_)
      have hP : va_P D vwCl [(hMo, .inr (6, [.ref hMn, .ref hMr, .ref hMa, .ref hMp, .int r146.1, .ref hMt, .int ml, .int ms, .ref hMd, .ref hMk, .ref hMy, .int mm, .ref hMl, .ref hMw, .long mu, .long mv, .ref hMi, .ref hMx, .int me])), (hMn, .inl (cI, 22, .inl mn)), (hMa, .inl (cI, 22, .inl (upd o158 (Int32.toNatClampNeg (0 : Int32)) (mn (Int32.toNatClampNeg (1 : Int32)))))), (hMp, .inl (cI, 88, .inl r146.2))] H := hP
      have hD : va_D A [(hMo, .inr (6, [.ref hMn, .ref hMr, .ref hMa, .ref hMp, .int r146.1, .ref hMt, .int ml, .int ms, .ref hMd, .ref hMk, .ref hMy, .int mm, .ref hMl, .ref hMw, .long mu, .long mv, .ref hMi, .ref hMx, .int me])), (hMn, .inl (cI, 22, .inl mn)), (hMa, .inl (cI, 22, .inl (upd o158 (Int32.toNatClampNeg (0 : Int32)) (mn (Int32.toNatClampNeg (1 : Int32)))))), (hMp, .inl (cI, 88, .inl r146.2))] := hD
      refine lv_aload_n hx hb dX6_turn_141 rfl (lv_at hl 0 rfl) ?_
      refine va_get (D := D) (ci := 6) (v := .ref hMa) (C := RX6) (T := TX6) (N := 19) hx hb hts ku_X6_turn_X6 hown hK hP 0 rfl rfl 2 (by decide) (hts _ kw_X6_turn_2) (fun _ h9 => h9) rfl dX6_turn_142 ?_
      refine lv_iconst (v := (1 : Int32)) hx hb dX6_turn_145 (by decide) ?_
      refine lv_iload_n hx hb dX6_turn_146 rfl (lv_at hl 1 rfl) ?_
      refine va_iast hx hb hK hP hD hS 2 0 rfl rfl (show aix (1 : Int32) 22 by decide) dX6_turn_147 (fun H locs hP hD hS => ?_)
      have hP : va_P D vwCl [(hMo, .inr (6, [.ref hMn, .ref hMr, .ref hMa, .ref hMp, .int r146.1, .ref hMt, .int ml, .int ms, .ref hMd, .ref hMk, .ref hMy, .int mm, .ref hMl, .ref hMw, .long mu, .long mv, .ref hMi, .ref hMx, .int me])), (hMn, .inl (cI, 22, .inl mn)), (hMa, .inl (cI, 22, .inl (upd (upd o158 (Int32.toNatClampNeg (0 : Int32)) (mn (Int32.toNatClampNeg (1 : Int32)))) (Int32.toNatClampNeg (1 : Int32)) (mn (Int32.toNatClampNeg (0 : Int32)))))), (hMp, .inl (cI, 88, .inl r146.2))] H := hP
      have hD : va_D A [(hMo, .inr (6, [.ref hMn, .ref hMr, .ref hMa, .ref hMp, .int r146.1, .ref hMt, .int ml, .int ms, .ref hMd, .ref hMk, .ref hMy, .int mm, .ref hMl, .ref hMw, .long mu, .long mv, .ref hMi, .ref hMx, .int me])), (hMn, .inl (cI, 22, .inl mn)), (hMa, .inl (cI, 22, .inl (upd (upd o158 (Int32.toNatClampNeg (0 : Int32)) (mn (Int32.toNatClampNeg (1 : Int32)))) (Int32.toNatClampNeg (1 : Int32)) (mn (Int32.toNatClampNeg (0 : Int32)))))), (hMp, .inl (cI, 88, .inl r146.2))] := hD
      refine lv_aload_n hx hb dX6_turn_148 rfl (lv_at hl 0 rfl) ?_
      refine va_get (D := D) (ci := 6) (v := .ref hMa) (C := RX6) (T := TX6) (N := 19) hx hb hts ku_X6_turn_X6 hown hK hP 0 rfl rfl 2 (by decide) (hts _ kw_X6_turn_2) (fun _ h9 => h9) rfl dX6_turn_149 ?_
      refine lv_iconst (v := (0 : Int32)) hx hb dX6_turn_152 (by decide) ?_
      refine lv_aload_n hx hb dX6_turn_153 rfl (lv_at hl 0 rfl) ?_
      refine va_get (D := D) (ci := 6) (v := .ref hMn) (C := RX6) (T := TX6) (N := 19) hx hb hts ku_X6_turn_X6 hown hK hP 0 rfl rfl 0 (by decide) (hts _ kw_X6_turn_1) (fun _ h9 => h9) rfl dX6_turn_154 ?_
      refine lv_iconst (v := (0 : Int32)) hx hb dX6_turn_157 (by decide) ?_
      obtain ⟨r159, er159, hf⟩ := fp_b hf
      refine kc_rwV (w2 := [(hMo, .inr (6, [.ref hMn, .ref hMr, .ref hMa, .ref hMp, .int r146.1, .ref hMt, .int ml, .int ms, .ref hMd, .ref hMk, .ref hMy, .int mm, .ref hMl, .ref hMw, .long mu, .long mv, .ref hMi, .ref hMx, .int me])), (hMn, .inl (cI, 22, .inl r159)), (hMa, .inl (cI, 22, .inl (upd (upd o158 (Int32.toNatClampNeg (0 : Int32)) (mn (Int32.toNatClampNeg (1 : Int32)))) (Int32.toNatClampNeg (1 : Int32)) (mn (Int32.toNatClampNeg (0 : Int32)))))), (hMp, .inl (cI, 88, .inl r146.2))]) (RwV.runS (c_X6_copies (l := l) (D := D) (cI := cI) (cJ := cJ) (cZ := cZ) (cQ := cQ) (qs := qs) er159) F (va_cwS 4 hts gX6_turn_X6_copies rfl rfl rfl yd_X6_copies ⟨Nat.le_of_ble_eq_true rfl, Nat.le_of_ble_eq_true rfl⟩) hG hP hD hS hA [2, 1] (by decide) rfl rfl hl.1 rfl (Nat.le_of_ble_eq_true rfl) dX6_turn_158 ⟨Nat.zero_le _, Nat.zero_le _⟩) hP hD hS hA [2, 1] [0, 3] [0, 3, 2, 1] rfl (wr := [(hMo, .inr (6, [.ref hMn, .ref hMr, .ref hMa, .ref hMp, .int r146.1, .ref hMt, .int ml, .int ms, .ref hMd, .ref hMk, .ref hMy, .int mm, .ref hMl, .ref hMw, .long mu, .long mv, .ref hMi, .ref hMx, .int me])), (hMp, .inl (cI, 88, .inl r146.2))]) rfl (by decide) (by decide) rfl (by decide) (fun H locs hP hD hS => ?_)
      refine lv_iload_n hx hb dX6_turn_161 rfl (lv_at hl 2 rfl) ?_
      cases hf
      exact hret _ _ _ _ dX6_turn_162 (vp_nar_int _) hP hD hS
    · have hf := fp_f hf c145
      refine lv_bipush (v := (-2 : Int32)) hx hb dX6_turn_28 (by decide) ?_
      cases hf
      exact hret _ _ _ _ dX6_turn_30 (vp_nar_int _) hP hD hS
set_option maxRecDepth 100000 in
theorem c_X6_turn {l : Launch} {D : va_G} {cI cJ cZ cQ : ClassId} {qs : Nat × Nat × Nat} {hMo hMn hMr hMa hMp hMt hMd hMk hMy hMl hMw hMi hMx : Nat} {mc : Int32} {ml : Int32} {ms : Int32} {mm : Int32} {mu : Int64} {mv : Int64} {me : Int32} {mn : Nat → Int32} {ma : Nat → Int32} {mp : Nat → Int32} {out : Int32 × Int32 × (Nat → Int32) × (Nat → Int32) × (Nat → Int32)} (hf : f_X6_turn mc mn ma mp = some out) : RwI l yX6_turn wsX6_turn { frames := 2, cells := 0, slots := 0, locals := 45 } D (ty4 cI cJ cZ cQ) qs [.ref hMo] [(hMo, .inr (6, [.ref hMn, .ref hMr, .ref hMa, .ref hMp, .int mc, .ref hMt, .int ml, .int ms, .ref hMd, .ref hMk, .ref hMy, .int mm, .ref hMl, .ref hMw, .long mu, .long mv, .ref hMi, .ref hMx, .int me])), (hMn, .inl (cI, 22, .inl mn)), (hMa, .inl (cI, 22, .inl ma)), (hMp, .inl (cI, 88, .inl mp))] [(hMo, .inr (6, [.ref hMn, .ref hMr, .ref hMa, .ref hMp, .int out.2.1, .ref hMt, .int ml, .int ms, .ref hMd, .ref hMk, .ref hMy, .int mm, .ref hMl, .ref hMw, .long mu, .long mv, .ref hMi, .ref hMx, .int me])), (hMn, .inl (cI, 22, .inl out.2.2.1)), (hMa, .inl (cI, 22, .inl out.2.2.2.1)), (hMp, .inl (cI, 88, .inl out.2.2.2.2))] out.1 :=
  RwI.of (own := RX6) (by decide +kernel) rfl rfl (Nat.le_of_ble_eq_true rfl) (fun F hG hA hP hD hS hret ls hl => b_X6_turn F hG hA hP hD hS hf hret hl)
-- method X6_cell
theorem yd_X6_cell : yX6_cell.cls = RX6 ∧ yX6_cell.cls ≠ "java/lang/invoke/MethodHandle" ∧ yX6_cell.cls ≠ "java/lang/invoke/VarHandle" ∧ (parseMethodDescriptor yX6_cell.desc).map (fun d => d.parameters.length) = some 1 := by decide +kernel
theorem ku_X6_cell_X6 : ∀ w ∈ u_ws RX6 TX6 19, w ∈ wsX6_cell := by decide +kernel
theorem kw_X6_cell_1 : Cond.fieldLink RX6 7 "MirrorSharesModel" "now" "[I" ∈ wsX6_cell := List.mem_of_getElem? (i := 1) rfl
def f_X6_cell (mn : Nat → Int32) (x1 : Int32) : Option (Int32) :=
  Option.bind (f_X6_isCell mn x1) (fun r160 => (if r160 = 0 then some (-1 : Int32) else chk (aix ((2 : Int32) + x1) 22) (some (mn (Int32.toNatClampNeg ((2 : Int32) + x1))))))
set_option maxHeartbeats 4000000 in
set_option maxRecDepth 100000 in
theorem b_X6_cell {p : Program} {l : Launch} {e : Env} {s : State} {m : MethodId} {args : Array Value} {below : List Frame} {meth : Method} {c : Code} {Q : State → Prop} {D : va_G} {cI cJ cZ cQ : ClassId} {qs : Nat × Nat × Nat} {hMo hMn hMr hMa hMp hMt hMd hMk hMy hMl hMw hMi hMx : Nat} {mc : Int32} {ml : Int32} {ms : Int32} {mm : Int32} {mu : Int64} {mv : Int64} {me : Int32} {mn : Nat → Int32} {x1 : Int32} {out : Int32} (F : CallFix p m c cX6_cell 2 s args wsX6_cell RX6) (hG : kR D (ty4 cI cJ cZ cQ) qs s s.heap) (hP : va_P D vwCl [(hMo, .inr (6, [.ref hMn, .ref hMr, .ref hMa, .ref hMp, .int mc, .ref hMt, .int ml, .int ms, .ref hMd, .ref hMk, .ref hMy, .int mm, .ref hMl, .ref hMw, .long mu, .long mv, .ref hMi, .ref hMx, .int me])), (hMn, .inl (cI, 22, .inl mn))] s.heap) (hf : f_X6_cell mn x1 = some out) (hret : ∀ (pc : Nat) (ls : Array Slot), decode cX6_cell pc = .ok (.ireturn, 1) → narrow .int (.int out) = .int out → W p l e { frames := 2, cells := 0, slots := 0, locals := 43 } s m args below meth c s.heap [] 0 0 Q (F0 m pc ls [.int out])) {ls : Array Slot} (hl : lv_has ls 2 [(0, .ref hMo), (1, .int x1)]) : W p l e { frames := 2, cells := 0, slots := 0, locals := 43 } s m args below meth c s.heap [] 0 0 Q (F0 m 0 ls []) := by
  have hx := F.1
  have hb := F.2.1
  have hown := F.2.2.2.1
  have hts := F.2.2.2.2
  have hK := hG.1.1
  rw [f_X6_cell] at hf
  refine lv_aload_n hx hb dX6_cell_0 rfl (lv_at hl 0 rfl) ?_
  refine lv_iload_n hx hb dX6_cell_1 rfl (lv_at hl 1 rfl) ?_
  obtain ⟨r160, er160, hf⟩ := fp_b hf
  refine RoI.callV (c_X6_isCell (l := l) (D := D) (cI := cI) (cJ := cJ) (cZ := cZ) (cQ := cQ) (qs := qs) er160) F (cwV 1 hts gX6_cell_X6_isCell rfl rfl rfl yd_X6_isCell ⟨Nat.le_of_ble_eq_true rfl, Nat.le_of_ble_eq_true rfl⟩) hG hP [0, 1] rfl 6 rfl rfl rfl hl.1 rfl (Nat.le_of_ble_eq_true rfl) dX6_cell_2 ⟨Nat.zero_le _, Nat.zero_le _⟩ ?_
  refine lv_if_eq (tgt := 19) hx hb dX6_cell_5 (by decide) (fun c161 => ?_) (fun c161 => ?_)
  · have hf := fp_t hf c161
    refine lv_iconst (v := (-1 : Int32)) hx hb dX6_cell_19 (by decide) ?_
    cases hf
    exact hret _ _ dX6_cell_20 (vp_nar_int _)
  · have hf := fp_f hf c161
    refine lv_aload_n hx hb dX6_cell_8 rfl (lv_at hl 0 rfl) ?_
    refine va_get (D := D) (ci := 6) (v := .ref hMn) (C := RX6) (T := TX6) (N := 19) hx hb hts ku_X6_cell_X6 hown hK hP 0 rfl rfl 0 (by decide) (hts _ kw_X6_cell_1) (fun _ h9 => h9) rfl dX6_cell_9 ?_
    refine lv_iconst (v := (2 : Int32)) hx hb dX6_cell_12 (by decide) ?_
    refine lv_iload_n hx hb dX6_cell_13 rfl (lv_at hl 1 rfl) ?_
    refine lv_iadd hx hb dX6_cell_14 ?_
    obtain ⟨k162, hf⟩ := fp_c hf
    refine va_iald hx hb hK hP 1 0 rfl rfl k162 dX6_cell_15 ?_
    refine lv_goto (tgt := 20) hx hb dX6_cell_16 (by decide) ?_
    cases hf
    exact hret _ _ dX6_cell_20 (vp_nar_int _)
set_option maxRecDepth 100000 in
theorem c_X6_cell {l : Launch} {D : va_G} {cI cJ cZ cQ : ClassId} {qs : Nat × Nat × Nat} {hMo hMn hMr hMa hMp hMt hMd hMk hMy hMl hMw hMi hMx : Nat} {mc : Int32} {ml : Int32} {ms : Int32} {mm : Int32} {mu : Int64} {mv : Int64} {me : Int32} {mn : Nat → Int32} {x1 : Int32} {out : Int32} (hf : f_X6_cell mn x1 = some out) : RoI l yX6_cell wsX6_cell { frames := 2, cells := 0, slots := 0, locals := 43 } D (ty4 cI cJ cZ cQ) qs [.ref hMo, .int x1] [(hMo, .inr (6, [.ref hMn, .ref hMr, .ref hMa, .ref hMp, .int mc, .ref hMt, .int ml, .int ms, .ref hMd, .ref hMk, .ref hMy, .int mm, .ref hMl, .ref hMw, .long mu, .long mv, .ref hMi, .ref hMx, .int me])), (hMn, .inl (cI, 22, .inl mn))] out :=
  RoI.of (own := RX6) (by decide +kernel) rfl rfl (Nat.le_of_ble_eq_true rfl) (fun F hG hP hret ls hl => b_X6_cell F hG hP hf hret hl)
-- method X6_doorAt
theorem yd_X6_doorAt : yX6_doorAt.cls = RX6 ∧ yX6_doorAt.cls ≠ "java/lang/invoke/MethodHandle" ∧ yX6_doorAt.cls ≠ "java/lang/invoke/VarHandle" ∧ (parseMethodDescriptor yX6_doorAt.desc).map (fun d => d.parameters.length) = some 1 := by decide +kernel
theorem ku_X6_doorAt_X6 : ∀ w ∈ u_ws RX6 TX6 19, w ∈ wsX6_doorAt := by decide +kernel
theorem kw_X6_doorAt_1 : Cond.fieldLink RX6 7 "MirrorSharesModel" "now" "[I" ∈ wsX6_doorAt := List.mem_of_getElem? (i := 1) rfl
def f_X6_doorAt (mn : Nat → Int32) (x1 : Int32) : Option (Int32) :=
  Option.bind (f_X6_isTheDoor mn x1) (fun r163 => (if r163 = 0 then some (-1 : Int32) else Option.bind (f_X6_doorCell mn x1) (fun r165 => some r165)))
set_option maxHeartbeats 4000000 in
set_option maxRecDepth 100000 in
theorem b_X6_doorAt {p : Program} {l : Launch} {e : Env} {s : State} {m : MethodId} {args : Array Value} {below : List Frame} {meth : Method} {c : Code} {Q : State → Prop} {D : va_G} {cI cJ cZ cQ : ClassId} {qs : Nat × Nat × Nat} {hMo hMn hMr hMa hMp hMt hMd hMk hMy hMl hMw hMi hMx : Nat} {mc : Int32} {ml : Int32} {ms : Int32} {mm : Int32} {mu : Int64} {mv : Int64} {me : Int32} {mn : Nat → Int32} {x1 : Int32} {out : Int32} (F : CallFix p m c cX6_doorAt 2 s args wsX6_doorAt RX6) (hG : kR D (ty4 cI cJ cZ cQ) qs s s.heap) (hP : va_P D vwCl [(hMo, .inr (6, [.ref hMn, .ref hMr, .ref hMa, .ref hMp, .int mc, .ref hMt, .int ml, .int ms, .ref hMd, .ref hMk, .ref hMy, .int mm, .ref hMl, .ref hMw, .long mu, .long mv, .ref hMi, .ref hMx, .int me])), (hMn, .inl (cI, 22, .inl mn))] s.heap) (hf : f_X6_doorAt mn x1 = some out) (hret : ∀ (pc : Nat) (ls : Array Slot), decode cX6_doorAt pc = .ok (.ireturn, 1) → narrow .int (.int out) = .int out → W p l e { frames := 4, cells := 0, slots := 0, locals := 85 } s m args below meth c s.heap [] 0 0 Q (F0 m pc ls [.int out])) {ls : Array Slot} (hl : lv_has ls 2 [(0, .ref hMo), (1, .int x1)]) : W p l e { frames := 4, cells := 0, slots := 0, locals := 85 } s m args below meth c s.heap [] 0 0 Q (F0 m 0 ls []) := by
  have hx := F.1
  have hb := F.2.1
  have hown := F.2.2.2.1
  have hts := F.2.2.2.2
  have hK := hG.1.1
  rw [f_X6_doorAt] at hf
  refine lv_aload_n hx hb dX6_doorAt_0 rfl (lv_at hl 0 rfl) ?_
  refine lv_iload_n hx hb dX6_doorAt_1 rfl (lv_at hl 1 rfl) ?_
  obtain ⟨r163, er163, hf⟩ := fp_b hf
  refine RoI.callV (c_X6_isTheDoor (l := l) (D := D) (cI := cI) (cJ := cJ) (cZ := cZ) (cQ := cQ) (qs := qs) er163) F (cwV 1 hts gX6_doorAt_X6_isTheDoor rfl rfl rfl yd_X6_isTheDoor ⟨Nat.le_of_ble_eq_true rfl, Nat.le_of_ble_eq_true rfl⟩) hG hP [0, 1] rfl 6 rfl rfl rfl hl.1 rfl (Nat.le_of_ble_eq_true rfl) dX6_doorAt_2 ⟨Nat.zero_le _, Nat.zero_le _⟩ ?_
  refine lv_if_eq (tgt := 19) hx hb dX6_doorAt_5 (by decide) (fun c164 => ?_) (fun c164 => ?_)
  · have hf := fp_t hf c164
    refine lv_iconst (v := (-1 : Int32)) hx hb dX6_doorAt_19 (by decide) ?_
    cases hf
    exact hret _ _ dX6_doorAt_20 (vp_nar_int _)
  · have hf := fp_f hf c164
    refine lv_aload_n hx hb dX6_doorAt_8 rfl (lv_at hl 0 rfl) ?_
    refine va_get (D := D) (ci := 6) (v := .ref hMn) (C := RX6) (T := TX6) (N := 19) hx hb hts ku_X6_doorAt_X6 hown hK hP 0 rfl rfl 0 (by decide) (hts _ kw_X6_doorAt_1) (fun _ h9 => h9) rfl dX6_doorAt_9 ?_
    refine lv_iload_n hx hb dX6_doorAt_12 rfl (lv_at hl 1 rfl) ?_
    obtain ⟨r165, er165, hf⟩ := fp_b hf
    refine RoI.callS (c_X6_doorCell (l := l) (D := D) (cI := cI) (cJ := cJ) (cZ := cZ) (cQ := cQ) (qs := qs) er165) F (va_cwS 2 hts gX6_doorAt_X6_doorCell rfl rfl rfl yd_X6_doorCell ⟨Nat.le_of_ble_eq_true rfl, Nat.le_of_ble_eq_true rfl⟩) hG hP [1] rfl rfl hl.1 rfl (Nat.le_of_ble_eq_true rfl) dX6_doorAt_13 ⟨Nat.zero_le _, Nat.zero_le _⟩ ?_
    refine lv_goto (tgt := 20) hx hb dX6_doorAt_16 (by decide) ?_
    cases hf
    exact hret _ _ dX6_doorAt_20 (vp_nar_int _)
set_option maxRecDepth 100000 in
theorem c_X6_doorAt {l : Launch} {D : va_G} {cI cJ cZ cQ : ClassId} {qs : Nat × Nat × Nat} {hMo hMn hMr hMa hMp hMt hMd hMk hMy hMl hMw hMi hMx : Nat} {mc : Int32} {ml : Int32} {ms : Int32} {mm : Int32} {mu : Int64} {mv : Int64} {me : Int32} {mn : Nat → Int32} {x1 : Int32} {out : Int32} (hf : f_X6_doorAt mn x1 = some out) : RoI l yX6_doorAt wsX6_doorAt { frames := 4, cells := 0, slots := 0, locals := 85 } D (ty4 cI cJ cZ cQ) qs [.ref hMo, .int x1] [(hMo, .inr (6, [.ref hMn, .ref hMr, .ref hMa, .ref hMp, .int mc, .ref hMt, .int ml, .int ms, .ref hMd, .ref hMk, .ref hMy, .int mm, .ref hMl, .ref hMw, .long mu, .long mv, .ref hMi, .ref hMx, .int me])), (hMn, .inl (cI, 22, .inl mn))] out :=
  RoI.of (own := RX6) (by decide +kernel) rfl rfl (Nat.le_of_ble_eq_true rfl) (fun F hG hP hret ls hl => b_X6_doorAt F hG hP hf hret hl)
-- method X6_ports
theorem yd_X6_ports : yX6_ports.cls ≠ "java/lang/invoke/MethodHandle" ∧ yX6_ports.cls ≠ "java/lang/invoke/VarHandle" ∧ (parseMethodDescriptor yX6_ports.desc).map (fun d => d.parameters.length) = some 1 := by decide +kernel
def f_X6_ports (fr0 : Nat → Int32) : Option (Int32) :=
  some ((2 : Int32) * ((fr0 (Int32.toNatClampNeg (0 : Int32))) + (fr0 (Int32.toNatClampNeg (1 : Int32)))))
set_option maxHeartbeats 4000000 in
set_option maxRecDepth 100000 in
theorem b_X6_ports {p : Program} {l : Launch} {e : Env} {s : State} {m : MethodId} {args : Array Value} {below : List Frame} {meth : Method} {c : Code} {Q : State → Prop} {D : va_G} {cI cJ cZ cQ : ClassId} {qs : Nat × Nat × Nat} {hAR0 : Nat} {fr0 : Nat → Int32} {out : Int32} (F : CallFix p m c cX6_ports 1 s args wsX6_ports RX6) (hG : kR D (ty4 cI cJ cZ cQ) qs s s.heap) (hP : va_P D vwCl [(hAR0, .inl (cI, 22, .inl fr0))] s.heap) (hf : f_X6_ports fr0 = some out) (hret : ∀ (pc : Nat) (ls : Array Slot), decode cX6_ports pc = .ok (.ireturn, 1) → narrow .int (.int out) = .int out → W p l e { frames := 0, cells := 0, slots := 0, locals := 0 } s m args below meth c s.heap [] 0 0 Q (F0 m pc ls [.int out])) {ls : Array Slot} (hl : lv_has ls 1 [(0, .ref hAR0)]) : W p l e { frames := 0, cells := 0, slots := 0, locals := 0 } s m args below meth c s.heap [] 0 0 Q (F0 m 0 ls []) := by
  have hx := F.1
  have hb := F.2.1
  have hown := F.2.2.2.1
  have hts := F.2.2.2.2
  have hK := hG.1.1
  rw [f_X6_ports] at hf
  refine lv_iconst (v := (2 : Int32)) hx hb dX6_ports_0 (by decide) ?_
  refine lv_aload_n hx hb dX6_ports_1 rfl (lv_at hl 0 rfl) ?_
  refine lv_iconst (v := (0 : Int32)) hx hb dX6_ports_2 (by decide) ?_
  refine va_iald hx hb hK hP 0 0 rfl rfl (show aix (0 : Int32) 22 by decide) dX6_ports_3 ?_
  refine lv_aload_n hx hb dX6_ports_4 rfl (lv_at hl 0 rfl) ?_
  refine lv_iconst (v := (1 : Int32)) hx hb dX6_ports_5 (by decide) ?_
  refine va_iald hx hb hK hP 0 0 rfl rfl (show aix (1 : Int32) 22 by decide) dX6_ports_6 ?_
  refine lv_iadd hx hb dX6_ports_7 ?_
  refine lv_imul hx hb dX6_ports_8 ?_
  cases hf
  exact hret _ _ dX6_ports_9 (vp_nar_int _)
set_option maxRecDepth 100000 in
theorem c_X6_ports {l : Launch} {D : va_G} {cI cJ cZ cQ : ClassId} {qs : Nat × Nat × Nat} {hAR0 : Nat} {fr0 : Nat → Int32} {out : Int32} (hf : f_X6_ports fr0 = some out) : RoI l yX6_ports wsX6_ports { frames := 0, cells := 0, slots := 0, locals := 0 } D (ty4 cI cJ cZ cQ) qs [.ref hAR0] [(hAR0, .inl (cI, 22, .inl fr0))] out :=
  RoI.of (own := RX6) (by decide +kernel) rfl rfl (Nat.le_of_ble_eq_true rfl) (fun F hG hP hret ls hl => b_X6_ports F hG hP hf hret hl)
-- method X6_isPort
theorem yd_X6_isPort : yX6_isPort.cls = RX6 ∧ yX6_isPort.cls ≠ "java/lang/invoke/MethodHandle" ∧ yX6_isPort.cls ≠ "java/lang/invoke/VarHandle" ∧ (parseMethodDescriptor yX6_isPort.desc).map (fun d => d.parameters.length) = some 1 := by decide +kernel
theorem ku_X6_isPort_X6 : ∀ w ∈ u_ws RX6 TX6 19, w ∈ wsX6_isPort := by decide +kernel
theorem kw_X6_isPort_1 : Cond.fieldLink RX6 7 "MirrorSharesModel" "now" "[I" ∈ wsX6_isPort := List.mem_of_getElem? (i := 1) rfl
def f_X6_isPort (mn : Nat → Int32) (x1 : Int32) : Option (Int32) :=
  Option.bind (f_X6_ports mn) (fun r166 => Option.bind (f_X6_in x1 (0 : Int32) (r166 - (1 : Int32))) (fun r167 => chk (r167 = 0 ∨ r167 = 1) (some r167)))
set_option maxHeartbeats 4000000 in
set_option maxRecDepth 100000 in
theorem b_X6_isPort {p : Program} {l : Launch} {e : Env} {s : State} {m : MethodId} {args : Array Value} {below : List Frame} {meth : Method} {c : Code} {Q : State → Prop} {D : va_G} {cI cJ cZ cQ : ClassId} {qs : Nat × Nat × Nat} {hMo hMn hMr hMa hMp hMt hMd hMk hMy hMl hMw hMi hMx : Nat} {mc : Int32} {ml : Int32} {ms : Int32} {mm : Int32} {mu : Int64} {mv : Int64} {me : Int32} {mn : Nat → Int32} {x1 : Int32} {out : Int32} (F : CallFix p m c cX6_isPort 2 s args wsX6_isPort RX6) (hG : kR D (ty4 cI cJ cZ cQ) qs s s.heap) (hP : va_P D vwCl [(hMo, .inr (6, [.ref hMn, .ref hMr, .ref hMa, .ref hMp, .int mc, .ref hMt, .int ml, .int ms, .ref hMd, .ref hMk, .ref hMy, .int mm, .ref hMl, .ref hMw, .long mu, .long mv, .ref hMi, .ref hMx, .int me])), (hMn, .inl (cI, 22, .inl mn))] s.heap) (hf : f_X6_isPort mn x1 = some out) (hret : ∀ (pc : Nat) (ls : Array Slot), decode cX6_isPort pc = .ok (.ireturn, 1) → narrow .boolean (.int out) = .int out → W p l e { frames := 1, cells := 0, slots := 0, locals := 22 } s m args below meth c s.heap [] 0 0 Q (F0 m pc ls [.int out])) {ls : Array Slot} (hl : lv_has ls 2 [(0, .ref hMo), (1, .int x1)]) : W p l e { frames := 1, cells := 0, slots := 0, locals := 22 } s m args below meth c s.heap [] 0 0 Q (F0 m 0 ls []) := by
  have hx := F.1
  have hb := F.2.1
  have hown := F.2.2.2.1
  have hts := F.2.2.2.2
  have hK := hG.1.1
  rw [f_X6_isPort] at hf
  refine lv_iload_n hx hb dX6_isPort_0 rfl (lv_at hl 1 rfl) ?_
  refine lv_iconst (v := (0 : Int32)) hx hb dX6_isPort_1 (by decide) ?_
  refine lv_aload_n hx hb dX6_isPort_2 rfl (lv_at hl 0 rfl) ?_
  refine va_get (D := D) (ci := 6) (v := .ref hMn) (C := RX6) (T := TX6) (N := 19) hx hb hts ku_X6_isPort_X6 hown hK hP 0 rfl rfl 0 (by decide) (hts _ kw_X6_isPort_1) (fun _ h9 => h9) rfl dX6_isPort_3 ?_
  obtain ⟨r166, er166, hf⟩ := fp_b hf
  refine RoI.callS (c_X6_ports (l := l) (D := D) (cI := cI) (cJ := cJ) (cZ := cZ) (cQ := cQ) (qs := qs) er166) F (va_cwS 1 hts gX6_isPort_X6_ports rfl rfl rfl yd_X6_ports ⟨Nat.le_of_ble_eq_true rfl, Nat.le_of_ble_eq_true rfl⟩) hG hP [1] rfl rfl hl.1 rfl (Nat.le_of_ble_eq_true rfl) dX6_isPort_6 ⟨Nat.zero_le _, Nat.zero_le _⟩ ?_
  refine lv_iconst (v := (1 : Int32)) hx hb dX6_isPort_9 (by decide) ?_
  refine lv_isub hx hb dX6_isPort_10 ?_
  obtain ⟨r167, er167, hf⟩ := fp_b hf
  refine RoI.callS (c_X6_in (l := l) (D := D) (cI := cI) (cJ := cJ) (cZ := cZ) (cQ := cQ) (qs := qs) er167) F (va_cwS 3 hts gX6_isPort_X6_in rfl rfl rfl yd_X6_in ⟨Nat.le_of_ble_eq_true rfl, Nat.le_of_ble_eq_true rfl⟩) hG hP [] rfl rfl hl.1 rfl (Nat.le_of_ble_eq_true rfl) dX6_isPort_11 ⟨Nat.zero_le _, Nat.zero_le _⟩ ?_
  obtain ⟨k168, hf⟩ := fp_c hf
  cases hf
  exact hret _ _ dX6_isPort_14 (nar_b k168)
set_option maxRecDepth 100000 in
theorem c_X6_isPort {l : Launch} {D : va_G} {cI cJ cZ cQ : ClassId} {qs : Nat × Nat × Nat} {hMo hMn hMr hMa hMp hMt hMd hMk hMy hMl hMw hMi hMx : Nat} {mc : Int32} {ml : Int32} {ms : Int32} {mm : Int32} {mu : Int64} {mv : Int64} {me : Int32} {mn : Nat → Int32} {x1 : Int32} {out : Int32} (hf : f_X6_isPort mn x1 = some out) : RoI l yX6_isPort wsX6_isPort { frames := 1, cells := 0, slots := 0, locals := 22 } D (ty4 cI cJ cZ cQ) qs [.ref hMo, .int x1] [(hMo, .inr (6, [.ref hMn, .ref hMr, .ref hMa, .ref hMp, .int mc, .ref hMt, .int ml, .int ms, .ref hMd, .ref hMk, .ref hMy, .int mm, .ref hMl, .ref hMw, .long mu, .long mv, .ref hMi, .ref hMx, .int me])), (hMn, .inl (cI, 22, .inl mn))] out :=
  RoI.of (own := RX6) (by decide +kernel) rfl rfl (Nat.le_of_ble_eq_true rfl) (fun F hG hP hret ls hl => b_X6_isPort F hG hP hf hret hl)
-- method X6_portState
theorem yd_X6_portState : yX6_portState.cls ≠ "java/lang/invoke/MethodHandle" ∧ yX6_portState.cls ≠ "java/lang/invoke/VarHandle" ∧ (parseMethodDescriptor yX6_portState.desc).map (fun d => d.parameters.length) = some 2 := by decide +kernel
def f_X6_portState (fr0 : Nat → Int32) (x1 : Int32) : Option (Int32) :=
  (if (fr0 (Int32.toNatClampNeg (0 : Int32))) ≤ x1 then (if ((fr0 (Int32.toNatClampNeg (0 : Int32))) + (fr0 (Int32.toNatClampNeg (1 : Int32)))) ≤ x1 then (if (((2 : Int32) * (fr0 (Int32.toNatClampNeg (0 : Int32)))) + (fr0 (Int32.toNatClampNeg (1 : Int32)))) ≤ x1 then some ((((4 : Int32) * (fr0 (Int32.toNatClampNeg (0 : Int32)))) * ((x1 - ((2 : Int32) * (fr0 (Int32.toNatClampNeg (0 : Int32))))) - (fr0 (Int32.toNatClampNeg (1 : Int32))))) + (1 : Int32)) else some ((4 : Int32) * (((((fr0 (Int32.toNatClampNeg (0 : Int32))) * ((fr0 (Int32.toNatClampNeg (1 : Int32))) - (1 : Int32))) + x1) - (fr0 (Int32.toNatClampNeg (0 : Int32)))) - (fr0 (Int32.toNatClampNeg (1 : Int32)))))) else some (((4 : Int32) * ((((fr0 (Int32.toNatClampNeg (0 : Int32))) * (x1 - (fr0 (Int32.toNatClampNeg (0 : Int32))))) + (fr0 (Int32.toNatClampNeg (0 : Int32)))) - (1 : Int32))) + (3 : Int32))) else some (((4 : Int32) * x1) + (2 : Int32)))
set_option maxHeartbeats 4000000 in
set_option maxRecDepth 100000 in
theorem b_X6_portState {p : Program} {l : Launch} {e : Env} {s : State} {m : MethodId} {args : Array Value} {below : List Frame} {meth : Method} {c : Code} {Q : State → Prop} {D : va_G} {cI cJ cZ cQ : ClassId} {qs : Nat × Nat × Nat} {hAR0 : Nat} {fr0 : Nat → Int32} {x1 : Int32} {out : Int32} (F : CallFix p m c cX6_portState 4 s args wsX6_portState RX6) (hG : kR D (ty4 cI cJ cZ cQ) qs s s.heap) (hP : va_P D vwCl [(hAR0, .inl (cI, 22, .inl fr0))] s.heap) (hf : f_X6_portState fr0 x1 = some out) (hret : ∀ (pc : Nat) (ls : Array Slot), decode cX6_portState pc = .ok (.ireturn, 1) → narrow .int (.int out) = .int out → W p l e { frames := 0, cells := 0, slots := 0, locals := 0 } s m args below meth c s.heap [] 0 0 Q (F0 m pc ls [.int out])) {ls : Array Slot} (hl : lv_has ls 4 [(0, .ref hAR0), (1, .int x1)]) : W p l e { frames := 0, cells := 0, slots := 0, locals := 0 } s m args below meth c s.heap [] 0 0 Q (F0 m 0 ls []) := by
  have hx := F.1
  have hb := F.2.1
  have hown := F.2.2.2.1
  have hts := F.2.2.2.2
  have hK := hG.1.1
  rw [f_X6_portState] at hf
  refine lv_aload_n hx hb dX6_portState_0 rfl (lv_at hl 0 rfl) ?_
  refine lv_iconst (v := (0 : Int32)) hx hb dX6_portState_1 (by decide) ?_
  refine va_iald hx hb hK hP 0 0 rfl rfl (show aix (0 : Int32) 22 by decide) dX6_portState_2 ?_
  refine lv_istore_n (lv' := [(2, .int (fr0 (Int32.toNatClampNeg (0 : Int32)))), (0, .ref hAR0), (1, .int x1)]) hx hb dX6_portState_3 rfl hl (by decide) rfl (fun ls hl => ?_)
  refine lv_aload_n hx hb dX6_portState_4 rfl (lv_at hl 1 rfl) ?_
  refine lv_iconst (v := (1 : Int32)) hx hb dX6_portState_5 (by decide) ?_
  refine va_iald hx hb hK hP 0 0 rfl rfl (show aix (1 : Int32) 22 by decide) dX6_portState_6 ?_
  refine lv_istore_n (lv' := [(3, .int (fr0 (Int32.toNatClampNeg (1 : Int32)))), (2, .int (fr0 (Int32.toNatClampNeg (0 : Int32)))), (0, .ref hAR0), (1, .int x1)]) hx hb dX6_portState_7 rfl hl (by decide) rfl (fun ls hl => ?_)
  refine lv_iload_n hx hb dX6_portState_8 rfl (lv_at hl 3 rfl) ?_
  refine lv_iload_n hx hb dX6_portState_9 rfl (lv_at hl 1 rfl) ?_
  refine lv_icmp_ge (tgt := 19) hx hb dX6_portState_10 (by decide) (fun c169 => ?_) (fun c169 => ?_)
  · have hf := fp_t hf c169
    refine lv_iload_n hx hb dX6_portState_19 rfl (lv_at hl 3 rfl) ?_
    refine lv_iload_n hx hb dX6_portState_20 rfl (lv_at hl 1 rfl) ?_
    refine lv_iload_n hx hb dX6_portState_21 rfl (lv_at hl 0 rfl) ?_
    refine lv_iadd hx hb dX6_portState_22 ?_
    refine lv_icmp_ge (tgt := 40) hx hb dX6_portState_23 (by decide) (fun c170 => ?_) (fun c170 => ?_)
    · have hf := fp_t hf c170
      refine lv_iload_n hx hb dX6_portState_40 rfl (lv_at hl 3 rfl) ?_
      refine lv_iconst (v := (2 : Int32)) hx hb dX6_portState_41 (by decide) ?_
      refine lv_iload_n hx hb dX6_portState_42 rfl (lv_at hl 1 rfl) ?_
      refine lv_imul hx hb dX6_portState_43 ?_
      refine lv_iload_n hx hb dX6_portState_44 rfl (lv_at hl 0 rfl) ?_
      refine lv_iadd hx hb dX6_portState_45 ?_
      refine lv_icmp_ge (tgt := 63) hx hb dX6_portState_46 (by decide) (fun c171 => ?_) (fun c171 => ?_)
      · have hf := fp_t hf c171
        refine lv_iconst (v := (4 : Int32)) hx hb dX6_portState_63 (by decide) ?_
        refine lv_iload_n hx hb dX6_portState_64 rfl (lv_at hl 1 rfl) ?_
        refine lv_imul hx hb dX6_portState_65 ?_
        refine lv_iload_n hx hb dX6_portState_66 rfl (lv_at hl 3 rfl) ?_
        refine lv_iconst (v := (2 : Int32)) hx hb dX6_portState_67 (by decide) ?_
        refine lv_iload_n hx hb dX6_portState_68 rfl (lv_at hl 1 rfl) ?_
        refine lv_imul hx hb dX6_portState_69 ?_
        refine lv_isub hx hb dX6_portState_70 ?_
        refine lv_iload_n hx hb dX6_portState_71 rfl (lv_at hl 0 rfl) ?_
        refine lv_isub hx hb dX6_portState_72 ?_
        refine lv_imul hx hb dX6_portState_73 ?_
        refine lv_iconst (v := (1 : Int32)) hx hb dX6_portState_74 (by decide) ?_
        refine lv_iadd hx hb dX6_portState_75 ?_
        cases hf
        exact hret _ _ dX6_portState_76 (vp_nar_int _)
      · have hf := fp_f hf c171
        refine lv_iconst (v := (4 : Int32)) hx hb dX6_portState_49 (by decide) ?_
        refine lv_iload_n hx hb dX6_portState_50 rfl (lv_at hl 1 rfl) ?_
        refine lv_iload_n hx hb dX6_portState_51 rfl (lv_at hl 0 rfl) ?_
        refine lv_iconst (v := (1 : Int32)) hx hb dX6_portState_52 (by decide) ?_
        refine lv_isub hx hb dX6_portState_53 ?_
        refine lv_imul hx hb dX6_portState_54 ?_
        refine lv_iload_n hx hb dX6_portState_55 rfl (lv_at hl 3 rfl) ?_
        refine lv_iadd hx hb dX6_portState_56 ?_
        refine lv_iload_n hx hb dX6_portState_57 rfl (lv_at hl 1 rfl) ?_
        refine lv_isub hx hb dX6_portState_58 ?_
        refine lv_iload_n hx hb dX6_portState_59 rfl (lv_at hl 0 rfl) ?_
        refine lv_isub hx hb dX6_portState_60 ?_
        refine lv_imul hx hb dX6_portState_61 ?_
        cases hf
        exact hret _ _ dX6_portState_62 (vp_nar_int _)
    · have hf := fp_f hf c170
      refine lv_iconst (v := (4 : Int32)) hx hb dX6_portState_26 (by decide) ?_
      refine lv_iload_n hx hb dX6_portState_27 rfl (lv_at hl 1 rfl) ?_
      refine lv_iload_n hx hb dX6_portState_28 rfl (lv_at hl 3 rfl) ?_
      refine lv_iload_n hx hb dX6_portState_29 rfl (lv_at hl 1 rfl) ?_
      refine lv_isub hx hb dX6_portState_30 ?_
      refine lv_imul hx hb dX6_portState_31 ?_
      refine lv_iload_n hx hb dX6_portState_32 rfl (lv_at hl 1 rfl) ?_
      refine lv_iadd hx hb dX6_portState_33 ?_
      refine lv_iconst (v := (1 : Int32)) hx hb dX6_portState_34 (by decide) ?_
      refine lv_isub hx hb dX6_portState_35 ?_
      refine lv_imul hx hb dX6_portState_36 ?_
      refine lv_iconst (v := (3 : Int32)) hx hb dX6_portState_37 (by decide) ?_
      refine lv_iadd hx hb dX6_portState_38 ?_
      cases hf
      exact hret _ _ dX6_portState_39 (vp_nar_int _)
  · have hf := fp_f hf c169
    refine lv_iconst (v := (4 : Int32)) hx hb dX6_portState_13 (by decide) ?_
    refine lv_iload_n hx hb dX6_portState_14 rfl (lv_at hl 3 rfl) ?_
    refine lv_imul hx hb dX6_portState_15 ?_
    refine lv_iconst (v := (2 : Int32)) hx hb dX6_portState_16 (by decide) ?_
    refine lv_iadd hx hb dX6_portState_17 ?_
    cases hf
    exact hret _ _ dX6_portState_18 (vp_nar_int _)
set_option maxRecDepth 100000 in
theorem c_X6_portState {l : Launch} {D : va_G} {cI cJ cZ cQ : ClassId} {qs : Nat × Nat × Nat} {hAR0 : Nat} {fr0 : Nat → Int32} {x1 : Int32} {out : Int32} (hf : f_X6_portState fr0 x1 = some out) : RoI l yX6_portState wsX6_portState { frames := 0, cells := 0, slots := 0, locals := 0 } D (ty4 cI cJ cZ cQ) qs [.ref hAR0, .int x1] [(hAR0, .inl (cI, 22, .inl fr0))] out :=
  RoI.of (own := RX6) (by decide +kernel) rfl rfl (Nat.le_of_ble_eq_true rfl) (fun F hG hP hret ls hl => b_X6_portState F hG hP hf hret hl)
-- method X6_port
theorem yd_X6_port : yX6_port.cls = RX6 ∧ yX6_port.cls ≠ "java/lang/invoke/MethodHandle" ∧ yX6_port.cls ≠ "java/lang/invoke/VarHandle" ∧ (parseMethodDescriptor yX6_port.desc).map (fun d => d.parameters.length) = some 2 := by decide +kernel
theorem ku_X6_port_X6 : ∀ w ∈ u_ws RX6 TX6 19, w ∈ wsX6_port := by decide +kernel
theorem kw_X6_port_1 : Cond.fieldLink RX6 7 "MirrorSharesModel" "now" "[I" ∈ wsX6_port := List.mem_of_getElem? (i := 1) rfl
def f_X6_port (mn : Nat → Int32) (x1 : Int32) (x2 : Int32) : Option (Int32) :=
  Option.bind (f_X6_isPort mn x1) (fun r172 => (if r172 = 0 then some (-1 : Int32) else Option.bind (f_X6_in x2 (0 : Int32) (1 : Int32)) (fun r174 => (if r174 = 0 then some (-1 : Int32) else Option.bind (f_X6_portState mn x1) (fun r176 => (if x2 = 0 then some (r176 / (4 : Int32)) else some (r176 - ((r176 / (4 : Int32)) * (4 : Int32)))))))))
set_option maxHeartbeats 4000000 in
set_option maxRecDepth 100000 in
theorem b_X6_port {p : Program} {l : Launch} {e : Env} {s : State} {m : MethodId} {args : Array Value} {below : List Frame} {meth : Method} {c : Code} {Q : State → Prop} {D : va_G} {cI cJ cZ cQ : ClassId} {qs : Nat × Nat × Nat} {hMo hMn hMr hMa hMp hMt hMd hMk hMy hMl hMw hMi hMx : Nat} {mc : Int32} {ml : Int32} {ms : Int32} {mm : Int32} {mu : Int64} {mv : Int64} {me : Int32} {mn : Nat → Int32} {x1 : Int32} {x2 : Int32} {out : Int32} (F : CallFix p m c cX6_port 4 s args wsX6_port RX6) (hG : kR D (ty4 cI cJ cZ cQ) qs s s.heap) (hP : va_P D vwCl [(hMo, .inr (6, [.ref hMn, .ref hMr, .ref hMa, .ref hMp, .int mc, .ref hMt, .int ml, .int ms, .ref hMd, .ref hMk, .ref hMy, .int mm, .ref hMl, .ref hMw, .long mu, .long mv, .ref hMi, .ref hMx, .int me])), (hMn, .inl (cI, 22, .inl mn))] s.heap) (hf : f_X6_port mn x1 x2 = some out) (hret : ∀ (pc : Nat) (ls : Array Slot), decode cX6_port pc = .ok (.ireturn, 1) → narrow .int (.int out) = .int out → W p l e { frames := 2, cells := 0, slots := 0, locals := 43 } s m args below meth c s.heap [] 0 0 Q (F0 m pc ls [.int out])) {ls : Array Slot} (hl : lv_has ls 4 [(0, .ref hMo), (1, .int x1), (2, .int x2)]) : W p l e { frames := 2, cells := 0, slots := 0, locals := 43 } s m args below meth c s.heap [] 0 0 Q (F0 m 0 ls []) := by
  have hx := F.1
  have hb := F.2.1
  have hown := F.2.2.2.1
  have hts := F.2.2.2.2
  have hK := hG.1.1
  rw [f_X6_port] at hf
  refine lv_aload_n hx hb dX6_port_0 rfl (lv_at hl 0 rfl) ?_
  refine lv_iload_n hx hb dX6_port_1 rfl (lv_at hl 1 rfl) ?_
  obtain ⟨r172, er172, hf⟩ := fp_b hf
  refine RoI.callV (c_X6_isPort (l := l) (D := D) (cI := cI) (cJ := cJ) (cZ := cZ) (cQ := cQ) (qs := qs) er172) F (cwV 1 hts gX6_port_X6_isPort rfl rfl rfl yd_X6_isPort ⟨Nat.le_of_ble_eq_true rfl, Nat.le_of_ble_eq_true rfl⟩) hG hP [0, 1] rfl 6 rfl rfl rfl hl.1 rfl (Nat.le_of_ble_eq_true rfl) dX6_port_2 ⟨Nat.zero_le _, Nat.zero_le _⟩ ?_
  refine lv_if_eq (tgt := 17) hx hb dX6_port_5 (by decide) (fun c173 => ?_) (fun c173 => ?_)
  · have hf := fp_t hf c173
    refine lv_iconst (v := (-1 : Int32)) hx hb dX6_port_17 (by decide) ?_
    cases hf
    exact hret _ _ dX6_port_18 (vp_nar_int _)
  · have hf := fp_f hf c173
    refine lv_iload_n hx hb dX6_port_8 rfl (lv_at hl 2 rfl) ?_
    refine lv_iconst (v := (0 : Int32)) hx hb dX6_port_9 (by decide) ?_
    refine lv_iconst (v := (1 : Int32)) hx hb dX6_port_10 (by decide) ?_
    obtain ⟨r174, er174, hf⟩ := fp_b hf
    refine RoI.callS (c_X6_in (l := l) (D := D) (cI := cI) (cJ := cJ) (cZ := cZ) (cQ := cQ) (qs := qs) er174) F (va_cwS 3 hts gX6_port_X6_in rfl rfl rfl yd_X6_in ⟨Nat.le_of_ble_eq_true rfl, Nat.le_of_ble_eq_true rfl⟩) hG hP [] rfl rfl hl.1 rfl (Nat.le_of_ble_eq_true rfl) dX6_port_11 ⟨Nat.zero_le _, Nat.zero_le _⟩ ?_
    refine lv_if_ne (tgt := 19) hx hb dX6_port_14 (by decide) (fun c175 => ?_) (fun c175 => ?_)
    · have hf := fp_f hf c175
      refine lv_aload_n hx hb dX6_port_19 rfl (lv_at hl 0 rfl) ?_
      refine va_get (D := D) (ci := 6) (v := .ref hMn) (C := RX6) (T := TX6) (N := 19) hx hb hts ku_X6_port_X6 hown hK hP 0 rfl rfl 0 (by decide) (hts _ kw_X6_port_1) (fun _ h9 => h9) rfl dX6_port_20 ?_
      refine lv_iload_n hx hb dX6_port_23 rfl (lv_at hl 1 rfl) ?_
      obtain ⟨r176, er176, hf⟩ := fp_b hf
      refine RoI.callS (c_X6_portState (l := l) (D := D) (cI := cI) (cJ := cJ) (cZ := cZ) (cQ := cQ) (qs := qs) er176) F (va_cwS 2 hts gX6_port_X6_portState rfl rfl rfl yd_X6_portState ⟨Nat.le_of_ble_eq_true rfl, Nat.le_of_ble_eq_true rfl⟩) hG hP [1] rfl rfl hl.1 rfl (Nat.le_of_ble_eq_true rfl) dX6_port_24 ⟨Nat.zero_le _, Nat.zero_le _⟩ ?_
      refine lv_istore_n (lv' := [(3, .int r176), (0, .ref hMo), (1, .int x1), (2, .int x2)]) hx hb dX6_port_27 rfl hl (by decide) rfl (fun ls hl => ?_)
      refine lv_iload_n hx hb dX6_port_28 rfl (lv_at hl 3 rfl) ?_
      refine lv_if_ne (tgt := 38) hx hb dX6_port_29 (by decide) (fun c177 => ?_) (fun c177 => ?_)
      · have hf := fp_f hf c177
        refine lv_iload_n hx hb dX6_port_38 rfl (lv_at hl 0 rfl) ?_
        refine lv_iconst (v := (4 : Int32)) hx hb dX6_port_39 (by decide) ?_
        refine lv_irem hx hb dX6_port_40 (by decide) ?_
        cases hf
        exact hret _ _ dX6_port_41 (vp_nar_int _)
      · have hf := fp_t hf c177
        refine lv_iload_n hx hb dX6_port_32 rfl (lv_at hl 0 rfl) ?_
        refine lv_iconst (v := (4 : Int32)) hx hb dX6_port_33 (by decide) ?_
        refine lv_idiv hx hb dX6_port_34 (by decide) ?_
        refine lv_goto (tgt := 41) hx hb dX6_port_35 (by decide) ?_
        cases hf
        exact hret _ _ dX6_port_41 (vp_nar_int _)
    · have hf := fp_t hf c175
      refine lv_iconst (v := (-1 : Int32)) hx hb dX6_port_17 (by decide) ?_
      cases hf
      exact hret _ _ dX6_port_18 (vp_nar_int _)
set_option maxRecDepth 100000 in
theorem c_X6_port {l : Launch} {D : va_G} {cI cJ cZ cQ : ClassId} {qs : Nat × Nat × Nat} {hMo hMn hMr hMa hMp hMt hMd hMk hMy hMl hMw hMi hMx : Nat} {mc : Int32} {ml : Int32} {ms : Int32} {mm : Int32} {mu : Int64} {mv : Int64} {me : Int32} {mn : Nat → Int32} {x1 : Int32} {x2 : Int32} {out : Int32} (hf : f_X6_port mn x1 x2 = some out) : RoI l yX6_port wsX6_port { frames := 2, cells := 0, slots := 0, locals := 43 } D (ty4 cI cJ cZ cQ) qs [.ref hMo, .int x1, .int x2] [(hMo, .inr (6, [.ref hMn, .ref hMr, .ref hMa, .ref hMp, .int mc, .ref hMt, .int ml, .int ms, .ref hMd, .ref hMk, .ref hMy, .int mm, .ref hMl, .ref hMw, .long mu, .long mv, .ref hMi, .ref hMx, .int me])), (hMn, .inl (cI, 22, .inl mn))] out :=
  RoI.of (own := RX6) (by decide +kernel) rfl rfl (Nat.le_of_ble_eq_true rfl) (fun F hG hP hret ls hl => b_X6_port F hG hP hf hret hl)
-- method X6_count
theorem yd_X6_count : yX6_count.cls = RX6 ∧ yX6_count.cls ≠ "java/lang/invoke/MethodHandle" ∧ yX6_count.cls ≠ "java/lang/invoke/VarHandle" ∧ (parseMethodDescriptor yX6_count.desc).map (fun d => d.parameters.length) = some 1 := by decide +kernel
theorem ku_X6_count_X6 : ∀ w ∈ u_ws RX6 TX6 19, w ∈ wsX6_count := by decide +kernel
theorem kw_X6_count_1 : Cond.fieldLink RX6 7 "MirrorSharesModel" "now" "[I" ∈ wsX6_count := List.mem_of_getElem? (i := 1) rfl
theorem kw_X6_count_2 : Cond.fieldLink RX6 92 "MirrorSharesModel" "changes" "I" ∈ wsX6_count := List.mem_of_getElem? (i := 2) rfl
theorem kw_X6_count_3 : Cond.fieldLink RX6 67 "MirrorSharesModel" "letters" "I" ∈ wsX6_count := List.mem_of_getElem? (i := 3) rfl
def f_X6_count_7 (mc : Int32) (ml : Int32) (mn : Nat → Int32) (y1 : Int32) (y2 : Int32) (y3 : Int32) (y4 : Int32) : Option ((Int32 × Int32 × Int32) ⊕ (Int32 × Int32)) :=
  Option.bind (f_X6_cells mn) (fun r178 => (if r178 ≤ y4 then some (Sum.inr (y2, y3)) else chk (aix ((2 : Int32) + y4) 22) (Option.bind (if (mn (Int32.toNatClampNeg ((2 : Int32) + y4))) = (5 : Int32) then some (1 : Int32) else some (0 : Int32)) (fun j181 => Option.bind (f_X6_in (mn (Int32.toNatClampNeg ((2 : Int32) + y4))) (1 : Int32) (2 : Int32)) (fun r183 => (if r183 = 0 then some (Sum.inl ((y2 + j181), (y3 + (0 : Int32)), (y4 + (1 : Int32)))) else some (Sum.inl ((y2 + j181), (y3 + (1 : Int32)), (y4 + (1 : Int32))))))))))
set_option maxHeartbeats 4000000 in
set_option maxRecDepth 100000 in
theorem lp_X6_count_7 {p : Program} {l : Launch} {e : Env} {s : State} {m : MethodId} {args : Array Value} {below : List Frame} {meth : Method} {c : Code} {Q : State → Prop} {D : va_G} {cI cJ cZ cQ : ClassId} {qs : Nat × Nat × Nat} {hMo hMn hMr hMa hMp hMt hMd hMk hMy hMl hMw hMi hMx : Nat} {mc : Int32} {ml : Int32} {mn : Nat → Int32} {y1 : Int32} {ms : Int32} {mm : Int32} {mu : Int64} {mv : Int64} {me : Int32}  (F : CallFix p m c cX6_count 5 s args wsX6_count RX6) (hG : kR D (ty4 cI cJ cZ cQ) qs s s.heap) (hP : va_P D vwCl [(hMo, .inr (6, [.ref hMn, .ref hMr, .ref hMa, .ref hMp, .int mc, .ref hMt, .int ml, .int ms, .ref hMd, .ref hMk, .ref hMy, .int mm, .ref hMl, .ref hMw, .long mu, .long mv, .ref hMi, .ref hMx, .int me])), (hMn, .inl (cI, 22, .inl mn))] s.heap) :
    ∀ (n : Nat) {y2 : Int32} {y3 : Int32} {y4 : Int32} (out : Int32 × Int32), lpf (fun s => f_X6_count_7 mc ml mn y1 s.1 s.2.1 s.2.2) n (y2, y3, y4) = some out → ∀ {ls : Array Slot}, lv_has ls 5 [(0, .ref hMo), (1, .int y1), (2, .int y2), (3, .int y3), (4, .int y4)] → (∀ ls : Array Slot, lv_has ls 5 [(0, .ref hMo), (1, .int y1), (2, .int out.1), (3, .int out.2)] → W p l e { frames := 3, cells := 0, slots := 0, locals := 64 } s m args below meth c s.heap [] 0 0 Q (F0 m 71 ls [])) → W p l e { frames := 3, cells := 0, slots := 0, locals := 64 } s m args below meth c s.heap [] 0 0 Q (F0 m 7 ls []) := by
  have hx := F.1
  have hb := F.2.1
  have hown := F.2.2.2.1
  have hts := F.2.2.2.2
  have hK := hG.1.1
  intro n
  induction n with
  | zero =>
    intro y2 y3 y4 out ho
    exact (fp_l0 ho).elim
  | succ n ih =>
    intro y2 y3 y4 out ho ls hl hex
    obtain ⟨o, hf, ho⟩ := fp_l ho
    have hf : f_X6_count_7 mc ml mn y1 y2 y3 y4 = some o := hf
    rw [f_X6_count_7] at hf
    refine lv_iload hx hb dX6_count_7 (lv_at hl 4 rfl) ?_
    refine lv_aload_n hx hb dX6_count_9 rfl (lv_at hl 0 rfl) ?_
    refine va_get (D := D) (ci := 6) (v := .ref hMn) (C := RX6) (T := TX6) (N := 19) hx hb hts ku_X6_count_X6 hown hK hP 0 rfl rfl 0 (by decide) (hts _ kw_X6_count_1) (fun _ h9 => h9) rfl dX6_count_10 ?_
    obtain ⟨r178, er178, hf⟩ := fp_b hf
    refine RoI.callS (c_X6_cells (l := l) (D := D) (cI := cI) (cJ := cJ) (cZ := cZ) (cQ := cQ) (qs := qs) er178) F (va_cwS 1 hts gX6_count_X6_cells rfl rfl rfl yd_X6_cells ⟨Nat.le_of_ble_eq_true rfl, Nat.le_of_ble_eq_true rfl⟩) hG hP [1] rfl rfl hl.1 rfl (Nat.le_of_ble_eq_true rfl) dX6_count_13 ⟨Nat.zero_le _, Nat.zero_le _⟩ ?_
    refine lv_icmp_ge (tgt := 71) hx hb dX6_count_16 (by decide) (fun c179 => ?_) (fun c179 => ?_)
    · have hf := fp_t hf c179
      cases hf
      have ho := fp_inr ho
      cases ho
      exact hex _ (lv_sub hl [0, 1, 2, 3] rfl)
    · have hf := fp_f hf c179
      refine lv_iload_n hx hb dX6_count_19 rfl (lv_at hl 2 rfl) ?_
      refine lv_aload_n hx hb dX6_count_20 rfl (lv_at hl 0 rfl) ?_
      refine va_get (D := D) (ci := 6) (v := .ref hMn) (C := RX6) (T := TX6) (N := 19) hx hb hts ku_X6_count_X6 hown hK hP 0 rfl rfl 0 (by decide) (hts _ kw_X6_count_1) (fun _ h9 => h9) rfl dX6_count_21 ?_
      refine lv_iconst (v := (2 : Int32)) hx hb dX6_count_24 (by decide) ?_
      refine lv_iload hx hb dX6_count_25 (lv_at hl 4 rfl) ?_
      refine lv_iadd hx hb dX6_count_27 ?_
      obtain ⟨k180, hf⟩ := fp_c hf
      refine va_iald hx hb hK hP 1 0 rfl rfl k180 dX6_count_28 ?_
      refine lv_iconst (v := (5 : Int32)) hx hb dX6_count_29 (by decide) ?_
      obtain ⟨j181, ej181, hf⟩ := fp_b hf
      have hj182 : ∀ ls : Array Slot, lv_has ls 5 [(0, .ref hMo), (1, .int y1), (3, .int y3), (4, .int y4)] → W p l e { frames := 3, cells := 0, slots := 0, locals := 64 } s m args below meth c s.heap [] 0 0 Q (F0 m 38 ls [.int j181, .int y2]) := by
        intro ls hl
        refine lv_iadd hx hb dX6_count_38 ?_
        refine lv_istore_n (lv' := [(2, .int (y2 + j181)), (0, .ref hMo), (1, .int y1), (3, .int y3), (4, .int y4)]) hx hb dX6_count_39 rfl hl (by decide) rfl (fun ls hl => ?_)
        refine lv_iload_n hx hb dX6_count_40 rfl (lv_at hl 3 rfl) ?_
        refine lv_aload_n hx hb dX6_count_41 rfl (lv_at hl 1 rfl) ?_
        refine va_get (D := D) (ci := 6) (v := .ref hMn) (C := RX6) (T := TX6) (N := 19) hx hb hts ku_X6_count_X6 hown hK hP 0 rfl rfl 0 (by decide) (hts _ kw_X6_count_1) (fun _ h9 => h9) rfl dX6_count_42 ?_
        refine lv_iconst (v := (2 : Int32)) hx hb dX6_count_45 (by decide) ?_
        refine lv_iload hx hb dX6_count_46 (lv_at hl 4 rfl) ?_
        refine lv_iadd hx hb dX6_count_48 ?_
        refine va_iald hx hb hK hP 1 0 rfl rfl k180 dX6_count_49 ?_
        refine lv_iconst (v := (1 : Int32)) hx hb dX6_count_50 (by decide) ?_
        refine lv_iconst (v := (2 : Int32)) hx hb dX6_count_51 (by decide) ?_
        obtain ⟨r183, er183, hf⟩ := fp_b hf
        refine RoI.callS (c_X6_in (l := l) (D := D) (cI := cI) (cJ := cJ) (cZ := cZ) (cQ := cQ) (qs := qs) er183) F (va_cwS 3 hts gX6_count_X6_in rfl rfl rfl yd_X6_in ⟨Nat.le_of_ble_eq_true rfl, Nat.le_of_ble_eq_true rfl⟩) hG hP [] rfl rfl hl.1 rfl (Nat.le_of_ble_eq_true rfl) dX6_count_52 ⟨Nat.zero_le _, Nat.zero_le _⟩ ?_
        refine lv_if_eq (tgt := 62) hx hb dX6_count_55 (by decide) (fun c184 => ?_) (fun c184 => ?_)
        · have hf := fp_t hf c184
          refine lv_iconst (v := (0 : Int32)) hx hb dX6_count_62 (by decide) ?_
          refine lv_iadd hx hb dX6_count_63 ?_
          refine lv_istore_n (lv' := [(3, .int (y3 + (0 : Int32))), (2, .int (y2 + j181)), (0, .ref hMo), (1, .int y1), (4, .int y4)]) hx hb dX6_count_64 rfl hl (by decide) rfl (fun ls hl => ?_)
          refine lv_iinc (v := (y4 + (1 : Int32))) (lv' := [(4, .int (y4 + (1 : Int32))), (3, .int (y3 + (0 : Int32))), (2, .int (y2 + j181)), (0, .ref hMo), (1, .int y1)]) hx hb dX6_count_65 hl (k := 4) rfl rfl (by decide) rfl (fun ls hl => ?_)
          refine lv_goto (tgt := 7) hx hb dX6_count_68 (by decide) ?_
          cases hf
          exact ih _ (fp_inl ho) (lv_sub hl [3, 4, 2, 1, 0] rfl) hex
        · have hf := fp_f hf c184
          refine lv_iconst (v := (1 : Int32)) hx hb dX6_count_58 (by decide) ?_
          refine lv_goto (tgt := 63) hx hb dX6_count_59 (by decide) ?_
          refine lv_iadd hx hb dX6_count_63 ?_
          refine lv_istore_n (lv' := [(3, .int (y3 + (1 : Int32))), (2, .int (y2 + j181)), (0, .ref hMo), (1, .int y1), (4, .int y4)]) hx hb dX6_count_64 rfl hl (by decide) rfl (fun ls hl => ?_)
          refine lv_iinc (v := (y4 + (1 : Int32))) (lv' := [(4, .int (y4 + (1 : Int32))), (3, .int (y3 + (1 : Int32))), (2, .int (y2 + j181)), (0, .ref hMo), (1, .int y1)]) hx hb dX6_count_65 hl (k := 4) rfl rfl (by decide) rfl (fun ls hl => ?_)
          refine lv_goto (tgt := 7) hx hb dX6_count_68 (by decide) ?_
          cases hf
          exact ih _ (fp_inl ho) (lv_sub hl [3, 4, 2, 1, 0] rfl) hex
      replace hf := ej181
      refine lv_icmp_ne (tgt := 37) hx hb dX6_count_30 (by decide) (fun c185 => ?_) (fun c185 => ?_)
      · have hf := fp_f hf c185
        refine lv_iconst (v := (0 : Int32)) hx hb dX6_count_37 (by decide) ?_
        cases hf
        exact hj182 _ (lv_sub hl [0, 1, 3, 4] rfl)
      · have hf := fp_t hf c185
        refine lv_iconst (v := (1 : Int32)) hx hb dX6_count_33 (by decide) ?_
        refine lv_goto (tgt := 38) hx hb dX6_count_34 (by decide) ?_
        cases hf
        exact hj182 _ (lv_sub hl [0, 1, 3, 4] rfl)
def f_X6_count (mc : Int32) (ml : Int32) (mn : Nat → Int32) (x1 : Int32) : Option (Int32) :=
  Option.bind (lpf (fun s => f_X6_count_7 mc ml mn x1 s.1 s.2.1 s.2.2) 1000 ((0 : Int32), (0 : Int32), (0 : Int32))) (fun o186 => (if x1 = (0 : Int32) then chk (aix x1 22) (some (mn x1.toNatClampNeg)) else (if x1 = (1 : Int32) then chk (aix x1 22) (some (mn x1.toNatClampNeg)) else (if x1 = (2 : Int32) then Option.bind (f_X6_halves mn) (fun r192 => some r192) else (if x1 = (3 : Int32) then Option.bind (f_X6_doors mn) (fun r194 => some r194) else (if x1 = (4 : Int32) then Option.bind (f_X6_openOf mn) (fun r196 => some r196) else (if x1 = (5 : Int32) then some o186.1 else (if x1 = (6 : Int32) then some o186.2 else (if x1 = (7 : Int32) then Option.bind (f_X6_ports mn) (fun r200 => some r200) else (if x1 = (8 : Int32) then some mc else (if x1 = (9 : Int32) then some ml else some (-1 : Int32))))))))))))
set_option maxHeartbeats 4000000 in
set_option maxRecDepth 100000 in
theorem b_X6_count {p : Program} {l : Launch} {e : Env} {s : State} {m : MethodId} {args : Array Value} {below : List Frame} {meth : Method} {c : Code} {Q : State → Prop} {D : va_G} {cI cJ cZ cQ : ClassId} {qs : Nat × Nat × Nat} {hMo hMn hMr hMa hMp hMt hMd hMk hMy hMl hMw hMi hMx : Nat} {mc : Int32} {ml : Int32} {ms : Int32} {mm : Int32} {mu : Int64} {mv : Int64} {me : Int32} {mn : Nat → Int32} {x1 : Int32} {out : Int32} (F : CallFix p m c cX6_count 5 s args wsX6_count RX6) (hG : kR D (ty4 cI cJ cZ cQ) qs s s.heap) (hP : va_P D vwCl [(hMo, .inr (6, [.ref hMn, .ref hMr, .ref hMa, .ref hMp, .int mc, .ref hMt, .int ml, .int ms, .ref hMd, .ref hMk, .ref hMy, .int mm, .ref hMl, .ref hMw, .long mu, .long mv, .ref hMi, .ref hMx, .int me])), (hMn, .inl (cI, 22, .inl mn))] s.heap) (hf : f_X6_count mc ml mn x1 = some out) (hret : ∀ (pc : Nat) (ls : Array Slot), decode cX6_count pc = .ok (.ireturn, 1) → narrow .int (.int out) = .int out → W p l e { frames := 3, cells := 0, slots := 0, locals := 64 } s m args below meth c s.heap [] 0 0 Q (F0 m pc ls [.int out])) {ls : Array Slot} (hl : lv_has ls 5 [(0, .ref hMo), (1, .int x1)]) : W p l e { frames := 3, cells := 0, slots := 0, locals := 64 } s m args below meth c s.heap [] 0 0 Q (F0 m 0 ls []) := by
  have hx := F.1
  have hb := F.2.1
  have hown := F.2.2.2.1
  have hts := F.2.2.2.2
  have hK := hG.1.1
  rw [f_X6_count] at hf
  refine lv_iconst (v := (0 : Int32)) hx hb dX6_count_0 (by decide) ?_
  refine lv_istore_n (lv' := [(2, .int (0 : Int32)), (0, .ref hMo), (1, .int x1)]) hx hb dX6_count_1 rfl hl (by decide) rfl (fun ls hl => ?_)
  refine lv_iconst (v := (0 : Int32)) hx hb dX6_count_2 (by decide) ?_
  refine lv_istore_n (lv' := [(3, .int (0 : Int32)), (2, .int (0 : Int32)), (0, .ref hMo), (1, .int x1)]) hx hb dX6_count_3 rfl hl (by decide) rfl (fun ls hl => ?_)
  refine lv_iconst (v := (0 : Int32)) hx hb dX6_count_4 (by decide) ?_
  refine lv_istore (lv' := [(4, .int (0 : Int32)), (3, .int (0 : Int32)), (2, .int (0 : Int32)), (0, .ref hMo), (1, .int x1)]) hx hb dX6_count_5 hl (by decide) rfl (fun ls hl => ?_)
  obtain ⟨o186, eo186, hf⟩ := fp_b hf
  refine lp_X6_count_7 F hG hP _ _ eo186 (lv_sub hl [3, 4, 2, 1, 0] rfl) (fun ls hl => ?_)
  refine lv_iload_n hx hb dX6_count_71 rfl (lv_at hl 1 rfl) ?_
  by_cases c187 : x1 = (0 : Int32)
  · have hf := fp_t hf c187
    rw [c187]
    refine lv_tableIn (off := 56) (tgt := 128) hx hb dX6_count_72 (by decide) (by decide) rfl (by decide) ?_
    refine lv_aload_n hx hb dX6_count_128 rfl (lv_at hl 0 rfl) ?_
    refine va_get (D := D) (ci := 6) (v := .ref hMn) (C := RX6) (T := TX6) (N := 19) hx hb hts ku_X6_count_X6 hown hK hP 0 rfl rfl 0 (by decide) (hts _ kw_X6_count_1) (fun _ h9 => h9) rfl dX6_count_129 ?_
    refine lv_iload_n hx hb dX6_count_132 rfl (lv_at hl 1 rfl) ?_
    obtain ⟨k188, hf⟩ := fp_c hf
    refine va_iald hx hb hK hP 1 0 rfl rfl k188 dX6_count_133 ?_
    cases hf
    exact hret _ _ dX6_count_134 (vp_nar_int _)
  have hf := fp_f hf c187
  by_cases c189 : x1 = (1 : Int32)
  · have hf := fp_t hf c189
    rw [c189]
    refine lv_tableIn (off := 56) (tgt := 128) hx hb dX6_count_72 (by decide) (by decide) rfl (by decide) ?_
    refine lv_aload_n hx hb dX6_count_128 rfl (lv_at hl 0 rfl) ?_
    refine va_get (D := D) (ci := 6) (v := .ref hMn) (C := RX6) (T := TX6) (N := 19) hx hb hts ku_X6_count_X6 hown hK hP 0 rfl rfl 0 (by decide) (hts _ kw_X6_count_1) (fun _ h9 => h9) rfl dX6_count_129 ?_
    refine lv_iload_n hx hb dX6_count_132 rfl (lv_at hl 1 rfl) ?_
    obtain ⟨k190, hf⟩ := fp_c hf
    refine va_iald hx hb hK hP 1 0 rfl rfl k190 dX6_count_133 ?_
    cases hf
    exact hret _ _ dX6_count_134 (vp_nar_int _)
  have hf := fp_f hf c189
  by_cases c191 : x1 = (2 : Int32)
  · have hf := fp_t hf c191
    rw [c191]
    refine lv_tableIn (off := 63) (tgt := 135) hx hb dX6_count_72 (by decide) (by decide) rfl (by decide) ?_
    refine lv_aload_n hx hb dX6_count_135 rfl (lv_at hl 0 rfl) ?_
    refine va_get (D := D) (ci := 6) (v := .ref hMn) (C := RX6) (T := TX6) (N := 19) hx hb hts ku_X6_count_X6 hown hK hP 0 rfl rfl 0 (by decide) (hts _ kw_X6_count_1) (fun _ h9 => h9) rfl dX6_count_136 ?_
    obtain ⟨r192, er192, hf⟩ := fp_b hf
    refine RoI.callS (c_X6_halves (l := l) (D := D) (cI := cI) (cJ := cJ) (cZ := cZ) (cQ := cQ) (qs := qs) er192) F (va_cwS 1 hts gX6_count_X6_halves rfl rfl rfl yd_X6_halves ⟨Nat.le_of_ble_eq_true rfl, Nat.le_of_ble_eq_true rfl⟩) hG hP [1] rfl rfl hl.1 rfl (Nat.le_of_ble_eq_true rfl) dX6_count_139 ⟨Nat.zero_le _, Nat.zero_le _⟩ ?_
    cases hf
    exact hret _ _ dX6_count_142 (vp_nar_int _)
  have hf := fp_f hf c191
  by_cases c193 : x1 = (3 : Int32)
  · have hf := fp_t hf c193
    rw [c193]
    refine lv_tableIn (off := 71) (tgt := 143) hx hb dX6_count_72 (by decide) (by decide) rfl (by decide) ?_
    refine lv_aload_n hx hb dX6_count_143 rfl (lv_at hl 0 rfl) ?_
    refine va_get (D := D) (ci := 6) (v := .ref hMn) (C := RX6) (T := TX6) (N := 19) hx hb hts ku_X6_count_X6 hown hK hP 0 rfl rfl 0 (by decide) (hts _ kw_X6_count_1) (fun _ h9 => h9) rfl dX6_count_144 ?_
    obtain ⟨r194, er194, hf⟩ := fp_b hf
    refine RoI.callS (c_X6_doors (l := l) (D := D) (cI := cI) (cJ := cJ) (cZ := cZ) (cQ := cQ) (qs := qs) er194) F (va_cwS 1 hts gX6_count_X6_doors rfl rfl rfl yd_X6_doors ⟨Nat.le_of_ble_eq_true rfl, Nat.le_of_ble_eq_true rfl⟩) hG hP [1] rfl rfl hl.1 rfl (Nat.le_of_ble_eq_true rfl) dX6_count_147 ⟨Nat.zero_le _, Nat.zero_le _⟩ ?_
    cases hf
    exact hret _ _ dX6_count_150 (vp_nar_int _)
  have hf := fp_f hf c193
  by_cases c195 : x1 = (4 : Int32)
  · have hf := fp_t hf c195
    rw [c195]
    refine lv_tableIn (off := 79) (tgt := 151) hx hb dX6_count_72 (by decide) (by decide) rfl (by decide) ?_
    refine lv_aload_n hx hb dX6_count_151 rfl (lv_at hl 0 rfl) ?_
    refine va_get (D := D) (ci := 6) (v := .ref hMn) (C := RX6) (T := TX6) (N := 19) hx hb hts ku_X6_count_X6 hown hK hP 0 rfl rfl 0 (by decide) (hts _ kw_X6_count_1) (fun _ h9 => h9) rfl dX6_count_152 ?_
    obtain ⟨r196, er196, hf⟩ := fp_b hf
    refine RoI.callS (c_X6_openOf (l := l) (D := D) (cI := cI) (cJ := cJ) (cZ := cZ) (cQ := cQ) (qs := qs) er196) F (va_cwS 1 hts gX6_count_X6_openOf rfl rfl rfl yd_X6_openOf ⟨Nat.le_of_ble_eq_true rfl, Nat.le_of_ble_eq_true rfl⟩) hG hP [1] rfl rfl hl.1 rfl (Nat.le_of_ble_eq_true rfl) dX6_count_155 ⟨Nat.zero_le _, Nat.zero_le _⟩ ?_
    cases hf
    exact hret _ _ dX6_count_158 (vp_nar_int _)
  have hf := fp_f hf c195
  by_cases c197 : x1 = (5 : Int32)
  · have hf := fp_t hf c197
    rw [c197]
    refine lv_tableIn (off := 87) (tgt := 159) hx hb dX6_count_72 (by decide) (by decide) rfl (by decide) ?_
    refine lv_iload_n hx hb dX6_count_159 rfl (lv_at hl 2 rfl) ?_
    cases hf
    exact hret _ _ dX6_count_160 (vp_nar_int _)
  have hf := fp_f hf c197
  by_cases c198 : x1 = (6 : Int32)
  · have hf := fp_t hf c198
    rw [c198]
    refine lv_tableIn (off := 89) (tgt := 161) hx hb dX6_count_72 (by decide) (by decide) rfl (by decide) ?_
    refine lv_iload_n hx hb dX6_count_161 rfl (lv_at hl 3 rfl) ?_
    cases hf
    exact hret _ _ dX6_count_162 (vp_nar_int _)
  have hf := fp_f hf c198
  by_cases c199 : x1 = (7 : Int32)
  · have hf := fp_t hf c199
    rw [c199]
    refine lv_tableIn (off := 91) (tgt := 163) hx hb dX6_count_72 (by decide) (by decide) rfl (by decide) ?_
    refine lv_aload_n hx hb dX6_count_163 rfl (lv_at hl 0 rfl) ?_
    refine va_get (D := D) (ci := 6) (v := .ref hMn) (C := RX6) (T := TX6) (N := 19) hx hb hts ku_X6_count_X6 hown hK hP 0 rfl rfl 0 (by decide) (hts _ kw_X6_count_1) (fun _ h9 => h9) rfl dX6_count_164 ?_
    obtain ⟨r200, er200, hf⟩ := fp_b hf
    refine RoI.callS (c_X6_ports (l := l) (D := D) (cI := cI) (cJ := cJ) (cZ := cZ) (cQ := cQ) (qs := qs) er200) F (va_cwS 1 hts gX6_count_X6_ports rfl rfl rfl yd_X6_ports ⟨Nat.le_of_ble_eq_true rfl, Nat.le_of_ble_eq_true rfl⟩) hG hP [1] rfl rfl hl.1 rfl (Nat.le_of_ble_eq_true rfl) dX6_count_167 ⟨Nat.zero_le _, Nat.zero_le _⟩ ?_
    cases hf
    exact hret _ _ dX6_count_170 (vp_nar_int _)
  have hf := fp_f hf c199
  by_cases c201 : x1 = (8 : Int32)
  · have hf := fp_t hf c201
    rw [c201]
    refine lv_tableIn (off := 99) (tgt := 171) hx hb dX6_count_72 (by decide) (by decide) rfl (by decide) ?_
    refine lv_aload_n hx hb dX6_count_171 rfl (lv_at hl 0 rfl) ?_
    refine va_get (D := D) (ci := 6) (v := .int mc) (C := RX6) (T := TX6) (N := 19) hx hb hts ku_X6_count_X6 hown hK hP 0 rfl rfl 4 (by decide) (hts _ kw_X6_count_2) (fun _ h9 => h9) rfl dX6_count_172 ?_
    cases hf
    exact hret _ _ dX6_count_175 (vp_nar_int _)
  have hf := fp_f hf c201
  by_cases c202 : x1 = (9 : Int32)
  · have hf := fp_t hf c202
    rw [c202]
    refine lv_tableIn (off := 104) (tgt := 176) hx hb dX6_count_72 (by decide) (by decide) rfl (by decide) ?_
    refine lv_aload_n hx hb dX6_count_176 rfl (lv_at hl 0 rfl) ?_
    refine va_get (D := D) (ci := 6) (v := .int ml) (C := RX6) (T := TX6) (N := 19) hx hb hts ku_X6_count_X6 hown hK hP 0 rfl rfl 6 (by decide) (hts _ kw_X6_count_3) (fun _ h9 => h9) rfl dX6_count_177 ?_
    cases hf
    exact hret _ _ dX6_count_180 (vp_nar_int _)
  have hf := fp_f hf c202
  refine lv_tableOut (tgt := 181) hx hb dX6_count_72 (sw_out_0_9 c187 c189 c191 c193 c195 c197 c198 c199 c201 c202) (by decide) ?_
  refine lv_iconst (v := (-1 : Int32)) hx hb dX6_count_181 (by decide) ?_
  cases hf
  exact hret _ _ dX6_count_182 (vp_nar_int _)
set_option maxRecDepth 100000 in
theorem c_X6_count {l : Launch} {D : va_G} {cI cJ cZ cQ : ClassId} {qs : Nat × Nat × Nat} {hMo hMn hMr hMa hMp hMt hMd hMk hMy hMl hMw hMi hMx : Nat} {mc : Int32} {ml : Int32} {ms : Int32} {mm : Int32} {mu : Int64} {mv : Int64} {me : Int32} {mn : Nat → Int32} {x1 : Int32} {out : Int32} (hf : f_X6_count mc ml mn x1 = some out) : RoI l yX6_count wsX6_count { frames := 3, cells := 0, slots := 0, locals := 64 } D (ty4 cI cJ cZ cQ) qs [.ref hMo, .int x1] [(hMo, .inr (6, [.ref hMn, .ref hMr, .ref hMa, .ref hMp, .int mc, .ref hMt, .int ml, .int ms, .ref hMd, .ref hMk, .ref hMy, .int mm, .ref hMl, .ref hMw, .long mu, .long mv, .ref hMi, .ref hMx, .int me])), (hMn, .inl (cI, 22, .inl mn))] out :=
  RoI.of (own := RX6) (by decide +kernel) rfl rfl (Nat.le_of_ble_eq_true rfl) (fun F hG hP hret ls hl => b_X6_count F hG hP hf hret hl)
