-- method X0_outAt
theorem yd_X0_outAt : yX0_outAt.cls = RX0 ∧ yX0_outAt.cls ≠ "java/lang/invoke/MethodHandle" ∧ yX0_outAt.cls ≠ "java/lang/invoke/VarHandle" ∧ (parseMethodDescriptor yX0_outAt.desc).map (fun d => d.parameters.length) = some 1 := by decide +kernel
theorem ku_X0_outAt_X0 : ∀ w ∈ u_ws RX0 TX0 7, w ∈ wsX0_outAt := by decide +kernel
theorem kw_X0_outAt_1 : Cond.fieldLink RX0 26 "MirrorShares$Beam" "parts" "[J" ∈ wsX0_outAt := List.mem_of_getElem? (i := 1) rfl
def f_X0_outAt (bs : Nat → Int64) (x1 : Int32) : Option (Int64) :=
  (if x1 < 0 then some (0 : Int64) else (if (18 : Int32) ≤ x1 then some (0 : Int64) else chk (aix ((40 : Int32) + x1) 60) (some (bs (Int32.toNatClampNeg ((40 : Int32) + x1))))))
set_option maxHeartbeats 4000000 in
set_option maxRecDepth 100000 in
theorem b_X0_outAt {p : Program} {l : Launch} {e : Env} {s : State} {m : MethodId} {args : Array Value} {below : List Frame} {meth : Method} {c : Code} {Q : State → Prop} {D : va_G} {cI cJ cZ cQ : ClassId} {qs : Nat × Nat × Nat} {hBe hBp hBn hBr hBo hBs : Nat} {bq : Int32} {bw : Int64} {bs : Nat → Int64} {x1 : Int32} {out : Int64} (F : CallFix p m c cX0_outAt 2 s args wsX0_outAt RX0) (hG : kR D (ty4 cI cJ cZ cQ) qs s s.heap) (hP : va_P D vwCl [(hBe, .inr (0, [.ref hBp, .ref hBn, .ref hBr, .ref hBo, .ref hBs, .int bq, .long bw])), (hBs, .inl (cJ, 60, .inr (.inl bs)))] s.heap) (hf : f_X0_outAt bs x1 = some out) (hret : ∀ (pc : Nat) (ls : Array Slot), decode cX0_outAt pc = .ok (.lreturn, 1) → W p l e { frames := 0, cells := 0, slots := 0, locals := 0 } s m args below meth c s.heap [] 0 0 Q (F0 m pc ls [.long out])) {ls : Array Slot} (hl : lv_has ls 2 [(0, .ref hBe), (1, .int x1)]) : W p l e { frames := 0, cells := 0, slots := 0, locals := 0 } s m args below meth c s.heap [] 0 0 Q (F0 m 0 ls []) := by
  have hx := F.1
  have hb := F.2.1
  have hown := F.2.2.2.1
  have hts := F.2.2.2.2
  have hK := hG.1.1
  rw [f_X0_outAt] at hf
  refine lv_iload_n hx hb dX0_outAt_0 rfl (lv_at hl 1 rfl) ?_
  refine lv_if_lt (tgt := 22) hx hb dX0_outAt_1 (by decide) (fun c1 => ?_) (fun c1 => ?_)
  · have hf := fp_t hf c1
    refine lv_lconst (v := 0) hx hb dX0_outAt_22 (by decide) ?_
    cases hf
    exact hret _ _ dX0_outAt_23
  · have hf := fp_f hf c1
    refine lv_iload_n hx hb dX0_outAt_4 rfl (lv_at hl 1 rfl) ?_
    refine lv_bipush (v := (18 : Int32)) hx hb dX0_outAt_5 (by decide) ?_
    refine lv_icmp_ge (tgt := 22) hx hb dX0_outAt_7 (by decide) (fun c2 => ?_) (fun c2 => ?_)
    · have hf := fp_t hf c2
      refine lv_lconst (v := 0) hx hb dX0_outAt_22 (by decide) ?_
      cases hf
      exact hret _ _ dX0_outAt_23
    · have hf := fp_f hf c2
      refine lv_aload_n hx hb dX0_outAt_10 rfl (lv_at hl 0 rfl) ?_
      refine va_get (D := D) (ci := 0) (v := .ref hBs) (C := RX0) (T := TX0) (N := 7) hx hb hts ku_X0_outAt_X0 hown hK hP 0 rfl rfl 4 (by decide) (hts _ kw_X0_outAt_1) (fun _ h9 => h9) rfl dX0_outAt_11 ?_
      refine lv_bipush (v := (40 : Int32)) hx hb dX0_outAt_14 (by decide) ?_
      refine lv_iload_n hx hb dX0_outAt_16 rfl (lv_at hl 1 rfl) ?_
      refine lv_iadd hx hb dX0_outAt_17 ?_
      obtain ⟨k3, hf⟩ := fp_c hf
      refine va_lald hx hb hK hP 1 1 rfl rfl k3 dX0_outAt_18 ?_
      refine lv_goto (tgt := 23) hx hb dX0_outAt_19 (by decide) ?_
      cases hf
      exact hret _ _ dX0_outAt_23
set_option maxRecDepth 100000 in
theorem c_X0_outAt {l : Launch} {D : va_G} {cI cJ cZ cQ : ClassId} {qs : Nat × Nat × Nat} {hBe hBp hBn hBr hBo hBs : Nat} {bq : Int32} {bw : Int64} {bs : Nat → Int64} {x1 : Int32} {out : Int64} (hf : f_X0_outAt bs x1 = some out) : RoL l yX0_outAt wsX0_outAt { frames := 0, cells := 0, slots := 0, locals := 0 } D (ty4 cI cJ cZ cQ) qs [.ref hBe, .int x1] [(hBe, .inr (0, [.ref hBp, .ref hBn, .ref hBr, .ref hBo, .ref hBs, .int bq, .long bw])), (hBs, .inl (cJ, 60, .inr (.inl bs)))] out :=
  RoL.of (own := RX0) (by decide +kernel) rfl rfl (Nat.le_of_ble_eq_true rfl) (fun F hG hP hret ls hl => b_X0_outAt F hG hP hf hret hl)
-- method X0_swallowed
theorem yd_X0_swallowed : yX0_swallowed.cls = RX0 ∧ yX0_swallowed.cls ≠ "java/lang/invoke/MethodHandle" ∧ yX0_swallowed.cls ≠ "java/lang/invoke/VarHandle" ∧ (parseMethodDescriptor yX0_swallowed.desc).map (fun d => d.parameters.length) = some 0 := by decide +kernel
theorem ku_X0_swallowed_X0 : ∀ w ∈ u_ws RX0 TX0 7, w ∈ wsX0_swallowed := by decide +kernel
theorem kw_X0_swallowed_1 : Cond.fieldLink RX0 26 "MirrorShares$Beam" "parts" "[J" ∈ wsX0_swallowed := List.mem_of_getElem? (i := 1) rfl
def f_X0_swallowed (bs : Nat → Int64) : Option (Int64) :=
  some (bs (Int32.toNatClampNeg (58 : Int32)))
set_option maxHeartbeats 4000000 in
set_option maxRecDepth 100000 in
theorem b_X0_swallowed {p : Program} {l : Launch} {e : Env} {s : State} {m : MethodId} {args : Array Value} {below : List Frame} {meth : Method} {c : Code} {Q : State → Prop} {D : va_G} {cI cJ cZ cQ : ClassId} {qs : Nat × Nat × Nat} {hBe hBp hBn hBr hBo hBs : Nat} {bq : Int32} {bw : Int64} {bs : Nat → Int64} {out : Int64} (F : CallFix p m c cX0_swallowed 1 s args wsX0_swallowed RX0) (hG : kR D (ty4 cI cJ cZ cQ) qs s s.heap) (hP : va_P D vwCl [(hBe, .inr (0, [.ref hBp, .ref hBn, .ref hBr, .ref hBo, .ref hBs, .int bq, .long bw])), (hBs, .inl (cJ, 60, .inr (.inl bs)))] s.heap) (hf : f_X0_swallowed bs = some out) (hret : ∀ (pc : Nat) (ls : Array Slot), decode cX0_swallowed pc = .ok (.lreturn, 1) → W p l e { frames := 0, cells := 0, slots := 0, locals := 0 } s m args below meth c s.heap [] 0 0 Q (F0 m pc ls [.long out])) {ls : Array Slot} (hl : lv_has ls 1 [(0, .ref hBe)]) : W p l e { frames := 0, cells := 0, slots := 0, locals := 0 } s m args below meth c s.heap [] 0 0 Q (F0 m 0 ls []) := by
  have hx := F.1
  have hb := F.2.1
  have hown := F.2.2.2.1
  have hts := F.2.2.2.2
  have hK := hG.1.1
  rw [f_X0_swallowed] at hf
  refine lv_aload_n hx hb dX0_swallowed_0 rfl (lv_at hl 0 rfl) ?_
  refine va_get (D := D) (ci := 0) (v := .ref hBs) (C := RX0) (T := TX0) (N := 7) hx hb hts ku_X0_swallowed_X0 hown hK hP 0 rfl rfl 4 (by decide) (hts _ kw_X0_swallowed_1) (fun _ h9 => h9) rfl dX0_swallowed_1 ?_
  refine lv_bipush (v := (58 : Int32)) hx hb dX0_swallowed_4 (by decide) ?_
  refine va_lald hx hb hK hP 1 1 rfl rfl (show aix (58 : Int32) 60 by decide) dX0_swallowed_6 ?_
  cases hf
  exact hret _ _ dX0_swallowed_7
set_option maxRecDepth 100000 in
theorem c_X0_swallowed {l : Launch} {D : va_G} {cI cJ cZ cQ : ClassId} {qs : Nat × Nat × Nat} {hBe hBp hBn hBr hBo hBs : Nat} {bq : Int32} {bw : Int64} {bs : Nat → Int64} {out : Int64} (hf : f_X0_swallowed bs = some out) : RoL l yX0_swallowed wsX0_swallowed { frames := 0, cells := 0, slots := 0, locals := 0 } D (ty4 cI cJ cZ cQ) qs [.ref hBe] [(hBe, .inr (0, [.ref hBp, .ref hBn, .ref hBr, .ref hBo, .ref hBs, .int bq, .long bw])), (hBs, .inl (cJ, 60, .inr (.inl bs)))] out :=
  RoL.of (own := RX0) (by decide +kernel) rfl rfl (Nat.le_of_ble_eq_true rfl) (fun F hG hP hret ls hl => b_X0_swallowed F hG hP hf hret hl)
-- method X0_caught
theorem yd_X0_caught : yX0_caught.cls = RX0 ∧ yX0_caught.cls ≠ "java/lang/invoke/MethodHandle" ∧ yX0_caught.cls ≠ "java/lang/invoke/VarHandle" ∧ (parseMethodDescriptor yX0_caught.desc).map (fun d => d.parameters.length) = some 0 := by decide +kernel
theorem ku_X0_caught_X0 : ∀ w ∈ u_ws RX0 TX0 7, w ∈ wsX0_caught := by decide +kernel
theorem kw_X0_caught_1 : Cond.fieldLink RX0 34 "MirrorShares$Beam" "whole" "J" ∈ wsX0_caught := List.mem_of_getElem? (i := 1) rfl
def f_X0_caught_12 (bw : Int64) (bs : Nat → Int64) (y1 : Int64) (y3 : Int32) : Option ((Int64 × Int32) ⊕ (Int64)) :=
  (if (18 : Int32) ≤ y3 then some (Sum.inr y1) else Option.bind (f_X0_outAt bs y3) (fun r6 => some (Sum.inl ((y1 - r6), (y3 + (1 : Int32))))))
set_option maxHeartbeats 4000000 in
set_option maxRecDepth 100000 in
theorem lp_X0_caught_12 {p : Program} {l : Launch} {e : Env} {s : State} {m : MethodId} {args : Array Value} {below : List Frame} {meth : Method} {c : Code} {Q : State → Prop} {D : va_G} {cI cJ cZ cQ : ClassId} {qs : Nat × Nat × Nat} {hBe hBp hBn hBr hBo hBs : Nat} {bw : Int64} {bs : Nat → Int64} {bq : Int32}  (F : CallFix p m c cX0_caught 4 s args wsX0_caught RX0) (hG : kR D (ty4 cI cJ cZ cQ) qs s s.heap) (hP : va_P D vwCl [(hBe, .inr (0, [.ref hBp, .ref hBn, .ref hBr, .ref hBo, .ref hBs, .int bq, .long bw])), (hBs, .inl (cJ, 60, .inr (.inl bs)))] s.heap) :
    ∀ (n : Nat) {y1 : Int64} {y3 : Int32} (out : Int64), lpf (fun s => f_X0_caught_12 bw bs s.1 s.2) n (y1, y3) = some out → ∀ {ls : Array Slot}, lv_has ls 4 [(0, .ref hBe), (1, .long y1), (3, .int y3)] → (∀ ls : Array Slot, lv_has ls 4 [(0, .ref hBe), (1, .long out)] → W p l e { frames := 1, cells := 0, slots := 0, locals := 21 } s m args below meth c s.heap [] 0 0 Q (F0 m 32 ls [])) → W p l e { frames := 1, cells := 0, slots := 0, locals := 21 } s m args below meth c s.heap [] 0 0 Q (F0 m 12 ls []) := by
  have hx := F.1
  have hb := F.2.1
  have hown := F.2.2.2.1
  have hts := F.2.2.2.2
  have hK := hG.1.1
  intro n
  induction n with
  | zero =>
    intro y1 y3 out ho
    exact (fp_l0 ho).elim
  | succ n ih =>
    intro y1 y3 out ho ls hl hex
    obtain ⟨o, hf, ho⟩ := fp_l ho
    have hf : f_X0_caught_12 bw bs y1 y3 = some o := hf
    rw [f_X0_caught_12] at hf
    refine lv_iload_n hx hb dX0_caught_12 rfl (lv_at hl 2 rfl) ?_
    refine lv_bipush (v := (18 : Int32)) hx hb dX0_caught_13 (by decide) ?_
    refine lv_icmp_ge (tgt := 32) hx hb dX0_caught_15 (by decide) (fun c5 => ?_) (fun c5 => ?_)
    · have hf := fp_t hf c5
      cases hf
      have ho := fp_inr ho
      cases ho
      exact hex _ (lv_sub hl [0, 1] rfl)
    · have hf := fp_f hf c5
      refine lv_lload_n hx hb dX0_caught_18 rfl (lv_at hl 1 rfl) ?_
      refine lv_aload_n hx hb dX0_caught_19 rfl (lv_at hl 0 rfl) ?_
      refine lv_iload_n hx hb dX0_caught_20 rfl (lv_at hl 2 rfl) ?_
      obtain ⟨r6, er6, hf⟩ := fp_b hf
      refine RoL.callV (c_X0_outAt (l := l) (D := D) (cI := cI) (cJ := cJ) (cZ := cZ) (cQ := cQ) (qs := qs) er6) F (cwV 1 hts gX0_caught_X0_outAt rfl rfl rfl yd_X0_outAt ⟨Nat.le_of_ble_eq_true rfl, Nat.le_of_ble_eq_true rfl⟩) hG hP [0, 1] rfl 0 rfl rfl rfl hl.1 rfl (Nat.le_of_ble_eq_true rfl) dX0_caught_21 ⟨Nat.zero_le _, Nat.zero_le _⟩ ?_
      refine lv_lsub hx hb dX0_caught_24 ?_
      refine lv_lstore_n (lv' := [(1, .long (y1 - r6)), (0, .ref hBe), (3, .int y3)]) hx hb dX0_caught_25 rfl hl (by decide) rfl (fun ls hl => ?_)
      refine lv_iinc (v := (y3 + (1 : Int32))) (lv' := [(3, .int (y3 + (1 : Int32))), (1, .long (y1 - r6)), (0, .ref hBe)]) hx hb dX0_caught_26 hl (k := 2) rfl rfl (by decide) rfl (fun ls hl => ?_)
      refine lv_goto (tgt := 12) hx hb dX0_caught_29 (by decide) ?_
      cases hf
      exact ih _ (fp_inl ho) (lv_sub hl [2, 1, 0] rfl) hex
def f_X0_caught (bw : Int64) (bs : Nat → Int64) : Option (Int64) :=
  Option.bind (f_X0_swallowed bs) (fun r4 => Option.bind (lpf (fun s => f_X0_caught_12 bw bs s.1 s.2) 1000 ((bw - r4), (0 : Int32))) (fun o7 => some o7))
set_option maxHeartbeats 4000000 in
set_option maxRecDepth 100000 in
theorem b_X0_caught {p : Program} {l : Launch} {e : Env} {s : State} {m : MethodId} {args : Array Value} {below : List Frame} {meth : Method} {c : Code} {Q : State → Prop} {D : va_G} {cI cJ cZ cQ : ClassId} {qs : Nat × Nat × Nat} {hBe hBp hBn hBr hBo hBs : Nat} {bq : Int32} {bw : Int64} {bs : Nat → Int64} {out : Int64} (F : CallFix p m c cX0_caught 4 s args wsX0_caught RX0) (hG : kR D (ty4 cI cJ cZ cQ) qs s s.heap) (hP : va_P D vwCl [(hBe, .inr (0, [.ref hBp, .ref hBn, .ref hBr, .ref hBo, .ref hBs, .int bq, .long bw])), (hBs, .inl (cJ, 60, .inr (.inl bs)))] s.heap) (hf : f_X0_caught bw bs = some out) (hret : ∀ (pc : Nat) (ls : Array Slot), decode cX0_caught pc = .ok (.lreturn, 1) → W p l e { frames := 1, cells := 0, slots := 0, locals := 21 } s m args below meth c s.heap [] 0 0 Q (F0 m pc ls [.long out])) {ls : Array Slot} (hl : lv_has ls 4 [(0, .ref hBe)]) : W p l e { frames := 1, cells := 0, slots := 0, locals := 21 } s m args below meth c s.heap [] 0 0 Q (F0 m 0 ls []) := by
  have hx := F.1
  have hb := F.2.1
  have hown := F.2.2.2.1
  have hts := F.2.2.2.2
  have hK := hG.1.1
  rw [f_X0_caught] at hf
  refine lv_aload_n hx hb dX0_caught_0 rfl (lv_at hl 0 rfl) ?_
  refine va_get (D := D) (ci := 0) (v := .long bw) (C := RX0) (T := TX0) (N := 7) hx hb hts ku_X0_caught_X0 hown hK hP 0 rfl rfl 6 (by decide) (hts _ kw_X0_caught_1) (fun _ h9 => h9) rfl dX0_caught_1 ?_
  refine lv_aload_n hx hb dX0_caught_4 rfl (lv_at hl 0 rfl) ?_
  obtain ⟨r4, er4, hf⟩ := fp_b hf
  refine RoL.callV (c_X0_swallowed (l := l) (D := D) (cI := cI) (cJ := cJ) (cZ := cZ) (cQ := cQ) (qs := qs) er4) F (cwV 0 hts gX0_caught_X0_swallowed rfl rfl rfl yd_X0_swallowed ⟨Nat.le_of_ble_eq_true rfl, Nat.le_of_ble_eq_true rfl⟩) hG hP [0, 1] rfl 0 rfl rfl rfl hl.1 rfl (Nat.le_of_ble_eq_true rfl) dX0_caught_5 ⟨Nat.zero_le _, Nat.zero_le _⟩ ?_
  refine lv_lsub hx hb dX0_caught_8 ?_
  refine lv_lstore_n (lv' := [(1, .long (bw - r4)), (0, .ref hBe)]) hx hb dX0_caught_9 rfl hl (by decide) rfl (fun ls hl => ?_)
  refine lv_iconst (v := (0 : Int32)) hx hb dX0_caught_10 (by decide) ?_
  refine lv_istore_n (lv' := [(3, .int (0 : Int32)), (1, .long (bw - r4)), (0, .ref hBe)]) hx hb dX0_caught_11 rfl hl (by decide) rfl (fun ls hl => ?_)
  obtain ⟨o7, eo7, hf⟩ := fp_b hf
  refine lp_X0_caught_12 F hG hP _ _ eo7 (lv_sub hl [2, 1, 0] rfl) (fun ls hl => ?_)
  refine lv_lload_n hx hb dX0_caught_32 rfl (lv_at hl 1 rfl) ?_
  cases hf
  exact hret _ _ dX0_caught_33
set_option maxRecDepth 100000 in
theorem c_X0_caught {l : Launch} {D : va_G} {cI cJ cZ cQ : ClassId} {qs : Nat × Nat × Nat} {hBe hBp hBn hBr hBo hBs : Nat} {bq : Int32} {bw : Int64} {bs : Nat → Int64} {out : Int64} (hf : f_X0_caught bw bs = some out) : RoL l yX0_caught wsX0_caught { frames := 1, cells := 0, slots := 0, locals := 21 } D (ty4 cI cJ cZ cQ) qs [.ref hBe] [(hBe, .inr (0, [.ref hBp, .ref hBn, .ref hBr, .ref hBo, .ref hBs, .int bq, .long bw])), (hBs, .inl (cJ, 60, .inr (.inl bs)))] out :=
  RoL.of (own := RX0) (by decide +kernel) rfl rfl (Nat.le_of_ble_eq_true rfl) (fun F hG hP hret ls hl => b_X0_caught F hG hP hf hret hl)
-- method X0_noteSplit
theorem yd_X0_noteSplit : yX0_noteSplit.cls = RX0 ∧ yX0_noteSplit.cls ≠ "java/lang/invoke/MethodHandle" ∧ yX0_noteSplit.cls ≠ "java/lang/invoke/VarHandle" ∧ (parseMethodDescriptor yX0_noteSplit.desc).map (fun d => d.parameters.length) = some 1 := by decide +kernel
theorem ku_X0_noteSplit_X0 : ∀ w ∈ u_ws RX0 TX0 7, w ∈ wsX0_noteSplit := by decide +kernel
theorem kw_X0_noteSplit_1 : Cond.fieldLink RX0 30 "MirrorShares$Beam" "splits" "I" ∈ wsX0_noteSplit := List.mem_of_getElem? (i := 1) rfl
theorem kw_X0_noteSplit_2 : Cond.fieldLink RX0 15 "MirrorShares$Beam" "splitNumber" "[I" ∈ wsX0_noteSplit := List.mem_of_getElem? (i := 2) rfl
theorem kw_X0_noteSplit_3 : Cond.fieldLink RX0 11 "MirrorShares$Beam" "splitPlace" "[I" ∈ wsX0_noteSplit := List.mem_of_getElem? (i := 3) rfl
def f_X0_noteSplit (bq : Int32) (bp : Nat → Int32) (bn : Nat → Int32) (x1 : Int32) : Option (Int32 × (Nat → Int32) × (Nat → Int32)) :=
  (if x1 < 0 then some (bq, bp, bn) else (if (40 : Int32) ≤ x1 then some (bq, bp, bn) else (if (10 : Int32) ≤ bq then some (bq, bp, bn) else chk (aix x1 60) ((if (bn x1.toNatClampNeg) = (-4 : Int32) then chk (aix bq 10) (some ((bq + (1 : Int32)), (upd bp bq.toNatClampNeg x1), (upd bn x1.toNatClampNeg bq))) else some (bq, bp, bn))))))
set_option maxHeartbeats 4000000 in
set_option maxRecDepth 100000 in
theorem b_X0_noteSplit {p : Program} {l : Launch} {e : Env} {s : State} {m : MethodId} {args : Array Value} {below : List Frame} {meth : Method} {c : Code} {Q : State → Prop} {A : Nat → Prop} {H : Heap} {locs : List Loc} {D : va_G} {cI cJ cZ cQ : ClassId} {qs : Nat × Nat × Nat} {hBe hBp hBn hBr hBo hBs : Nat} {bq : Int32} {bw : Int64} {bp : Nat → Int32} {bn : Nat → Int32} {x1 : Int32} {out : Int32 × (Nat → Int32) × (Nat → Int32)} (F : CallFix p m c cX0_noteSplit 2 s args wsX0_noteSplit RX0) (hG : kW D (ty4 cI cJ cZ cQ) qs A s s.heap) (hA : ∀ q : Nat, s.heap.size ≤ q → A q) (hP : va_P D vwCl [(hBe, .inr (0, [.ref hBp, .ref hBn, .ref hBr, .ref hBo, .ref hBs, .int bq, .long bw])), (hBp, .inl (cI, 10, .inl bp)), (hBn, .inl (cI, 60, .inl bn))] H) (hD : va_D A [(hBe, .inr (0, [.ref hBp, .ref hBn, .ref hBr, .ref hBo, .ref hBs, .int bq, .long bw])), (hBp, .inl (cI, 10, .inl bp)), (hBn, .inl (cI, 60, .inl bn))]) (hS : va_S A s.heap H locs) (hf : f_X0_noteSplit bq bp bn x1 = some out) (hret : ∀ (pc : Nat) (H : Heap) (locs : List Loc) (ls : Array Slot), decode cX0_noteSplit pc = .ok (.return_, 1) → va_P D vwCl [(hBe, .inr (0, [.ref hBp, .ref hBn, .ref hBr, .ref hBo, .ref hBs, .int out.1, .long bw])), (hBp, .inl (cI, 10, .inl out.2.1)), (hBn, .inl (cI, 60, .inl out.2.2))] H → va_D A [(hBe, .inr (0, [.ref hBp, .ref hBn, .ref hBr, .ref hBo, .ref hBs, .int out.1, .long bw])), (hBp, .inl (cI, 10, .inl out.2.1)), (hBn, .inl (cI, 60, .inl out.2.2))] → va_S A s.heap H locs → W p l e { frames := 0, cells := 0, slots := 0, locals := 0 } s m args below meth c H locs 0 0 Q (F0 m pc ls [])) {ls : Array Slot} (hl : lv_has ls 2 [(0, .ref hBe), (1, .int x1)]) : W p l e { frames := 0, cells := 0, slots := 0, locals := 0 } s m args below meth c H locs 0 0 Q (F0 m 0 ls []) := by
  have hx := F.1
  have hb := F.2.1
  have hown := F.2.2.2.1
  have hts := F.2.2.2.2
  have hK := hG.1.1
  rw [f_X0_noteSplit] at hf
  refine lv_iload_n hx hb dX0_noteSplit_0 rfl (lv_at hl 1 rfl) ?_
  refine lv_if_lt (tgt := 30) hx hb dX0_noteSplit_1 (by decide) (fun c8 => ?_) (fun c8 => ?_)
  · have hf := fp_t hf c8
    cases hf
    exact hret _ _ _ _ dX0_noteSplit_30 hP hD hS
  · have hf := fp_f hf c8
    refine lv_iload_n hx hb dX0_noteSplit_4 rfl (lv_at hl 1 rfl) ?_
    refine lv_bipush (v := (40 : Int32)) hx hb dX0_noteSplit_5 (by decide) ?_
    refine lv_icmp_ge (tgt := 30) hx hb dX0_noteSplit_7 (by decide) (fun c9 => ?_) (fun c9 => ?_)
    · have hf := fp_t hf c9
      cases hf
      exact hret _ _ _ _ dX0_noteSplit_30 hP hD hS
    · have hf := fp_f hf c9
      refine lv_aload_n hx hb dX0_noteSplit_10 rfl (lv_at hl 0 rfl) ?_
      refine va_get (D := D) (ci := 0) (v := .int bq) (C := RX0) (T := TX0) (N := 7) hx hb hts ku_X0_noteSplit_X0 hown hK hP 0 rfl rfl 5 (by decide) (hts _ kw_X0_noteSplit_1) (fun _ h9 => h9) rfl dX0_noteSplit_11 ?_
      refine lv_bipush (v := (10 : Int32)) hx hb dX0_noteSplit_14 (by decide) ?_
      refine lv_icmp_ge (tgt := 30) hx hb dX0_noteSplit_16 (by decide) (fun c10 => ?_) (fun c10 => ?_)
      · have hf := fp_t hf c10
        cases hf
        exact hret _ _ _ _ dX0_noteSplit_30 hP hD hS
      · have hf := fp_f hf c10
        refine lv_aload_n hx hb dX0_noteSplit_19 rfl (lv_at hl 0 rfl) ?_
        refine va_get (D := D) (ci := 0) (v := .ref hBn) (C := RX0) (T := TX0) (N := 7) hx hb hts ku_X0_noteSplit_X0 hown hK hP 0 rfl rfl 1 (by decide) (hts _ kw_X0_noteSplit_2) (fun _ h9 => h9) rfl dX0_noteSplit_20 ?_
        refine lv_iload_n hx hb dX0_noteSplit_23 rfl (lv_at hl 1 rfl) ?_
        obtain ⟨k11, hf⟩ := fp_c hf
        refine va_iald hx hb hK hP 2 0 rfl rfl k11 dX0_noteSplit_24 ?_
        refine lv_bipush (v := (-4 : Int32)) hx hb dX0_noteSplit_25 (by decide) ?_
        refine lv_icmp_eq (tgt := 31) hx hb dX0_noteSplit_27 (by decide) (fun c12 => ?_) (fun c12 => ?_)
        · have hf := fp_t hf c12
          refine lv_aload_n hx hb dX0_noteSplit_31 rfl (lv_at hl 0 rfl) ?_
          refine va_get (D := D) (ci := 0) (v := .ref hBn) (C := RX0) (T := TX0) (N := 7) hx hb hts ku_X0_noteSplit_X0 hown hK hP 0 rfl rfl 1 (by decide) (hts _ kw_X0_noteSplit_2) (fun _ h9 => h9) rfl dX0_noteSplit_32 ?_
          refine lv_iload_n hx hb dX0_noteSplit_35 rfl (lv_at hl 1 rfl) ?_
          refine lv_aload_n hx hb dX0_noteSplit_36 rfl (lv_at hl 0 rfl) ?_
          refine va_get (D := D) (ci := 0) (v := .int bq) (C := RX0) (T := TX0) (N := 7) hx hb hts ku_X0_noteSplit_X0 hown hK hP 0 rfl rfl 5 (by decide) (hts _ kw_X0_noteSplit_1) (fun _ h9 => h9) rfl dX0_noteSplit_37 ?_
          refine va_iast hx hb hK hP hD hS 2 0 rfl rfl k11 dX0_noteSplit_40 (fun H locs hP hD hS => ?_)
          have hP : va_P D vwCl [(hBe, .inr (0, [.ref hBp, .ref hBn, .ref hBr, .ref hBo, .ref hBs, .int bq, .long bw])), (hBp, .inl (cI, 10, .inl bp)), (hBn, .inl (cI, 60, .inl (upd bn x1.toNatClampNeg bq)))] H := hP
          have hD : va_D A [(hBe, .inr (0, [.ref hBp, .ref hBn, .ref hBr, .ref hBo, .ref hBs, .int bq, .long bw])), (hBp, .inl (cI, 10, .inl bp)), (hBn, .inl (cI, 60, .inl (upd bn x1.toNatClampNeg bq)))] := hD
          refine lv_aload_n hx hb dX0_noteSplit_41 rfl (lv_at hl 0 rfl) ?_
          refine va_get (D := D) (ci := 0) (v := .ref hBp) (C := RX0) (T := TX0) (N := 7) hx hb hts ku_X0_noteSplit_X0 hown hK hP 0 rfl rfl 0 (by decide) (hts _ kw_X0_noteSplit_3) (fun _ h9 => h9) rfl dX0_noteSplit_42 ?_
          refine lv_aload_n hx hb dX0_noteSplit_45 rfl (lv_at hl 0 rfl) ?_
          refine va_get (D := D) (ci := 0) (v := .int bq) (C := RX0) (T := TX0) (N := 7) hx hb hts ku_X0_noteSplit_X0 hown hK hP 0 rfl rfl 5 (by decide) (hts _ kw_X0_noteSplit_1) (fun _ h9 => h9) rfl dX0_noteSplit_46 ?_
          refine lv_iload_n hx hb dX0_noteSplit_49 rfl (lv_at hl 1 rfl) ?_
          obtain ⟨k13, hf⟩ := fp_c hf
          refine va_iast hx hb hK hP hD hS 1 0 rfl rfl k13 dX0_noteSplit_50 (fun H locs hP hD hS => ?_)
          have hP : va_P D vwCl [(hBe, .inr (0, [.ref hBp, .ref hBn, .ref hBr, .ref hBo, .ref hBs, .int bq, .long bw])), (hBp, .inl (cI, 10, .inl (upd bp bq.toNatClampNeg x1))), (hBn, .inl (cI, 60, .inl (upd bn x1.toNatClampNeg bq)))] H := hP
          have hD : va_D A [(hBe, .inr (0, [.ref hBp, .ref hBn, .ref hBr, .ref hBo, .ref hBs, .int bq, .long bw])), (hBp, .inl (cI, 10, .inl (upd bp bq.toNatClampNeg x1))), (hBn, .inl (cI, 60, .inl (upd bn x1.toNatClampNeg bq)))] := hD
          refine lv_aload_n hx hb dX0_noteSplit_51 rfl (lv_at hl 0 rfl) ?_
          refine lv_dup hx hb dX0_noteSplit_52 rfl ?_
          refine va_get (D := D) (ci := 0) (v := .int bq) (C := RX0) (T := TX0) (N := 7) hx hb hts ku_X0_noteSplit_X0 hown hK hP 0 rfl rfl 5 (by decide) (hts _ kw_X0_noteSplit_1) (fun _ h9 => h9) rfl dX0_noteSplit_53 ?_
          refine lv_iconst (v := (1 : Int32)) hx hb dX0_noteSplit_56 (by decide) ?_
          refine lv_iadd hx hb dX0_noteSplit_57 ?_
          refine va_put (D := D) (ci := 0) (v := .int (bq + (1 : Int32))) (ty := .int) (C := RX0) (T := TX0) (N := 7) hx hb hts ku_X0_noteSplit_X0 tyX0 tyX0_ok nmX0 hown hK hP hD hS 0 rfl rfl 5 (by decide) (hts _ kw_X0_noteSplit_1) (fun _ h9 => h9) rfl (by decide +kernel) rfl rfl (Nat.le_of_ble_eq_true rfl) dX0_noteSplit_58 (fun H locs hP hD hS => ?_)
          have hP : va_P D vwCl [(hBe, .inr (0, [.ref hBp, .ref hBn, .ref hBr, .ref hBo, .ref hBs, .int (bq + (1 : Int32)), .long bw])), (hBp, .inl (cI, 10, .inl (upd bp bq.toNatClampNeg x1))), (hBn, .inl (cI, 60, .inl (upd bn x1.toNatClampNeg bq)))] H := hP
          have hD : va_D A [(hBe, .inr (0, [.ref hBp, .ref hBn, .ref hBr, .ref hBo, .ref hBs, .int (bq + (1 : Int32)), .long bw])), (hBp, .inl (cI, 10, .inl (upd bp bq.toNatClampNeg x1))), (hBn, .inl (cI, 60, .inl (upd bn x1.toNatClampNeg bq)))] := hD
          cases hf
          exact hret _ _ _ _ dX0_noteSplit_61 hP hD hS
        · have hf := fp_f hf c12
          cases hf
          exact hret _ _ _ _ dX0_noteSplit_30 hP hD hS
set_option maxRecDepth 100000 in
theorem c_X0_noteSplit {l : Launch} {D : va_G} {cI cJ cZ cQ : ClassId} {qs : Nat × Nat × Nat} {hBe hBp hBn hBr hBo hBs : Nat} {bq : Int32} {bw : Int64} {bp : Nat → Int32} {bn : Nat → Int32} {x1 : Int32} {out : Int32 × (Nat → Int32) × (Nat → Int32)} (hf : f_X0_noteSplit bq bp bn x1 = some out) : RwV l yX0_noteSplit wsX0_noteSplit { frames := 0, cells := 0, slots := 0, locals := 0 } D (ty4 cI cJ cZ cQ) qs [.ref hBe, .int x1] [(hBe, .inr (0, [.ref hBp, .ref hBn, .ref hBr, .ref hBo, .ref hBs, .int bq, .long bw])), (hBp, .inl (cI, 10, .inl bp)), (hBn, .inl (cI, 60, .inl bn))] [(hBe, .inr (0, [.ref hBp, .ref hBn, .ref hBr, .ref hBo, .ref hBs, .int out.1, .long bw])), (hBp, .inl (cI, 10, .inl out.2.1)), (hBn, .inl (cI, 60, .inl out.2.2))] :=
  RwV.of (own := RX0) (by decide +kernel) rfl rfl (Nat.le_of_ble_eq_true rfl) (fun F hG hA hP hD hS hret ls hl => b_X0_noteSplit F hG hA hP hD hS hf hret hl)
-- method X0_endOf
theorem yd_X0_endOf : yX0_endOf.cls ≠ "java/lang/invoke/MethodHandle" ∧ yX0_endOf.cls ≠ "java/lang/invoke/VarHandle" ∧ (parseMethodDescriptor yX0_endOf.desc).map (fun d => d.parameters.length) = some 3 := by decide +kernel
theorem kw_X0_endOf_14 : Cond.initialized RX5 ∈ wsX0_endOf := List.mem_of_getElem? (i := 14) rfl
theorem kw_X0_endOf_13 : Cond.static yX5_isHalf ∈ wsX0_endOf := List.mem_of_getElem? (i := 13) rfl
theorem kw_X0_endOf_18 : Cond.static yX5_letsOn ∈ wsX0_endOf := List.mem_of_getElem? (i := 18) rfl
theorem kw_X0_endOf_21 : Cond.static yX5_turnsBeam ∈ wsX0_endOf := List.mem_of_getElem? (i := 21) rfl
theorem kw_X0_endOf_16 : Cond.static yX5_turnedBy ∈ wsX0_endOf := List.mem_of_getElem? (i := 16) rfl
def f_X0_endOf_8 (coO : Int32) (roO : Int32) (kdO : Nat → Int32) (y3 : Int32) (y4 : Int32) (y5 : Int32) : Option ((Int32 × Int32 × Int32) ⊕ ((Int32) ⊕ (Unit))) :=
  (if (80 : Int32) ≤ y5 then some (Sum.inr (Sum.inr ())) else Option.bind (f_X2_kindAt coO roO kdO y3) (fun r15 => Option.bind (f_X5_isHalf r15) (fun r16 => (if r16 = 0 then Option.bind (f_X5_letsOn r15) (fun r18 => (if r18 = 0 then Option.bind (f_X5_turnsBeam r15) (fun r27 => (if r27 = 0 then some (Sum.inr (Sum.inl (58 : Int32))) else Option.bind (f_X5_turnsBeam r15) (fun r29 => Option.bind (if r29 = 0 then some y4 else Option.bind (f_X5_turnedBy r15 y4) (fun r35 => some r35)) (fun j30 => Option.bind (f_X2_beyond coO roO y3 j30) (fun r32 => (if 0 ≤ r32 then some (Sum.inl (r32, j30, (y5 + (1 : Int32)))) else some (Sum.inr (Sum.inl ((40 : Int32) + (r32 ^^^ (-1 : Int32))))))))))) else Option.bind (f_X5_turnsBeam r15) (fun r20 => Option.bind (if r20 = 0 then some y4 else Option.bind (f_X5_turnedBy r15 y4) (fun r26 => some r26)) (fun j21 => Option.bind (f_X2_beyond coO roO y3 j21) (fun r23 => (if 0 ≤ r23 then some (Sum.inl (r23, j21, (y5 + (1 : Int32)))) else some (Sum.inr (Sum.inl ((40 : Int32) + (r23 ^^^ (-1 : Int32))))))))))) else Option.bind (if y4 = 0 then some (1 : Int32) else Option.bind (f_X5_turnedBy r15 y4) (fun r40 => (if r40 = 0 then some (1 : Int32) else some (0 : Int32)))) (fun j36 => (if j36 = 0 then some (Sum.inr (Sum.inl (((2 : Int32) * y3) + (1 : Int32)))) else some (Sum.inr (Sum.inl ((2 : Int32) * y3)))))))))
set_option maxHeartbeats 4000000 in
set_option maxRecDepth 100000 in
theorem lp_X0_endOf_8 {p : Program} {l : Launch} {e : Env} {s : State} {m : MethodId} {args : Array Value} {below : List Frame} {meth : Method} {c : Code} {Q : State → Prop} {D : va_G} {cI cJ cZ cQ : ClassId} {qs : Nat × Nat × Nat} {hRmO hKdO : Nat} {coO : Int32} {roO : Int32} {kdO : Nat → Int32}  (F : CallFix p m c cX0_endOf 8 s args wsX0_endOf RX0) (hG : kR D (ty4 cI cJ cZ cQ) qs s s.heap) (hP : va_P D vwCl [(hRmO, .inr (2, [.ref hKdO, .int coO, .int roO])), (hKdO, .inl (cI, 20, .inl kdO))] s.heap) :
    ∀ (n : Nat) {y3 : Int32} {y4 : Int32} {y5 : Int32} (out : (Int32) ⊕ (Unit)), lpf (fun s => f_X0_endOf_8 coO roO kdO s.1 s.2.1 s.2.2) n (y3, y4, y5) = some out → ∀ {ls : Array Slot}, lv_has ls 8 [(0, .ref hRmO), (3, .int y3), (4, .int y4), (5, .int y5)] → (∀ xx, out = Sum.inr xx → ∀ ls : Array Slot, lv_has ls 8 [(0, .ref hRmO)] → W p l e { frames := 2, cells := 0, slots := 0, locals := 41 } s m args below meth c s.heap [] 0 0 Q (F0 m 141 ls [])) → (∀ r9, out = Sum.inl r9 → ∀ (pc : Nat) (ls : Array Slot), decode cX0_endOf pc = .ok (.ireturn, 1) → narrow .int (.int r9) = .int r9 → W p l e { frames := 2, cells := 0, slots := 0, locals := 41 } s m args below meth c s.heap [] 0 0 Q (F0 m pc ls [.int r9])) → W p l e { frames := 2, cells := 0, slots := 0, locals := 41 } s m args below meth c s.heap [] 0 0 Q (F0 m 8 ls []) := by
  have hx := F.1
  have hb := F.2.1
  have hown := F.2.2.2.1
  have hts := F.2.2.2.2
  have hK := hG.1.1
  intro n
  induction n with
  | zero =>
    intro y3 y4 y5 out ho
    exact (fp_l0 ho).elim
  | succ n ih =>
    intro y3 y4 y5 out ho ls hl hex hre
    obtain ⟨o, hf, ho⟩ := fp_l ho
    have hf : f_X0_endOf_8 coO roO kdO y3 y4 y5 = some o := hf
    rw [f_X0_endOf_8] at hf
    refine lv_iload hx hb dX0_endOf_8 (lv_at hl 3 rfl) ?_
    refine lv_bipush (v := (80 : Int32)) hx hb dX0_endOf_10 (by decide) ?_
    refine lv_icmp_ge (tgt := 141) hx hb dX0_endOf_12 (by decide) (fun c14 => ?_) (fun c14 => ?_)
    · have hf := fp_t hf c14
      cases hf
      have ho := fp_inr ho
      cases ho
      exact hex _ rfl _ (lv_sub hl [0] rfl)
    · have hf := fp_f hf c14
      refine lv_aload_n hx hb dX0_endOf_15 rfl (lv_at hl 0 rfl) ?_
      refine lv_iload_n hx hb dX0_endOf_16 rfl (lv_at hl 1 rfl) ?_
      obtain ⟨r15, er15, hf⟩ := fp_b hf
      refine RoI.callV (c_X2_kindAt (l := l) (D := D) (cI := cI) (cJ := cJ) (cZ := cZ) (cQ := cQ) (qs := qs) er15) F (cwV 1 hts gX0_endOf_X2_kindAt rfl rfl rfl yd_X2_kindAt ⟨Nat.le_of_ble_eq_true rfl, Nat.le_of_ble_eq_true rfl⟩) hG hP [0, 1] rfl 2 rfl rfl rfl hl.1 rfl (Nat.le_of_ble_eq_true rfl) dX0_endOf_17 ⟨Nat.zero_le _, Nat.zero_le _⟩ ?_
      refine lv_istore (lv' := [(6, .int r15), (0, .ref hRmO), (3, .int y3), (4, .int y4), (5, .int y5)]) hx hb dX0_endOf_20 hl (by decide) rfl (fun ls hl => ?_)
      refine lv_iload hx hb dX0_endOf_22 (lv_at hl 0 rfl) ?_
      obtain ⟨r16, er16, hf⟩ := fp_b hf
      refine RoI.callN (c_X5_isHalf (l := l) (D := D) (cI := cI) (cJ := cJ) (cZ := cZ) (cQ := cQ) (qs := qs) er16) F ⟨va_cnB 1 hts gX0_endOf_X5_isHalf_n95 rfl rfl rfl (nwm_4 hG.1) (hts _ kw_X0_endOf_14) yd_X5_isHalf ⟨Nat.le_of_ble_eq_true rfl, Nat.le_of_ble_eq_true rfl⟩, hts _ kw_X0_endOf_13, trivial⟩ hG hP [] rfl rfl hl.1 rfl (Nat.le_of_ble_eq_true rfl) dX0_endOf_24 ⟨Nat.zero_le _, Nat.zero_le _⟩ ?_
      refine lv_if_eq (tgt := 69) hx hb dX0_endOf_27 (by decide) (fun c17 => ?_) (fun c17 => ?_)
      · have hf := fp_t hf c17
        refine lv_iload hx hb dX0_endOf_69 (lv_at hl 0 rfl) ?_
        obtain ⟨r18, er18, hf⟩ := fp_b hf
        refine RoI.callN (c_X5_letsOn (l := l) (D := D) (cI := cI) (cJ := cJ) (cZ := cZ) (cQ := cQ) (qs := qs) er18) F ⟨va_cnB 1 hts gX0_endOf_X5_letsOn_n99 rfl rfl rfl (nwm_6 hG.1) (hts _ kw_X0_endOf_14) yd_X5_letsOn ⟨Nat.le_of_ble_eq_true rfl, Nat.le_of_ble_eq_true rfl⟩, hts _ kw_X0_endOf_18, trivial⟩ hG hP [] rfl rfl hl.1 rfl (Nat.le_of_ble_eq_true rfl) dX0_endOf_71 ⟨Nat.zero_le _, Nat.zero_le _⟩ ?_
        refine lv_if_ne (tgt := 88) hx hb dX0_endOf_74 (by decide) (fun c19 => ?_) (fun c19 => ?_)
        · have hf := fp_f hf c19
          refine lv_iload hx hb dX0_endOf_88 (lv_at hl 0 rfl) ?_
          obtain ⟨r20, er20, hf⟩ := fp_b hf
          refine RoI.callN (c_X5_turnsBeam (l := l) (D := D) (cI := cI) (cJ := cJ) (cZ := cZ) (cQ := cQ) (qs := qs) er20) F ⟨va_cnB 1 hts gX0_endOf_X5_turnsBeam_n102 rfl rfl rfl (nwm_7 hG.1) (hts _ kw_X0_endOf_14) yd_X5_turnsBeam ⟨Nat.le_of_ble_eq_true rfl, Nat.le_of_ble_eq_true rfl⟩, hts _ kw_X0_endOf_21, trivial⟩ hG hP [] rfl rfl hl.1 rfl (Nat.le_of_ble_eq_true rfl) dX0_endOf_90 ⟨Nat.zero_le _, Nat.zero_le _⟩ ?_
          obtain ⟨j21, ej21, hf⟩ := fp_b hf
          have hj22 : ∀ ls : Array Slot, lv_has ls 8 [(0, .ref hRmO), (3, .int y3), (5, .int y5)] → W p l e { frames := 2, cells := 0, slots := 0, locals := 41 } s m args below meth c s.heap [] 0 0 Q (F0 m 108 ls [.int j21]) := by
            intro ls hl
            refine lv_istore (lv' := [(4, .int j21), (0, .ref hRmO), (3, .int y3), (5, .int y5)]) hx hb dX0_endOf_108 hl (by decide) rfl (fun ls hl => ?_)
            refine lv_aload_n hx hb dX0_endOf_110 rfl (lv_at hl 1 rfl) ?_
            refine lv_iload_n hx hb dX0_endOf_111 rfl (lv_at hl 2 rfl) ?_
            refine lv_iload hx hb dX0_endOf_112 (lv_at hl 0 rfl) ?_
            obtain ⟨r23, er23, hf⟩ := fp_b hf
            refine RoI.callV (c_X2_beyond (l := l) (D := D) (cI := cI) (cJ := cJ) (cZ := cZ) (cQ := cQ) (qs := qs) er23) F (cwV 2 hts gX0_endOf_X2_beyond rfl rfl rfl yd_X2_beyond ⟨Nat.le_of_ble_eq_true rfl, Nat.le_of_ble_eq_true rfl⟩) hG hP [0] rfl 2 rfl rfl rfl hl.1 rfl (Nat.le_of_ble_eq_true rfl) dX0_endOf_114 ⟨Nat.zero_le _, Nat.zero_le _⟩ ?_
            refine lv_istore (lv' := [(7, .int r23), (4, .int j21), (0, .ref hRmO), (3, .int y3), (5, .int y5)]) hx hb dX0_endOf_117 hl (by decide) rfl (fun ls hl => ?_)
            refine lv_iload hx hb dX0_endOf_119 (lv_at hl 0 rfl) ?_
            refine lv_if_ge (tgt := 132) hx hb dX0_endOf_121 (by decide) (fun c24 => ?_) (fun c24 => ?_)
            · have hf := fp_t hf c24
              refine lv_iload hx hb dX0_endOf_132 (lv_at hl 0 rfl) ?_
              refine lv_istore_n (lv' := [(3, .int r23), (7, .int r23), (4, .int j21), (0, .ref hRmO), (5, .int y5)]) hx hb dX0_endOf_134 rfl hl (by decide) rfl (fun ls hl => ?_)
              refine lv_iinc (v := (y5 + (1 : Int32))) (lv' := [(5, .int (y5 + (1 : Int32))), (3, .int r23), (7, .int r23), (4, .int j21), (0, .ref hRmO)]) hx hb dX0_endOf_135 hl (k := 4) rfl rfl (by decide) rfl (fun ls hl => ?_)
              refine lv_goto (tgt := 8) hx hb dX0_endOf_138 (by decide) ?_
              cases hf
              exact ih _ (fp_inl ho) (lv_sub hl [4, 1, 3, 0] rfl) hex hre
            · have hf := fp_f hf c24
              refine lv_bipush (v := (40 : Int32)) hx hb dX0_endOf_124 (by decide) ?_
              refine lv_iload hx hb dX0_endOf_126 (lv_at hl 0 rfl) ?_
              refine lv_iconst (v := (-1 : Int32)) hx hb dX0_endOf_128 (by decide) ?_
              refine lv_ixor hx hb dX0_endOf_129 ?_
              refine lv_iadd hx hb dX0_endOf_130 ?_
              cases hf
              have ho := fp_inr ho
              cases ho
              exact hre _ rfl _ _ dX0_endOf_131 (vp_nar_int _)
          replace hf := ej21
          refine lv_if_eq (tgt := 106) hx hb dX0_endOf_93 (by decide) (fun c25 => ?_) (fun c25 => ?_)
          · have hf := fp_t hf c25
            refine lv_iload hx hb dX0_endOf_106 (lv_at hl 3 rfl) ?_
            cases hf
            exact hj22 _ (lv_sub hl [1, 2, 4] rfl)
          · have hf := fp_f hf c25
            refine lv_iload hx hb dX0_endOf_96 (lv_at hl 0 rfl) ?_
            refine lv_iload hx hb dX0_endOf_98 (lv_at hl 3 rfl) ?_
            obtain ⟨r26, er26, hf⟩ := fp_b hf
            refine RoI.callN (c_X5_turnedBy (l := l) (D := D) (cI := cI) (cJ := cJ) (cZ := cZ) (cQ := cQ) (qs := qs) er26) F ⟨va_cnB 2 hts gX0_endOf_X5_turnedBy_n88 rfl rfl rfl (nwm_5 hG.1) (hts _ kw_X0_endOf_14) yd_X5_turnedBy ⟨Nat.le_of_ble_eq_true rfl, Nat.le_of_ble_eq_true rfl⟩, hts _ kw_X0_endOf_16, trivial⟩ hG hP [] rfl rfl hl.1 rfl (Nat.le_of_ble_eq_true rfl) dX0_endOf_100 ⟨Nat.zero_le _, Nat.zero_le _⟩ ?_
            refine lv_goto (tgt := 108) hx hb dX0_endOf_103 (by decide) ?_
            cases hf
            exact hj22 _ (lv_sub hl [1, 2, 4] rfl)
        · have hf := fp_t hf c19
          refine lv_iload hx hb dX0_endOf_77 (lv_at hl 0 rfl) ?_
          obtain ⟨r27, er27, hf⟩ := fp_b hf
          refine RoI.callN (c_X5_turnsBeam (l := l) (D := D) (cI := cI) (cJ := cJ) (cZ := cZ) (cQ := cQ) (qs := qs) er27) F ⟨va_cnB 1 hts gX0_endOf_X5_turnsBeam_n102 rfl rfl rfl (nwm_7 hG.1) (hts _ kw_X0_endOf_14) yd_X5_turnsBeam ⟨Nat.le_of_ble_eq_true rfl, Nat.le_of_ble_eq_true rfl⟩, hts _ kw_X0_endOf_21, trivial⟩ hG hP [] rfl rfl hl.1 rfl (Nat.le_of_ble_eq_true rfl) dX0_endOf_79 ⟨Nat.zero_le _, Nat.zero_le _⟩ ?_
          refine lv_if_ne (tgt := 88) hx hb dX0_endOf_82 (by decide) (fun c28 => ?_) (fun c28 => ?_)
          · have hf := fp_f hf c28
            refine lv_iload hx hb dX0_endOf_88 (lv_at hl 0 rfl) ?_
            obtain ⟨r29, er29, hf⟩ := fp_b hf
            refine RoI.callN (c_X5_turnsBeam (l := l) (D := D) (cI := cI) (cJ := cJ) (cZ := cZ) (cQ := cQ) (qs := qs) er29) F ⟨va_cnB 1 hts gX0_endOf_X5_turnsBeam_n102 rfl rfl rfl (nwm_7 hG.1) (hts _ kw_X0_endOf_14) yd_X5_turnsBeam ⟨Nat.le_of_ble_eq_true rfl, Nat.le_of_ble_eq_true rfl⟩, hts _ kw_X0_endOf_21, trivial⟩ hG hP [] rfl rfl hl.1 rfl (Nat.le_of_ble_eq_true rfl) dX0_endOf_90 ⟨Nat.zero_le _, Nat.zero_le _⟩ ?_
            obtain ⟨j30, ej30, hf⟩ := fp_b hf
            have hj31 : ∀ ls : Array Slot, lv_has ls 8 [(0, .ref hRmO), (3, .int y3), (5, .int y5)] → W p l e { frames := 2, cells := 0, slots := 0, locals := 41 } s m args below meth c s.heap [] 0 0 Q (F0 m 108 ls [.int j30]) := by
              intro ls hl
              refine lv_istore (lv' := [(4, .int j30), (0, .ref hRmO), (3, .int y3), (5, .int y5)]) hx hb dX0_endOf_108 hl (by decide) rfl (fun ls hl => ?_)
              refine lv_aload_n hx hb dX0_endOf_110 rfl (lv_at hl 1 rfl) ?_
              refine lv_iload_n hx hb dX0_endOf_111 rfl (lv_at hl 2 rfl) ?_
              refine lv_iload hx hb dX0_endOf_112 (lv_at hl 0 rfl) ?_
              obtain ⟨r32, er32, hf⟩ := fp_b hf
              refine RoI.callV (c_X2_beyond (l := l) (D := D) (cI := cI) (cJ := cJ) (cZ := cZ) (cQ := cQ) (qs := qs) er32) F (cwV 2 hts gX0_endOf_X2_beyond rfl rfl rfl yd_X2_beyond ⟨Nat.le_of_ble_eq_true rfl, Nat.le_of_ble_eq_true rfl⟩) hG hP [0] rfl 2 rfl rfl rfl hl.1 rfl (Nat.le_of_ble_eq_true rfl) dX0_endOf_114 ⟨Nat.zero_le _, Nat.zero_le _⟩ ?_
              refine lv_istore (lv' := [(7, .int r32), (4, .int j30), (0, .ref hRmO), (3, .int y3), (5, .int y5)]) hx hb dX0_endOf_117 hl (by decide) rfl (fun ls hl => ?_)
              refine lv_iload hx hb dX0_endOf_119 (lv_at hl 0 rfl) ?_
              refine lv_if_ge (tgt := 132) hx hb dX0_endOf_121 (by decide) (fun c33 => ?_) (fun c33 => ?_)
              · have hf := fp_t hf c33
                refine lv_iload hx hb dX0_endOf_132 (lv_at hl 0 rfl) ?_
                refine lv_istore_n (lv' := [(3, .int r32), (7, .int r32), (4, .int j30), (0, .ref hRmO), (5, .int y5)]) hx hb dX0_endOf_134 rfl hl (by decide) rfl (fun ls hl => ?_)
                refine lv_iinc (v := (y5 + (1 : Int32))) (lv' := [(5, .int (y5 + (1 : Int32))), (3, .int r32), (7, .int r32), (4, .int j30), (0, .ref hRmO)]) hx hb dX0_endOf_135 hl (k := 4) rfl rfl (by decide) rfl (fun ls hl => ?_)
                refine lv_goto (tgt := 8) hx hb dX0_endOf_138 (by decide) ?_
                cases hf
                exact ih _ (fp_inl ho) (lv_sub hl [4, 1, 3, 0] rfl) hex hre
              · have hf := fp_f hf c33
                refine lv_bipush (v := (40 : Int32)) hx hb dX0_endOf_124 (by decide) ?_
                refine lv_iload hx hb dX0_endOf_126 (lv_at hl 0 rfl) ?_
                refine lv_iconst (v := (-1 : Int32)) hx hb dX0_endOf_128 (by decide) ?_
                refine lv_ixor hx hb dX0_endOf_129 ?_
                refine lv_iadd hx hb dX0_endOf_130 ?_
                cases hf
                have ho := fp_inr ho
                cases ho
                exact hre _ rfl _ _ dX0_endOf_131 (vp_nar_int _)
            replace hf := ej30
            refine lv_if_eq (tgt := 106) hx hb dX0_endOf_93 (by decide) (fun c34 => ?_) (fun c34 => ?_)
            · have hf := fp_t hf c34
              refine lv_iload hx hb dX0_endOf_106 (lv_at hl 3 rfl) ?_
              cases hf
              exact hj31 _ (lv_sub hl [1, 2, 4] rfl)
            · have hf := fp_f hf c34
              refine lv_iload hx hb dX0_endOf_96 (lv_at hl 0 rfl) ?_
              refine lv_iload hx hb dX0_endOf_98 (lv_at hl 3 rfl) ?_
              obtain ⟨r35, er35, hf⟩ := fp_b hf
              refine RoI.callN (c_X5_turnedBy (l := l) (D := D) (cI := cI) (cJ := cJ) (cZ := cZ) (cQ := cQ) (qs := qs) er35) F ⟨va_cnB 2 hts gX0_endOf_X5_turnedBy_n88 rfl rfl rfl (nwm_5 hG.1) (hts _ kw_X0_endOf_14) yd_X5_turnedBy ⟨Nat.le_of_ble_eq_true rfl, Nat.le_of_ble_eq_true rfl⟩, hts _ kw_X0_endOf_16, trivial⟩ hG hP [] rfl rfl hl.1 rfl (Nat.le_of_ble_eq_true rfl) dX0_endOf_100 ⟨Nat.zero_le _, Nat.zero_le _⟩ ?_
              refine lv_goto (tgt := 108) hx hb dX0_endOf_103 (by decide) ?_
              cases hf
              exact hj31 _ (lv_sub hl [1, 2, 4] rfl)
          · have hf := fp_t hf c28
            refine lv_bipush (v := (58 : Int32)) hx hb dX0_endOf_85 (by decide) ?_
            cases hf
            have ho := fp_inr ho
            cases ho
            exact hre _ rfl _ _ dX0_endOf_87 (vp_nar_int _)
      · have hf := fp_f hf c17
        refine lv_iload hx hb dX0_endOf_30 (lv_at hl 3 rfl) ?_
        obtain ⟨j36, ej36, hf⟩ := fp_b hf
        have hj37 : ∀ ls : Array Slot, lv_has ls 8 [(3, .int y3)] → W p l e { frames := 2, cells := 0, slots := 0, locals := 41 } s m args below meth c s.heap [] 0 0 Q (F0 m 50 ls [.int j36]) := by
          intro ls hl
          refine lv_istore (lv' := [(7, .int j36), (3, .int y3)]) hx hb dX0_endOf_50 hl (by decide) rfl (fun ls hl => ?_)
          refine lv_iload hx hb dX0_endOf_52 (lv_at hl 0 rfl) ?_
          refine lv_if_eq (tgt := 63) hx hb dX0_endOf_54 (by decide) (fun c38 => ?_) (fun c38 => ?_)
          · have hf := fp_t hf c38
            refine lv_iconst (v := (2 : Int32)) hx hb dX0_endOf_63 (by decide) ?_
            refine lv_iload_n hx hb dX0_endOf_64 rfl (lv_at hl 1 rfl) ?_
            refine lv_imul hx hb dX0_endOf_65 ?_
            refine lv_iconst (v := (1 : Int32)) hx hb dX0_endOf_66 (by decide) ?_
            refine lv_iadd hx hb dX0_endOf_67 ?_
            cases hf
            have ho := fp_inr ho
            cases ho
            exact hre _ rfl _ _ dX0_endOf_68 (vp_nar_int _)
          · have hf := fp_f hf c38
            refine lv_iconst (v := (2 : Int32)) hx hb dX0_endOf_57 (by decide) ?_
            refine lv_iload_n hx hb dX0_endOf_58 rfl (lv_at hl 1 rfl) ?_
            refine lv_imul hx hb dX0_endOf_59 ?_
            refine lv_goto (tgt := 68) hx hb dX0_endOf_60 (by decide) ?_
            cases hf
            have ho := fp_inr ho
            cases ho
            exact hre _ rfl _ _ dX0_endOf_68 (vp_nar_int _)
        replace hf := ej36
        refine lv_if_eq (tgt := 45) hx hb dX0_endOf_32 (by decide) (fun c39 => ?_) (fun c39 => ?_)
        · have hf := fp_t hf c39
          refine lv_iconst (v := (1 : Int32)) hx hb dX0_endOf_45 (by decide) ?_
          refine lv_goto (tgt := 50) hx hb dX0_endOf_46 (by decide) ?_
          cases hf
          exact hj37 _ (lv_sub hl [2] rfl)
        · have hf := fp_f hf c39
          refine lv_iload hx hb dX0_endOf_35 (lv_at hl 0 rfl) ?_
          refine lv_iload hx hb dX0_endOf_37 (lv_at hl 3 rfl) ?_
          obtain ⟨r40, er40, hf⟩ := fp_b hf
          refine RoI.callN (c_X5_turnedBy (l := l) (D := D) (cI := cI) (cJ := cJ) (cZ := cZ) (cQ := cQ) (qs := qs) er40) F ⟨va_cnB 2 hts gX0_endOf_X5_turnedBy_n88 rfl rfl rfl (nwm_5 hG.1) (hts _ kw_X0_endOf_14) yd_X5_turnedBy ⟨Nat.le_of_ble_eq_true rfl, Nat.le_of_ble_eq_true rfl⟩, hts _ kw_X0_endOf_16, trivial⟩ hG hP [] rfl rfl hl.1 rfl (Nat.le_of_ble_eq_true rfl) dX0_endOf_39 ⟨Nat.zero_le _, Nat.zero_le _⟩ ?_
          refine lv_if_ne (tgt := 49) hx hb dX0_endOf_42 (by decide) (fun c41 => ?_) (fun c41 => ?_)
          · have hf := fp_f hf c41
            refine lv_iconst (v := (0 : Int32)) hx hb dX0_endOf_49 (by decide) ?_
            cases hf
            exact hj37 _ (lv_sub hl [2] rfl)
          · have hf := fp_t hf c41
            refine lv_iconst (v := (1 : Int32)) hx hb dX0_endOf_45 (by decide) ?_
            refine lv_goto (tgt := 50) hx hb dX0_endOf_46 (by decide) ?_
            cases hf
            exact hj37 _ (lv_sub hl [2] rfl)
def f_X0_endOf (coO : Int32) (roO : Int32) (kdO : Nat → Int32) (x1 : Int32) (x2 : Int32) : Option (Int32) :=
  Option.bind (lpf (fun s => f_X0_endOf_8 coO roO kdO s.1 s.2.1 s.2.2) 1000 (x1, x2, (0 : Int32))) (fun o42 => Sum.elim (fun r9 => some r9) (fun z43 => some (59 : Int32)) o42)
set_option maxHeartbeats 4000000 in
set_option maxRecDepth 100000 in
theorem b_X0_endOf {p : Program} {l : Launch} {e : Env} {s : State} {m : MethodId} {args : Array Value} {below : List Frame} {meth : Method} {c : Code} {Q : State → Prop} {D : va_G} {cI cJ cZ cQ : ClassId} {qs : Nat × Nat × Nat} {hRmO hKdO : Nat} {coO : Int32} {roO : Int32} {kdO : Nat → Int32} {x1 : Int32} {x2 : Int32} {out : Int32} (F : CallFix p m c cX0_endOf 8 s args wsX0_endOf RX0) (hG : kR D (ty4 cI cJ cZ cQ) qs s s.heap) (hP : va_P D vwCl [(hRmO, .inr (2, [.ref hKdO, .int coO, .int roO])), (hKdO, .inl (cI, 20, .inl kdO))] s.heap) (hf : f_X0_endOf coO roO kdO x1 x2 = some out) (hret : ∀ (pc : Nat) (ls : Array Slot), decode cX0_endOf pc = .ok (.ireturn, 1) → narrow .int (.int out) = .int out → W p l e { frames := 2, cells := 0, slots := 0, locals := 41 } s m args below meth c s.heap [] 0 0 Q (F0 m pc ls [.int out])) {ls : Array Slot} (hl : lv_has ls 8 [(0, .ref hRmO), (1, .int x1), (2, .int x2)]) : W p l e { frames := 2, cells := 0, slots := 0, locals := 41 } s m args below meth c s.heap [] 0 0 Q (F0 m 0 ls []) := by
  have hx := F.1
  have hb := F.2.1
  have hown := F.2.2.2.1
  have hts := F.2.2.2.2
  have hK := hG.1.1
  rw [f_X0_endOf] at hf
  refine lv_iload_n hx hb dX0_endOf_0 rfl (lv_at hl 1 rfl) ?_
  refine lv_istore_n (lv' := [(3, .int x1), (0, .ref hRmO), (1, .int x1), (2, .int x2)]) hx hb dX0_endOf_1 rfl hl (by decide) rfl (fun ls hl => ?_)
  refine lv_iload_n hx hb dX0_endOf_2 rfl (lv_at hl 3 rfl) ?_
  refine lv_istore (lv' := [(4, .int x2), (3, .int x1), (0, .ref hRmO), (1, .int x1), (2, .int x2)]) hx hb dX0_endOf_3 hl (by decide) rfl (fun ls hl => ?_)
  refine lv_iconst (v := (0 : Int32)) hx hb dX0_endOf_5 (by decide) ?_
  refine lv_istore (lv' := [(5, .int (0 : Int32)), (4, .int x2), (3, .int x1), (0, .ref hRmO), (1, .int x1), (2, .int x2)]) hx hb dX0_endOf_6 hl (by decide) rfl (fun ls hl => ?_)
  obtain ⟨o42, eo42, hf⟩ := fp_b hf
  refine lp_X0_endOf_8 F hG hP _ _ eo42 (lv_sub hl [3, 2, 1, 0] rfl) (fun z43 hz43 ls hl => ?_) (fun r9 h9 => ?_)
  · subst hz43
    have hf := fp_inr hf
    refine lv_bipush (v := (59 : Int32)) hx hb dX0_endOf_141 (by decide) ?_
    cases hf
    exact hret _ _ dX0_endOf_143 (vp_nar_int _)
  · subst h9
    have hf := fp_inl hf
    cases hf
    exact hret
set_option maxRecDepth 100000 in
theorem c_X0_endOf {l : Launch} {D : va_G} {cI cJ cZ cQ : ClassId} {qs : Nat × Nat × Nat} {hRmO hKdO : Nat} {coO : Int32} {roO : Int32} {kdO : Nat → Int32} {x1 : Int32} {x2 : Int32} {out : Int32} (hf : f_X0_endOf coO roO kdO x1 x2 = some out) : RoI l yX0_endOf wsX0_endOf { frames := 2, cells := 0, slots := 0, locals := 41 } D (ty4 cI cJ cZ cQ) qs [.ref hRmO, .int x1, .int x2] [(hRmO, .inr (2, [.ref hKdO, .int coO, .int roO])), (hKdO, .inl (cI, 20, .inl kdO))] out :=
  RoI.of (own := RX0) (by decide +kernel) rfl rfl (Nat.le_of_ble_eq_true rfl) (fun F hG hP hret ls hl => b_X0_endOf F hG hP hf hret hl)
-- method X0_endBeyond
theorem yd_X0_endBeyond : yX0_endBeyond.cls ≠ "java/lang/invoke/MethodHandle" ∧ yX0_endBeyond.cls ≠ "java/lang/invoke/VarHandle" ∧ (parseMethodDescriptor yX0_endBeyond.desc).map (fun d => d.parameters.length) = some 3 := by decide +kernel
def f_X0_endBeyond (coO : Int32) (roO : Int32) (kdO : Nat → Int32) (x1 : Int32) (x2 : Int32) : Option (Int32) :=
  Option.bind (f_X2_beyond coO roO x1 x2) (fun r44 => (if r44 < 0 then some ((40 : Int32) + (r44 ^^^ (-1 : Int32))) else Option.bind (f_X0_endOf coO roO kdO r44 x2) (fun r46 => some r46)))
set_option maxHeartbeats 4000000 in
set_option maxRecDepth 100000 in
theorem b_X0_endBeyond {p : Program} {l : Launch} {e : Env} {s : State} {m : MethodId} {args : Array Value} {below : List Frame} {meth : Method} {c : Code} {Q : State → Prop} {D : va_G} {cI cJ cZ cQ : ClassId} {qs : Nat × Nat × Nat} {hRmO hKdO : Nat} {coO : Int32} {roO : Int32} {kdO : Nat → Int32} {x1 : Int32} {x2 : Int32} {out : Int32} (F : CallFix p m c cX0_endBeyond 4 s args wsX0_endBeyond RX0) (hG : kR D (ty4 cI cJ cZ cQ) qs s s.heap) (hP : va_P D vwCl [(hRmO, .inr (2, [.ref hKdO, .int coO, .int roO])), (hKdO, .inl (cI, 20, .inl kdO))] s.heap) (hf : f_X0_endBeyond coO roO kdO x1 x2 = some out) (hret : ∀ (pc : Nat) (ls : Array Slot), decode cX0_endBeyond pc = .ok (.ireturn, 1) → narrow .int (.int out) = .int out → W p l e { frames := 3, cells := 0, slots := 0, locals := 68 } s m args below meth c s.heap [] 0 0 Q (F0 m pc ls [.int out])) {ls : Array Slot} (hl : lv_has ls 4 [(0, .ref hRmO), (1, .int x1), (2, .int x2)]) : W p l e { frames := 3, cells := 0, slots := 0, locals := 68 } s m args below meth c s.heap [] 0 0 Q (F0 m 0 ls []) := by
  have hx := F.1
  have hb := F.2.1
  have hown := F.2.2.2.1
  have hts := F.2.2.2.2
  have hK := hG.1.1
  rw [f_X0_endBeyond] at hf
  refine lv_aload_n hx hb dX0_endBeyond_0 rfl (lv_at hl 0 rfl) ?_
  refine lv_iload_n hx hb dX0_endBeyond_1 rfl (lv_at hl 1 rfl) ?_
  refine lv_iload_n hx hb dX0_endBeyond_2 rfl (lv_at hl 2 rfl) ?_
  obtain ⟨r44, er44, hf⟩ := fp_b hf
  refine RoI.callV (c_X2_beyond (l := l) (D := D) (cI := cI) (cJ := cJ) (cZ := cZ) (cQ := cQ) (qs := qs) er44) F (cwV 2 hts gX0_endBeyond_X2_beyond rfl rfl rfl yd_X2_beyond ⟨Nat.le_of_ble_eq_true rfl, Nat.le_of_ble_eq_true rfl⟩) hG hP [0] rfl 2 rfl rfl rfl hl.1 rfl (Nat.le_of_ble_eq_true rfl) dX0_endBeyond_3 ⟨Nat.zero_le _, Nat.zero_le _⟩ ?_
  refine lv_istore_n (lv' := [(3, .int r44), (0, .ref hRmO), (1, .int x1), (2, .int x2)]) hx hb dX0_endBeyond_6 rfl hl (by decide) rfl (fun ls hl => ?_)
  refine lv_iload_n hx hb dX0_endBeyond_7 rfl (lv_at hl 0 rfl) ?_
  refine lv_if_lt (tgt := 20) hx hb dX0_endBeyond_8 (by decide) (fun c45 => ?_) (fun c45 => ?_)
  · have hf := fp_t hf c45
    refine lv_bipush (v := (40 : Int32)) hx hb dX0_endBeyond_20 (by decide) ?_
    refine lv_iload_n hx hb dX0_endBeyond_22 rfl (lv_at hl 0 rfl) ?_
    refine lv_iconst (v := (-1 : Int32)) hx hb dX0_endBeyond_23 (by decide) ?_
    refine lv_ixor hx hb dX0_endBeyond_24 ?_
    refine lv_iadd hx hb dX0_endBeyond_25 ?_
    cases hf
    exact hret _ _ dX0_endBeyond_26 (vp_nar_int _)
  · have hf := fp_f hf c45
    refine lv_aload_n hx hb dX0_endBeyond_11 rfl (lv_at hl 1 rfl) ?_
    refine lv_iload_n hx hb dX0_endBeyond_12 rfl (lv_at hl 0 rfl) ?_
    refine lv_iload_n hx hb dX0_endBeyond_13 rfl (lv_at hl 3 rfl) ?_
    obtain ⟨r46, er46, hf⟩ := fp_b hf
    refine RoI.callS (c_X0_endOf (l := l) (D := D) (cI := cI) (cJ := cJ) (cZ := cZ) (cQ := cQ) (qs := qs) er46) F (va_cwS 3 hts gX0_endBeyond_X0_endOf rfl rfl rfl yd_X0_endOf ⟨Nat.le_of_ble_eq_true rfl, Nat.le_of_ble_eq_true rfl⟩) hG hP [0, 1] rfl rfl hl.1 rfl (Nat.le_of_ble_eq_true rfl) dX0_endBeyond_14 ⟨Nat.zero_le _, Nat.zero_le _⟩ ?_
    refine lv_goto (tgt := 26) hx hb dX0_endBeyond_17 (by decide) ?_
    cases hf
    exact hret _ _ dX0_endBeyond_26 (vp_nar_int _)
set_option maxRecDepth 100000 in
theorem c_X0_endBeyond {l : Launch} {D : va_G} {cI cJ cZ cQ : ClassId} {qs : Nat × Nat × Nat} {hRmO hKdO : Nat} {coO : Int32} {roO : Int32} {kdO : Nat → Int32} {x1 : Int32} {x2 : Int32} {out : Int32} (hf : f_X0_endBeyond coO roO kdO x1 x2 = some out) : RoI l yX0_endBeyond wsX0_endBeyond { frames := 3, cells := 0, slots := 0, locals := 68 } D (ty4 cI cJ cZ cQ) qs [.ref hRmO, .int x1, .int x2] [(hRmO, .inr (2, [.ref hKdO, .int coO, .int roO])), (hKdO, .inl (cI, 20, .inl kdO))] out :=
  RoI.of (own := RX0) (by decide +kernel) rfl rfl (Nat.le_of_ble_eq_true rfl) (fun F hG hP hret ls hl => b_X0_endBeyond F hG hP hf hret hl)
-- method X0_findSplits
theorem yd_X0_findSplits : yX0_findSplits.cls = RX0 ∧ yX0_findSplits.cls ≠ "java/lang/invoke/MethodHandle" ∧ yX0_findSplits.cls ≠ "java/lang/invoke/VarHandle" ∧ (parseMethodDescriptor yX0_findSplits.desc).map (fun d => d.parameters.length) = some 2 := by decide +kernel
theorem ku_X0_findSplits_X0 : ∀ w ∈ u_ws RX0 TX0 7, w ∈ wsX0_findSplits := by decide +kernel
theorem kw_X0_findSplits_1 : Cond.fieldLink RX0 15 "MirrorShares$Beam" "splitNumber" "[I" ∈ wsX0_findSplits := List.mem_of_getElem? (i := 1) rfl
theorem kw_X0_findSplits_2 : Cond.fieldLink RX0 30 "MirrorShares$Beam" "splits" "I" ∈ wsX0_findSplits := List.mem_of_getElem? (i := 2) rfl
theorem kw_X0_findSplits_3 : Cond.fieldLink RX0 11 "MirrorShares$Beam" "splitPlace" "[I" ∈ wsX0_findSplits := List.mem_of_getElem? (i := 3) rfl
theorem kw_X0_findSplits_4 : Cond.fieldLink RX0 18 "MirrorShares$Beam" "rayEnd" "[I" ∈ wsX0_findSplits := List.mem_of_getElem? (i := 4) rfl
theorem kw_X0_findSplits_37 : Cond.initialized RX5 ∈ wsX0_findSplits := List.mem_of_getElem? (i := 37) rfl
theorem kw_X0_findSplits_39 : Cond.static yX5_turnedBy ∈ wsX0_findSplits := List.mem_of_getElem? (i := 39) rfl
def f_X0_findSplits_21 (coO : Int32) (roO : Int32) (kdO : Nat → Int32) (y3 : Int32) (bq : Int32) (bp : Nat → Int32) (bn : Nat → Int32) (br : Nat → Int32) : Option ((Int32 × Int32 × (Nat → Int32) × (Nat → Int32) × (Nat → Int32)) ⊕ (Int32 × (Nat → Int32) × (Nat → Int32) × (Nat → Int32))) :=
  (if (10 : Int32) ≤ y3 then some (Sum.inr (bq, bp, bn, br)) else (if bq ≤ y3 then some (Sum.inr (bq, bp, bn, br)) else chk (aix y3 10) (Option.bind (if ((bp y3.toNatClampNeg) - (((bp y3.toNatClampNeg) / (2 : Int32)) * (2 : Int32))) = 0 then some (0 : Int32) else some (2 : Int32)) (fun j52 => Option.bind (f_X0_endBeyond coO roO kdO ((bp y3.toNatClampNeg) / (2 : Int32)) j52) (fun r54 => chk (aix ((2 : Int32) * y3) 20) (Option.bind (f_X2_kindAt coO roO kdO ((bp y3.toNatClampNeg) / (2 : Int32))) (fun r56 => Option.bind (f_X5_turnedBy r56 j52) (fun r57 => Option.bind (f_X0_endBeyond coO roO kdO ((bp y3.toNatClampNeg) / (2 : Int32)) r57) (fun r58 => chk (aix (((2 : Int32) * y3) + (1 : Int32)) 20) (Option.bind (f_X0_noteSplit bq bp bn ((upd (upd br (Int32.toNatClampNeg ((2 : Int32) * y3)) r54) (Int32.toNatClampNeg (((2 : Int32) * y3) + (1 : Int32))) r58) (Int32.toNatClampNeg ((2 : Int32) * y3)))) (fun r60 => Option.bind (f_X0_noteSplit r60.1 r60.2.1 r60.2.2 ((upd (upd br (Int32.toNatClampNeg ((2 : Int32) * y3)) r54) (Int32.toNatClampNeg (((2 : Int32) * y3) + (1 : Int32))) r58) (Int32.toNatClampNeg (((2 : Int32) * y3) + (1 : Int32))))) (fun r61 => some (Sum.inl ((y3 + (1 : Int32)), r61.1, r61.2.1, r61.2.2, (upd (upd br (Int32.toNatClampNeg ((2 : Int32) * y3)) r54) (Int32.toNatClampNeg (((2 : Int32) * y3) + (1 : Int32))) r58)))))))))))))))
set_option maxHeartbeats 4000000 in
set_option maxRecDepth 100000 in
theorem lp_X0_findSplits_21 {p : Program} {l : Launch} {e : Env} {s : State} {m : MethodId} {args : Array Value} {below : List Frame} {meth : Method} {c : Code} {Q : State → Prop} {A : Nat → Prop} {D : va_G} {cI cJ cZ cQ : ClassId} {qs : Nat × Nat × Nat} {hBe hBp hBn hBr hBo hBs hRmO hKdO : Nat} {coO : Int32} {roO : Int32} {kdO : Nat → Int32} {bw : Int64} (F : CallFix p m c cX0_findSplits 6 s args wsX0_findSplits RX0) (hG : kW D (ty4 cI cJ cZ cQ) qs A s s.heap) (hA : ∀ q : Nat, s.heap.size ≤ q → A q) :
    ∀ (n : Nat) {y3 : Int32} {bq : Int32} {bp : Nat → Int32} {bn : Nat → Int32} {br : Nat → Int32} (out : Int32 × (Nat → Int32) × (Nat → Int32) × (Nat → Int32)), lpf (fun s => f_X0_findSplits_21 coO roO kdO s.1 s.2.1 s.2.2.1 s.2.2.2.1 s.2.2.2.2) n (y3, bq, bp, bn, br) = some out → ∀ {H : Heap} {locs : List Loc} {ls : Array Slot}, va_P D vwCl [(hBe, .inr (0, [.ref hBp, .ref hBn, .ref hBr, .ref hBo, .ref hBs, .int bq, .long bw])), (hRmO, .inr (2, [.ref hKdO, .int coO, .int roO])), (hKdO, .inl (cI, 20, .inl kdO)), (hBp, .inl (cI, 10, .inl bp)), (hBn, .inl (cI, 60, .inl bn)), (hBr, .inl (cI, 20, .inl br))] H → va_D A [(hBe, .inr (0, [.ref hBp, .ref hBn, .ref hBr, .ref hBo, .ref hBs, .int bq, .long bw])), (hRmO, .inr (2, [.ref hKdO, .int coO, .int roO])), (hKdO, .inl (cI, 20, .inl kdO)), (hBp, .inl (cI, 10, .inl bp)), (hBn, .inl (cI, 60, .inl bn)), (hBr, .inl (cI, 20, .inl br))] → va_S A s.heap H locs → lv_has ls 6 [(0, .ref hBe), (1, .ref hRmO), (3, .int y3)] → (∀ (H : Heap) (locs : List Loc) (ls : Array Slot), va_P D vwCl [(hBe, .inr (0, [.ref hBp, .ref hBn, .ref hBr, .ref hBo, .ref hBs, .int out.1, .long bw])), (hRmO, .inr (2, [.ref hKdO, .int coO, .int roO])), (hKdO, .inl (cI, 20, .inl kdO)), (hBp, .inl (cI, 10, .inl out.2.1)), (hBn, .inl (cI, 60, .inl out.2.2.1)), (hBr, .inl (cI, 20, .inl out.2.2.2))] H → va_D A [(hBe, .inr (0, [.ref hBp, .ref hBn, .ref hBr, .ref hBo, .ref hBs, .int out.1, .long bw])), (hRmO, .inr (2, [.ref hKdO, .int coO, .int roO])), (hKdO, .inl (cI, 20, .inl kdO)), (hBp, .inl (cI, 10, .inl out.2.1)), (hBn, .inl (cI, 60, .inl out.2.2.1)), (hBr, .inl (cI, 20, .inl out.2.2.2))] → va_S A s.heap H locs → lv_has ls 6 [(0, .ref hBe), (1, .ref hRmO)] → W p l e { frames := 4, cells := 0, slots := 0, locals := 91 } s m args below meth c H locs 0 0 Q (F0 m 138 ls [])) → W p l e { frames := 4, cells := 0, slots := 0, locals := 91 } s m args below meth c H locs 0 0 Q (F0 m 21 ls []) := by
  have hx := F.1
  have hb := F.2.1
  have hown := F.2.2.2.1
  have hts := F.2.2.2.2
  have hK := hG.1.1
  intro n
  induction n with
  | zero =>
    intro y3 bq bp bn br out ho
    exact (fp_l0 ho).elim
  | succ n ih =>
    intro y3 bq bp bn br out ho H locs ls hP hD hS hl hex
    obtain ⟨o, hf, ho⟩ := fp_l ho
    have hf : f_X0_findSplits_21 coO roO kdO y3 bq bp bn br = some o := hf
    rw [f_X0_findSplits_21] at hf
    refine lv_iload_n hx hb dX0_findSplits_21 rfl (lv_at hl 2 rfl) ?_
    refine lv_bipush (v := (10 : Int32)) hx hb dX0_findSplits_22 (by decide) ?_
    refine lv_icmp_ge (tgt := 138) hx hb dX0_findSplits_24 (by decide) (fun c49 => ?_) (fun c49 => ?_)
    · have hf := fp_t hf c49
      cases hf
      have ho := fp_inr ho
      cases ho
      exact hex _ _ _ hP hD hS (lv_sub hl [0, 1] rfl)
    · have hf := fp_f hf c49
      refine lv_iload_n hx hb dX0_findSplits_27 rfl (lv_at hl 2 rfl) ?_
      refine lv_aload_n hx hb dX0_findSplits_28 rfl (lv_at hl 0 rfl) ?_
      refine va_get (D := D) (ci := 0) (v := .int bq) (C := RX0) (T := TX0) (N := 7) hx hb hts ku_X0_findSplits_X0 hown hK hP 0 rfl rfl 5 (by decide) (hts _ kw_X0_findSplits_2) (fun _ h9 => h9) rfl dX0_findSplits_29 ?_
      refine lv_icmp_ge (tgt := 138) hx hb dX0_findSplits_32 (by decide) (fun c50 => ?_) (fun c50 => ?_)
      · have hf := fp_t hf c50
        cases hf
        have ho := fp_inr ho
        cases ho
        exact hex _ _ _ hP hD hS (lv_sub hl [0, 1] rfl)
      · have hf := fp_f hf c50
        refine lv_aload_n hx hb dX0_findSplits_35 rfl (lv_at hl 0 rfl) ?_
        refine va_get (D := D) (ci := 0) (v := .ref hBp) (C := RX0) (T := TX0) (N := 7) hx hb hts ku_X0_findSplits_X0 hown hK hP 0 rfl rfl 0 (by decide) (hts _ kw_X0_findSplits_3) (fun _ h9 => h9) rfl dX0_findSplits_36 ?_
        refine lv_iload_n hx hb dX0_findSplits_39 rfl (lv_at hl 2 rfl) ?_
        obtain ⟨k51, hf⟩ := fp_c hf
        refine va_iald hx hb hK hP 3 0 rfl rfl k51 dX0_findSplits_40 ?_
        refine lv_iconst (v := (2 : Int32)) hx hb dX0_findSplits_41 (by decide) ?_
        refine lv_idiv hx hb dX0_findSplits_42 (by decide) ?_
        refine lv_istore (lv' := [(4, .int ((bp y3.toNatClampNeg) / (2 : Int32))), (0, .ref hBe), (1, .ref hRmO), (3, .int y3)]) hx hb dX0_findSplits_43 hl (by decide) rfl (fun ls hl => ?_)
        refine lv_aload_n hx hb dX0_findSplits_45 rfl (lv_at hl 1 rfl) ?_
        refine va_get (D := D) (ci := 0) (v := .ref hBp) (C := RX0) (T := TX0) (N := 7) hx hb hts ku_X0_findSplits_X0 hown hK hP 0 rfl rfl 0 (by decide) (hts _ kw_X0_findSplits_3) (fun _ h9 => h9) rfl dX0_findSplits_46 ?_
        refine lv_iload_n hx hb dX0_findSplits_49 rfl (lv_at hl 3 rfl) ?_
        refine va_iald hx hb hK hP 3 0 rfl rfl k51 dX0_findSplits_50 ?_
        refine lv_iconst (v := (2 : Int32)) hx hb dX0_findSplits_51 (by decide) ?_
        refine lv_irem hx hb dX0_findSplits_52 (by decide) ?_
        obtain ⟨j52, ej52, hf⟩ := fp_b hf
        have hj53 : ∀ (H : Heap) (locs : List Loc) (ls : Array Slot), va_P D vwCl [(hBe, .inr (0, [.ref hBp, .ref hBn, .ref hBr, .ref hBo, .ref hBs, .int bq, .long bw])), (hRmO, .inr (2, [.ref hKdO, .int coO, .int roO])), (hKdO, .inl (cI, 20, .inl kdO)), (hBp, .inl (cI, 10, .inl bp)), (hBn, .inl (cI, 60, .inl bn)), (hBr, .inl (cI, 20, .inl br))] H → va_D A [(hBe, .inr (0, [.ref hBp, .ref hBn, .ref hBr, .ref hBo, .ref hBs, .int bq, .long bw])), (hRmO, .inr (2, [.ref hKdO, .int coO, .int roO])), (hKdO, .inl (cI, 20, .inl kdO)), (hBp, .inl (cI, 10, .inl bp)), (hBn, .inl (cI, 60, .inl bn)), (hBr, .inl (cI, 20, .inl br))] → va_S A s.heap H locs → lv_has ls 6 [(0, .ref hBe), (1, .ref hRmO), (3, .int y3), (4, .int ((bp y3.toNatClampNeg) / (2 : Int32)))] → W p l e { frames := 4, cells := 0, slots := 0, locals := 91 } s m args below meth c H locs 0 0 Q (F0 m 61 ls [.int j52]) := by
          intro H locs ls hP hD hS hl
          refine lv_istore (lv' := [(5, .int j52), (0, .ref hBe), (1, .ref hRmO), (3, .int y3), (4, .int ((bp y3.toNatClampNeg) / (2 : Int32)))]) hx hb dX0_findSplits_61 hl (by decide) rfl (fun ls hl => ?_)
          refine lv_aload_n hx hb dX0_findSplits_63 rfl (lv_at hl 1 rfl) ?_
          refine va_get (D := D) (ci := 0) (v := .ref hBr) (C := RX0) (T := TX0) (N := 7) hx hb hts ku_X0_findSplits_X0 hown hK hP 0 rfl rfl 2 (by decide) (hts _ kw_X0_findSplits_4) (fun _ h9 => h9) rfl dX0_findSplits_64 ?_
          refine lv_iconst (v := (2 : Int32)) hx hb dX0_findSplits_67 (by decide) ?_
          refine lv_iload_n hx hb dX0_findSplits_68 rfl (lv_at hl 3 rfl) ?_
          refine lv_imul hx hb dX0_findSplits_69 ?_
          refine lv_aload_n hx hb dX0_findSplits_70 rfl (lv_at hl 2 rfl) ?_
          refine lv_iload hx hb dX0_findSplits_71 (lv_at hl 4 rfl) ?_
          refine lv_iload hx hb dX0_findSplits_73 (lv_at hl 0 rfl) ?_
          obtain ⟨r54, er54, hf⟩ := fp_b hf
          refine RoI.callS (c_X0_endBeyond (l := l) (D := D) (cI := cI) (cJ := cJ) (cZ := cZ) (cQ := cQ) (qs := qs) er54) F (va_cwS 3 hts gX0_findSplits_X0_endBeyond rfl rfl rfl yd_X0_endBeyond ⟨Nat.le_of_ble_eq_true rfl, Nat.le_of_ble_eq_true rfl⟩) (hG.r hS) hP [1, 2] rfl rfl hl.1 rfl (Nat.le_of_ble_eq_true rfl) dX0_findSplits_75 ⟨Nat.zero_le _, Nat.zero_le _⟩ ?_
          obtain ⟨k55, hf⟩ := fp_c hf
          refine va_iast hx hb hK hP hD hS 5 0 rfl rfl k55 dX0_findSplits_78 (fun H locs hP hD hS => ?_)
          have hP : va_P D vwCl [(hBe, .inr (0, [.ref hBp, .ref hBn, .ref hBr, .ref hBo, .ref hBs, .int bq, .long bw])), (hRmO, .inr (2, [.ref hKdO, .int coO, .int roO])), (hKdO, .inl (cI, 20, .inl kdO)), (hBp, .inl (cI, 10, .inl bp)), (hBn, .inl (cI, 60, .inl bn)), (hBr, .inl (cI, 20, .inl (upd br (Int32.toNatClampNeg ((2 : Int32) * y3)) r54)))] H := hP
          have hD : va_D A [(hBe, .inr (0, [.ref hBp, .ref hBn, .ref hBr, .ref hBo, .ref hBs, .int bq, .long bw])), (hRmO, .inr (2, [.ref hKdO, .int coO, .int roO])), (hKdO, .inl (cI, 20, .inl kdO)), (hBp, .inl (cI, 10, .inl bp)), (hBn, .inl (cI, 60, .inl bn)), (hBr, .inl (cI, 20, .inl (upd br (Int32.toNatClampNeg ((2 : Int32) * y3)) r54)))] := hD
          refine lv_aload_n hx hb dX0_findSplits_79 rfl (lv_at hl 1 rfl) ?_
          refine va_get (D := D) (ci := 0) (v := .ref hBr) (C := RX0) (T := TX0) (N := 7) hx hb hts ku_X0_findSplits_X0 hown hK hP 0 rfl rfl 2 (by decide) (hts _ kw_X0_findSplits_4) (fun _ h9 => h9) rfl dX0_findSplits_80 ?_
          refine lv_iconst (v := (2 : Int32)) hx hb dX0_findSplits_83 (by decide) ?_
          refine lv_iload_n hx hb dX0_findSplits_84 rfl (lv_at hl 3 rfl) ?_
          refine lv_imul hx hb dX0_findSplits_85 ?_
          refine lv_iconst (v := (1 : Int32)) hx hb dX0_findSplits_86 (by decide) ?_
          refine lv_iadd hx hb dX0_findSplits_87 ?_
          refine lv_aload_n hx hb dX0_findSplits_88 rfl (lv_at hl 2 rfl) ?_
          refine lv_iload hx hb dX0_findSplits_89 (lv_at hl 4 rfl) ?_
          refine lv_aload_n hx hb dX0_findSplits_91 rfl (lv_at hl 2 rfl) ?_
          refine lv_iload hx hb dX0_findSplits_92 (lv_at hl 4 rfl) ?_
          obtain ⟨r56, er56, hf⟩ := fp_b hf
          refine RoI.callV (c_X2_kindAt (l := l) (D := D) (cI := cI) (cJ := cJ) (cZ := cZ) (cQ := cQ) (qs := qs) er56) F (cwV 1 hts gX0_findSplits_X2_kindAt rfl rfl rfl yd_X2_kindAt ⟨Nat.le_of_ble_eq_true rfl, Nat.le_of_ble_eq_true rfl⟩) (hG.r hS) hP [1, 2] rfl 2 rfl rfl rfl hl.1 rfl (Nat.le_of_ble_eq_true rfl) dX0_findSplits_94 ⟨Nat.zero_le _, Nat.zero_le _⟩ ?_
          refine lv_iload hx hb dX0_findSplits_97 (lv_at hl 0 rfl) ?_
          obtain ⟨r57, er57, hf⟩ := fp_b hf
          refine RoI.callN (c_X5_turnedBy (l := l) (D := D) (cI := cI) (cJ := cJ) (cZ := cZ) (cQ := cQ) (qs := qs) er57) F ⟨va_cnB 2 hts gX0_findSplits_X5_turnedBy_n88 rfl rfl rfl (nwm_5 hG.1) (hts _ kw_X0_findSplits_37) yd_X5_turnedBy ⟨Nat.le_of_ble_eq_true rfl, Nat.le_of_ble_eq_true rfl⟩, hts _ kw_X0_findSplits_39, trivial⟩ (hG.r hS) hP [] rfl rfl hl.1 rfl (Nat.le_of_ble_eq_true rfl) dX0_findSplits_99 ⟨Nat.zero_le _, Nat.zero_le _⟩ ?_
          obtain ⟨r58, er58, hf⟩ := fp_b hf
          refine RoI.callS (c_X0_endBeyond (l := l) (D := D) (cI := cI) (cJ := cJ) (cZ := cZ) (cQ := cQ) (qs := qs) er58) F (va_cwS 3 hts gX0_findSplits_X0_endBeyond rfl rfl rfl yd_X0_endBeyond ⟨Nat.le_of_ble_eq_true rfl, Nat.le_of_ble_eq_true rfl⟩) (hG.r hS) hP [1, 2] rfl rfl hl.1 rfl (Nat.le_of_ble_eq_true rfl) dX0_findSplits_102 ⟨Nat.zero_le _, Nat.zero_le _⟩ ?_
          obtain ⟨k59, hf⟩ := fp_c hf
          refine va_iast hx hb hK hP hD hS 5 0 rfl rfl k59 dX0_findSplits_105 (fun H locs hP hD hS => ?_)
          have hP : va_P D vwCl [(hBe, .inr (0, [.ref hBp, .ref hBn, .ref hBr, .ref hBo, .ref hBs, .int bq, .long bw])), (hRmO, .inr (2, [.ref hKdO, .int coO, .int roO])), (hKdO, .inl (cI, 20, .inl kdO)), (hBp, .inl (cI, 10, .inl bp)), (hBn, .inl (cI, 60, .inl bn)), (hBr, .inl (cI, 20, .inl (upd (upd br (Int32.toNatClampNeg ((2 : Int32) * y3)) r54) (Int32.toNatClampNeg (((2 : Int32) * y3) + (1 : Int32))) r58)))] H := hP
          have hD : va_D A [(hBe, .inr (0, [.ref hBp, .ref hBn, .ref hBr, .ref hBo, .ref hBs, .int bq, .long bw])), (hRmO, .inr (2, [.ref hKdO, .int coO, .int roO])), (hKdO, .inl (cI, 20, .inl kdO)), (hBp, .inl (cI, 10, .inl bp)), (hBn, .inl (cI, 60, .inl bn)), (hBr, .inl (cI, 20, .inl (upd (upd br (Int32.toNatClampNeg ((2 : Int32) * y3)) r54) (Int32.toNatClampNeg (((2 : Int32) * y3) + (1 : Int32))) r58)))] := hD
          refine lv_aload_n hx hb dX0_findSplits_106 rfl (lv_at hl 1 rfl) ?_
          refine lv_aload_n hx hb dX0_findSplits_107 rfl (lv_at hl 1 rfl) ?_
          refine va_get (D := D) (ci := 0) (v := .ref hBr) (C := RX0) (T := TX0) (N := 7) hx hb hts ku_X0_findSplits_X0 hown hK hP 0 rfl rfl 2 (by decide) (hts _ kw_X0_findSplits_4) (fun _ h9 => h9) rfl dX0_findSplits_108 ?_
          refine lv_iconst (v := (2 : Int32)) hx hb dX0_findSplits_111 (by decide) ?_
          refine lv_iload_n hx hb dX0_findSplits_112 rfl (lv_at hl 3 rfl) ?_
          refine lv_imul hx hb dX0_findSplits_113 ?_
          refine va_iald hx hb hK hP 5 0 rfl rfl k55 dX0_findSplits_114 ?_
          obtain ⟨r60, er60, hf⟩ := fp_b hf
          refine kc_rwV (w2 := [(hBe, .inr (0, [.ref hBp, .ref hBn, .ref hBr, .ref hBo, .ref hBs, .int r60.1, .long bw])), (hRmO, .inr (2, [.ref hKdO, .int coO, .int roO])), (hKdO, .inl (cI, 20, .inl kdO)), (hBp, .inl (cI, 10, .inl r60.2.1)), (hBn, .inl (cI, 60, .inl r60.2.2)), (hBr, .inl (cI, 20, .inl (upd (upd br (Int32.toNatClampNeg ((2 : Int32) * y3)) r54) (Int32.toNatClampNeg (((2 : Int32) * y3) + (1 : Int32))) r58)))]) (RwV.runV (c_X0_noteSplit (l := l) (D := D) (cI := cI) (cJ := cJ) (cZ := cZ) (cQ := cQ) (qs := qs) er60) F (cwV 1 hts gX0_findSplits_X0_noteSplit rfl rfl rfl yd_X0_noteSplit ⟨Nat.le_of_ble_eq_true rfl, Nat.le_of_ble_eq_true rfl⟩) hG hP hD hS hA [0, 3, 4] (by decide) rfl 0 rfl rfl rfl hl.1 rfl (Nat.le_of_ble_eq_true rfl) dX0_findSplits_115 ⟨Nat.zero_le _, Nat.zero_le _⟩) hP hD hS hA [0, 3, 4] [1, 2, 5] [3, 0, 1, 4, 5, 2] rfl (wr := [(hRmO, .inr (2, [.ref hKdO, .int coO, .int roO])), (hKdO, .inl (cI, 20, .inl kdO)), (hBr, .inl (cI, 20, .inl (upd (upd br (Int32.toNatClampNeg ((2 : Int32) * y3)) r54) (Int32.toNatClampNeg (((2 : Int32) * y3) + (1 : Int32))) r58)))]) rfl (by decide) (by decide) rfl (by decide) (fun H locs hP hD hS => ?_)
          refine lv_aload_n hx hb dX0_findSplits_118 rfl (lv_at hl 1 rfl) ?_
          refine lv_aload_n hx hb dX0_findSplits_119 rfl (lv_at hl 1 rfl) ?_
          refine va_get (D := D) (ci := 0) (v := .ref hBr) (C := RX0) (T := TX0) (N := 7) hx hb hts ku_X0_findSplits_X0 hown hK hP 0 rfl rfl 2 (by decide) (hts _ kw_X0_findSplits_4) (fun _ h9 => h9) rfl dX0_findSplits_120 ?_
          refine lv_iconst (v := (2 : Int32)) hx hb dX0_findSplits_123 (by decide) ?_
          refine lv_iload_n hx hb dX0_findSplits_124 rfl (lv_at hl 3 rfl) ?_
          refine lv_imul hx hb dX0_findSplits_125 ?_
          refine lv_iconst (v := (1 : Int32)) hx hb dX0_findSplits_126 (by decide) ?_
          refine lv_iadd hx hb dX0_findSplits_127 ?_
          refine va_iald hx hb hK hP 5 0 rfl rfl k59 dX0_findSplits_128 ?_
          obtain ⟨r61, er61, hf⟩ := fp_b hf
          refine kc_rwV (w2 := [(hBe, .inr (0, [.ref hBp, .ref hBn, .ref hBr, .ref hBo, .ref hBs, .int r61.1, .long bw])), (hRmO, .inr (2, [.ref hKdO, .int coO, .int roO])), (hKdO, .inl (cI, 20, .inl kdO)), (hBp, .inl (cI, 10, .inl r61.2.1)), (hBn, .inl (cI, 60, .inl r61.2.2)), (hBr, .inl (cI, 20, .inl (upd (upd br (Int32.toNatClampNeg ((2 : Int32) * y3)) r54) (Int32.toNatClampNeg (((2 : Int32) * y3) + (1 : Int32))) r58)))]) (RwV.runV (c_X0_noteSplit (l := l) (D := D) (cI := cI) (cJ := cJ) (cZ := cZ) (cQ := cQ) (qs := qs) er61) F (cwV 1 hts gX0_findSplits_X0_noteSplit rfl rfl rfl yd_X0_noteSplit ⟨Nat.le_of_ble_eq_true rfl, Nat.le_of_ble_eq_true rfl⟩) hG hP hD hS hA [0, 3, 4] (by decide) rfl 0 rfl rfl rfl hl.1 rfl (Nat.le_of_ble_eq_true rfl) dX0_findSplits_129 ⟨Nat.zero_le _, Nat.zero_le _⟩) hP hD hS hA [0, 3, 4] [1, 2, 5] [3, 0, 1, 4, 5, 2] rfl (wr := [(hRmO, .inr (2, [.ref hKdO, .int coO, .int roO])), (hKdO, .inl (cI, 20, .inl kdO)), (hBr, .inl (cI, 20, .inl (upd (upd br (Int32.toNatClampNeg ((2 : Int32) * y3)) r54) (Int32.toNatClampNeg (((2 : Int32) * y3) + (1 : Int32))) r58)))]) rfl (by decide) (by decide) rfl (by decide) (fun H locs hP hD hS => ?_)
          refine lv_iinc (v := (y3 + (1 : Int32))) (lv' := [(3, .int (y3 + (1 : Int32))), (5, .int j52), (0, .ref hBe), (1, .ref hRmO), (4, .int ((bp y3.toNatClampNeg) / (2 : Int32)))]) hx hb dX0_findSplits_132 hl (k := 3) rfl rfl (by decide) rfl (fun ls hl => ?_)
          refine lv_goto (tgt := 21) hx hb dX0_findSplits_135 (by decide) ?_
          cases hf
          exact ih _ (fp_inl ho) hP hD hS (lv_sub hl [2, 3, 0] rfl) hex
        replace hf := ej52
        refine lv_if_ne (tgt := 60) hx hb dX0_findSplits_53 (by decide) (fun c62 => ?_) (fun c62 => ?_)
        · have hf := fp_f hf c62
          refine lv_iconst (v := (2 : Int32)) hx hb dX0_findSplits_60 (by decide) ?_
          cases hf
          exact hj53 _ _ _ hP hD hS (lv_sub hl [1, 2, 3, 0] rfl)
        · have hf := fp_t hf c62
          refine lv_iconst (v := (0 : Int32)) hx hb dX0_findSplits_56 (by decide) ?_
          refine lv_goto (tgt := 61) hx hb dX0_findSplits_57 (by decide) ?_
          cases hf
          exact hj53 _ _ _ hP hD hS (lv_sub hl [1, 2, 3, 0] rfl)
def f_X0_findSplits (coO : Int32) (roO : Int32) (kdO : Nat → Int32) (bq : Int32) (bp : Nat → Int32) (bn : Nat → Int32) (br : Nat → Int32) (x2 : Int32) : Option (Int32 × (Nat → Int32) × (Nat → Int32) × (Nat → Int32)) :=
  Option.bind (f_J7_fill_53178 60 bn (-4 : Int32)) (fun r47 => Option.bind (f_X0_noteSplit (0 : Int32) bp r47 x2) (fun r48 => Option.bind (lpf (fun s => f_X0_findSplits_21 coO roO kdO s.1 s.2.1 s.2.2.1 s.2.2.2.1 s.2.2.2.2) 1000 ((0 : Int32), r48.1, r48.2.1, r48.2.2, br)) (fun o63 => some (o63.1, o63.2.1, o63.2.2.1, o63.2.2.2))))
set_option maxHeartbeats 4000000 in
set_option maxRecDepth 100000 in
theorem b_X0_findSplits {p : Program} {l : Launch} {e : Env} {s : State} {m : MethodId} {args : Array Value} {below : List Frame} {meth : Method} {c : Code} {Q : State → Prop} {A : Nat → Prop} {H : Heap} {locs : List Loc} {D : va_G} {cI cJ cZ cQ : ClassId} {qs : Nat × Nat × Nat} {hBe hBp hBn hBr hBo hBs hRmO hKdO : Nat} {coO : Int32} {roO : Int32} {kdO : Nat → Int32} {bq : Int32} {bw : Int64} {bp : Nat → Int32} {bn : Nat → Int32} {br : Nat → Int32} {x2 : Int32} {out : Int32 × (Nat → Int32) × (Nat → Int32) × (Nat → Int32)} (F : CallFix p m c cX0_findSplits 6 s args wsX0_findSplits RX0) (hG : kW D (ty4 cI cJ cZ cQ) qs A s s.heap) (hA : ∀ q : Nat, s.heap.size ≤ q → A q) (hP : va_P D vwCl [(hBe, .inr (0, [.ref hBp, .ref hBn, .ref hBr, .ref hBo, .ref hBs, .int bq, .long bw])), (hRmO, .inr (2, [.ref hKdO, .int coO, .int roO])), (hKdO, .inl (cI, 20, .inl kdO)), (hBp, .inl (cI, 10, .inl bp)), (hBn, .inl (cI, 60, .inl bn)), (hBr, .inl (cI, 20, .inl br))] H) (hD : va_D A [(hBe, .inr (0, [.ref hBp, .ref hBn, .ref hBr, .ref hBo, .ref hBs, .int bq, .long bw])), (hRmO, .inr (2, [.ref hKdO, .int coO, .int roO])), (hKdO, .inl (cI, 20, .inl kdO)), (hBp, .inl (cI, 10, .inl bp)), (hBn, .inl (cI, 60, .inl bn)), (hBr, .inl (cI, 20, .inl br))]) (hS : va_S A s.heap H locs) (hf : f_X0_findSplits coO roO kdO bq bp bn br x2 = some out) (hret : ∀ (pc : Nat) (H : Heap) (locs : List Loc) (ls : Array Slot), decode cX0_findSplits pc = .ok (.return_, 1) → va_P D vwCl [(hBe, .inr (0, [.ref hBp, .ref hBn, .ref hBr, .ref hBo, .ref hBs, .int out.1, .long bw])), (hRmO, .inr (2, [.ref hKdO, .int coO, .int roO])), (hKdO, .inl (cI, 20, .inl kdO)), (hBp, .inl (cI, 10, .inl out.2.1)), (hBn, .inl (cI, 60, .inl out.2.2.1)), (hBr, .inl (cI, 20, .inl out.2.2.2))] H → va_D A [(hBe, .inr (0, [.ref hBp, .ref hBn, .ref hBr, .ref hBo, .ref hBs, .int out.1, .long bw])), (hRmO, .inr (2, [.ref hKdO, .int coO, .int roO])), (hKdO, .inl (cI, 20, .inl kdO)), (hBp, .inl (cI, 10, .inl out.2.1)), (hBn, .inl (cI, 60, .inl out.2.2.1)), (hBr, .inl (cI, 20, .inl out.2.2.2))] → va_S A s.heap H locs → W p l e { frames := 4, cells := 0, slots := 0, locals := 91 } s m args below meth c H locs 0 0 Q (F0 m pc ls [])) {ls : Array Slot} (hl : lv_has ls 6 [(0, .ref hBe), (1, .ref hRmO), (2, .int x2)]) : W p l e { frames := 4, cells := 0, slots := 0, locals := 91 } s m args below meth c H locs 0 0 Q (F0 m 0 ls []) := by
  have hx := F.1
  have hb := F.2.1
  have hown := F.2.2.2.1
  have hts := F.2.2.2.2
  have hK := hG.1.1
  rw [f_X0_findSplits] at hf
  refine lv_aload_n hx hb dX0_findSplits_0 rfl (lv_at hl 0 rfl) ?_
  refine va_get (D := D) (ci := 0) (v := .ref hBn) (C := RX0) (T := TX0) (N := 7) hx hb hts ku_X0_findSplits_X0 hown hK hP 0 rfl rfl 1 (by decide) (hts _ kw_X0_findSplits_1) (fun _ h9 => h9) rfl dX0_findSplits_1 ?_
  refine lv_bipush (v := (-4 : Int32)) hx hb dX0_findSplits_4 (by decide) ?_
  obtain ⟨r47, er47, hf⟩ := fp_b hf
  refine kc_rwV (w2 := [(hBe, .inr (0, [.ref hBp, .ref hBn, .ref hBr, .ref hBo, .ref hBs, .int bq, .long bw])), (hRmO, .inr (2, [.ref hKdO, .int coO, .int roO])), (hKdO, .inl (cI, 20, .inl kdO)), (hBp, .inl (cI, 10, .inl bp)), (hBn, .inl (cI, 60, .inl r47)), (hBr, .inl (cI, 20, .inl br))]) (RwV.runS (c_J7_fill_53178 (l := l) (D := D) (cI := cI) (cJ := cJ) (cZ := cZ) (cQ := cQ) (qs := qs) er47) F (va_cwS 2 hts gX0_findSplits_J7_fill_53178 rfl rfl rfl yd_J7_fill_53178 ⟨Nat.le_of_ble_eq_true rfl, Nat.le_of_ble_eq_true rfl⟩) hG hP hD hS hA [4] (by decide) rfl rfl hl.1 rfl (Nat.le_of_ble_eq_true rfl) dX0_findSplits_6 ⟨Nat.zero_le _, Nat.zero_le _⟩) hP hD hS hA [4] [0, 1, 2, 3, 5] [0, 1, 2, 3, 5, 4] rfl (wr := [(hBe, .inr (0, [.ref hBp, .ref hBn, .ref hBr, .ref hBo, .ref hBs, .int bq, .long bw])), (hRmO, .inr (2, [.ref hKdO, .int coO, .int roO])), (hKdO, .inl (cI, 20, .inl kdO)), (hBp, .inl (cI, 10, .inl bp)), (hBr, .inl (cI, 20, .inl br))]) rfl (by decide) (by decide) rfl (by decide) (fun H locs hP hD hS => ?_)
  refine lv_aload_n hx hb dX0_findSplits_9 rfl (lv_at hl 0 rfl) ?_
  refine lv_iconst (v := (0 : Int32)) hx hb dX0_findSplits_10 (by decide) ?_
  refine va_put (D := D) (ci := 0) (v := .int (0 : Int32)) (ty := .int) (C := RX0) (T := TX0) (N := 7) hx hb hts ku_X0_findSplits_X0 tyX0 tyX0_ok nmX0 hown hK hP hD hS 0 rfl rfl 5 (by decide) (hts _ kw_X0_findSplits_2) (fun _ h9 => h9) rfl (by decide +kernel) rfl rfl (Nat.le_of_ble_eq_true rfl) dX0_findSplits_11 (fun H locs hP hD hS => ?_)
  have hP : va_P D vwCl [(hBe, .inr (0, [.ref hBp, .ref hBn, .ref hBr, .ref hBo, .ref hBs, .int (0 : Int32), .long bw])), (hRmO, .inr (2, [.ref hKdO, .int coO, .int roO])), (hKdO, .inl (cI, 20, .inl kdO)), (hBp, .inl (cI, 10, .inl bp)), (hBn, .inl (cI, 60, .inl r47)), (hBr, .inl (cI, 20, .inl br))] H := hP
  have hD : va_D A [(hBe, .inr (0, [.ref hBp, .ref hBn, .ref hBr, .ref hBo, .ref hBs, .int (0 : Int32), .long bw])), (hRmO, .inr (2, [.ref hKdO, .int coO, .int roO])), (hKdO, .inl (cI, 20, .inl kdO)), (hBp, .inl (cI, 10, .inl bp)), (hBn, .inl (cI, 60, .inl r47)), (hBr, .inl (cI, 20, .inl br))] := hD
  refine lv_aload_n hx hb dX0_findSplits_14 rfl (lv_at hl 0 rfl) ?_
  refine lv_iload_n hx hb dX0_findSplits_15 rfl (lv_at hl 2 rfl) ?_
  obtain ⟨r48, er48, hf⟩ := fp_b hf
  refine kc_rwV (w2 := [(hBe, .inr (0, [.ref hBp, .ref hBn, .ref hBr, .ref hBo, .ref hBs, .int r48.1, .long bw])), (hRmO, .inr (2, [.ref hKdO, .int coO, .int roO])), (hKdO, .inl (cI, 20, .inl kdO)), (hBp, .inl (cI, 10, .inl r48.2.1)), (hBn, .inl (cI, 60, .inl r48.2.2)), (hBr, .inl (cI, 20, .inl br))]) (RwV.runV (c_X0_noteSplit (l := l) (D := D) (cI := cI) (cJ := cJ) (cZ := cZ) (cQ := cQ) (qs := qs) er48) F (cwV 1 hts gX0_findSplits_X0_noteSplit rfl rfl rfl yd_X0_noteSplit ⟨Nat.le_of_ble_eq_true rfl, Nat.le_of_ble_eq_true rfl⟩) hG hP hD hS hA [0, 3, 4] (by decide) rfl 0 rfl rfl rfl hl.1 rfl (Nat.le_of_ble_eq_true rfl) dX0_findSplits_16 ⟨Nat.zero_le _, Nat.zero_le _⟩) hP hD hS hA [0, 3, 4] [1, 2, 5] [3, 0, 1, 4, 5, 2] rfl (wr := [(hRmO, .inr (2, [.ref hKdO, .int coO, .int roO])), (hKdO, .inl (cI, 20, .inl kdO)), (hBr, .inl (cI, 20, .inl br))]) rfl (by decide) (by decide) rfl (by decide) (fun H locs hP hD hS => ?_)
  refine lv_iconst (v := (0 : Int32)) hx hb dX0_findSplits_19 (by decide) ?_
  refine lv_istore_n (lv' := [(3, .int (0 : Int32)), (0, .ref hBe), (1, .ref hRmO), (2, .int x2)]) hx hb dX0_findSplits_20 rfl hl (by decide) rfl (fun ls hl => ?_)
  obtain ⟨o63, eo63, hf⟩ := fp_b hf
  refine lp_X0_findSplits_21 F hG hA _ _ eo63 hP hD hS (lv_sub hl [1, 2, 0] rfl) (fun H locs ls hP hD hS hl => ?_)
  cases hf
  exact hret _ _ _ _ dX0_findSplits_138 hP hD hS
set_option maxRecDepth 100000 in
theorem c_X0_findSplits {l : Launch} {D : va_G} {cI cJ cZ cQ : ClassId} {qs : Nat × Nat × Nat} {hBe hBp hBn hBr hBo hBs hRmO hKdO : Nat} {coO : Int32} {roO : Int32} {kdO : Nat → Int32} {bq : Int32} {bw : Int64} {bp : Nat → Int32} {bn : Nat → Int32} {br : Nat → Int32} {x2 : Int32} {out : Int32 × (Nat → Int32) × (Nat → Int32) × (Nat → Int32)} (hf : f_X0_findSplits coO roO kdO bq bp bn br x2 = some out) : RwV l yX0_findSplits wsX0_findSplits { frames := 4, cells := 0, slots := 0, locals := 91 } D (ty4 cI cJ cZ cQ) qs [.ref hBe, .ref hRmO, .int x2] [(hBe, .inr (0, [.ref hBp, .ref hBn, .ref hBr, .ref hBo, .ref hBs, .int bq, .long bw])), (hRmO, .inr (2, [.ref hKdO, .int coO, .int roO])), (hKdO, .inl (cI, 20, .inl kdO)), (hBp, .inl (cI, 10, .inl bp)), (hBn, .inl (cI, 60, .inl bn)), (hBr, .inl (cI, 20, .inl br))] [(hBe, .inr (0, [.ref hBp, .ref hBn, .ref hBr, .ref hBo, .ref hBs, .int out.1, .long bw])), (hRmO, .inr (2, [.ref hKdO, .int coO, .int roO])), (hKdO, .inl (cI, 20, .inl kdO)), (hBp, .inl (cI, 10, .inl out.2.1)), (hBn, .inl (cI, 60, .inl out.2.2.1)), (hBr, .inl (cI, 20, .inl out.2.2.2))] :=
  RwV.of (own := RX0) (by decide +kernel) rfl rfl (Nat.le_of_ble_eq_true rfl) (fun F hG hA hP hD hS hret ls hl => b_X0_findSplits F hG hA hP hD hS hf hret hl)
-- method X0_setRows
theorem yd_X0_setRows : yX0_setRows.cls = RX0 ∧ yX0_setRows.cls ≠ "java/lang/invoke/MethodHandle" ∧ yX0_setRows.cls ≠ "java/lang/invoke/VarHandle" ∧ (parseMethodDescriptor yX0_setRows.desc).map (fun d => d.parameters.length) = some 0 := by decide +kernel
theorem ku_X0_setRows_X0 : ∀ w ∈ u_ws RX0 TX0 7, w ∈ wsX0_setRows := by decide +kernel
theorem kw_X0_setRows_1 : Cond.fieldLink RX0 30 "MirrorShares$Beam" "splits" "I" ∈ wsX0_setRows := List.mem_of_getElem? (i := 1) rfl
theorem kw_X0_setRows_2 : Cond.fieldLink RX0 23 "MirrorShares$Beam" "rows" "[[J" ∈ wsX0_setRows := List.mem_of_getElem? (i := 2) rfl
theorem kw_X0_setRows_3 : Cond.constantLong RX0 108 (2) ∈ wsX0_setRows := List.mem_of_getElem? (i := 3) rfl
theorem kw_X0_setRows_4 : Cond.fieldLink RX0 18 "MirrorShares$Beam" "rayEnd" "[I" ∈ wsX0_setRows := List.mem_of_getElem? (i := 4) rfl
theorem kw_X0_setRows_5 : Cond.fieldLink RX0 15 "MirrorShares$Beam" "splitNumber" "[I" ∈ wsX0_setRows := List.mem_of_getElem? (i := 5) rfl
def f_X0_setRows_2 (bq : Int32) (bn : Nat → Int32) (br : Nat → Int32) (y1 : Int32) (bM : Nat → Nat → Int64) : Option ((Int32 × (Nat → Nat → Int64)) ⊕ ((Nat → Nat → Int64))) :=
  (if bq ≤ y1 then some (Sum.inr bM) else chk (aix y1 10) (Option.bind (f_J7_fill_d0a16 11 (bM y1.toNatClampNeg) (0 : Int64)) (fun r66 => chk (aix y1 11) ((if y1 = 0 then chk (aix bq 11) (some (Sum.inl ((y1 + (1 : Int32)), (gr_r (gr_r (gr_r bM y1.toNatClampNeg r66) y1.toNatClampNeg (vp_updL ((gr_r bM y1.toNatClampNeg r66) y1.toNatClampNeg) y1.toNatClampNeg (2 : Int64))) y1.toNatClampNeg (vp_updL ((gr_r (gr_r bM y1.toNatClampNeg r66) y1.toNatClampNeg (vp_updL ((gr_r bM y1.toNatClampNeg r66) y1.toNatClampNeg) y1.toNatClampNeg (2 : Int64))) y1.toNatClampNeg) bq.toNatClampNeg (1 : Int64)))))) else chk (aix bq 11) (some (Sum.inl ((y1 + (1 : Int32)), (gr_r (gr_r (gr_r bM y1.toNatClampNeg r66) y1.toNatClampNeg (vp_updL ((gr_r bM y1.toNatClampNeg r66) y1.toNatClampNeg) y1.toNatClampNeg (2 : Int64))) y1.toNatClampNeg (vp_updL ((gr_r (gr_r bM y1.toNatClampNeg r66) y1.toNatClampNeg (vp_updL ((gr_r bM y1.toNatClampNeg r66) y1.toNatClampNeg) y1.toNatClampNeg (2 : Int64))) y1.toNatClampNeg) bq.toNatClampNeg (0 : Int64)))))))))))
set_option maxHeartbeats 4000000 in
set_option maxRecDepth 100000 in
theorem lp_X0_setRows_2 {p : Program} {l : Launch} {e : Env} {s : State} {m : MethodId} {args : Array Value} {below : List Frame} {meth : Method} {c : Code} {Q : State → Prop} {A : Nat → Prop} {D : va_G} {cI cJ cZ cQ : ClassId} {qs : Nat × Nat × Nat} {hBe hBp hBn hBr hBo hBs : Nat} {hBg : Nat → Nat} {bq : Int32} {bn : Nat → Int32} {br : Nat → Int32} {bw : Int64} (F : CallFix p m c cX0_setRows 4 s args wsX0_setRows RX0) (hG : kW D (ty4 cI cJ cZ cQ) qs A s s.heap) (hA : ∀ q : Nat, s.heap.size ≤ q → A q) :
    ∀ (n : Nat) {y1 : Int32} {bM : Nat → Nat → Int64} (out : (Nat → Nat → Int64)), lpf (fun s => f_X0_setRows_2 bq bn br s.1 s.2) n (y1, bM) = some out → ∀ {H : Heap} {locs : List Loc} {ls : Array Slot}, va_P D vwCl ([(hBe, .inr (0, [.ref hBp, .ref hBn, .ref hBr, .ref hBo, .ref hBs, .int bq, .long bw])), (hBn, .inl (cI, 60, .inl bn)), (hBr, .inl (cI, 20, .inl br)), (hBo, .inl (cQ, 10, .inr (.inr (.inr (.inr (gr_o hBg))))))] ++ gr_c cJ hBg bM) H → va_D A ([(hBe, .inr (0, [.ref hBp, .ref hBn, .ref hBr, .ref hBo, .ref hBs, .int bq, .long bw])), (hBn, .inl (cI, 60, .inl bn)), (hBr, .inl (cI, 20, .inl br)), (hBo, .inl (cQ, 10, .inr (.inr (.inr (.inr (gr_o hBg))))))] ++ gr_c cJ hBg bM) → va_S A s.heap H locs → lv_has ls 4 [(0, .ref hBe), (1, .int y1)] → (∀ (H : Heap) (locs : List Loc) (ls : Array Slot), va_P D vwCl ([(hBe, .inr (0, [.ref hBp, .ref hBn, .ref hBr, .ref hBo, .ref hBs, .int bq, .long bw])), (hBn, .inl (cI, 60, .inl bn)), (hBr, .inl (cI, 20, .inl br)), (hBo, .inl (cQ, 10, .inr (.inr (.inr (.inr (gr_o hBg))))))] ++ gr_c cJ hBg out) H → va_D A ([(hBe, .inr (0, [.ref hBp, .ref hBn, .ref hBr, .ref hBo, .ref hBs, .int bq, .long bw])), (hBn, .inl (cI, 60, .inl bn)), (hBr, .inl (cI, 20, .inl br)), (hBo, .inl (cQ, 10, .inr (.inr (.inr (.inr (gr_o hBg))))))] ++ gr_c cJ hBg out) → va_S A s.heap H locs → lv_has ls 4 [(0, .ref hBe)] → W p l e { frames := 1, cells := 0, slots := 0, locals := 24 } s m args below meth c H locs 0 0 Q (F0 m 57 ls [])) → W p l e { frames := 1, cells := 0, slots := 0, locals := 24 } s m args below meth c H locs 0 0 Q (F0 m 2 ls []) := by
  have hx := F.1
  have hb := F.2.1
  have hown := F.2.2.2.1
  have hts := F.2.2.2.2
  have hK := hG.1.1
  intro n
  induction n with
  | zero =>
    intro y1 bM out ho
    exact (fp_l0 ho).elim
  | succ n ih =>
    intro y1 bM out ho H locs ls hP hD hS hl hex
    obtain ⟨o, hf, ho⟩ := fp_l ho
    have hf : f_X0_setRows_2 bq bn br y1 bM = some o := hf
    rw [f_X0_setRows_2] at hf
    refine lv_iload_n hx hb dX0_setRows_2 rfl (lv_at hl 1 rfl) ?_
    refine lv_aload_n hx hb dX0_setRows_3 rfl (lv_at hl 0 rfl) ?_
    refine va_get (D := D) (ci := 0) (v := .int bq) (C := RX0) (T := TX0) (N := 7) hx hb hts ku_X0_setRows_X0 hown hK hP 0 rfl rfl 5 (by decide) (hts _ kw_X0_setRows_1) (fun _ h9 => h9) rfl dX0_setRows_4 ?_
    refine lv_icmp_ge (tgt := 57) hx hb dX0_setRows_7 (by decide) (fun c64 => ?_) (fun c64 => ?_)
    · have hf := fp_t hf c64
      cases hf
      have ho := fp_inr ho
      cases ho
      exact hex _ _ _ hP hD hS (lv_sub hl [0] rfl)
    · have hf := fp_f hf c64
      refine lv_aload_n hx hb dX0_setRows_10 rfl (lv_at hl 0 rfl) ?_
      refine va_get (D := D) (ci := 0) (v := .ref hBo) (C := RX0) (T := TX0) (N := 7) hx hb hts ku_X0_setRows_X0 hown hK hP 0 rfl rfl 3 (by decide) (hts _ kw_X0_setRows_2) (fun _ h9 => h9) rfl dX0_setRows_11 ?_
      refine lv_iload_n hx hb dX0_setRows_14 rfl (lv_at hl 1 rfl) ?_
      obtain ⟨k65, hf⟩ := fp_c hf
      refine gr_aald hx hb hK hP 3 3 rfl rfl k65 dX0_setRows_15 ?_
      refine lv_lconst (v := 0) hx hb dX0_setRows_16 (by decide) ?_
      obtain ⟨r66, er66, hf⟩ := fp_b hf
      refine gr_rwV1 (RwV.runS (c_J7_fill_d0a16 (l := l) (D := D) (cI := cI) (cJ := cJ) (cZ := cZ) (cQ := cQ) (qs := qs) er66) F (va_cwS 2 hts gX0_setRows_J7_fill_d0a16 rfl rfl rfl yd_J7_fill_d0a16 ⟨Nat.le_of_ble_eq_true rfl, Nat.le_of_ble_eq_true rfl⟩) hG hP hD hS hA [_] rfl (gr_hs1 (gr_lt k65)) rfl hl.1 rfl (Nat.le_of_ble_eq_true rfl) dX0_setRows_17 ⟨Nat.zero_le _, Nat.zero_le _⟩) hP hD hS hA (gr_lt k65) (fun H locs hP hD hS => ?_)
      have hP : va_P D vwCl ([(hBe, .inr (0, [.ref hBp, .ref hBn, .ref hBr, .ref hBo, .ref hBs, .int bq, .long bw])), (hBn, .inl (cI, 60, .inl bn)), (hBr, .inl (cI, 20, .inl br)), (hBo, .inl (cQ, 10, .inr (.inr (.inr (.inr (gr_o hBg))))))] ++ gr_c cJ hBg (gr_r bM y1.toNatClampNeg r66)) H := hP
      have hD : va_D A ([(hBe, .inr (0, [.ref hBp, .ref hBn, .ref hBr, .ref hBo, .ref hBs, .int bq, .long bw])), (hBn, .inl (cI, 60, .inl bn)), (hBr, .inl (cI, 20, .inl br)), (hBo, .inl (cQ, 10, .inr (.inr (.inr (.inr (gr_o hBg))))))] ++ gr_c cJ hBg (gr_r bM y1.toNatClampNeg r66)) := hD
      refine lv_aload_n hx hb dX0_setRows_20 rfl (lv_at hl 0 rfl) ?_
      refine va_get (D := D) (ci := 0) (v := .ref hBo) (C := RX0) (T := TX0) (N := 7) hx hb hts ku_X0_setRows_X0 hown hK hP 0 rfl rfl 3 (by decide) (hts _ kw_X0_setRows_2) (fun _ h9 => h9) rfl dX0_setRows_21 ?_
      refine lv_iload_n hx hb dX0_setRows_24 rfl (lv_at hl 1 rfl) ?_
      refine gr_aald hx hb hK hP 3 3 rfl rfl k65 dX0_setRows_25 ?_
      refine lv_iload_n hx hb dX0_setRows_26 rfl (lv_at hl 1 rfl) ?_
      refine lv_ldc2 hx hb hown (hts _ kw_X0_setRows_3) dX0_setRows_27 ?_
      obtain ⟨k67, hf⟩ := fp_c hf
      refine gr_last hx hb hK hP hD hS 1 rfl (gr_lt k65) k67 dX0_setRows_30 (fun H locs hP hD hS => ?_)
      have hP : va_P D vwCl ([(hBe, .inr (0, [.ref hBp, .ref hBn, .ref hBr, .ref hBo, .ref hBs, .int bq, .long bw])), (hBn, .inl (cI, 60, .inl bn)), (hBr, .inl (cI, 20, .inl br)), (hBo, .inl (cQ, 10, .inr (.inr (.inr (.inr (gr_o hBg))))))] ++ gr_c cJ hBg (gr_r (gr_r bM y1.toNatClampNeg r66) y1.toNatClampNeg (vp_updL ((gr_r bM y1.toNatClampNeg r66) y1.toNatClampNeg) y1.toNatClampNeg (2 : Int64)))) H := hP
      have hD : va_D A ([(hBe, .inr (0, [.ref hBp, .ref hBn, .ref hBr, .ref hBo, .ref hBs, .int bq, .long bw])), (hBn, .inl (cI, 60, .inl bn)), (hBr, .inl (cI, 20, .inl br)), (hBo, .inl (cQ, 10, .inr (.inr (.inr (.inr (gr_o hBg))))))] ++ gr_c cJ hBg (gr_r (gr_r bM y1.toNatClampNeg r66) y1.toNatClampNeg (vp_updL ((gr_r bM y1.toNatClampNeg r66) y1.toNatClampNeg) y1.toNatClampNeg (2 : Int64)))) := hD
      refine lv_aload_n hx hb dX0_setRows_31 rfl (lv_at hl 0 rfl) ?_
      refine va_get (D := D) (ci := 0) (v := .ref hBo) (C := RX0) (T := TX0) (N := 7) hx hb hts ku_X0_setRows_X0 hown hK hP 0 rfl rfl 3 (by decide) (hts _ kw_X0_setRows_2) (fun _ h9 => h9) rfl dX0_setRows_32 ?_
      refine lv_iload_n hx hb dX0_setRows_35 rfl (lv_at hl 1 rfl) ?_
      refine gr_aald hx hb hK hP 3 3 rfl rfl k65 dX0_setRows_36 ?_
      refine lv_aload_n hx hb dX0_setRows_37 rfl (lv_at hl 0 rfl) ?_
      refine va_get (D := D) (ci := 0) (v := .int bq) (C := RX0) (T := TX0) (N := 7) hx hb hts ku_X0_setRows_X0 hown hK hP 0 rfl rfl 5 (by decide) (hts _ kw_X0_setRows_1) (fun _ h9 => h9) rfl dX0_setRows_38 ?_
      refine lv_iload_n hx hb dX0_setRows_41 rfl (lv_at hl 1 rfl) ?_
      refine lv_if_ne (tgt := 49) hx hb dX0_setRows_42 (by decide) (fun c68 => ?_) (fun c68 => ?_)
      · have hf := fp_f hf c68
        refine lv_lconst (v := 0) hx hb dX0_setRows_49 (by decide) ?_
        obtain ⟨k69, hf⟩ := fp_c hf
        refine gr_last hx hb hK hP hD hS 1 rfl (gr_lt k65) k69 dX0_setRows_50 (fun H locs hP hD hS => ?_)
        have hP : va_P D vwCl ([(hBe, .inr (0, [.ref hBp, .ref hBn, .ref hBr, .ref hBo, .ref hBs, .int bq, .long bw])), (hBn, .inl (cI, 60, .inl bn)), (hBr, .inl (cI, 20, .inl br)), (hBo, .inl (cQ, 10, .inr (.inr (.inr (.inr (gr_o hBg))))))] ++ gr_c cJ hBg (gr_r (gr_r (gr_r bM y1.toNatClampNeg r66) y1.toNatClampNeg (vp_updL ((gr_r bM y1.toNatClampNeg r66) y1.toNatClampNeg) y1.toNatClampNeg (2 : Int64))) y1.toNatClampNeg (vp_updL ((gr_r (gr_r bM y1.toNatClampNeg r66) y1.toNatClampNeg (vp_updL ((gr_r bM y1.toNatClampNeg r66) y1.toNatClampNeg) y1.toNatClampNeg (2 : Int64))) y1.toNatClampNeg) bq.toNatClampNeg (0 : Int64)))) H := hP
        have hD : va_D A ([(hBe, .inr (0, [.ref hBp, .ref hBn, .ref hBr, .ref hBo, .ref hBs, .int bq, .long bw])), (hBn, .inl (cI, 60, .inl bn)), (hBr, .inl (cI, 20, .inl br)), (hBo, .inl (cQ, 10, .inr (.inr (.inr (.inr (gr_o hBg))))))] ++ gr_c cJ hBg (gr_r (gr_r (gr_r bM y1.toNatClampNeg r66) y1.toNatClampNeg (vp_updL ((gr_r bM y1.toNatClampNeg r66) y1.toNatClampNeg) y1.toNatClampNeg (2 : Int64))) y1.toNatClampNeg (vp_updL ((gr_r (gr_r bM y1.toNatClampNeg r66) y1.toNatClampNeg (vp_updL ((gr_r bM y1.toNatClampNeg r66) y1.toNatClampNeg) y1.toNatClampNeg (2 : Int64))) y1.toNatClampNeg) bq.toNatClampNeg (0 : Int64)))) := hD
        refine lv_iinc (v := (y1 + (1 : Int32))) (lv' := [(1, .int (y1 + (1 : Int32))), (0, .ref hBe)]) hx hb dX0_setRows_51 hl (k := 1) rfl rfl (by decide) rfl (fun ls hl => ?_)
        refine lv_goto (tgt := 2) hx hb dX0_setRows_54 (by decide) ?_
        cases hf
        exact ih _ (fp_inl ho) hP hD hS (lv_sub hl [1, 0] rfl) hex
      · have hf := fp_t hf c68
        refine lv_lconst (v := 1) hx hb dX0_setRows_45 (by decide) ?_
        refine lv_goto (tgt := 50) hx hb dX0_setRows_46 (by decide) ?_
        obtain ⟨k70, hf⟩ := fp_c hf
        refine gr_last hx hb hK hP hD hS 1 rfl (gr_lt k65) k70 dX0_setRows_50 (fun H locs hP hD hS => ?_)
        have hP : va_P D vwCl ([(hBe, .inr (0, [.ref hBp, .ref hBn, .ref hBr, .ref hBo, .ref hBs, .int bq, .long bw])), (hBn, .inl (cI, 60, .inl bn)), (hBr, .inl (cI, 20, .inl br)), (hBo, .inl (cQ, 10, .inr (.inr (.inr (.inr (gr_o hBg))))))] ++ gr_c cJ hBg (gr_r (gr_r (gr_r bM y1.toNatClampNeg r66) y1.toNatClampNeg (vp_updL ((gr_r bM y1.toNatClampNeg r66) y1.toNatClampNeg) y1.toNatClampNeg (2 : Int64))) y1.toNatClampNeg (vp_updL ((gr_r (gr_r bM y1.toNatClampNeg r66) y1.toNatClampNeg (vp_updL ((gr_r bM y1.toNatClampNeg r66) y1.toNatClampNeg) y1.toNatClampNeg (2 : Int64))) y1.toNatClampNeg) bq.toNatClampNeg (1 : Int64)))) H := hP
        have hD : va_D A ([(hBe, .inr (0, [.ref hBp, .ref hBn, .ref hBr, .ref hBo, .ref hBs, .int bq, .long bw])), (hBn, .inl (cI, 60, .inl bn)), (hBr, .inl (cI, 20, .inl br)), (hBo, .inl (cQ, 10, .inr (.inr (.inr (.inr (gr_o hBg))))))] ++ gr_c cJ hBg (gr_r (gr_r (gr_r bM y1.toNatClampNeg r66) y1.toNatClampNeg (vp_updL ((gr_r bM y1.toNatClampNeg r66) y1.toNatClampNeg) y1.toNatClampNeg (2 : Int64))) y1.toNatClampNeg (vp_updL ((gr_r (gr_r bM y1.toNatClampNeg r66) y1.toNatClampNeg (vp_updL ((gr_r bM y1.toNatClampNeg r66) y1.toNatClampNeg) y1.toNatClampNeg (2 : Int64))) y1.toNatClampNeg) bq.toNatClampNeg (1 : Int64)))) := hD
        refine lv_iinc (v := (y1 + (1 : Int32))) (lv' := [(1, .int (y1 + (1 : Int32))), (0, .ref hBe)]) hx hb dX0_setRows_51 hl (k := 1) rfl rfl (by decide) rfl (fun ls hl => ?_)
        refine lv_goto (tgt := 2) hx hb dX0_setRows_54 (by decide) ?_
        cases hf
        exact ih _ (fp_inl ho) hP hD hS (lv_sub hl [1, 0] rfl) hex
def f_X0_setRows_59 (bq : Int32) (bn : Nat → Int32) (br : Nat → Int32) (y1 : Int32) (bM : Nat → Nat → Int64) : Option ((Int32 × (Nat → Nat → Int64)) ⊕ ((Nat → Nat → Int64))) :=
  (if ((2 : Int32) * bq) ≤ y1 then some (Sum.inr bM) else chk (aix y1 20) (Option.bind (if (br y1.toNatClampNeg) < 0 then some (-4 : Int32) else (if (60 : Int32) ≤ (br y1.toNatClampNeg) then some (-4 : Int32) else chk (aix (br y1.toNatClampNeg) 60) (some (bn (Int32.toNatClampNeg (br y1.toNatClampNeg)))))) (fun j74 => (if j74 < 0 then some (Sum.inl ((y1 + (1 : Int32)), bM)) else (if bq ≤ j74 then some (Sum.inl ((y1 + (1 : Int32)), bM)) else chk (aix j74 10) (chk (aix (y1 / (2 : Int32)) 11) (some (Sum.inl ((y1 + (1 : Int32)), (gr_r bM j74.toNatClampNeg (vp_updL (bM j74.toNatClampNeg) (Int32.toNatClampNeg (y1 / (2 : Int32))) ((bM j74.toNatClampNeg (Int32.toNatClampNeg (y1 / (2 : Int32)))) - (1 : Int64)))))))))))))
set_option maxHeartbeats 4000000 in
set_option maxRecDepth 100000 in
theorem lp_X0_setRows_59 {p : Program} {l : Launch} {e : Env} {s : State} {m : MethodId} {args : Array Value} {below : List Frame} {meth : Method} {c : Code} {Q : State → Prop} {A : Nat → Prop} {D : va_G} {cI cJ cZ cQ : ClassId} {qs : Nat × Nat × Nat} {hBe hBp hBn hBr hBo hBs : Nat} {hBg : Nat → Nat} {bq : Int32} {bn : Nat → Int32} {br : Nat → Int32} {bw : Int64} (F : CallFix p m c cX0_setRows 4 s args wsX0_setRows RX0) (hG : kW D (ty4 cI cJ cZ cQ) qs A s s.heap) (hA : ∀ q : Nat, s.heap.size ≤ q → A q) :
    ∀ (n : Nat) {y1 : Int32} {bM : Nat → Nat → Int64} (out : (Nat → Nat → Int64)), lpf (fun s => f_X0_setRows_59 bq bn br s.1 s.2) n (y1, bM) = some out → ∀ {H : Heap} {locs : List Loc} {ls : Array Slot}, va_P D vwCl ([(hBe, .inr (0, [.ref hBp, .ref hBn, .ref hBr, .ref hBo, .ref hBs, .int bq, .long bw])), (hBn, .inl (cI, 60, .inl bn)), (hBr, .inl (cI, 20, .inl br)), (hBo, .inl (cQ, 10, .inr (.inr (.inr (.inr (gr_o hBg))))))] ++ gr_c cJ hBg bM) H → va_D A ([(hBe, .inr (0, [.ref hBp, .ref hBn, .ref hBr, .ref hBo, .ref hBs, .int bq, .long bw])), (hBn, .inl (cI, 60, .inl bn)), (hBr, .inl (cI, 20, .inl br)), (hBo, .inl (cQ, 10, .inr (.inr (.inr (.inr (gr_o hBg))))))] ++ gr_c cJ hBg bM) → va_S A s.heap H locs → lv_has ls 4 [(0, .ref hBe), (1, .int y1)] → (∀ (H : Heap) (locs : List Loc) (ls : Array Slot), va_P D vwCl ([(hBe, .inr (0, [.ref hBp, .ref hBn, .ref hBr, .ref hBo, .ref hBs, .int bq, .long bw])), (hBn, .inl (cI, 60, .inl bn)), (hBr, .inl (cI, 20, .inl br)), (hBo, .inl (cQ, 10, .inr (.inr (.inr (.inr (gr_o hBg))))))] ++ gr_c cJ hBg out) H → va_D A ([(hBe, .inr (0, [.ref hBp, .ref hBn, .ref hBr, .ref hBo, .ref hBs, .int bq, .long bw])), (hBn, .inl (cI, 60, .inl bn)), (hBr, .inl (cI, 20, .inl br)), (hBo, .inl (cQ, 10, .inr (.inr (.inr (.inr (gr_o hBg))))))] ++ gr_c cJ hBg out) → va_S A s.heap H locs → lv_has ls 4 [(0, .ref hBe)] → W p l e { frames := 1, cells := 0, slots := 0, locals := 24 } s m args below meth c H locs 0 0 Q (F0 m 130 ls [])) → W p l e { frames := 1, cells := 0, slots := 0, locals := 24 } s m args below meth c H locs 0 0 Q (F0 m 59 ls []) := by
  have hx := F.1
  have hb := F.2.1
  have hown := F.2.2.2.1
  have hts := F.2.2.2.2
  have hK := hG.1.1
  intro n
  induction n with
  | zero =>
    intro y1 bM out ho
    exact (fp_l0 ho).elim
  | succ n ih =>
    intro y1 bM out ho H locs ls hP hD hS hl hex
    obtain ⟨o, hf, ho⟩ := fp_l ho
    have hf : f_X0_setRows_59 bq bn br y1 bM = some o := hf
    rw [f_X0_setRows_59] at hf
    refine lv_iload_n hx hb dX0_setRows_59 rfl (lv_at hl 1 rfl) ?_
    refine lv_iconst (v := (2 : Int32)) hx hb dX0_setRows_60 (by decide) ?_
    refine lv_aload_n hx hb dX0_setRows_61 rfl (lv_at hl 0 rfl) ?_
    refine va_get (D := D) (ci := 0) (v := .int bq) (C := RX0) (T := TX0) (N := 7) hx hb hts ku_X0_setRows_X0 hown hK hP 0 rfl rfl 5 (by decide) (hts _ kw_X0_setRows_1) (fun _ h9 => h9) rfl dX0_setRows_62 ?_
    refine lv_imul hx hb dX0_setRows_65 ?_
    refine lv_icmp_ge (tgt := 130) hx hb dX0_setRows_66 (by decide) (fun c72 => ?_) (fun c72 => ?_)
    · have hf := fp_t hf c72
      cases hf
      have ho := fp_inr ho
      cases ho
      exact hex _ _ _ hP hD hS (lv_sub hl [0] rfl)
    · have hf := fp_f hf c72
      refine lv_aload_n hx hb dX0_setRows_69 rfl (lv_at hl 0 rfl) ?_
      refine va_get (D := D) (ci := 0) (v := .ref hBr) (C := RX0) (T := TX0) (N := 7) hx hb hts ku_X0_setRows_X0 hown hK hP 0 rfl rfl 2 (by decide) (hts _ kw_X0_setRows_4) (fun _ h9 => h9) rfl dX0_setRows_70 ?_
      refine lv_iload_n hx hb dX0_setRows_73 rfl (lv_at hl 1 rfl) ?_
      obtain ⟨k73, hf⟩ := fp_c hf
      refine va_iald hx hb hK hP 2 0 rfl rfl k73 dX0_setRows_74 ?_
      refine lv_istore_n (lv' := [(2, .int (br y1.toNatClampNeg)), (0, .ref hBe), (1, .int y1)]) hx hb dX0_setRows_75 rfl hl (by decide) rfl (fun ls hl => ?_)
      refine lv_iload_n hx hb dX0_setRows_76 rfl (lv_at hl 0 rfl) ?_
      obtain ⟨j74, ej74, hf⟩ := fp_b hf
      have hj75 : ∀ (H : Heap) (locs : List Loc) (ls : Array Slot), va_P D vwCl ([(hBe, .inr (0, [.ref hBp, .ref hBn, .ref hBr, .ref hBo, .ref hBs, .int bq, .long bw])), (hBn, .inl (cI, 60, .inl bn)), (hBr, .inl (cI, 20, .inl br)), (hBo, .inl (cQ, 10, .inr (.inr (.inr (.inr (gr_o hBg))))))] ++ gr_c cJ hBg bM) H → va_D A ([(hBe, .inr (0, [.ref hBp, .ref hBn, .ref hBr, .ref hBo, .ref hBs, .int bq, .long bw])), (hBn, .inl (cI, 60, .inl bn)), (hBr, .inl (cI, 20, .inl br)), (hBo, .inl (cQ, 10, .inr (.inr (.inr (.inr (gr_o hBg))))))] ++ gr_c cJ hBg bM) → va_S A s.heap H locs → lv_has ls 4 [(0, .ref hBe), (1, .int y1)] → W p l e { frames := 1, cells := 0, slots := 0, locals := 24 } s m args below meth c H locs 0 0 Q (F0 m 97 ls [.int j74]) := by
        intro H locs ls hP hD hS hl
        refine lv_istore_n (lv' := [(3, .int j74), (0, .ref hBe), (1, .int y1)]) hx hb dX0_setRows_97 rfl hl (by decide) rfl (fun ls hl => ?_)
        refine lv_iload_n hx hb dX0_setRows_98 rfl (lv_at hl 0 rfl) ?_
        refine lv_if_lt (tgt := 124) hx hb dX0_setRows_99 (by decide) (fun c76 => ?_) (fun c76 => ?_)
        · have hf := fp_t hf c76
          refine lv_iinc (v := (y1 + (1 : Int32))) (lv' := [(1, .int (y1 + (1 : Int32))), (3, .int j74), (0, .ref hBe)]) hx hb dX0_setRows_124 hl (k := 2) rfl rfl (by decide) rfl (fun ls hl => ?_)
          refine lv_goto (tgt := 59) hx hb dX0_setRows_127 (by decide) ?_
          cases hf
          exact ih _ (fp_inl ho) hP hD hS (lv_sub hl [2, 0] rfl) hex
        · have hf := fp_f hf c76
          refine lv_iload_n hx hb dX0_setRows_102 rfl (lv_at hl 0 rfl) ?_
          refine lv_aload_n hx hb dX0_setRows_103 rfl (lv_at hl 1 rfl) ?_
          refine va_get (D := D) (ci := 0) (v := .int bq) (C := RX0) (T := TX0) (N := 7) hx hb hts ku_X0_setRows_X0 hown hK hP 0 rfl rfl 5 (by decide) (hts _ kw_X0_setRows_1) (fun _ h9 => h9) rfl dX0_setRows_104 ?_
          refine lv_icmp_ge (tgt := 124) hx hb dX0_setRows_107 (by decide) (fun c77 => ?_) (fun c77 => ?_)
          · have hf := fp_t hf c77
            refine lv_iinc (v := (y1 + (1 : Int32))) (lv' := [(1, .int (y1 + (1 : Int32))), (3, .int j74), (0, .ref hBe)]) hx hb dX0_setRows_124 hl (k := 2) rfl rfl (by decide) rfl (fun ls hl => ?_)
            refine lv_goto (tgt := 59) hx hb dX0_setRows_127 (by decide) ?_
            cases hf
            exact ih _ (fp_inl ho) hP hD hS (lv_sub hl [2, 0] rfl) hex
          · have hf := fp_f hf c77
            refine lv_aload_n hx hb dX0_setRows_110 rfl (lv_at hl 1 rfl) ?_
            refine va_get (D := D) (ci := 0) (v := .ref hBo) (C := RX0) (T := TX0) (N := 7) hx hb hts ku_X0_setRows_X0 hown hK hP 0 rfl rfl 3 (by decide) (hts _ kw_X0_setRows_2) (fun _ h9 => h9) rfl dX0_setRows_111 ?_
            refine lv_iload_n hx hb dX0_setRows_114 rfl (lv_at hl 0 rfl) ?_
            obtain ⟨k78, hf⟩ := fp_c hf
            refine gr_aald hx hb hK hP 3 3 rfl rfl k78 dX0_setRows_115 ?_
            refine lv_iload_n hx hb dX0_setRows_116 rfl (lv_at hl 2 rfl) ?_
            refine lv_iconst (v := (2 : Int32)) hx hb dX0_setRows_117 (by decide) ?_
            refine lv_idiv hx hb dX0_setRows_118 (by decide) ?_
            refine lv_dup2_11 hx hb dX0_setRows_119 rfl rfl ?_
            obtain ⟨k79, hf⟩ := fp_c hf
            refine gr_lald hx hb hK hP 1 rfl (gr_lt k78) k79 dX0_setRows_120 ?_
            refine lv_lconst (v := 1) hx hb dX0_setRows_121 (by decide) ?_
            refine lv_lsub hx hb dX0_setRows_122 ?_
            refine gr_last hx hb hK hP hD hS 1 rfl (gr_lt k78) k79 dX0_setRows_123 (fun H locs hP hD hS => ?_)
            have hP : va_P D vwCl ([(hBe, .inr (0, [.ref hBp, .ref hBn, .ref hBr, .ref hBo, .ref hBs, .int bq, .long bw])), (hBn, .inl (cI, 60, .inl bn)), (hBr, .inl (cI, 20, .inl br)), (hBo, .inl (cQ, 10, .inr (.inr (.inr (.inr (gr_o hBg))))))] ++ gr_c cJ hBg (gr_r bM j74.toNatClampNeg (vp_updL (bM j74.toNatClampNeg) (Int32.toNatClampNeg (y1 / (2 : Int32))) ((bM j74.toNatClampNeg (Int32.toNatClampNeg (y1 / (2 : Int32)))) - (1 : Int64))))) H := hP
            have hD : va_D A ([(hBe, .inr (0, [.ref hBp, .ref hBn, .ref hBr, .ref hBo, .ref hBs, .int bq, .long bw])), (hBn, .inl (cI, 60, .inl bn)), (hBr, .inl (cI, 20, .inl br)), (hBo, .inl (cQ, 10, .inr (.inr (.inr (.inr (gr_o hBg))))))] ++ gr_c cJ hBg (gr_r bM j74.toNatClampNeg (vp_updL (bM j74.toNatClampNeg) (Int32.toNatClampNeg (y1 / (2 : Int32))) ((bM j74.toNatClampNeg (Int32.toNatClampNeg (y1 / (2 : Int32)))) - (1 : Int64))))) := hD
            refine lv_iinc (v := (y1 + (1 : Int32))) (lv' := [(1, .int (y1 + (1 : Int32))), (3, .int j74), (0, .ref hBe)]) hx hb dX0_setRows_124 hl (k := 2) rfl rfl (by decide) rfl (fun ls hl => ?_)
            refine lv_goto (tgt := 59) hx hb dX0_setRows_127 (by decide) ?_
            cases hf
            exact ih _ (fp_inl ho) hP hD hS (lv_sub hl [2, 0] rfl) hex
      replace hf := ej74
      refine lv_if_lt (tgt := 95) hx hb dX0_setRows_77 (by decide) (fun c80 => ?_) (fun c80 => ?_)
      · have hf := fp_t hf c80
        refine lv_bipush (v := (-4 : Int32)) hx hb dX0_setRows_95 (by decide) ?_
        cases hf
        exact hj75 _ _ _ hP hD hS (lv_sub hl [1, 2] rfl)
      · have hf := fp_f hf c80
        refine lv_iload_n hx hb dX0_setRows_80 rfl (lv_at hl 0 rfl) ?_
        refine lv_bipush (v := (60 : Int32)) hx hb dX0_setRows_81 (by decide) ?_
        refine lv_icmp_ge (tgt := 95) hx hb dX0_setRows_83 (by decide) (fun c81 => ?_) (fun c81 => ?_)
        · have hf := fp_t hf c81
          refine lv_bipush (v := (-4 : Int32)) hx hb dX0_setRows_95 (by decide) ?_
          cases hf
          exact hj75 _ _ _ hP hD hS (lv_sub hl [1, 2] rfl)
        · have hf := fp_f hf c81
          refine lv_aload_n hx hb dX0_setRows_86 rfl (lv_at hl 1 rfl) ?_
          refine va_get (D := D) (ci := 0) (v := .ref hBn) (C := RX0) (T := TX0) (N := 7) hx hb hts ku_X0_setRows_X0 hown hK hP 0 rfl rfl 1 (by decide) (hts _ kw_X0_setRows_5) (fun _ h9 => h9) rfl dX0_setRows_87 ?_
          refine lv_iload_n hx hb dX0_setRows_90 rfl (lv_at hl 0 rfl) ?_
          obtain ⟨k82, hf⟩ := fp_c hf
          refine va_iald hx hb hK hP 1 0 rfl rfl k82 dX0_setRows_91 ?_
          refine lv_goto (tgt := 97) hx hb dX0_setRows_92 (by decide) ?_
          cases hf
          exact hj75 _ _ _ hP hD hS (lv_sub hl [1, 2] rfl)
def f_X0_setRows (bq : Int32) (bn : Nat → Int32) (br : Nat → Int32) (bM : Nat → Nat → Int64) : Option ((Nat → Nat → Int64)) :=
  Option.bind (lpf (fun s => f_X0_setRows_2 bq bn br s.1 s.2) 1000 ((0 : Int32), bM)) (fun o71 => Option.bind (lpf (fun s => f_X0_setRows_59 bq bn br s.1 s.2) 1000 ((0 : Int32), o71)) (fun o83 => some o83))
set_option maxHeartbeats 4000000 in
set_option maxRecDepth 100000 in
theorem b_X0_setRows {p : Program} {l : Launch} {e : Env} {s : State} {m : MethodId} {args : Array Value} {below : List Frame} {meth : Method} {c : Code} {Q : State → Prop} {A : Nat → Prop} {H : Heap} {locs : List Loc} {D : va_G} {cI cJ cZ cQ : ClassId} {qs : Nat × Nat × Nat} {hBe hBp hBn hBr hBo hBs : Nat} {hBg : Nat → Nat} {bq : Int32} {bw : Int64} {bn : Nat → Int32} {br : Nat → Int32} {bM : Nat → Nat → Int64} {out : (Nat → Nat → Int64)} (F : CallFix p m c cX0_setRows 4 s args wsX0_setRows RX0) (hG : kW D (ty4 cI cJ cZ cQ) qs A s s.heap) (hA : ∀ q : Nat, s.heap.size ≤ q → A q) (hP : va_P D vwCl ([(hBe, .inr (0, [.ref hBp, .ref hBn, .ref hBr, .ref hBo, .ref hBs, .int bq, .long bw])), (hBn, .inl (cI, 60, .inl bn)), (hBr, .inl (cI, 20, .inl br)), (hBo, .inl (cQ, 10, .inr (.inr (.inr (.inr (gr_o hBg))))))] ++ gr_c cJ hBg bM) H) (hD : va_D A ([(hBe, .inr (0, [.ref hBp, .ref hBn, .ref hBr, .ref hBo, .ref hBs, .int bq, .long bw])), (hBn, .inl (cI, 60, .inl bn)), (hBr, .inl (cI, 20, .inl br)), (hBo, .inl (cQ, 10, .inr (.inr (.inr (.inr (gr_o hBg))))))] ++ gr_c cJ hBg bM)) (hS : va_S A s.heap H locs) (hf : f_X0_setRows bq bn br bM = some out) (hret : ∀ (pc : Nat) (H : Heap) (locs : List Loc) (ls : Array Slot), decode cX0_setRows pc = .ok (.return_, 1) → va_P D vwCl ([(hBe, .inr (0, [.ref hBp, .ref hBn, .ref hBr, .ref hBo, .ref hBs, .int bq, .long bw])), (hBn, .inl (cI, 60, .inl bn)), (hBr, .inl (cI, 20, .inl br)), (hBo, .inl (cQ, 10, .inr (.inr (.inr (.inr (gr_o hBg))))))] ++ gr_c cJ hBg out) H → va_D A ([(hBe, .inr (0, [.ref hBp, .ref hBn, .ref hBr, .ref hBo, .ref hBs, .int bq, .long bw])), (hBn, .inl (cI, 60, .inl bn)), (hBr, .inl (cI, 20, .inl br)), (hBo, .inl (cQ, 10, .inr (.inr (.inr (.inr (gr_o hBg))))))] ++ gr_c cJ hBg out) → va_S A s.heap H locs → W p l e { frames := 1, cells := 0, slots := 0, locals := 24 } s m args below meth c H locs 0 0 Q (F0 m pc ls [])) {ls : Array Slot} (hl : lv_has ls 4 [(0, .ref hBe)]) : W p l e { frames := 1, cells := 0, slots := 0, locals := 24 } s m args below meth c H locs 0 0 Q (F0 m 0 ls []) := by
  have hx := F.1
  have hb := F.2.1
  have hown := F.2.2.2.1
  have hts := F.2.2.2.2
  have hK := hG.1.1
  rw [f_X0_setRows] at hf
  refine lv_iconst (v := (0 : Int32)) hx hb dX0_setRows_0 (by decide) ?_
  refine lv_istore_n (lv' := [(1, .int (0 : Int32)), (0, .ref hBe)]) hx hb dX0_setRows_1 rfl hl (by decide) rfl (fun ls hl => ?_)
  obtain ⟨o71, eo71, hf⟩ := fp_b hf
  refine lp_X0_setRows_2 F hG hA _ _ eo71 hP hD hS (lv_sub hl [1, 0] rfl) (fun H locs ls hP hD hS hl => ?_)
  refine lv_iconst (v := (0 : Int32)) hx hb dX0_setRows_57 (by decide) ?_
  refine lv_istore_n (lv' := [(1, .int (0 : Int32)), (0, .ref hBe)]) hx hb dX0_setRows_58 rfl hl (by decide) rfl (fun ls hl => ?_)
  obtain ⟨o83, eo83, hf⟩ := fp_b hf
  refine lp_X0_setRows_59 F hG hA _ _ eo83 hP hD hS (lv_sub hl [1, 0] rfl) (fun H locs ls hP hD hS hl => ?_)
  cases hf
  exact hret _ _ _ _ dX0_setRows_130 hP hD hS
set_option maxRecDepth 100000 in
theorem c_X0_setRows {l : Launch} {D : va_G} {cI cJ cZ cQ : ClassId} {qs : Nat × Nat × Nat} {hBe hBp hBn hBr hBo hBs : Nat} {hBg : Nat → Nat} {bq : Int32} {bw : Int64} {bn : Nat → Int32} {br : Nat → Int32} {bM : Nat → Nat → Int64} {out : (Nat → Nat → Int64)} (hf : f_X0_setRows bq bn br bM = some out) : RwV l yX0_setRows wsX0_setRows { frames := 1, cells := 0, slots := 0, locals := 24 } D (ty4 cI cJ cZ cQ) qs [.ref hBe] ([(hBe, .inr (0, [.ref hBp, .ref hBn, .ref hBr, .ref hBo, .ref hBs, .int bq, .long bw])), (hBn, .inl (cI, 60, .inl bn)), (hBr, .inl (cI, 20, .inl br)), (hBo, .inl (cQ, 10, .inr (.inr (.inr (.inr (gr_o hBg))))))] ++ gr_c cJ hBg bM) ([(hBe, .inr (0, [.ref hBp, .ref hBn, .ref hBr, .ref hBo, .ref hBs, .int bq, .long bw])), (hBn, .inl (cI, 60, .inl bn)), (hBr, .inl (cI, 20, .inl br)), (hBo, .inl (cQ, 10, .inr (.inr (.inr (.inr (gr_o hBg))))))] ++ gr_c cJ hBg out) :=
  RwV.of (own := RX0) (by decide +kernel) rfl rfl (Nat.le_of_ble_eq_true rfl) (fun F hG hA hP hD hS hret ls hl => b_X0_setRows F hG hA hP hD hS hf hret hl)
-- method X0_clearColumn
theorem yd_X0_clearColumn : yX0_clearColumn.cls = RX0 ∧ yX0_clearColumn.cls ≠ "java/lang/invoke/MethodHandle" ∧ yX0_clearColumn.cls ≠ "java/lang/invoke/VarHandle" ∧ (parseMethodDescriptor yX0_clearColumn.desc).map (fun d => d.parameters.length) = some 4 := by decide +kernel
theorem ku_X0_clearColumn_X0 : ∀ w ∈ u_ws RX0 TX0 7, w ∈ wsX0_clearColumn := by decide +kernel
theorem kw_X0_clearColumn_1 : Cond.fieldLink RX0 30 "MirrorShares$Beam" "splits" "I" ∈ wsX0_clearColumn := List.mem_of_getElem? (i := 1) rfl
theorem kw_X0_clearColumn_2 : Cond.fieldLink RX0 34 "MirrorShares$Beam" "whole" "J" ∈ wsX0_clearColumn := List.mem_of_getElem? (i := 2) rfl
def f_X0_clearColumn_5 (na1 : Nat) (na2 : Nat) (bq : Int32) (bw : Int64) (ga2 : Nat → Int64) (y3 : Int32) (y4 : Int64) (y6 : Int32) (ga1 : Nat → Int64) : Option ((Int32 × (Nat → Int64)) ⊕ ((Nat → Int64))) :=
  (if bq < y6 then some (Sum.inr ga1) else (if (lg_cmp bw (0 : Int64)) = 0 then some (Sum.inr ga1) else chk (aix y6 na1) (chk (aix y3 na1) (chk (aix y6 na2) (chk (¬ bw = 0) (some (Sum.inl ((y6 + (1 : Int32)), (vp_updL ga1 y6.toNatClampNeg (((y4 * (ga1 y6.toNatClampNeg)) - ((ga1 y3.toNatClampNeg) * (ga2 y6.toNatClampNeg))) / bw))))))))))
set_option maxHeartbeats 4000000 in
set_option maxRecDepth 100000 in
theorem lp_X0_clearColumn_5 {p : Program} {l : Launch} {e : Env} {s : State} {m : MethodId} {args : Array Value} {below : List Frame} {meth : Method} {c : Code} {Q : State → Prop} {A : Nat → Prop} {D : va_G} {cI cJ cZ cQ : ClassId} {qs : Nat × Nat × Nat} {hBe hBp hBn hBr hBo hBs hAJ1 hAJ2 : Nat} {na1 : Nat} {na2 : Nat} {bq : Int32} {bw : Int64} {ga2 : Nat → Int64} {y3 : Int32} {y4 : Int64} (F : CallFix p m c cX0_clearColumn 7 s args wsX0_clearColumn RX0) (hG : kW D (ty4 cI cJ cZ cQ) qs A s s.heap) (hA : ∀ q : Nat, s.heap.size ≤ q → A q) :
    ∀ (n : Nat) {y6 : Int32} {ga1 : Nat → Int64} (out : (Nat → Int64)), lpf (fun s => f_X0_clearColumn_5 na1 na2 bq bw ga2 y3 y4 s.1 s.2) n (y6, ga1) = some out → ∀ {H : Heap} {locs : List Loc} {ls : Array Slot}, va_P D vwCl [(hBe, .inr (0, [.ref hBp, .ref hBn, .ref hBr, .ref hBo, .ref hBs, .int bq, .long bw])), (hAJ1, .inl (cJ, na1, .inr (.inl ga1))), (hAJ2, .inl (cJ, na2, .inr (.inl ga2)))] H → va_D A [(hBe, .inr (0, [.ref hBp, .ref hBn, .ref hBr, .ref hBo, .ref hBs, .int bq, .long bw])), (hAJ1, .inl (cJ, na1, .inr (.inl ga1))), (hAJ2, .inl (cJ, na2, .inr (.inl ga2)))] → va_S A s.heap H locs → lv_has ls 7 [(0, .ref hBe), (1, .ref hAJ1), (2, .ref hAJ2), (3, .int y3), (4, .long y4), (6, .int y6)] → (∀ (H : Heap) (locs : List Loc) (ls : Array Slot), va_P D vwCl [(hBe, .inr (0, [.ref hBp, .ref hBn, .ref hBr, .ref hBo, .ref hBs, .int bq, .long bw])), (hAJ1, .inl (cJ, na1, .inr (.inl out))), (hAJ2, .inl (cJ, na2, .inr (.inl ga2)))] H → va_D A [(hBe, .inr (0, [.ref hBp, .ref hBn, .ref hBr, .ref hBo, .ref hBs, .int bq, .long bw])), (hAJ1, .inl (cJ, na1, .inr (.inl out))), (hAJ2, .inl (cJ, na2, .inr (.inl ga2)))] → va_S A s.heap H locs → lv_has ls 7 [(0, .ref hBe), (1, .ref hAJ1), (2, .ref hAJ2), (3, .int y3), (4, .long y4)] → W p l e { frames := 0, cells := 0, slots := 0, locals := 0 } s m args below meth c H locs 0 0 Q (F0 m 54 ls [])) → W p l e { frames := 0, cells := 0, slots := 0, locals := 0 } s m args below meth c H locs 0 0 Q (F0 m 5 ls []) := by
  have hx := F.1
  have hb := F.2.1
  have hown := F.2.2.2.1
  have hts := F.2.2.2.2
  have hK := hG.1.1
  intro n
  induction n with
  | zero =>
    intro y6 ga1 out ho
    exact (fp_l0 ho).elim
  | succ n ih =>
    intro y6 ga1 out ho H locs ls hP hD hS hl hex
    obtain ⟨o, hf, ho⟩ := fp_l ho
    have hf : f_X0_clearColumn_5 na1 na2 bq bw ga2 y3 y4 y6 ga1 = some o := hf
    rw [f_X0_clearColumn_5] at hf
    refine lv_iload hx hb dX0_clearColumn_5 (lv_at hl 5 rfl) ?_
    refine lv_aload_n hx hb dX0_clearColumn_7 rfl (lv_at hl 0 rfl) ?_
    refine va_get (D := D) (ci := 0) (v := .int bq) (C := RX0) (T := TX0) (N := 7) hx hb hts ku_X0_clearColumn_X0 hown hK hP 0 rfl rfl 5 (by decide) (hts _ kw_X0_clearColumn_1) (fun _ h9 => h9) rfl dX0_clearColumn_8 ?_
    refine lv_icmp_gt (tgt := 54) hx hb dX0_clearColumn_11 (by decide) (fun c84 => ?_) (fun c84 => ?_)
    · have hf := fp_t hf c84
      cases hf
      have ho := fp_inr ho
      cases ho
      exact hex _ _ _ hP hD hS (lv_sub hl [0, 1, 2, 3, 4] rfl)
    · have hf := fp_f hf c84
      refine lv_aload_n hx hb dX0_clearColumn_14 rfl (lv_at hl 0 rfl) ?_
      refine va_get (D := D) (ci := 0) (v := .long bw) (C := RX0) (T := TX0) (N := 7) hx hb hts ku_X0_clearColumn_X0 hown hK hP 0 rfl rfl 6 (by decide) (hts _ kw_X0_clearColumn_2) (fun _ h9 => h9) rfl dX0_clearColumn_15 ?_
      refine lv_lconst (v := 0) hx hb dX0_clearColumn_18 (by decide) ?_
      refine W.lcmp hx hb dX0_clearColumn_19 ?_
      refine lv_if_eq (tgt := 54) hx hb dX0_clearColumn_20 (by decide) (fun c85 => ?_) (fun c85 => ?_)
      · have hf := fp_t hf c85
        cases hf
        have ho := fp_inr ho
        cases ho
        exact hex _ _ _ hP hD hS (lv_sub hl [0, 1, 2, 3, 4] rfl)
      · have hf := fp_f hf c85
        refine lv_aload_n hx hb dX0_clearColumn_23 rfl (lv_at hl 1 rfl) ?_
        refine lv_iload hx hb dX0_clearColumn_24 (lv_at hl 5 rfl) ?_
        refine lv_lload hx hb dX0_clearColumn_26 (lv_at hl 4 rfl) ?_
        refine lv_aload_n hx hb dX0_clearColumn_28 rfl (lv_at hl 1 rfl) ?_
        refine lv_iload hx hb dX0_clearColumn_29 (lv_at hl 5 rfl) ?_
        obtain ⟨k86, hf⟩ := fp_c hf
        refine va_lald hx hb hK hP 1 1 rfl rfl k86 dX0_clearColumn_31 ?_
        refine lv_lmul hx hb dX0_clearColumn_32 ?_
        refine lv_aload_n hx hb dX0_clearColumn_33 rfl (lv_at hl 1 rfl) ?_
        refine lv_iload_n hx hb dX0_clearColumn_34 rfl (lv_at hl 3 rfl) ?_
        obtain ⟨k87, hf⟩ := fp_c hf
        refine va_lald hx hb hK hP 1 1 rfl rfl k87 dX0_clearColumn_35 ?_
        refine lv_aload_n hx hb dX0_clearColumn_36 rfl (lv_at hl 2 rfl) ?_
        refine lv_iload hx hb dX0_clearColumn_37 (lv_at hl 5 rfl) ?_
        obtain ⟨k88, hf⟩ := fp_c hf
        refine va_lald hx hb hK hP 2 1 rfl rfl k88 dX0_clearColumn_39 ?_
        refine lv_lmul hx hb dX0_clearColumn_40 ?_
        refine lv_lsub hx hb dX0_clearColumn_41 ?_
        refine lv_aload_n hx hb dX0_clearColumn_42 rfl (lv_at hl 0 rfl) ?_
        refine va_get (D := D) (ci := 0) (v := .long bw) (C := RX0) (T := TX0) (N := 7) hx hb hts ku_X0_clearColumn_X0 hown hK hP 0 rfl rfl 6 (by decide) (hts _ kw_X0_clearColumn_2) (fun _ h9 => h9) rfl dX0_clearColumn_43 ?_
        obtain ⟨k89, hf⟩ := fp_c hf
        refine lv_ldiv hx hb dX0_clearColumn_46 k89 ?_
        refine va_last hx hb hK hP hD hS 1 1 rfl rfl k86 dX0_clearColumn_47 (fun H locs hP hD hS => ?_)
        have hP : va_P D vwCl [(hBe, .inr (0, [.ref hBp, .ref hBn, .ref hBr, .ref hBo, .ref hBs, .int bq, .long bw])), (hAJ1, .inl (cJ, na1, .inr (.inl (vp_updL ga1 y6.toNatClampNeg (((y4 * (ga1 y6.toNatClampNeg)) - ((ga1 y3.toNatClampNeg) * (ga2 y6.toNatClampNeg))) / bw))))), (hAJ2, .inl (cJ, na2, .inr (.inl ga2)))] H := hP
        have hD : va_D A [(hBe, .inr (0, [.ref hBp, .ref hBn, .ref hBr, .ref hBo, .ref hBs, .int bq, .long bw])), (hAJ1, .inl (cJ, na1, .inr (.inl (vp_updL ga1 y6.toNatClampNeg (((y4 * (ga1 y6.toNatClampNeg)) - ((ga1 y3.toNatClampNeg) * (ga2 y6.toNatClampNeg))) / bw))))), (hAJ2, .inl (cJ, na2, .inr (.inl ga2)))] := hD
        refine lv_iinc (v := (y6 + (1 : Int32))) (lv' := [(6, .int (y6 + (1 : Int32))), (0, .ref hBe), (1, .ref hAJ1), (2, .ref hAJ2), (3, .int y3), (4, .long y4)]) hx hb dX0_clearColumn_48 hl (k := 5) rfl rfl (by decide) rfl (fun ls hl => ?_)
        refine lv_goto (tgt := 5) hx hb dX0_clearColumn_51 (by decide) ?_
        cases hf
        exact ih _ (fp_inl ho) hP hD hS (lv_sub hl [1, 2, 3, 4, 5, 0] rfl) hex
def f_X0_clearColumn (na1 : Nat) (na2 : Nat) (bq : Int32) (bw : Int64) (ga1 : Nat → Int64) (ga2 : Nat → Int64) (x3 : Int32) (x4 : Int64) : Option ((Nat → Int64)) :=
  Option.bind (lpf (fun s => f_X0_clearColumn_5 na1 na2 bq bw ga2 x3 x4 s.1 s.2) 1000 ((x3 + (1 : Int32)), ga1)) (fun o90 => some o90)
set_option maxHeartbeats 4000000 in
set_option maxRecDepth 100000 in
theorem b_X0_clearColumn {p : Program} {l : Launch} {e : Env} {s : State} {m : MethodId} {args : Array Value} {below : List Frame} {meth : Method} {c : Code} {Q : State → Prop} {A : Nat → Prop} {H : Heap} {locs : List Loc} {D : va_G} {cI cJ cZ cQ : ClassId} {qs : Nat × Nat × Nat} {hBe hBp hBn hBr hBo hBs hAJ1 hAJ2 : Nat} {na1 : Nat} {na2 : Nat} {bq : Int32} {bw : Int64} {ga1 : Nat → Int64} {ga2 : Nat → Int64} {x3 : Int32} {x4 : Int64} {out : (Nat → Int64)} (F : CallFix p m c cX0_clearColumn 7 s args wsX0_clearColumn RX0) (hG : kW D (ty4 cI cJ cZ cQ) qs A s s.heap) (hA : ∀ q : Nat, s.heap.size ≤ q → A q) (hP : va_P D vwCl [(hBe, .inr (0, [.ref hBp, .ref hBn, .ref hBr, .ref hBo, .ref hBs, .int bq, .long bw])), (hAJ1, .inl (cJ, na1, .inr (.inl ga1))), (hAJ2, .inl (cJ, na2, .inr (.inl ga2)))] H) (hD : va_D A [(hBe, .inr (0, [.ref hBp, .ref hBn, .ref hBr, .ref hBo, .ref hBs, .int bq, .long bw])), (hAJ1, .inl (cJ, na1, .inr (.inl ga1))), (hAJ2, .inl (cJ, na2, .inr (.inl ga2)))]) (hS : va_S A s.heap H locs) (hf : f_X0_clearColumn na1 na2 bq bw ga1 ga2 x3 x4 = some out) (hret : ∀ (pc : Nat) (H : Heap) (locs : List Loc) (ls : Array Slot), decode cX0_clearColumn pc = .ok (.return_, 1) → va_P D vwCl [(hBe, .inr (0, [.ref hBp, .ref hBn, .ref hBr, .ref hBo, .ref hBs, .int bq, .long bw])), (hAJ1, .inl (cJ, na1, .inr (.inl out))), (hAJ2, .inl (cJ, na2, .inr (.inl ga2)))] H → va_D A [(hBe, .inr (0, [.ref hBp, .ref hBn, .ref hBr, .ref hBo, .ref hBs, .int bq, .long bw])), (hAJ1, .inl (cJ, na1, .inr (.inl out))), (hAJ2, .inl (cJ, na2, .inr (.inl ga2)))] → va_S A s.heap H locs → W p l e { frames := 0, cells := 0, slots := 0, locals := 0 } s m args below meth c H locs 0 0 Q (F0 m pc ls [])) {ls : Array Slot} (hl : lv_has ls 7 [(0, .ref hBe), (1, .ref hAJ1), (2, .ref hAJ2), (3, .int x3), (4, .long x4)]) : W p l e { frames := 0, cells := 0, slots := 0, locals := 0 } s m args below meth c H locs 0 0 Q (F0 m 0 ls []) := by
  have hx := F.1
  have hb := F.2.1
  have hown := F.2.2.2.1
  have hts := F.2.2.2.2
  have hK := hG.1.1
  rw [f_X0_clearColumn] at hf
  refine lv_iload_n hx hb dX0_clearColumn_0 rfl (lv_at hl 3 rfl) ?_
  refine lv_iconst (v := (1 : Int32)) hx hb dX0_clearColumn_1 (by decide) ?_
  refine lv_iadd hx hb dX0_clearColumn_2 ?_
  refine lv_istore (lv' := [(6, .int (x3 + (1 : Int32))), (0, .ref hBe), (1, .ref hAJ1), (2, .ref hAJ2), (3, .int x3), (4, .long x4)]) hx hb dX0_clearColumn_3 hl (by decide) rfl (fun ls hl => ?_)
  obtain ⟨o90, eo90, hf⟩ := fp_b hf
  refine lp_X0_clearColumn_5 F hG hA _ _ eo90 hP hD hS (lv_sub hl [1, 2, 3, 4, 5, 0] rfl) (fun H locs ls hP hD hS hl => ?_)
  cases hf
  exact hret _ _ _ _ dX0_clearColumn_54 hP hD hS
set_option maxRecDepth 100000 in
theorem c_X0_clearColumn {l : Launch} {D : va_G} {cI cJ cZ cQ : ClassId} {qs : Nat × Nat × Nat} {hBe hBp hBn hBr hBo hBs hAJ1 hAJ2 : Nat} {na1 : Nat} {na2 : Nat} {bq : Int32} {bw : Int64} {ga1 : Nat → Int64} {ga2 : Nat → Int64} {x3 : Int32} {x4 : Int64} {out : (Nat → Int64)} (hf : f_X0_clearColumn na1 na2 bq bw ga1 ga2 x3 x4 = some out) : RwV l yX0_clearColumn wsX0_clearColumn { frames := 0, cells := 0, slots := 0, locals := 0 } D (ty4 cI cJ cZ cQ) qs [.ref hBe, .ref hAJ1, .ref hAJ2, .int x3, .long x4] [(hBe, .inr (0, [.ref hBp, .ref hBn, .ref hBr, .ref hBo, .ref hBs, .int bq, .long bw])), (hAJ1, .inl (cJ, na1, .inr (.inl ga1))), (hAJ2, .inl (cJ, na2, .inr (.inl ga2)))] [(hBe, .inr (0, [.ref hBp, .ref hBn, .ref hBr, .ref hBo, .ref hBs, .int bq, .long bw])), (hAJ1, .inl (cJ, na1, .inr (.inl out))), (hAJ2, .inl (cJ, na2, .inr (.inl ga2)))] :=
  RwV.of (own := RX0) (by decide +kernel) rfl rfl (Nat.le_of_ble_eq_true rfl) (fun F hG hA hP hD hS hret ls hl => b_X0_clearColumn F hG hA hP hD hS hf hret hl)
-- method X0_solveRows
theorem yd_X0_solveRows : yX0_solveRows.cls = RX0 ∧ yX0_solveRows.cls ≠ "java/lang/invoke/MethodHandle" ∧ yX0_solveRows.cls ≠ "java/lang/invoke/VarHandle" ∧ (parseMethodDescriptor yX0_solveRows.desc).map (fun d => d.parameters.length) = some 0 := by decide +kernel
theorem ku_X0_solveRows_X0 : ∀ w ∈ u_ws RX0 TX0 7, w ∈ wsX0_solveRows := by decide +kernel
theorem kw_X0_solveRows_1 : Cond.fieldLink RX0 34 "MirrorShares$Beam" "whole" "J" ∈ wsX0_solveRows := List.mem_of_getElem? (i := 1) rfl
theorem kw_X0_solveRows_2 : Cond.fieldLink RX0 30 "MirrorShares$Beam" "splits" "I" ∈ wsX0_solveRows := List.mem_of_getElem? (i := 2) rfl
theorem kw_X0_solveRows_3 : Cond.fieldLink RX0 23 "MirrorShares$Beam" "rows" "[[J" ∈ wsX0_solveRows := List.mem_of_getElem? (i := 3) rfl
def f_X0_solveRows_27 (bq : Int32) (bw : Int64) (y1 : Int32) (y2 : Int64) (y4 : Int32) (bM : Nat → Nat → Int64) : Option ((Int32 × (Nat → Nat → Int64)) ⊕ ((Nat → Nat → Int64))) :=
  (if bq ≤ y4 then some (Sum.inr bM) else (if y4 = y1 then some (Sum.inl ((y4 + (1 : Int32)), bM)) else chk (aix y4 10) (chk (aix y1 10) (chk (¬ y4.toNatClampNeg = y1.toNatClampNeg) (Option.bind (f_X0_clearColumn 11 11 bq bw (bM y4.toNatClampNeg) (bM y1.toNatClampNeg) y1 y2) (fun r98 => some (Sum.inl ((y4 + (1 : Int32)), (gr_r bM y4.toNatClampNeg r98)))))))))
set_option maxHeartbeats 4000000 in
set_option maxRecDepth 100000 in
theorem lp_X0_solveRows_27 {p : Program} {l : Launch} {e : Env} {s : State} {m : MethodId} {args : Array Value} {below : List Frame} {meth : Method} {c : Code} {Q : State → Prop} {A : Nat → Prop} {D : va_G} {cI cJ cZ cQ : ClassId} {qs : Nat × Nat × Nat} {hBe hBp hBn hBr hBo hBs : Nat} {hBg : Nat → Nat} {bq : Int32} {bw : Int64} {y1 : Int32} {y2 : Int64} (F : CallFix p m c cX0_solveRows 5 s args wsX0_solveRows RX0) (hG : kW D (ty4 cI cJ cZ cQ) qs A s s.heap) (hA : ∀ q : Nat, s.heap.size ≤ q → A q) :
    ∀ (n : Nat) {y4 : Int32} {bM : Nat → Nat → Int64} (out : (Nat → Nat → Int64)), lpf (fun s => f_X0_solveRows_27 bq bw y1 y2 s.1 s.2) n (y4, bM) = some out → ∀ {H : Heap} {locs : List Loc} {ls : Array Slot}, va_P D vwCl ([(hBe, .inr (0, [.ref hBp, .ref hBn, .ref hBr, .ref hBo, .ref hBs, .int bq, .long bw])), (hBo, .inl (cQ, 10, .inr (.inr (.inr (.inr (gr_o hBg))))))] ++ gr_c cJ hBg bM) H → va_D A ([(hBe, .inr (0, [.ref hBp, .ref hBn, .ref hBr, .ref hBo, .ref hBs, .int bq, .long bw])), (hBo, .inl (cQ, 10, .inr (.inr (.inr (.inr (gr_o hBg))))))] ++ gr_c cJ hBg bM) → va_S A s.heap H locs → lv_has ls 5 [(0, .ref hBe), (1, .int y1), (2, .long y2), (4, .int y4)] → (∀ (H : Heap) (locs : List Loc) (ls : Array Slot), va_P D vwCl ([(hBe, .inr (0, [.ref hBp, .ref hBn, .ref hBr, .ref hBo, .ref hBs, .int bq, .long bw])), (hBo, .inl (cQ, 10, .inr (.inr (.inr (.inr (gr_o hBg))))))] ++ gr_c cJ hBg out) H → va_D A ([(hBe, .inr (0, [.ref hBp, .ref hBn, .ref hBr, .ref hBo, .ref hBs, .int bq, .long bw])), (hBo, .inl (cQ, 10, .inr (.inr (.inr (.inr (gr_o hBg))))))] ++ gr_c cJ hBg out) → va_S A s.heap H locs → lv_has ls 5 [(0, .ref hBe), (1, .int y1), (2, .long y2)] → W p l e { frames := 1, cells := 0, slots := 0, locals := 26 } s m args below meth c H locs 0 0 Q (F0 m 67 ls [])) → W p l e { frames := 1, cells := 0, slots := 0, locals := 26 } s m args below meth c H locs 0 0 Q (F0 m 27 ls []) := by
  have hx := F.1
  have hb := F.2.1
  have hown := F.2.2.2.1
  have hts := F.2.2.2.2
  have hK := hG.1.1
  intro n
  induction n with
  | zero =>
    intro y4 bM out ho
    exact (fp_l0 ho).elim
  | succ n ih =>
    intro y4 bM out ho H locs ls hP hD hS hl hex
    obtain ⟨o, hf, ho⟩ := fp_l ho
    have hf : f_X0_solveRows_27 bq bw y1 y2 y4 bM = some o := hf
    rw [f_X0_solveRows_27] at hf
    refine lv_iload hx hb dX0_solveRows_27 (lv_at hl 3 rfl) ?_
    refine lv_aload_n hx hb dX0_solveRows_29 rfl (lv_at hl 0 rfl) ?_
    refine va_get (D := D) (ci := 0) (v := .int bq) (C := RX0) (T := TX0) (N := 7) hx hb hts ku_X0_solveRows_X0 hown hK hP 0 rfl rfl 5 (by decide) (hts _ kw_X0_solveRows_2) (fun _ h9 => h9) rfl dX0_solveRows_30 ?_
    refine lv_icmp_ge (tgt := 67) hx hb dX0_solveRows_33 (by decide) (fun c94 => ?_) (fun c94 => ?_)
    · have hf := fp_t hf c94
      cases hf
      have ho := fp_inr ho
      cases ho
      exact hex _ _ _ hP hD hS (lv_sub hl [0, 1, 2] rfl)
    · have hf := fp_f hf c94
      refine lv_iload hx hb dX0_solveRows_36 (lv_at hl 3 rfl) ?_
      refine lv_iload_n hx hb dX0_solveRows_38 rfl (lv_at hl 1 rfl) ?_
      refine lv_icmp_eq (tgt := 61) hx hb dX0_solveRows_39 (by decide) (fun c95 => ?_) (fun c95 => ?_)
      · have hf := fp_t hf c95
        refine lv_iinc (v := (y4 + (1 : Int32))) (lv' := [(4, .int (y4 + (1 : Int32))), (0, .ref hBe), (1, .int y1), (2, .long y2)]) hx hb dX0_solveRows_61 hl (k := 3) rfl rfl (by decide) rfl (fun ls hl => ?_)
        refine lv_goto (tgt := 27) hx hb dX0_solveRows_64 (by decide) ?_
        cases hf
        exact ih _ (fp_inl ho) hP hD hS (lv_sub hl [1, 2, 3, 0] rfl) hex
      · have hf := fp_f hf c95
        refine lv_aload_n hx hb dX0_solveRows_42 rfl (lv_at hl 0 rfl) ?_
        refine lv_aload_n hx hb dX0_solveRows_43 rfl (lv_at hl 0 rfl) ?_
        refine va_get (D := D) (ci := 0) (v := .ref hBo) (C := RX0) (T := TX0) (N := 7) hx hb hts ku_X0_solveRows_X0 hown hK hP 0 rfl rfl 3 (by decide) (hts _ kw_X0_solveRows_3) (fun _ h9 => h9) rfl dX0_solveRows_44 ?_
        refine lv_iload hx hb dX0_solveRows_47 (lv_at hl 3 rfl) ?_
        obtain ⟨k96, hf⟩ := fp_c hf
        refine gr_aald hx hb hK hP 1 3 rfl rfl k96 dX0_solveRows_49 ?_
        refine lv_aload_n hx hb dX0_solveRows_50 rfl (lv_at hl 0 rfl) ?_
        refine va_get (D := D) (ci := 0) (v := .ref hBo) (C := RX0) (T := TX0) (N := 7) hx hb hts ku_X0_solveRows_X0 hown hK hP 0 rfl rfl 3 (by decide) (hts _ kw_X0_solveRows_3) (fun _ h9 => h9) rfl dX0_solveRows_51 ?_
        refine lv_iload_n hx hb dX0_solveRows_54 rfl (lv_at hl 1 rfl) ?_
        obtain ⟨k97, hf⟩ := fp_c hf
        refine gr_aald hx hb hK hP 1 3 rfl rfl k97 dX0_solveRows_55 ?_
        refine lv_iload_n hx hb dX0_solveRows_56 rfl (lv_at hl 1 rfl) ?_
        refine lv_lload_n hx hb dX0_solveRows_57 rfl (lv_at hl 2 rfl) ?_
        obtain ⟨k99, hf⟩ := fp_c hf
        obtain ⟨r98, er98, hf⟩ := fp_b hf
        refine gr_rwV3 (RwV.runV (c_X0_clearColumn (l := l) (D := D) (cI := cI) (cJ := cJ) (cZ := cZ) (cQ := cQ) (qs := qs) er98) F (cwV 4 hts gX0_solveRows_X0_clearColumn rfl rfl rfl yd_X0_clearColumn ⟨Nat.le_of_ble_eq_true rfl, Nat.le_of_ble_eq_true rfl⟩) hG hP hD hS hA [0, _, _] (gr_nd3 k99) (gr_hs3 (gr_lt k96) (gr_lt k97)) 0 rfl rfl rfl hl.1 rfl (Nat.le_of_ble_eq_true rfl) dX0_solveRows_58 ⟨Nat.zero_le _, Nat.zero_le _⟩) hP hD hS hA (gr_lt k96) (gr_lt k97) (fun H locs hP hD hS => ?_)
        have hP : va_P D vwCl ([(hBe, .inr (0, [.ref hBp, .ref hBn, .ref hBr, .ref hBo, .ref hBs, .int bq, .long bw])), (hBo, .inl (cQ, 10, .inr (.inr (.inr (.inr (gr_o hBg))))))] ++ gr_c cJ hBg (gr_r bM y4.toNatClampNeg r98)) H := hP
        have hD : va_D A ([(hBe, .inr (0, [.ref hBp, .ref hBn, .ref hBr, .ref hBo, .ref hBs, .int bq, .long bw])), (hBo, .inl (cQ, 10, .inr (.inr (.inr (.inr (gr_o hBg))))))] ++ gr_c cJ hBg (gr_r bM y4.toNatClampNeg r98)) := hD
        refine lv_iinc (v := (y4 + (1 : Int32))) (lv' := [(4, .int (y4 + (1 : Int32))), (0, .ref hBe), (1, .int y1), (2, .long y2)]) hx hb dX0_solveRows_61 hl (k := 3) rfl rfl (by decide) rfl (fun ls hl => ?_)
        refine lv_goto (tgt := 27) hx hb dX0_solveRows_64 (by decide) ?_
        cases hf
        exact ih _ (fp_inl ho) hP hD hS (lv_sub hl [1, 2, 3, 0] rfl) hex
def f_X0_solveRows_7 (bq : Int32) (y1 : Int32) (bw : Int64) (bM : Nat → Nat → Int64) : Option ((Int32 × Int64 × (Nat → Nat → Int64)) ⊕ (Int64 × (Nat → Nat → Int64))) :=
  (if bq ≤ y1 then some (Sum.inr (bw, bM)) else chk (aix y1 10) (chk (aix y1 11) (Option.bind (lpf (fun s => f_X0_solveRows_27 bq bw y1 (bM y1.toNatClampNeg y1.toNatClampNeg) s.1 s.2) 1000 ((0 : Int32), bM)) (fun o100 => some (Sum.inl ((y1 + (1 : Int32)), (bM y1.toNatClampNeg y1.toNatClampNeg), o100))))))
set_option maxHeartbeats 4000000 in
set_option maxRecDepth 100000 in
theorem lp_X0_solveRows_7 {p : Program} {l : Launch} {e : Env} {s : State} {m : MethodId} {args : Array Value} {below : List Frame} {meth : Method} {c : Code} {Q : State → Prop} {A : Nat → Prop} {D : va_G} {cI cJ cZ cQ : ClassId} {qs : Nat × Nat × Nat} {hBe hBp hBn hBr hBo hBs : Nat} {hBg : Nat → Nat} {bq : Int32} (F : CallFix p m c cX0_solveRows 5 s args wsX0_solveRows RX0) (hG : kW D (ty4 cI cJ cZ cQ) qs A s s.heap) (hA : ∀ q : Nat, s.heap.size ≤ q → A q) :
    ∀ (n : Nat) {y1 : Int32} {bw : Int64} {bM : Nat → Nat → Int64} (out : Int64 × (Nat → Nat → Int64)), lpf (fun s => f_X0_solveRows_7 bq s.1 s.2.1 s.2.2) n (y1, bw, bM) = some out → ∀ {H : Heap} {locs : List Loc} {ls : Array Slot}, va_P D vwCl ([(hBe, .inr (0, [.ref hBp, .ref hBn, .ref hBr, .ref hBo, .ref hBs, .int bq, .long bw])), (hBo, .inl (cQ, 10, .inr (.inr (.inr (.inr (gr_o hBg))))))] ++ gr_c cJ hBg bM) H → va_D A ([(hBe, .inr (0, [.ref hBp, .ref hBn, .ref hBr, .ref hBo, .ref hBs, .int bq, .long bw])), (hBo, .inl (cQ, 10, .inr (.inr (.inr (.inr (gr_o hBg))))))] ++ gr_c cJ hBg bM) → va_S A s.heap H locs → lv_has ls 5 [(0, .ref hBe), (1, .int y1)] → (∀ (H : Heap) (locs : List Loc) (ls : Array Slot), va_P D vwCl ([(hBe, .inr (0, [.ref hBp, .ref hBn, .ref hBr, .ref hBo, .ref hBs, .int bq, .long out.1])), (hBo, .inl (cQ, 10, .inr (.inr (.inr (.inr (gr_o hBg))))))] ++ gr_c cJ hBg out.2) H → va_D A ([(hBe, .inr (0, [.ref hBp, .ref hBn, .ref hBr, .ref hBo, .ref hBs, .int bq, .long out.1])), (hBo, .inl (cQ, 10, .inr (.inr (.inr (.inr (gr_o hBg))))))] ++ gr_c cJ hBg out.2) → va_S A s.heap H locs → lv_has ls 5 [(0, .ref hBe)] → W p l e { frames := 1, cells := 0, slots := 0, locals := 26 } s m args below meth c H locs 0 0 Q (F0 m 78 ls [])) → W p l e { frames := 1, cells := 0, slots := 0, locals := 26 } s m args below meth c H locs 0 0 Q (F0 m 7 ls []) := by
  have hx := F.1
  have hb := F.2.1
  have hown := F.2.2.2.1
  have hts := F.2.2.2.2
  have hK := hG.1.1
  intro n
  induction n with
  | zero =>
    intro y1 bw bM out ho
    exact (fp_l0 ho).elim
  | succ n ih =>
    intro y1 bw bM out ho H locs ls hP hD hS hl hex
    obtain ⟨o, hf, ho⟩ := fp_l ho
    have hf : f_X0_solveRows_7 bq y1 bw bM = some o := hf
    rw [f_X0_solveRows_7] at hf
    refine lv_iload_n hx hb dX0_solveRows_7 rfl (lv_at hl 1 rfl) ?_
    refine lv_aload_n hx hb dX0_solveRows_8 rfl (lv_at hl 0 rfl) ?_
    refine va_get (D := D) (ci := 0) (v := .int bq) (C := RX0) (T := TX0) (N := 7) hx hb hts ku_X0_solveRows_X0 hown hK hP 0 rfl rfl 5 (by decide) (hts _ kw_X0_solveRows_2) (fun _ h9 => h9) rfl dX0_solveRows_9 ?_
    refine lv_icmp_ge (tgt := 78) hx hb dX0_solveRows_12 (by decide) (fun c91 => ?_) (fun c91 => ?_)
    · have hf := fp_t hf c91
      cases hf
      have ho := fp_inr ho
      cases ho
      exact hex _ _ _ hP hD hS (lv_sub hl [0] rfl)
    · have hf := fp_f hf c91
      refine lv_aload_n hx hb dX0_solveRows_15 rfl (lv_at hl 0 rfl) ?_
      refine va_get (D := D) (ci := 0) (v := .ref hBo) (C := RX0) (T := TX0) (N := 7) hx hb hts ku_X0_solveRows_X0 hown hK hP 0 rfl rfl 3 (by decide) (hts _ kw_X0_solveRows_3) (fun _ h9 => h9) rfl dX0_solveRows_16 ?_
      refine lv_iload_n hx hb dX0_solveRows_19 rfl (lv_at hl 1 rfl) ?_
      obtain ⟨k92, hf⟩ := fp_c hf
      refine gr_aald hx hb hK hP 1 3 rfl rfl k92 dX0_solveRows_20 ?_
      refine lv_iload_n hx hb dX0_solveRows_21 rfl (lv_at hl 1 rfl) ?_
      obtain ⟨k93, hf⟩ := fp_c hf
      refine gr_lald hx hb hK hP 1 rfl (gr_lt k92) k93 dX0_solveRows_22 ?_
      refine lv_lstore_n (lv' := [(2, .long (bM y1.toNatClampNeg y1.toNatClampNeg)), (0, .ref hBe), (1, .int y1)]) hx hb dX0_solveRows_23 rfl hl (by decide) rfl (fun ls hl => ?_)
      refine lv_iconst (v := (0 : Int32)) hx hb dX0_solveRows_24 (by decide) ?_
      refine lv_istore (lv' := [(4, .int (0 : Int32)), (2, .long (bM y1.toNatClampNeg y1.toNatClampNeg)), (0, .ref hBe), (1, .int y1)]) hx hb dX0_solveRows_25 hl (by decide) rfl (fun ls hl => ?_)
      obtain ⟨o100, eo100, hf⟩ := fp_b hf
      refine lp_X0_solveRows_27 F hG hA _ _ eo100 hP hD hS (lv_sub hl [2, 3, 1, 0] rfl) (fun H locs ls hP hD hS hl => ?_)
      refine lv_aload_n hx hb dX0_solveRows_67 rfl (lv_at hl 0 rfl) ?_
      refine lv_lload_n hx hb dX0_solveRows_68 rfl (lv_at hl 2 rfl) ?_
      refine va_put (D := D) (ci := 0) (v := .long (bM y1.toNatClampNeg y1.toNatClampNeg)) (ty := .long) (C := RX0) (T := TX0) (N := 7) hx hb hts ku_X0_solveRows_X0 tyX0 tyX0_ok nmX0 hown hK hP hD hS 0 rfl rfl 6 (by decide) (hts _ kw_X0_solveRows_1) (fun _ h9 => h9) rfl (by decide +kernel) rfl rfl (Nat.le_of_ble_eq_true rfl) dX0_solveRows_69 (fun H locs hP hD hS => ?_)
      have hP : va_P D vwCl ([(hBe, .inr (0, [.ref hBp, .ref hBn, .ref hBr, .ref hBo, .ref hBs, .int bq, .long (bM y1.toNatClampNeg y1.toNatClampNeg)])), (hBo, .inl (cQ, 10, .inr (.inr (.inr (.inr (gr_o hBg))))))] ++ gr_c cJ hBg o100) H := hP
      have hD : va_D A ([(hBe, .inr (0, [.ref hBp, .ref hBn, .ref hBr, .ref hBo, .ref hBs, .int bq, .long (bM y1.toNatClampNeg y1.toNatClampNeg)])), (hBo, .inl (cQ, 10, .inr (.inr (.inr (.inr (gr_o hBg))))))] ++ gr_c cJ hBg o100) := hD
      refine lv_iinc (v := (y1 + (1 : Int32))) (lv' := [(1, .int (y1 + (1 : Int32))), (0, .ref hBe), (2, .long (bM y1.toNatClampNeg y1.toNatClampNeg))]) hx hb dX0_solveRows_72 hl (k := 1) rfl rfl (by decide) rfl (fun ls hl => ?_)
      refine lv_goto (tgt := 7) hx hb dX0_solveRows_75 (by decide) ?_
      cases hf
      exact ih _ (fp_inl ho) hP hD hS (lv_sub hl [1, 0] rfl) hex
def f_X0_solveRows (bq : Int32) (bw : Int64) (bM : Nat → Nat → Int64) : Option (Int64 × (Nat → Nat → Int64)) :=
  Option.bind (lpf (fun s => f_X0_solveRows_7 bq s.1 s.2.1 s.2.2) 1000 ((0 : Int32), (1 : Int64), bM)) (fun o101 => some (o101.1, o101.2))
set_option maxHeartbeats 4000000 in
set_option maxRecDepth 100000 in
theorem b_X0_solveRows {p : Program} {l : Launch} {e : Env} {s : State} {m : MethodId} {args : Array Value} {below : List Frame} {meth : Method} {c : Code} {Q : State → Prop} {A : Nat → Prop} {H : Heap} {locs : List Loc} {D : va_G} {cI cJ cZ cQ : ClassId} {qs : Nat × Nat × Nat} {hBe hBp hBn hBr hBo hBs : Nat} {hBg : Nat → Nat} {bq : Int32} {bw : Int64} {bM : Nat → Nat → Int64} {out : Int64 × (Nat → Nat → Int64)} (F : CallFix p m c cX0_solveRows 5 s args wsX0_solveRows RX0) (hG : kW D (ty4 cI cJ cZ cQ) qs A s s.heap) (hA : ∀ q : Nat, s.heap.size ≤ q → A q) (hP : va_P D vwCl ([(hBe, .inr (0, [.ref hBp, .ref hBn, .ref hBr, .ref hBo, .ref hBs, .int bq, .long bw])), (hBo, .inl (cQ, 10, .inr (.inr (.inr (.inr (gr_o hBg))))))] ++ gr_c cJ hBg bM) H) (hD : va_D A ([(hBe, .inr (0, [.ref hBp, .ref hBn, .ref hBr, .ref hBo, .ref hBs, .int bq, .long bw])), (hBo, .inl (cQ, 10, .inr (.inr (.inr (.inr (gr_o hBg))))))] ++ gr_c cJ hBg bM)) (hS : va_S A s.heap H locs) (hf : f_X0_solveRows bq bw bM = some out) (hret : ∀ (pc : Nat) (H : Heap) (locs : List Loc) (ls : Array Slot), decode cX0_solveRows pc = .ok (.return_, 1) → va_P D vwCl ([(hBe, .inr (0, [.ref hBp, .ref hBn, .ref hBr, .ref hBo, .ref hBs, .int bq, .long out.1])), (hBo, .inl (cQ, 10, .inr (.inr (.inr (.inr (gr_o hBg))))))] ++ gr_c cJ hBg out.2) H → va_D A ([(hBe, .inr (0, [.ref hBp, .ref hBn, .ref hBr, .ref hBo, .ref hBs, .int bq, .long out.1])), (hBo, .inl (cQ, 10, .inr (.inr (.inr (.inr (gr_o hBg))))))] ++ gr_c cJ hBg out.2) → va_S A s.heap H locs → W p l e { frames := 1, cells := 0, slots := 0, locals := 26 } s m args below meth c H locs 0 0 Q (F0 m pc ls [])) {ls : Array Slot} (hl : lv_has ls 5 [(0, .ref hBe)]) : W p l e { frames := 1, cells := 0, slots := 0, locals := 26 } s m args below meth c H locs 0 0 Q (F0 m 0 ls []) := by
  have hx := F.1
  have hb := F.2.1
  have hown := F.2.2.2.1
  have hts := F.2.2.2.2
  have hK := hG.1.1
  rw [f_X0_solveRows] at hf
  refine lv_aload_n hx hb dX0_solveRows_0 rfl (lv_at hl 0 rfl) ?_
  refine lv_lconst (v := 1) hx hb dX0_solveRows_1 (by decide) ?_
  refine va_put (D := D) (ci := 0) (v := .long (1 : Int64)) (ty := .long) (C := RX0) (T := TX0) (N := 7) hx hb hts ku_X0_solveRows_X0 tyX0 tyX0_ok nmX0 hown hK hP hD hS 0 rfl rfl 6 (by decide) (hts _ kw_X0_solveRows_1) (fun _ h9 => h9) rfl (by decide +kernel) rfl rfl (Nat.le_of_ble_eq_true rfl) dX0_solveRows_2 (fun H locs hP hD hS => ?_)
  have hP : va_P D vwCl ([(hBe, .inr (0, [.ref hBp, .ref hBn, .ref hBr, .ref hBo, .ref hBs, .int bq, .long (1 : Int64)])), (hBo, .inl (cQ, 10, .inr (.inr (.inr (.inr (gr_o hBg))))))] ++ gr_c cJ hBg bM) H := hP
  have hD : va_D A ([(hBe, .inr (0, [.ref hBp, .ref hBn, .ref hBr, .ref hBo, .ref hBs, .int bq, .long (1 : Int64)])), (hBo, .inl (cQ, 10, .inr (.inr (.inr (.inr (gr_o hBg))))))] ++ gr_c cJ hBg bM) := hD
  refine lv_iconst (v := (0 : Int32)) hx hb dX0_solveRows_5 (by decide) ?_
  refine lv_istore_n (lv' := [(1, .int (0 : Int32)), (0, .ref hBe)]) hx hb dX0_solveRows_6 rfl hl (by decide) rfl (fun ls hl => ?_)
  obtain ⟨o101, eo101, hf⟩ := fp_b hf
  refine lp_X0_solveRows_7 F hG hA _ _ eo101 hP hD hS (lv_sub hl [1, 0] rfl) (fun H locs ls hP hD hS hl => ?_)
  cases hf
  exact hret _ _ _ _ dX0_solveRows_78 hP hD hS
set_option maxRecDepth 100000 in
theorem c_X0_solveRows {l : Launch} {D : va_G} {cI cJ cZ cQ : ClassId} {qs : Nat × Nat × Nat} {hBe hBp hBn hBr hBo hBs : Nat} {hBg : Nat → Nat} {bq : Int32} {bw : Int64} {bM : Nat → Nat → Int64} {out : Int64 × (Nat → Nat → Int64)} (hf : f_X0_solveRows bq bw bM = some out) : RwV l yX0_solveRows wsX0_solveRows { frames := 1, cells := 0, slots := 0, locals := 26 } D (ty4 cI cJ cZ cQ) qs [.ref hBe] ([(hBe, .inr (0, [.ref hBp, .ref hBn, .ref hBr, .ref hBo, .ref hBs, .int bq, .long bw])), (hBo, .inl (cQ, 10, .inr (.inr (.inr (.inr (gr_o hBg))))))] ++ gr_c cJ hBg bM) ([(hBe, .inr (0, [.ref hBp, .ref hBn, .ref hBr, .ref hBo, .ref hBs, .int bq, .long out.1])), (hBo, .inl (cQ, 10, .inr (.inr (.inr (.inr (gr_o hBg))))))] ++ gr_c cJ hBg out.2) :=
  RwV.of (own := RX0) (by decide +kernel) rfl rfl (Nat.le_of_ble_eq_true rfl) (fun F hG hA hP hD hS hret ls hl => b_X0_solveRows F hG hA hP hD hS hf hret hl)
-- method X0_addPart
theorem yd_X0_addPart : yX0_addPart.cls = RX0 ∧ yX0_addPart.cls ≠ "java/lang/invoke/MethodHandle" ∧ yX0_addPart.cls ≠ "java/lang/invoke/VarHandle" ∧ (parseMethodDescriptor yX0_addPart.desc).map (fun d => d.parameters.length) = some 2 := by decide +kernel
theorem ku_X0_addPart_X0 : ∀ w ∈ u_ws RX0 TX0 7, w ∈ wsX0_addPart := by decide +kernel
theorem kw_X0_addPart_1 : Cond.fieldLink RX0 26 "MirrorShares$Beam" "parts" "[J" ∈ wsX0_addPart := List.mem_of_getElem? (i := 1) rfl
def f_X0_addPart (bs : Nat → Int64) (x1 : Int32) (x2 : Int64) : Option ((Nat → Int64)) :=
  (if x1 < 0 then some bs else (if (60 : Int32) ≤ x1 then some bs else chk (aix x1 60) (some (vp_updL bs x1.toNatClampNeg ((bs x1.toNatClampNeg) + x2)))))
set_option maxHeartbeats 4000000 in
set_option maxRecDepth 100000 in
theorem b_X0_addPart {p : Program} {l : Launch} {e : Env} {s : State} {m : MethodId} {args : Array Value} {below : List Frame} {meth : Method} {c : Code} {Q : State → Prop} {A : Nat → Prop} {H : Heap} {locs : List Loc} {D : va_G} {cI cJ cZ cQ : ClassId} {qs : Nat × Nat × Nat} {hBe hBp hBn hBr hBo hBs : Nat} {bq : Int32} {bw : Int64} {bs : Nat → Int64} {x1 : Int32} {x2 : Int64} {out : (Nat → Int64)} (F : CallFix p m c cX0_addPart 4 s args wsX0_addPart RX0) (hG : kW D (ty4 cI cJ cZ cQ) qs A s s.heap) (hA : ∀ q : Nat, s.heap.size ≤ q → A q) (hP : va_P D vwCl [(hBe, .inr (0, [.ref hBp, .ref hBn, .ref hBr, .ref hBo, .ref hBs, .int bq, .long bw])), (hBs, .inl (cJ, 60, .inr (.inl bs)))] H) (hD : va_D A [(hBe, .inr (0, [.ref hBp, .ref hBn, .ref hBr, .ref hBo, .ref hBs, .int bq, .long bw])), (hBs, .inl (cJ, 60, .inr (.inl bs)))]) (hS : va_S A s.heap H locs) (hf : f_X0_addPart bs x1 x2 = some out) (hret : ∀ (pc : Nat) (H : Heap) (locs : List Loc) (ls : Array Slot), decode cX0_addPart pc = .ok (.return_, 1) → va_P D vwCl [(hBe, .inr (0, [.ref hBp, .ref hBn, .ref hBr, .ref hBo, .ref hBs, .int bq, .long bw])), (hBs, .inl (cJ, 60, .inr (.inl out)))] H → va_D A [(hBe, .inr (0, [.ref hBp, .ref hBn, .ref hBr, .ref hBo, .ref hBs, .int bq, .long bw])), (hBs, .inl (cJ, 60, .inr (.inl out)))] → va_S A s.heap H locs → W p l e { frames := 0, cells := 0, slots := 0, locals := 0 } s m args below meth c H locs 0 0 Q (F0 m pc ls [])) {ls : Array Slot} (hl : lv_has ls 4 [(0, .ref hBe), (1, .int x1), (2, .long x2)]) : W p l e { frames := 0, cells := 0, slots := 0, locals := 0 } s m args below meth c H locs 0 0 Q (F0 m 0 ls []) := by
  have hx := F.1
  have hb := F.2.1
  have hown := F.2.2.2.1
  have hts := F.2.2.2.2
  have hK := hG.1.1
  rw [f_X0_addPart] at hf
  refine lv_iload_n hx hb dX0_addPart_0 rfl (lv_at hl 1 rfl) ?_
  refine lv_if_lt (tgt := 20) hx hb dX0_addPart_1 (by decide) (fun c102 => ?_) (fun c102 => ?_)
  · have hf := fp_t hf c102
    cases hf
    exact hret _ _ _ _ dX0_addPart_20 hP hD hS
  · have hf := fp_f hf c102
    refine lv_iload_n hx hb dX0_addPart_4 rfl (lv_at hl 1 rfl) ?_
    refine lv_bipush (v := (60 : Int32)) hx hb dX0_addPart_5 (by decide) ?_
    refine lv_icmp_ge (tgt := 20) hx hb dX0_addPart_7 (by decide) (fun c103 => ?_) (fun c103 => ?_)
    · have hf := fp_t hf c103
      cases hf
      exact hret _ _ _ _ dX0_addPart_20 hP hD hS
    · have hf := fp_f hf c103
      refine lv_aload_n hx hb dX0_addPart_10 rfl (lv_at hl 0 rfl) ?_
      refine va_get (D := D) (ci := 0) (v := .ref hBs) (C := RX0) (T := TX0) (N := 7) hx hb hts ku_X0_addPart_X0 hown hK hP 0 rfl rfl 4 (by decide) (hts _ kw_X0_addPart_1) (fun _ h9 => h9) rfl dX0_addPart_11 ?_
      refine lv_iload_n hx hb dX0_addPart_14 rfl (lv_at hl 1 rfl) ?_
      refine lv_dup2_11 hx hb dX0_addPart_15 rfl rfl ?_
      obtain ⟨k104, hf⟩ := fp_c hf
      refine va_lald hx hb hK hP 1 1 rfl rfl k104 dX0_addPart_16 ?_
      refine lv_lload_n hx hb dX0_addPart_17 rfl (lv_at hl 2 rfl) ?_
      refine lv_ladd hx hb dX0_addPart_18 ?_
      refine va_last hx hb hK hP hD hS 1 1 rfl rfl k104 dX0_addPart_19 (fun H locs hP hD hS => ?_)
      have hP : va_P D vwCl [(hBe, .inr (0, [.ref hBp, .ref hBn, .ref hBr, .ref hBo, .ref hBs, .int bq, .long bw])), (hBs, .inl (cJ, 60, .inr (.inl (vp_updL bs x1.toNatClampNeg ((bs x1.toNatClampNeg) + x2)))))] H := hP
      have hD : va_D A [(hBe, .inr (0, [.ref hBp, .ref hBn, .ref hBr, .ref hBo, .ref hBs, .int bq, .long bw])), (hBs, .inl (cJ, 60, .inr (.inl (vp_updL bs x1.toNatClampNeg ((bs x1.toNatClampNeg) + x2)))))] := hD
      cases hf
      exact hret _ _ _ _ dX0_addPart_20 hP hD hS
set_option maxRecDepth 100000 in
theorem c_X0_addPart {l : Launch} {D : va_G} {cI cJ cZ cQ : ClassId} {qs : Nat × Nat × Nat} {hBe hBp hBn hBr hBo hBs : Nat} {bq : Int32} {bw : Int64} {bs : Nat → Int64} {x1 : Int32} {x2 : Int64} {out : (Nat → Int64)} (hf : f_X0_addPart bs x1 x2 = some out) : RwV l yX0_addPart wsX0_addPart { frames := 0, cells := 0, slots := 0, locals := 0 } D (ty4 cI cJ cZ cQ) qs [.ref hBe, .int x1, .long x2] [(hBe, .inr (0, [.ref hBp, .ref hBn, .ref hBr, .ref hBo, .ref hBs, .int bq, .long bw])), (hBs, .inl (cJ, 60, .inr (.inl bs)))] [(hBe, .inr (0, [.ref hBp, .ref hBn, .ref hBr, .ref hBo, .ref hBs, .int bq, .long bw])), (hBs, .inl (cJ, 60, .inr (.inl out)))] :=
  RwV.of (own := RX0) (by decide +kernel) rfl rfl (Nat.le_of_ble_eq_true rfl) (fun F hG hA hP hD hS hret ls hl => b_X0_addPart F hG hA hP hD hS hf hret hl)
-- method X0_addParts
theorem yd_X0_addParts : yX0_addParts.cls = RX0 ∧ yX0_addParts.cls ≠ "java/lang/invoke/MethodHandle" ∧ yX0_addParts.cls ≠ "java/lang/invoke/VarHandle" ∧ (parseMethodDescriptor yX0_addParts.desc).map (fun d => d.parameters.length) = some 1 := by decide +kernel
theorem ku_X0_addParts_X0 : ∀ w ∈ u_ws RX0 TX0 7, w ∈ wsX0_addParts := by decide +kernel
theorem kw_X0_addParts_1 : Cond.fieldLink RX0 26 "MirrorShares$Beam" "parts" "[J" ∈ wsX0_addParts := List.mem_of_getElem? (i := 1) rfl
theorem kw_X0_addParts_2 : Cond.fieldLink RX0 34 "MirrorShares$Beam" "whole" "J" ∈ wsX0_addParts := List.mem_of_getElem? (i := 2) rfl
theorem kw_X0_addParts_3 : Cond.fieldLink RX0 30 "MirrorShares$Beam" "splits" "I" ∈ wsX0_addParts := List.mem_of_getElem? (i := 3) rfl
theorem kw_X0_addParts_4 : Cond.fieldLink RX0 18 "MirrorShares$Beam" "rayEnd" "[I" ∈ wsX0_addParts := List.mem_of_getElem? (i := 4) rfl
theorem kw_X0_addParts_5 : Cond.fieldLink RX0 23 "MirrorShares$Beam" "rows" "[[J" ∈ wsX0_addParts := List.mem_of_getElem? (i := 5) rfl
def f_X0_addParts_19 (bq : Int32) (bw : Int64) (br : Nat → Int32) (bM : Nat → Nat → Int64) (y2 : Int32) (bs : Nat → Int64) : Option ((Int32 × (Nat → Int64)) ⊕ ((Nat → Int64))) :=
  (if ((2 : Int32) * bq) ≤ y2 then some (Sum.inr bs) else chk (aix y2 20) (chk (aix (y2 / (2 : Int32)) 10) (chk (aix bq 11) (Option.bind (f_X0_addPart bs (br y2.toNatClampNeg) (bM (Int32.toNatClampNeg (y2 / (2 : Int32))) bq.toNatClampNeg)) (fun r111 => some (Sum.inl ((y2 + (1 : Int32)), r111)))))))
set_option maxHeartbeats 4000000 in
set_option maxRecDepth 100000 in
theorem lp_X0_addParts_19 {p : Program} {l : Launch} {e : Env} {s : State} {m : MethodId} {args : Array Value} {below : List Frame} {meth : Method} {c : Code} {Q : State → Prop} {A : Nat → Prop} {D : va_G} {cI cJ cZ cQ : ClassId} {qs : Nat × Nat × Nat} {hBe hBp hBn hBr hBo hBs : Nat} {hBg : Nat → Nat} {bq : Int32} {bw : Int64} {br : Nat → Int32} {bM : Nat → Nat → Int64} (F : CallFix p m c cX0_addParts 3 s args wsX0_addParts RX0) (hG : kW D (ty4 cI cJ cZ cQ) qs A s s.heap) (hA : ∀ q : Nat, s.heap.size ≤ q → A q) :
    ∀ (n : Nat) {y2 : Int32} {bs : Nat → Int64} (out : (Nat → Int64)), lpf (fun s => f_X0_addParts_19 bq bw br bM s.1 s.2) n (y2, bs) = some out → ∀ {H : Heap} {locs : List Loc} {ls : Array Slot}, va_P D vwCl ([(hBe, .inr (0, [.ref hBp, .ref hBn, .ref hBr, .ref hBo, .ref hBs, .int bq, .long bw])), (hBr, .inl (cI, 20, .inl br)), (hBs, .inl (cJ, 60, .inr (.inl bs))), (hBo, .inl (cQ, 10, .inr (.inr (.inr (.inr (gr_o hBg))))))] ++ gr_c cJ hBg bM) H → va_D A ([(hBe, .inr (0, [.ref hBp, .ref hBn, .ref hBr, .ref hBo, .ref hBs, .int bq, .long bw])), (hBr, .inl (cI, 20, .inl br)), (hBs, .inl (cJ, 60, .inr (.inl bs))), (hBo, .inl (cQ, 10, .inr (.inr (.inr (.inr (gr_o hBg))))))] ++ gr_c cJ hBg bM) → va_S A s.heap H locs → lv_has ls 3 [(0, .ref hBe), (2, .int y2)] → (∀ (H : Heap) (locs : List Loc) (ls : Array Slot), va_P D vwCl ([(hBe, .inr (0, [.ref hBp, .ref hBn, .ref hBr, .ref hBo, .ref hBs, .int bq, .long bw])), (hBr, .inl (cI, 20, .inl br)), (hBs, .inl (cJ, 60, .inr (.inl out))), (hBo, .inl (cQ, 10, .inr (.inr (.inr (.inr (gr_o hBg))))))] ++ gr_c cJ hBg bM) H → va_D A ([(hBe, .inr (0, [.ref hBp, .ref hBn, .ref hBr, .ref hBo, .ref hBs, .int bq, .long bw])), (hBr, .inl (cI, 20, .inl br)), (hBs, .inl (cJ, 60, .inr (.inl out))), (hBo, .inl (cQ, 10, .inr (.inr (.inr (.inr (gr_o hBg))))))] ++ gr_c cJ hBg bM) → va_S A s.heap H locs → lv_has ls 3 [(0, .ref hBe)] → W p l e { frames := 1, cells := 0, slots := 0, locals := 24 } s m args below meth c H locs 0 0 Q (F0 m 58 ls [])) → W p l e { frames := 1, cells := 0, slots := 0, locals := 24 } s m args below meth c H locs 0 0 Q (F0 m 19 ls []) := by
  have hx := F.1
  have hb := F.2.1
  have hown := F.2.2.2.1
  have hts := F.2.2.2.2
  have hK := hG.1.1
  intro n
  induction n with
  | zero =>
    intro y2 bs out ho
    exact (fp_l0 ho).elim
  | succ n ih =>
    intro y2 bs out ho H locs ls hP hD hS hl hex
    obtain ⟨o, hf, ho⟩ := fp_l ho
    have hf : f_X0_addParts_19 bq bw br bM y2 bs = some o := hf
    rw [f_X0_addParts_19] at hf
    refine lv_iload_n hx hb dX0_addParts_19 rfl (lv_at hl 1 rfl) ?_
    refine lv_iconst (v := (2 : Int32)) hx hb dX0_addParts_20 (by decide) ?_
    refine lv_aload_n hx hb dX0_addParts_21 rfl (lv_at hl 0 rfl) ?_
    refine va_get (D := D) (ci := 0) (v := .int bq) (C := RX0) (T := TX0) (N := 7) hx hb hts ku_X0_addParts_X0 hown hK hP 0 rfl rfl 5 (by decide) (hts _ kw_X0_addParts_3) (fun _ h9 => h9) rfl dX0_addParts_22 ?_
    refine lv_imul hx hb dX0_addParts_25 ?_
    refine lv_icmp_ge (tgt := 58) hx hb dX0_addParts_26 (by decide) (fun c107 => ?_) (fun c107 => ?_)
    · have hf := fp_t hf c107
      cases hf
      have ho := fp_inr ho
      cases ho
      exact hex _ _ _ hP hD hS (lv_sub hl [0] rfl)
    · have hf := fp_f hf c107
      refine lv_aload_n hx hb dX0_addParts_29 rfl (lv_at hl 0 rfl) ?_
      refine lv_aload_n hx hb dX0_addParts_30 rfl (lv_at hl 0 rfl) ?_
      refine va_get (D := D) (ci := 0) (v := .ref hBr) (C := RX0) (T := TX0) (N := 7) hx hb hts ku_X0_addParts_X0 hown hK hP 0 rfl rfl 2 (by decide) (hts _ kw_X0_addParts_4) (fun _ h9 => h9) rfl dX0_addParts_31 ?_
      refine lv_iload_n hx hb dX0_addParts_34 rfl (lv_at hl 1 rfl) ?_
      obtain ⟨k108, hf⟩ := fp_c hf
      refine va_iald hx hb hK hP 1 0 rfl rfl k108 dX0_addParts_35 ?_
      refine lv_aload_n hx hb dX0_addParts_36 rfl (lv_at hl 0 rfl) ?_
      refine va_get (D := D) (ci := 0) (v := .ref hBo) (C := RX0) (T := TX0) (N := 7) hx hb hts ku_X0_addParts_X0 hown hK hP 0 rfl rfl 3 (by decide) (hts _ kw_X0_addParts_5) (fun _ h9 => h9) rfl dX0_addParts_37 ?_
      refine lv_iload_n hx hb dX0_addParts_40 rfl (lv_at hl 1 rfl) ?_
      refine lv_iconst (v := (2 : Int32)) hx hb dX0_addParts_41 (by decide) ?_
      refine lv_idiv hx hb dX0_addParts_42 (by decide) ?_
      obtain ⟨k109, hf⟩ := fp_c hf
      refine gr_aald hx hb hK hP 3 3 rfl rfl k109 dX0_addParts_43 ?_
      refine lv_aload_n hx hb dX0_addParts_44 rfl (lv_at hl 0 rfl) ?_
      refine va_get (D := D) (ci := 0) (v := .int bq) (C := RX0) (T := TX0) (N := 7) hx hb hts ku_X0_addParts_X0 hown hK hP 0 rfl rfl 5 (by decide) (hts _ kw_X0_addParts_3) (fun _ h9 => h9) rfl dX0_addParts_45 ?_
      obtain ⟨k110, hf⟩ := fp_c hf
      refine gr_lald hx hb hK hP 1 rfl (gr_lt k109) k110 dX0_addParts_48 ?_
      obtain ⟨r111, er111, hf⟩ := fp_b hf
      refine kc_rwV (w2 := ([(hBe, .inr (0, [.ref hBp, .ref hBn, .ref hBr, .ref hBo, .ref hBs, .int bq, .long bw])), (hBr, .inl (cI, 20, .inl br)), (hBs, .inl (cJ, 60, .inr (.inl r111))), (hBo, .inl (cQ, 10, .inr (.inr (.inr (.inr (gr_o hBg))))))] ++ gr_c cJ hBg bM)) (RwV.runV (c_X0_addPart (l := l) (D := D) (cI := cI) (cJ := cJ) (cZ := cZ) (cQ := cQ) (qs := qs) er111) F (cwV 2 hts gX0_addParts_X0_addPart rfl rfl rfl yd_X0_addPart ⟨Nat.le_of_ble_eq_true rfl, Nat.le_of_ble_eq_true rfl⟩) hG hP hD hS hA [0, 2] (by decide) rfl 0 rfl rfl rfl hl.1 rfl (Nat.le_of_ble_eq_true rfl) dX0_addParts_49 ⟨Nat.zero_le _, Nat.zero_le _⟩) hP hD hS hA [0, 2] [1, 3, 4, 5, 6, 7, 8, 9, 10, 11, 12, 13] [12, 0, 13, 1, 2, 3, 4, 5, 6, 7, 8, 9, 10, 11] rfl (wr := ([(hBr, .inl (cI, 20, .inl br)), (hBo, .inl (cQ, 10, .inr (.inr (.inr (.inr (gr_o hBg))))))] ++ gr_c cJ hBg bM)) rfl (by decide) (by decide) rfl (by decide) (fun H locs hP hD hS => ?_)
      refine lv_iinc (v := (y2 + (1 : Int32))) (lv' := [(2, .int (y2 + (1 : Int32))), (0, .ref hBe)]) hx hb dX0_addParts_52 hl (k := 1) rfl rfl (by decide) rfl (fun ls hl => ?_)
      refine lv_goto (tgt := 19) hx hb dX0_addParts_55 (by decide) ?_
      cases hf
      exact ih _ (fp_inl ho) hP hD hS (lv_sub hl [1, 0] rfl) hex
def f_X0_addParts (bq : Int32) (bw : Int64) (br : Nat → Int32) (bs : Nat → Int64) (bM : Nat → Nat → Int64) (x1 : Int32) : Option ((Nat → Int64)) :=
  Option.bind (f_J7_fill_d0a16 60 bs (0 : Int64)) (fun r105 => Option.bind (f_X0_addPart r105 x1 bw) (fun r106 => Option.bind (lpf (fun s => f_X0_addParts_19 bq bw br bM s.1 s.2) 1000 ((0 : Int32), r106)) (fun o112 => some o112)))
set_option maxHeartbeats 4000000 in
set_option maxRecDepth 100000 in
theorem b_X0_addParts {p : Program} {l : Launch} {e : Env} {s : State} {m : MethodId} {args : Array Value} {below : List Frame} {meth : Method} {c : Code} {Q : State → Prop} {A : Nat → Prop} {H : Heap} {locs : List Loc} {D : va_G} {cI cJ cZ cQ : ClassId} {qs : Nat × Nat × Nat} {hBe hBp hBn hBr hBo hBs : Nat} {hBg : Nat → Nat} {bq : Int32} {bw : Int64} {br : Nat → Int32} {bs : Nat → Int64} {bM : Nat → Nat → Int64} {x1 : Int32} {out : (Nat → Int64)} (F : CallFix p m c cX0_addParts 3 s args wsX0_addParts RX0) (hG : kW D (ty4 cI cJ cZ cQ) qs A s s.heap) (hA : ∀ q : Nat, s.heap.size ≤ q → A q) (hP : va_P D vwCl ([(hBe, .inr (0, [.ref hBp, .ref hBn, .ref hBr, .ref hBo, .ref hBs, .int bq, .long bw])), (hBr, .inl (cI, 20, .inl br)), (hBs, .inl (cJ, 60, .inr (.inl bs))), (hBo, .inl (cQ, 10, .inr (.inr (.inr (.inr (gr_o hBg))))))] ++ gr_c cJ hBg bM) H) (hD : va_D A ([(hBe, .inr (0, [.ref hBp, .ref hBn, .ref hBr, .ref hBo, .ref hBs, .int bq, .long bw])), (hBr, .inl (cI, 20, .inl br)), (hBs, .inl (cJ, 60, .inr (.inl bs))), (hBo, .inl (cQ, 10, .inr (.inr (.inr (.inr (gr_o hBg))))))] ++ gr_c cJ hBg bM)) (hS : va_S A s.heap H locs) (hf : f_X0_addParts bq bw br bs bM x1 = some out) (hret : ∀ (pc : Nat) (H : Heap) (locs : List Loc) (ls : Array Slot), decode cX0_addParts pc = .ok (.return_, 1) → va_P D vwCl ([(hBe, .inr (0, [.ref hBp, .ref hBn, .ref hBr, .ref hBo, .ref hBs, .int bq, .long bw])), (hBr, .inl (cI, 20, .inl br)), (hBs, .inl (cJ, 60, .inr (.inl out))), (hBo, .inl (cQ, 10, .inr (.inr (.inr (.inr (gr_o hBg))))))] ++ gr_c cJ hBg bM) H → va_D A ([(hBe, .inr (0, [.ref hBp, .ref hBn, .ref hBr, .ref hBo, .ref hBs, .int bq, .long bw])), (hBr, .inl (cI, 20, .inl br)), (hBs, .inl (cJ, 60, .inr (.inl out))), (hBo, .inl (cQ, 10, .inr (.inr (.inr (.inr (gr_o hBg))))))] ++ gr_c cJ hBg bM) → va_S A s.heap H locs → W p l e { frames := 1, cells := 0, slots := 0, locals := 24 } s m args below meth c H locs 0 0 Q (F0 m pc ls [])) {ls : Array Slot} (hl : lv_has ls 3 [(0, .ref hBe), (1, .int x1)]) : W p l e { frames := 1, cells := 0, slots := 0, locals := 24 } s m args below meth c H locs 0 0 Q (F0 m 0 ls []) := by
  have hx := F.1
  have hb := F.2.1
  have hown := F.2.2.2.1
  have hts := F.2.2.2.2
  have hK := hG.1.1
  rw [f_X0_addParts] at hf
  refine lv_aload_n hx hb dX0_addParts_0 rfl (lv_at hl 0 rfl) ?_
  refine va_get (D := D) (ci := 0) (v := .ref hBs) (C := RX0) (T := TX0) (N := 7) hx hb hts ku_X0_addParts_X0 hown hK hP 0 rfl rfl 4 (by decide) (hts _ kw_X0_addParts_1) (fun _ h9 => h9) rfl dX0_addParts_1 ?_
  refine lv_lconst (v := 0) hx hb dX0_addParts_4 (by decide) ?_
  obtain ⟨r105, er105, hf⟩ := fp_b hf
  refine kc_rwV (w2 := ([(hBe, .inr (0, [.ref hBp, .ref hBn, .ref hBr, .ref hBo, .ref hBs, .int bq, .long bw])), (hBr, .inl (cI, 20, .inl br)), (hBs, .inl (cJ, 60, .inr (.inl r105))), (hBo, .inl (cQ, 10, .inr (.inr (.inr (.inr (gr_o hBg))))))] ++ gr_c cJ hBg bM)) (RwV.runS (c_J7_fill_d0a16 (l := l) (D := D) (cI := cI) (cJ := cJ) (cZ := cZ) (cQ := cQ) (qs := qs) er105) F (va_cwS 2 hts gX0_addParts_J7_fill_d0a16 rfl rfl rfl yd_J7_fill_d0a16 ⟨Nat.le_of_ble_eq_true rfl, Nat.le_of_ble_eq_true rfl⟩) hG hP hD hS hA [2] (by decide) rfl rfl hl.1 rfl (Nat.le_of_ble_eq_true rfl) dX0_addParts_5 ⟨Nat.zero_le _, Nat.zero_le _⟩) hP hD hS hA [2] [0, 1, 3, 4, 5, 6, 7, 8, 9, 10, 11, 12, 13] [0, 1, 13, 2, 3, 4, 5, 6, 7, 8, 9, 10, 11, 12] rfl (wr := ([(hBe, .inr (0, [.ref hBp, .ref hBn, .ref hBr, .ref hBo, .ref hBs, .int bq, .long bw])), (hBr, .inl (cI, 20, .inl br)), (hBo, .inl (cQ, 10, .inr (.inr (.inr (.inr (gr_o hBg))))))] ++ gr_c cJ hBg bM)) rfl (by decide) (by decide) rfl (by decide) (fun H locs hP hD hS => ?_)
  refine lv_aload_n hx hb dX0_addParts_8 rfl (lv_at hl 0 rfl) ?_
  refine lv_iload_n hx hb dX0_addParts_9 rfl (lv_at hl 1 rfl) ?_
  refine lv_aload_n hx hb dX0_addParts_10 rfl (lv_at hl 0 rfl) ?_
  refine va_get (D := D) (ci := 0) (v := .long bw) (C := RX0) (T := TX0) (N := 7) hx hb hts ku_X0_addParts_X0 hown hK hP 0 rfl rfl 6 (by decide) (hts _ kw_X0_addParts_2) (fun _ h9 => h9) rfl dX0_addParts_11 ?_
  obtain ⟨r106, er106, hf⟩ := fp_b hf
  refine kc_rwV (w2 := ([(hBe, .inr (0, [.ref hBp, .ref hBn, .ref hBr, .ref hBo, .ref hBs, .int bq, .long bw])), (hBr, .inl (cI, 20, .inl br)), (hBs, .inl (cJ, 60, .inr (.inl r106))), (hBo, .inl (cQ, 10, .inr (.inr (.inr (.inr (gr_o hBg))))))] ++ gr_c cJ hBg bM)) (RwV.runV (c_X0_addPart (l := l) (D := D) (cI := cI) (cJ := cJ) (cZ := cZ) (cQ := cQ) (qs := qs) er106) F (cwV 2 hts gX0_addParts_X0_addPart rfl rfl rfl yd_X0_addPart ⟨Nat.le_of_ble_eq_true rfl, Nat.le_of_ble_eq_true rfl⟩) hG hP hD hS hA [0, 2] (by decide) rfl 0 rfl rfl rfl hl.1 rfl (Nat.le_of_ble_eq_true rfl) dX0_addParts_14 ⟨Nat.zero_le _, Nat.zero_le _⟩) hP hD hS hA [0, 2] [1, 3, 4, 5, 6, 7, 8, 9, 10, 11, 12, 13] [12, 0, 13, 1, 2, 3, 4, 5, 6, 7, 8, 9, 10, 11] rfl (wr := ([(hBr, .inl (cI, 20, .inl br)), (hBo, .inl (cQ, 10, .inr (.inr (.inr (.inr (gr_o hBg))))))] ++ gr_c cJ hBg bM)) rfl (by decide) (by decide) rfl (by decide) (fun H locs hP hD hS => ?_)
  refine lv_iconst (v := (0 : Int32)) hx hb dX0_addParts_17 (by decide) ?_
  refine lv_istore_n (lv' := [(2, .int (0 : Int32)), (0, .ref hBe), (1, .int x1)]) hx hb dX0_addParts_18 rfl hl (by decide) rfl (fun ls hl => ?_)
  obtain ⟨o112, eo112, hf⟩ := fp_b hf
  refine lp_X0_addParts_19 F hG hA _ _ eo112 hP hD hS (lv_sub hl [1, 0] rfl) (fun H locs ls hP hD hS hl => ?_)
  cases hf
  exact hret _ _ _ _ dX0_addParts_58 hP hD hS
set_option maxRecDepth 100000 in
theorem c_X0_addParts {l : Launch} {D : va_G} {cI cJ cZ cQ : ClassId} {qs : Nat × Nat × Nat} {hBe hBp hBn hBr hBo hBs : Nat} {hBg : Nat → Nat} {bq : Int32} {bw : Int64} {br : Nat → Int32} {bs : Nat → Int64} {bM : Nat → Nat → Int64} {x1 : Int32} {out : (Nat → Int64)} (hf : f_X0_addParts bq bw br bs bM x1 = some out) : RwV l yX0_addParts wsX0_addParts { frames := 1, cells := 0, slots := 0, locals := 24 } D (ty4 cI cJ cZ cQ) qs [.ref hBe, .int x1] ([(hBe, .inr (0, [.ref hBp, .ref hBn, .ref hBr, .ref hBo, .ref hBs, .int bq, .long bw])), (hBr, .inl (cI, 20, .inl br)), (hBs, .inl (cJ, 60, .inr (.inl bs))), (hBo, .inl (cQ, 10, .inr (.inr (.inr (.inr (gr_o hBg))))))] ++ gr_c cJ hBg bM) ([(hBe, .inr (0, [.ref hBp, .ref hBn, .ref hBr, .ref hBo, .ref hBs, .int bq, .long bw])), (hBr, .inl (cI, 20, .inl br)), (hBs, .inl (cJ, 60, .inr (.inl out))), (hBo, .inl (cQ, 10, .inr (.inr (.inr (.inr (gr_o hBg))))))] ++ gr_c cJ hBg bM) :=
  RwV.of (own := RX0) (by decide +kernel) rfl rfl (Nat.le_of_ble_eq_true rfl) (fun F hG hA hP hD hS hret ls hl => b_X0_addParts F hG hA hP hD hS hf hret hl)
-- method X0_shine
theorem yd_X0_shine : yX0_shine.cls = RX0 ∧ yX0_shine.cls ≠ "java/lang/invoke/MethodHandle" ∧ yX0_shine.cls ≠ "java/lang/invoke/VarHandle" ∧ (parseMethodDescriptor yX0_shine.desc).map (fun d => d.parameters.length) = some 2 := by decide +kernel
def f_X0_shine (coO : Int32) (roO : Int32) (kdO : Nat → Int32) (bq : Int32) (bw : Int64) (bp : Nat → Int32) (bn : Nat → Int32) (br : Nat → Int32) (bs : Nat → Int64) (bM : Nat → Nat → Int64) (x2 : Int32) : Option (Int32 × Int64 × (Nat → Int32) × (Nat → Int32) × (Nat → Int32) × (Nat → Int64) × (Nat → Nat → Int64)) :=
  Option.bind (f_X2_portCell coO roO x2) (fun r113 => Option.bind (f_X2_portDirection coO roO x2) (fun r114 => Option.bind (f_X0_endOf coO roO kdO r113 r114) (fun r115 => Option.bind (f_X0_findSplits coO roO kdO bq bp bn br r115) (fun r116 => Option.bind (f_X0_setRows r116.1 r116.2.2.1 r116.2.2.2 bM) (fun r117 => Option.bind (f_X0_solveRows r116.1 bw r117) (fun r118 => Option.bind (f_X0_addParts r116.1 r118.1 r116.2.2.2 bs r118.2 r115) (fun r119 => some (r116.1, r118.1, r116.2.1, r116.2.2.1, r116.2.2.2, r119, r118.2))))))))
set_option maxHeartbeats 4000000 in
set_option maxRecDepth 100000 in
theorem b_X0_shine {p : Program} {l : Launch} {e : Env} {s : State} {m : MethodId} {args : Array Value} {below : List Frame} {meth : Method} {c : Code} {Q : State → Prop} {A : Nat → Prop} {H : Heap} {locs : List Loc} {D : va_G} {cI cJ cZ cQ : ClassId} {qs : Nat × Nat × Nat} {hBe hBp hBn hBr hBo hBs hRmO hKdO : Nat} {hBg : Nat → Nat} {coO : Int32} {roO : Int32} {kdO : Nat → Int32} {bq : Int32} {bw : Int64} {bp : Nat → Int32} {bn : Nat → Int32} {br : Nat → Int32} {bs : Nat → Int64} {bM : Nat → Nat → Int64} {x2 : Int32} {out : Int32 × Int64 × (Nat → Int32) × (Nat → Int32) × (Nat → Int32) × (Nat → Int64) × (Nat → Nat → Int64)} (F : CallFix p m c cX0_shine 4 s args wsX0_shine RX0) (hG : kW D (ty4 cI cJ cZ cQ) qs A s s.heap) (hA : ∀ q : Nat, s.heap.size ≤ q → A q) (hP : va_P D vwCl ([(hBe, .inr (0, [.ref hBp, .ref hBn, .ref hBr, .ref hBo, .ref hBs, .int bq, .long bw])), (hRmO, .inr (2, [.ref hKdO, .int coO, .int roO])), (hKdO, .inl (cI, 20, .inl kdO)), (hBp, .inl (cI, 10, .inl bp)), (hBn, .inl (cI, 60, .inl bn)), (hBr, .inl (cI, 20, .inl br)), (hBs, .inl (cJ, 60, .inr (.inl bs))), (hBo, .inl (cQ, 10, .inr (.inr (.inr (.inr (gr_o hBg))))))] ++ gr_c cJ hBg bM) H) (hD : va_D A ([(hBe, .inr (0, [.ref hBp, .ref hBn, .ref hBr, .ref hBo, .ref hBs, .int bq, .long bw])), (hRmO, .inr (2, [.ref hKdO, .int coO, .int roO])), (hKdO, .inl (cI, 20, .inl kdO)), (hBp, .inl (cI, 10, .inl bp)), (hBn, .inl (cI, 60, .inl bn)), (hBr, .inl (cI, 20, .inl br)), (hBs, .inl (cJ, 60, .inr (.inl bs))), (hBo, .inl (cQ, 10, .inr (.inr (.inr (.inr (gr_o hBg))))))] ++ gr_c cJ hBg bM)) (hS : va_S A s.heap H locs) (hf : f_X0_shine coO roO kdO bq bw bp bn br bs bM x2 = some out) (hret : ∀ (pc : Nat) (H : Heap) (locs : List Loc) (ls : Array Slot), decode cX0_shine pc = .ok (.return_, 1) → va_P D vwCl ([(hBe, .inr (0, [.ref hBp, .ref hBn, .ref hBr, .ref hBo, .ref hBs, .int out.1, .long out.2.1])), (hRmO, .inr (2, [.ref hKdO, .int coO, .int roO])), (hKdO, .inl (cI, 20, .inl kdO)), (hBp, .inl (cI, 10, .inl out.2.2.1)), (hBn, .inl (cI, 60, .inl out.2.2.2.1)), (hBr, .inl (cI, 20, .inl out.2.2.2.2.1)), (hBs, .inl (cJ, 60, .inr (.inl out.2.2.2.2.2.1))), (hBo, .inl (cQ, 10, .inr (.inr (.inr (.inr (gr_o hBg))))))] ++ gr_c cJ hBg out.2.2.2.2.2.2) H → va_D A ([(hBe, .inr (0, [.ref hBp, .ref hBn, .ref hBr, .ref hBo, .ref hBs, .int out.1, .long out.2.1])), (hRmO, .inr (2, [.ref hKdO, .int coO, .int roO])), (hKdO, .inl (cI, 20, .inl kdO)), (hBp, .inl (cI, 10, .inl out.2.2.1)), (hBn, .inl (cI, 60, .inl out.2.2.2.1)), (hBr, .inl (cI, 20, .inl out.2.2.2.2.1)), (hBs, .inl (cJ, 60, .inr (.inl out.2.2.2.2.2.1))), (hBo, .inl (cQ, 10, .inr (.inr (.inr (.inr (gr_o hBg))))))] ++ gr_c cJ hBg out.2.2.2.2.2.2) → va_S A s.heap H locs → W p l e { frames := 5, cells := 0, slots := 0, locals := 116 } s m args below meth c H locs 0 0 Q (F0 m pc ls [])) {ls : Array Slot} (hl : lv_has ls 4 [(0, .ref hBe), (1, .ref hRmO), (2, .int x2)]) : W p l e { frames := 5, cells := 0, slots := 0, locals := 116 } s m args below meth c H locs 0 0 Q (F0 m 0 ls []) := by
  have hx := F.1
  have hb := F.2.1
  have hown := F.2.2.2.1
  have hts := F.2.2.2.2
  have hK := hG.1.1
  rw [f_X0_shine] at hf
  refine lv_aload_n hx hb dX0_shine_0 rfl (lv_at hl 1 rfl) ?_
  refine lv_aload_n hx hb dX0_shine_1 rfl (lv_at hl 1 rfl) ?_
  refine lv_iload_n hx hb dX0_shine_2 rfl (lv_at hl 2 rfl) ?_
  obtain ⟨r113, er113, hf⟩ := fp_b hf
  refine RoI.callV (c_X2_portCell (l := l) (D := D) (cI := cI) (cJ := cJ) (cZ := cZ) (cQ := cQ) (qs := qs) er113) F (cwV 1 hts gX0_shine_X2_portCell rfl rfl rfl yd_X2_portCell ⟨Nat.le_of_ble_eq_true rfl, Nat.le_of_ble_eq_true rfl⟩) (hG.r hS) hP [1] rfl 2 rfl rfl rfl hl.1 rfl (Nat.le_of_ble_eq_true rfl) dX0_shine_3 ⟨Nat.zero_le _, Nat.zero_le _⟩ ?_
  refine lv_aload_n hx hb dX0_shine_6 rfl (lv_at hl 1 rfl) ?_
  refine lv_iload_n hx hb dX0_shine_7 rfl (lv_at hl 2 rfl) ?_
  obtain ⟨r114, er114, hf⟩ := fp_b hf
  refine RoI.callV (c_X2_portDirection (l := l) (D := D) (cI := cI) (cJ := cJ) (cZ := cZ) (cQ := cQ) (qs := qs) er114) F (cwV 1 hts gX0_shine_X2_portDirection rfl rfl rfl yd_X2_portDirection ⟨Nat.le_of_ble_eq_true rfl, Nat.le_of_ble_eq_true rfl⟩) (hG.r hS) hP [1] rfl 2 rfl rfl rfl hl.1 rfl (Nat.le_of_ble_eq_true rfl) dX0_shine_8 ⟨Nat.zero_le _, Nat.zero_le _⟩ ?_
  obtain ⟨r115, er115, hf⟩ := fp_b hf
  refine RoI.callS (c_X0_endOf (l := l) (D := D) (cI := cI) (cJ := cJ) (cZ := cZ) (cQ := cQ) (qs := qs) er115) F (va_cwS 3 hts gX0_shine_X0_endOf rfl rfl rfl yd_X0_endOf ⟨Nat.le_of_ble_eq_true rfl, Nat.le_of_ble_eq_true rfl⟩) (hG.r hS) hP [1, 2] rfl rfl hl.1 rfl (Nat.le_of_ble_eq_true rfl) dX0_shine_11 ⟨Nat.zero_le _, Nat.zero_le _⟩ ?_
  refine lv_istore_n (lv' := [(3, .int r115), (0, .ref hBe), (1, .ref hRmO), (2, .int x2)]) hx hb dX0_shine_14 rfl hl (by decide) rfl (fun ls hl => ?_)
  refine lv_aload_n hx hb dX0_shine_15 rfl (lv_at hl 1 rfl) ?_
  refine lv_aload_n hx hb dX0_shine_16 rfl (lv_at hl 2 rfl) ?_
  refine lv_iload_n hx hb dX0_shine_17 rfl (lv_at hl 0 rfl) ?_
  obtain ⟨r116, er116, hf⟩ := fp_b hf
  refine kc_rwV (w2 := ([(hBe, .inr (0, [.ref hBp, .ref hBn, .ref hBr, .ref hBo, .ref hBs, .int r116.1, .long bw])), (hRmO, .inr (2, [.ref hKdO, .int coO, .int roO])), (hKdO, .inl (cI, 20, .inl kdO)), (hBp, .inl (cI, 10, .inl r116.2.1)), (hBn, .inl (cI, 60, .inl r116.2.2.1)), (hBr, .inl (cI, 20, .inl r116.2.2.2)), (hBs, .inl (cJ, 60, .inr (.inl bs))), (hBo, .inl (cQ, 10, .inr (.inr (.inr (.inr (gr_o hBg))))))] ++ gr_c cJ hBg bM)) (RwV.runV (c_X0_findSplits (l := l) (D := D) (cI := cI) (cJ := cJ) (cZ := cZ) (cQ := cQ) (qs := qs) er116) F (cwV 2 hts gX0_shine_X0_findSplits rfl rfl rfl yd_X0_findSplits ⟨Nat.le_of_ble_eq_true rfl, Nat.le_of_ble_eq_true rfl⟩) hG hP hD hS hA [0, 1, 2, 3, 4, 5] (by decide) rfl 0 rfl rfl rfl hl.1 rfl (Nat.le_of_ble_eq_true rfl) dX0_shine_18 ⟨Nat.zero_le _, Nat.zero_le _⟩) hP hD hS hA [0, 1, 2, 3, 4, 5] [6, 7, 8, 9, 10, 11, 12, 13, 14, 15, 16, 17] [12, 13, 14, 15, 16, 17, 0, 1, 2, 3, 4, 5, 6, 7, 8, 9, 10, 11] rfl (wr := ([(hBs, .inl (cJ, 60, .inr (.inl bs))), (hBo, .inl (cQ, 10, .inr (.inr (.inr (.inr (gr_o hBg))))))] ++ gr_c cJ hBg bM)) rfl (by decide) (by decide) rfl (by decide) (fun H locs hP hD hS => ?_)
  refine lv_aload_n hx hb dX0_shine_21 rfl (lv_at hl 1 rfl) ?_
  obtain ⟨r117, er117, hf⟩ := fp_b hf
  refine kc_rwV (w2 := ([(hBe, .inr (0, [.ref hBp, .ref hBn, .ref hBr, .ref hBo, .ref hBs, .int r116.1, .long bw])), (hRmO, .inr (2, [.ref hKdO, .int coO, .int roO])), (hKdO, .inl (cI, 20, .inl kdO)), (hBp, .inl (cI, 10, .inl r116.2.1)), (hBn, .inl (cI, 60, .inl r116.2.2.1)), (hBr, .inl (cI, 20, .inl r116.2.2.2)), (hBs, .inl (cJ, 60, .inr (.inl bs))), (hBo, .inl (cQ, 10, .inr (.inr (.inr (.inr (gr_o hBg))))))] ++ gr_c cJ hBg r117)) (RwV.runV (c_X0_setRows (l := l) (D := D) (cI := cI) (cJ := cJ) (cZ := cZ) (cQ := cQ) (qs := qs) er117) F (cwV 0 hts gX0_shine_X0_setRows rfl rfl rfl yd_X0_setRows ⟨Nat.le_of_ble_eq_true rfl, Nat.le_of_ble_eq_true rfl⟩) hG hP hD hS hA [0, 4, 5, 7, 8, 9, 10, 11, 12, 13, 14, 15, 16, 17] (by decide) rfl 0 rfl rfl rfl hl.1 rfl (Nat.le_of_ble_eq_true rfl) dX0_shine_22 ⟨Nat.zero_le _, Nat.zero_le _⟩) hP hD hS hA [0, 4, 5, 7, 8, 9, 10, 11, 12, 13, 14, 15, 16, 17] [1, 2, 3, 6] [4, 0, 1, 2, 5, 6, 3, 7, 8, 9, 10, 11, 12, 13, 14, 15, 16, 17] rfl (wr := [(hRmO, .inr (2, [.ref hKdO, .int coO, .int roO])), (hKdO, .inl (cI, 20, .inl kdO)), (hBp, .inl (cI, 10, .inl r116.2.1)), (hBs, .inl (cJ, 60, .inr (.inl bs)))]) rfl (by decide) (by decide) rfl (by decide) (fun H locs hP hD hS => ?_)
  refine lv_aload_n hx hb dX0_shine_25 rfl (lv_at hl 1 rfl) ?_
  obtain ⟨r118, er118, hf⟩ := fp_b hf
  refine kc_rwV (w2 := ([(hBe, .inr (0, [.ref hBp, .ref hBn, .ref hBr, .ref hBo, .ref hBs, .int r116.1, .long r118.1])), (hRmO, .inr (2, [.ref hKdO, .int coO, .int roO])), (hKdO, .inl (cI, 20, .inl kdO)), (hBp, .inl (cI, 10, .inl r116.2.1)), (hBn, .inl (cI, 60, .inl r116.2.2.1)), (hBr, .inl (cI, 20, .inl r116.2.2.2)), (hBs, .inl (cJ, 60, .inr (.inl bs))), (hBo, .inl (cQ, 10, .inr (.inr (.inr (.inr (gr_o hBg))))))] ++ gr_c cJ hBg r118.2)) (RwV.runV (c_X0_solveRows (l := l) (D := D) (cI := cI) (cJ := cJ) (cZ := cZ) (cQ := cQ) (qs := qs) er118) F (cwV 0 hts gX0_shine_X0_solveRows rfl rfl rfl yd_X0_solveRows ⟨Nat.le_of_ble_eq_true rfl, Nat.le_of_ble_eq_true rfl⟩) hG hP hD hS hA [0, 7, 8, 9, 10, 11, 12, 13, 14, 15, 16, 17] (by decide) rfl 0 rfl rfl rfl hl.1 rfl (Nat.le_of_ble_eq_true rfl) dX0_shine_26 ⟨Nat.zero_le _, Nat.zero_le _⟩) hP hD hS hA [0, 7, 8, 9, 10, 11, 12, 13, 14, 15, 16, 17] [1, 2, 3, 4, 5, 6] [6, 0, 1, 2, 3, 4, 5, 7, 8, 9, 10, 11, 12, 13, 14, 15, 16, 17] rfl (wr := [(hRmO, .inr (2, [.ref hKdO, .int coO, .int roO])), (hKdO, .inl (cI, 20, .inl kdO)), (hBp, .inl (cI, 10, .inl r116.2.1)), (hBn, .inl (cI, 60, .inl r116.2.2.1)), (hBr, .inl (cI, 20, .inl r116.2.2.2)), (hBs, .inl (cJ, 60, .inr (.inl bs)))]) rfl (by decide) (by decide) rfl (by decide) (fun H locs hP hD hS => ?_)
  refine lv_aload_n hx hb dX0_shine_29 rfl (lv_at hl 1 rfl) ?_
  refine lv_iload_n hx hb dX0_shine_30 rfl (lv_at hl 0 rfl) ?_
  obtain ⟨r119, er119, hf⟩ := fp_b hf
  refine kc_rwV (w2 := ([(hBe, .inr (0, [.ref hBp, .ref hBn, .ref hBr, .ref hBo, .ref hBs, .int r116.1, .long r118.1])), (hRmO, .inr (2, [.ref hKdO, .int coO, .int roO])), (hKdO, .inl (cI, 20, .inl kdO)), (hBp, .inl (cI, 10, .inl r116.2.1)), (hBn, .inl (cI, 60, .inl r116.2.2.1)), (hBr, .inl (cI, 20, .inl r116.2.2.2)), (hBs, .inl (cJ, 60, .inr (.inl r119))), (hBo, .inl (cQ, 10, .inr (.inr (.inr (.inr (gr_o hBg))))))] ++ gr_c cJ hBg r118.2)) (RwV.runV (c_X0_addParts (l := l) (D := D) (cI := cI) (cJ := cJ) (cZ := cZ) (cQ := cQ) (qs := qs) er119) F (cwV 1 hts gX0_shine_X0_addParts rfl rfl rfl yd_X0_addParts ⟨Nat.le_of_ble_eq_true rfl, Nat.le_of_ble_eq_true rfl⟩) hG hP hD hS hA [0, 5, 6, 7, 8, 9, 10, 11, 12, 13, 14, 15, 16, 17] (by decide) rfl 0 rfl rfl rfl hl.1 rfl (Nat.le_of_ble_eq_true rfl) dX0_shine_31 ⟨Nat.zero_le _, Nat.zero_le _⟩) hP hD hS hA [0, 5, 6, 7, 8, 9, 10, 11, 12, 13, 14, 15, 16, 17] [1, 2, 3, 4] [4, 0, 1, 2, 3, 5, 6, 7, 8, 9, 10, 11, 12, 13, 14, 15, 16, 17] rfl (wr := [(hRmO, .inr (2, [.ref hKdO, .int coO, .int roO])), (hKdO, .inl (cI, 20, .inl kdO)), (hBp, .inl (cI, 10, .inl r116.2.1)), (hBn, .inl (cI, 60, .inl r116.2.2.1))]) rfl (by decide) (by decide) rfl (by decide) (fun H locs hP hD hS => ?_)
  cases hf
  exact hret _ _ _ _ dX0_shine_34 hP hD hS
set_option maxRecDepth 100000 in
theorem c_X0_shine {l : Launch} {D : va_G} {cI cJ cZ cQ : ClassId} {qs : Nat × Nat × Nat} {hBe hBp hBn hBr hBo hBs hRmO hKdO : Nat} {hBg : Nat → Nat} {coO : Int32} {roO : Int32} {kdO : Nat → Int32} {bq : Int32} {bw : Int64} {bp : Nat → Int32} {bn : Nat → Int32} {br : Nat → Int32} {bs : Nat → Int64} {bM : Nat → Nat → Int64} {x2 : Int32} {out : Int32 × Int64 × (Nat → Int32) × (Nat → Int32) × (Nat → Int32) × (Nat → Int64) × (Nat → Nat → Int64)} (hf : f_X0_shine coO roO kdO bq bw bp bn br bs bM x2 = some out) : RwV l yX0_shine wsX0_shine { frames := 5, cells := 0, slots := 0, locals := 116 } D (ty4 cI cJ cZ cQ) qs [.ref hBe, .ref hRmO, .int x2] ([(hBe, .inr (0, [.ref hBp, .ref hBn, .ref hBr, .ref hBo, .ref hBs, .int bq, .long bw])), (hRmO, .inr (2, [.ref hKdO, .int coO, .int roO])), (hKdO, .inl (cI, 20, .inl kdO)), (hBp, .inl (cI, 10, .inl bp)), (hBn, .inl (cI, 60, .inl bn)), (hBr, .inl (cI, 20, .inl br)), (hBs, .inl (cJ, 60, .inr (.inl bs))), (hBo, .inl (cQ, 10, .inr (.inr (.inr (.inr (gr_o hBg))))))] ++ gr_c cJ hBg bM) ([(hBe, .inr (0, [.ref hBp, .ref hBn, .ref hBr, .ref hBo, .ref hBs, .int out.1, .long out.2.1])), (hRmO, .inr (2, [.ref hKdO, .int coO, .int roO])), (hKdO, .inl (cI, 20, .inl kdO)), (hBp, .inl (cI, 10, .inl out.2.2.1)), (hBn, .inl (cI, 60, .inl out.2.2.2.1)), (hBr, .inl (cI, 20, .inl out.2.2.2.2.1)), (hBs, .inl (cJ, 60, .inr (.inl out.2.2.2.2.2.1))), (hBo, .inl (cQ, 10, .inr (.inr (.inr (.inr (gr_o hBg))))))] ++ gr_c cJ hBg out.2.2.2.2.2.2) :=
  RwV.of (own := RX0) (by decide +kernel) rfl rfl (Nat.le_of_ble_eq_true rfl) (fun F hG hA hP hD hS hret ls hl => b_X0_shine F hG hA hP hD hS hf hret hl)
