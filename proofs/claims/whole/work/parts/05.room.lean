-- method X2_cells
theorem yd_X2_cells : yX2_cells.cls = RX2 ∧ yX2_cells.cls ≠ "java/lang/invoke/MethodHandle" ∧ yX2_cells.cls ≠ "java/lang/invoke/VarHandle" ∧ (parseMethodDescriptor yX2_cells.desc).map (fun d => d.parameters.length) = some 0 := by decide +kernel
theorem ku_X2_cells_X2 : ∀ w ∈ u_ws RX2 TX2 3, w ∈ wsX2_cells := by decide +kernel
theorem kw_X2_cells_1 : Cond.fieldLink RX2 15 "MirrorShares$Room" "columns" "I" ∈ wsX2_cells := List.mem_of_getElem? (i := 1) rfl
theorem kw_X2_cells_2 : Cond.fieldLink RX2 19 "MirrorShares$Room" "rows" "I" ∈ wsX2_cells := List.mem_of_getElem? (i := 2) rfl
def f_X2_cells (co : Int32) (ro : Int32) : Option (Int32) :=
  some (co * ro)
set_option maxHeartbeats 4000000 in
set_option maxRecDepth 100000 in
theorem b_X2_cells {p : Program} {l : Launch} {e : Env} {s : State} {m : MethodId} {args : Array Value} {below : List Frame} {meth : Method} {c : Code} {Q : State → Prop} {D : va_G} {cI cJ cZ cQ : ClassId} {qs : Nat × Nat × Nat} {hRm hKd : Nat} {co : Int32} {ro : Int32} {out : Int32} (F : CallFix p m c cX2_cells 1 s args wsX2_cells RX2) (hG : kR D (ty4 cI cJ cZ cQ) qs s s.heap) (hP : va_P D vwCl [(hRm, .inr (2, [.ref hKd, .int co, .int ro]))] s.heap) (hf : f_X2_cells co ro = some out) (hret : ∀ (pc : Nat) (ls : Array Slot), decode cX2_cells pc = .ok (.ireturn, 1) → narrow .int (.int out) = .int out → W p l e { frames := 0, cells := 0, slots := 0, locals := 0 } s m args below meth c s.heap [] 0 0 Q (F0 m pc ls [.int out])) {ls : Array Slot} (hl : lv_has ls 1 [(0, .ref hRm)]) : W p l e { frames := 0, cells := 0, slots := 0, locals := 0 } s m args below meth c s.heap [] 0 0 Q (F0 m 0 ls []) := by
  have hx := F.1
  have hb := F.2.1
  have hown := F.2.2.2.1
  have hts := F.2.2.2.2
  have hK := hG.1.1
  rw [f_X2_cells] at hf
  refine lv_aload_n hx hb dX2_cells_0 rfl (lv_at hl 0 rfl) ?_
  refine va_get (D := D) (ci := 2) (v := .int co) (C := RX2) (T := TX2) (N := 3) hx hb hts ku_X2_cells_X2 hown hK hP 0 rfl rfl 1 (by decide) (hts _ kw_X2_cells_1) (fun _ h9 => h9) rfl dX2_cells_1 ?_
  refine lv_aload_n hx hb dX2_cells_4 rfl (lv_at hl 0 rfl) ?_
  refine va_get (D := D) (ci := 2) (v := .int ro) (C := RX2) (T := TX2) (N := 3) hx hb hts ku_X2_cells_X2 hown hK hP 0 rfl rfl 2 (by decide) (hts _ kw_X2_cells_2) (fun _ h9 => h9) rfl dX2_cells_5 ?_
  refine lv_imul hx hb dX2_cells_8 ?_
  cases hf
  exact hret _ _ dX2_cells_9 (vp_nar_int _)
set_option maxRecDepth 100000 in
theorem c_X2_cells {l : Launch} {D : va_G} {cI cJ cZ cQ : ClassId} {qs : Nat × Nat × Nat} {hRm hKd : Nat} {co : Int32} {ro : Int32} {out : Int32} (hf : f_X2_cells co ro = some out) : RoI l yX2_cells wsX2_cells { frames := 0, cells := 0, slots := 0, locals := 0 } D (ty4 cI cJ cZ cQ) qs [.ref hRm] [(hRm, .inr (2, [.ref hKd, .int co, .int ro]))] out :=
  RoI.of (own := RX2) (by decide +kernel) rfl rfl (Nat.le_of_ble_eq_true rfl) (fun F hG hP hret ls hl => b_X2_cells F hG hP hf hret hl)
-- method X2_ports
theorem yd_X2_ports : yX2_ports.cls = RX2 ∧ yX2_ports.cls ≠ "java/lang/invoke/MethodHandle" ∧ yX2_ports.cls ≠ "java/lang/invoke/VarHandle" ∧ (parseMethodDescriptor yX2_ports.desc).map (fun d => d.parameters.length) = some 0 := by decide +kernel
theorem ku_X2_ports_X2 : ∀ w ∈ u_ws RX2 TX2 3, w ∈ wsX2_ports := by decide +kernel
theorem kw_X2_ports_1 : Cond.fieldLink RX2 15 "MirrorShares$Room" "columns" "I" ∈ wsX2_ports := List.mem_of_getElem? (i := 1) rfl
theorem kw_X2_ports_2 : Cond.fieldLink RX2 19 "MirrorShares$Room" "rows" "I" ∈ wsX2_ports := List.mem_of_getElem? (i := 2) rfl
def f_X2_ports (co : Int32) (ro : Int32) : Option (Int32) :=
  some ((2 : Int32) * (co + ro))
set_option maxHeartbeats 4000000 in
set_option maxRecDepth 100000 in
theorem b_X2_ports {p : Program} {l : Launch} {e : Env} {s : State} {m : MethodId} {args : Array Value} {below : List Frame} {meth : Method} {c : Code} {Q : State → Prop} {D : va_G} {cI cJ cZ cQ : ClassId} {qs : Nat × Nat × Nat} {hRm hKd : Nat} {co : Int32} {ro : Int32} {out : Int32} (F : CallFix p m c cX2_ports 1 s args wsX2_ports RX2) (hG : kR D (ty4 cI cJ cZ cQ) qs s s.heap) (hP : va_P D vwCl [(hRm, .inr (2, [.ref hKd, .int co, .int ro]))] s.heap) (hf : f_X2_ports co ro = some out) (hret : ∀ (pc : Nat) (ls : Array Slot), decode cX2_ports pc = .ok (.ireturn, 1) → narrow .int (.int out) = .int out → W p l e { frames := 0, cells := 0, slots := 0, locals := 0 } s m args below meth c s.heap [] 0 0 Q (F0 m pc ls [.int out])) {ls : Array Slot} (hl : lv_has ls 1 [(0, .ref hRm)]) : W p l e { frames := 0, cells := 0, slots := 0, locals := 0 } s m args below meth c s.heap [] 0 0 Q (F0 m 0 ls []) := by
  have hx := F.1
  have hb := F.2.1
  have hown := F.2.2.2.1
  have hts := F.2.2.2.2
  have hK := hG.1.1
  rw [f_X2_ports] at hf
  refine lv_iconst (v := (2 : Int32)) hx hb dX2_ports_0 (by decide) ?_
  refine lv_aload_n hx hb dX2_ports_1 rfl (lv_at hl 0 rfl) ?_
  refine va_get (D := D) (ci := 2) (v := .int co) (C := RX2) (T := TX2) (N := 3) hx hb hts ku_X2_ports_X2 hown hK hP 0 rfl rfl 1 (by decide) (hts _ kw_X2_ports_1) (fun _ h9 => h9) rfl dX2_ports_2 ?_
  refine lv_aload_n hx hb dX2_ports_5 rfl (lv_at hl 0 rfl) ?_
  refine va_get (D := D) (ci := 2) (v := .int ro) (C := RX2) (T := TX2) (N := 3) hx hb hts ku_X2_ports_X2 hown hK hP 0 rfl rfl 2 (by decide) (hts _ kw_X2_ports_2) (fun _ h9 => h9) rfl dX2_ports_6 ?_
  refine lv_iadd hx hb dX2_ports_9 ?_
  refine lv_imul hx hb dX2_ports_10 ?_
  cases hf
  exact hret _ _ dX2_ports_11 (vp_nar_int _)
set_option maxRecDepth 100000 in
theorem c_X2_ports {l : Launch} {D : va_G} {cI cJ cZ cQ : ClassId} {qs : Nat × Nat × Nat} {hRm hKd : Nat} {co : Int32} {ro : Int32} {out : Int32} (hf : f_X2_ports co ro = some out) : RoI l yX2_ports wsX2_ports { frames := 0, cells := 0, slots := 0, locals := 0 } D (ty4 cI cJ cZ cQ) qs [.ref hRm] [(hRm, .inr (2, [.ref hKd, .int co, .int ro]))] out :=
  RoI.of (own := RX2) (by decide +kernel) rfl rfl (Nat.le_of_ble_eq_true rfl) (fun F hG hP hret ls hl => b_X2_ports F hG hP hf hret hl)
-- method X2_hasPort
theorem yd_X2_hasPort : yX2_hasPort.cls = RX2 ∧ yX2_hasPort.cls ≠ "java/lang/invoke/MethodHandle" ∧ yX2_hasPort.cls ≠ "java/lang/invoke/VarHandle" ∧ (parseMethodDescriptor yX2_hasPort.desc).map (fun d => d.parameters.length) = some 1 := by decide +kernel
def f_X2_hasPort (co : Int32) (ro : Int32) (x1 : Int32) : Option (Int32) :=
  (if x1 < 0 then some (0 : Int32) else Option.bind (f_X2_ports co ro) (fun r2 => (if r2 ≤ x1 then some (0 : Int32) else some (1 : Int32))))
set_option maxHeartbeats 4000000 in
set_option maxRecDepth 100000 in
theorem b_X2_hasPort {p : Program} {l : Launch} {e : Env} {s : State} {m : MethodId} {args : Array Value} {below : List Frame} {meth : Method} {c : Code} {Q : State → Prop} {D : va_G} {cI cJ cZ cQ : ClassId} {qs : Nat × Nat × Nat} {hRm hKd : Nat} {co : Int32} {ro : Int32} {x1 : Int32} {out : Int32} (F : CallFix p m c cX2_hasPort 2 s args wsX2_hasPort RX2) (hG : kR D (ty4 cI cJ cZ cQ) qs s s.heap) (hP : va_P D vwCl [(hRm, .inr (2, [.ref hKd, .int co, .int ro]))] s.heap) (hf : f_X2_hasPort co ro x1 = some out) (hret : ∀ (pc : Nat) (ls : Array Slot), decode cX2_hasPort pc = .ok (.ireturn, 1) → narrow .boolean (.int out) = .int out → W p l e { frames := 1, cells := 0, slots := 0, locals := 20 } s m args below meth c s.heap [] 0 0 Q (F0 m pc ls [.int out])) {ls : Array Slot} (hl : lv_has ls 2 [(0, .ref hRm), (1, .int x1)]) : W p l e { frames := 1, cells := 0, slots := 0, locals := 20 } s m args below meth c s.heap [] 0 0 Q (F0 m 0 ls []) := by
  have hx := F.1
  have hb := F.2.1
  have hown := F.2.2.2.1
  have hts := F.2.2.2.2
  have hK := hG.1.1
  rw [f_X2_hasPort] at hf
  refine lv_iload_n hx hb dX2_hasPort_0 rfl (lv_at hl 1 rfl) ?_
  refine lv_if_lt (tgt := 16) hx hb dX2_hasPort_1 (by decide) (fun c1 => ?_) (fun c1 => ?_)
  · have hf := fp_t hf c1
    refine lv_iconst (v := (0 : Int32)) hx hb dX2_hasPort_16 (by decide) ?_
    cases hf
    exact hret _ _ dX2_hasPort_17 nar_b0
  · have hf := fp_f hf c1
    refine lv_iload_n hx hb dX2_hasPort_4 rfl (lv_at hl 1 rfl) ?_
    refine lv_aload_n hx hb dX2_hasPort_5 rfl (lv_at hl 0 rfl) ?_
    obtain ⟨r2, er2, hf⟩ := fp_b hf
    refine RoI.callV (c_X2_ports (l := l) (D := D) (cI := cI) (cJ := cJ) (cZ := cZ) (cQ := cQ) (qs := qs) er2) F (cwV 0 hts gX2_hasPort_X2_ports rfl rfl rfl yd_X2_ports ⟨Nat.le_of_ble_eq_true rfl, Nat.le_of_ble_eq_true rfl⟩) hG hP [0] rfl 2 rfl rfl rfl hl.1 rfl (Nat.le_of_ble_eq_true rfl) dX2_hasPort_6 ⟨Nat.zero_le _, Nat.zero_le _⟩ ?_
    refine lv_icmp_ge (tgt := 16) hx hb dX2_hasPort_9 (by decide) (fun c3 => ?_) (fun c3 => ?_)
    · have hf := fp_t hf c3
      refine lv_iconst (v := (0 : Int32)) hx hb dX2_hasPort_16 (by decide) ?_
      cases hf
      exact hret _ _ dX2_hasPort_17 nar_b0
    · have hf := fp_f hf c3
      refine lv_iconst (v := (1 : Int32)) hx hb dX2_hasPort_12 (by decide) ?_
      refine lv_goto (tgt := 17) hx hb dX2_hasPort_13 (by decide) ?_
      cases hf
      exact hret _ _ dX2_hasPort_17 nar_b1
set_option maxRecDepth 100000 in
theorem c_X2_hasPort {l : Launch} {D : va_G} {cI cJ cZ cQ : ClassId} {qs : Nat × Nat × Nat} {hRm hKd : Nat} {co : Int32} {ro : Int32} {x1 : Int32} {out : Int32} (hf : f_X2_hasPort co ro x1 = some out) : RoI l yX2_hasPort wsX2_hasPort { frames := 1, cells := 0, slots := 0, locals := 20 } D (ty4 cI cJ cZ cQ) qs [.ref hRm, .int x1] [(hRm, .inr (2, [.ref hKd, .int co, .int ro]))] out :=
  RoI.of (own := RX2) (by decide +kernel) rfl rfl (Nat.le_of_ble_eq_true rfl) (fun F hG hP hret ls hl => b_X2_hasPort F hG hP hf hret hl)
-- method X2_kindAt
theorem yd_X2_kindAt : yX2_kindAt.cls = RX2 ∧ yX2_kindAt.cls ≠ "java/lang/invoke/MethodHandle" ∧ yX2_kindAt.cls ≠ "java/lang/invoke/VarHandle" ∧ (parseMethodDescriptor yX2_kindAt.desc).map (fun d => d.parameters.length) = some 1 := by decide +kernel
theorem ku_X2_kindAt_X2 : ∀ w ∈ u_ws RX2 TX2 3, w ∈ wsX2_kindAt := by decide +kernel
theorem kw_X2_kindAt_1 : Cond.fieldLink RX2 9 "MirrorShares$Room" "kinds" "[I" ∈ wsX2_kindAt := List.mem_of_getElem? (i := 1) rfl
def f_X2_kindAt (co : Int32) (ro : Int32) (kd : Nat → Int32) (x1 : Int32) : Option (Int32) :=
  (if x1 < 0 then some (-1 : Int32) else Option.bind (f_X2_cells co ro) (fun r5 => (if r5 ≤ x1 then some (-1 : Int32) else (if (20 : Int32) ≤ x1 then some (-1 : Int32) else chk (aix x1 20) (some (kd x1.toNatClampNeg))))))
set_option maxHeartbeats 4000000 in
set_option maxRecDepth 100000 in
theorem b_X2_kindAt {p : Program} {l : Launch} {e : Env} {s : State} {m : MethodId} {args : Array Value} {below : List Frame} {meth : Method} {c : Code} {Q : State → Prop} {D : va_G} {cI cJ cZ cQ : ClassId} {qs : Nat × Nat × Nat} {hRm hKd : Nat} {co : Int32} {ro : Int32} {kd : Nat → Int32} {x1 : Int32} {out : Int32} (F : CallFix p m c cX2_kindAt 2 s args wsX2_kindAt RX2) (hG : kR D (ty4 cI cJ cZ cQ) qs s s.heap) (hP : va_P D vwCl [(hRm, .inr (2, [.ref hKd, .int co, .int ro])), (hKd, .inl (cI, 20, .inl kd))] s.heap) (hf : f_X2_kindAt co ro kd x1 = some out) (hret : ∀ (pc : Nat) (ls : Array Slot), decode cX2_kindAt pc = .ok (.ireturn, 1) → narrow .int (.int out) = .int out → W p l e { frames := 1, cells := 0, slots := 0, locals := 20 } s m args below meth c s.heap [] 0 0 Q (F0 m pc ls [.int out])) {ls : Array Slot} (hl : lv_has ls 2 [(0, .ref hRm), (1, .int x1)]) : W p l e { frames := 1, cells := 0, slots := 0, locals := 20 } s m args below meth c s.heap [] 0 0 Q (F0 m 0 ls []) := by
  have hx := F.1
  have hb := F.2.1
  have hown := F.2.2.2.1
  have hts := F.2.2.2.2
  have hK := hG.1.1
  rw [f_X2_kindAt] at hf
  refine lv_iload_n hx hb dX2_kindAt_0 rfl (lv_at hl 1 rfl) ?_
  refine lv_if_lt (tgt := 27) hx hb dX2_kindAt_1 (by decide) (fun c4 => ?_) (fun c4 => ?_)
  · have hf := fp_t hf c4
    refine lv_iconst (v := (-1 : Int32)) hx hb dX2_kindAt_27 (by decide) ?_
    cases hf
    exact hret _ _ dX2_kindAt_28 (vp_nar_int _)
  · have hf := fp_f hf c4
    refine lv_iload_n hx hb dX2_kindAt_4 rfl (lv_at hl 1 rfl) ?_
    refine lv_aload_n hx hb dX2_kindAt_5 rfl (lv_at hl 0 rfl) ?_
    obtain ⟨r5, er5, hf⟩ := fp_b hf
    refine RoI.callV (c_X2_cells (l := l) (D := D) (cI := cI) (cJ := cJ) (cZ := cZ) (cQ := cQ) (qs := qs) er5) F (cwV 0 hts gX2_kindAt_X2_cells rfl rfl rfl yd_X2_cells ⟨Nat.le_of_ble_eq_true rfl, Nat.le_of_ble_eq_true rfl⟩) hG hP [0] rfl 2 rfl rfl rfl hl.1 rfl (Nat.le_of_ble_eq_true rfl) dX2_kindAt_6 ⟨Nat.zero_le _, Nat.zero_le _⟩ ?_
    refine lv_icmp_ge (tgt := 27) hx hb dX2_kindAt_9 (by decide) (fun c6 => ?_) (fun c6 => ?_)
    · have hf := fp_t hf c6
      refine lv_iconst (v := (-1 : Int32)) hx hb dX2_kindAt_27 (by decide) ?_
      cases hf
      exact hret _ _ dX2_kindAt_28 (vp_nar_int _)
    · have hf := fp_f hf c6
      refine lv_iload_n hx hb dX2_kindAt_12 rfl (lv_at hl 1 rfl) ?_
      refine lv_bipush (v := (20 : Int32)) hx hb dX2_kindAt_13 (by decide) ?_
      refine lv_icmp_ge (tgt := 27) hx hb dX2_kindAt_15 (by decide) (fun c7 => ?_) (fun c7 => ?_)
      · have hf := fp_t hf c7
        refine lv_iconst (v := (-1 : Int32)) hx hb dX2_kindAt_27 (by decide) ?_
        cases hf
        exact hret _ _ dX2_kindAt_28 (vp_nar_int _)
      · have hf := fp_f hf c7
        refine lv_aload_n hx hb dX2_kindAt_18 rfl (lv_at hl 0 rfl) ?_
        refine va_get (D := D) (ci := 2) (v := .ref hKd) (C := RX2) (T := TX2) (N := 3) hx hb hts ku_X2_kindAt_X2 hown hK hP 0 rfl rfl 0 (by decide) (hts _ kw_X2_kindAt_1) (fun _ h9 => h9) rfl dX2_kindAt_19 ?_
        refine lv_iload_n hx hb dX2_kindAt_22 rfl (lv_at hl 1 rfl) ?_
        obtain ⟨k8, hf⟩ := fp_c hf
        refine va_iald hx hb hK hP 1 0 rfl rfl k8 dX2_kindAt_23 ?_
        refine lv_goto (tgt := 28) hx hb dX2_kindAt_24 (by decide) ?_
        cases hf
        exact hret _ _ dX2_kindAt_28 (vp_nar_int _)
set_option maxRecDepth 100000 in
theorem c_X2_kindAt {l : Launch} {D : va_G} {cI cJ cZ cQ : ClassId} {qs : Nat × Nat × Nat} {hRm hKd : Nat} {co : Int32} {ro : Int32} {kd : Nat → Int32} {x1 : Int32} {out : Int32} (hf : f_X2_kindAt co ro kd x1 = some out) : RoI l yX2_kindAt wsX2_kindAt { frames := 1, cells := 0, slots := 0, locals := 20 } D (ty4 cI cJ cZ cQ) qs [.ref hRm, .int x1] [(hRm, .inr (2, [.ref hKd, .int co, .int ro])), (hKd, .inl (cI, 20, .inl kd))] out :=
  RoI.of (own := RX2) (by decide +kernel) rfl rfl (Nat.le_of_ble_eq_true rfl) (fun F hG hP hret ls hl => b_X2_kindAt F hG hP hf hret hl)
-- method X2_tell
theorem yd_X2_tell : yX2_tell.cls = RX2 ∧ yX2_tell.cls ≠ "java/lang/invoke/MethodHandle" ∧ yX2_tell.cls ≠ "java/lang/invoke/VarHandle" ∧ (parseMethodDescriptor yX2_tell.desc).map (fun d => d.parameters.length) = some 2 := by decide +kernel
theorem ku_X2_tell_X2 : ∀ w ∈ u_ws RX2 TX2 3, w ∈ wsX2_tell := by decide +kernel
theorem kw_X2_tell_1 : Cond.fieldLink RX2 9 "MirrorShares$Room" "kinds" "[I" ∈ wsX2_tell := List.mem_of_getElem? (i := 1) rfl
def f_X2_tell (co : Int32) (ro : Int32) (kd : Nat → Int32) (x1 : Int32) (x2 : Int32) : Option ((Nat → Int32)) :=
  (if x1 < 0 then some kd else Option.bind (f_X2_cells co ro) (fun r10 => (if r10 ≤ x1 then some kd else (if (20 : Int32) ≤ x1 then some kd else chk (aix x1 20) (some (upd kd x1.toNatClampNeg x2))))))
set_option maxHeartbeats 4000000 in
set_option maxRecDepth 100000 in
theorem b_X2_tell {p : Program} {l : Launch} {e : Env} {s : State} {m : MethodId} {args : Array Value} {below : List Frame} {meth : Method} {c : Code} {Q : State → Prop} {A : Nat → Prop} {H : Heap} {locs : List Loc} {D : va_G} {cI cJ cZ cQ : ClassId} {qs : Nat × Nat × Nat} {hRm hKd : Nat} {co : Int32} {ro : Int32} {kd : Nat → Int32} {x1 : Int32} {x2 : Int32} {out : (Nat → Int32)} (F : CallFix p m c cX2_tell 3 s args wsX2_tell RX2) (hG : kW D (ty4 cI cJ cZ cQ) qs A s s.heap) (hA : ∀ q : Nat, s.heap.size ≤ q → A q) (hP : va_P D vwCl [(hRm, .inr (2, [.ref hKd, .int co, .int ro])), (hKd, .inl (cI, 20, .inl kd))] H) (hD : va_D A [(hRm, .inr (2, [.ref hKd, .int co, .int ro])), (hKd, .inl (cI, 20, .inl kd))]) (hS : va_S A s.heap H locs) (hf : f_X2_tell co ro kd x1 x2 = some out) (hret : ∀ (pc : Nat) (H : Heap) (locs : List Loc) (ls : Array Slot), decode cX2_tell pc = .ok (.return_, 1) → va_P D vwCl [(hRm, .inr (2, [.ref hKd, .int co, .int ro])), (hKd, .inl (cI, 20, .inl out))] H → va_D A [(hRm, .inr (2, [.ref hKd, .int co, .int ro])), (hKd, .inl (cI, 20, .inl out))] → va_S A s.heap H locs → W p l e { frames := 1, cells := 0, slots := 0, locals := 20 } s m args below meth c H locs 0 0 Q (F0 m pc ls [])) {ls : Array Slot} (hl : lv_has ls 3 [(0, .ref hRm), (1, .int x1), (2, .int x2)]) : W p l e { frames := 1, cells := 0, slots := 0, locals := 20 } s m args below meth c H locs 0 0 Q (F0 m 0 ls []) := by
  have hx := F.1
  have hb := F.2.1
  have hown := F.2.2.2.1
  have hts := F.2.2.2.2
  have hK := hG.1.1
  rw [f_X2_tell] at hf
  refine lv_iload_n hx hb dX2_tell_0 rfl (lv_at hl 1 rfl) ?_
  refine lv_if_lt (tgt := 25) hx hb dX2_tell_1 (by decide) (fun c9 => ?_) (fun c9 => ?_)
  · have hf := fp_t hf c9
    cases hf
    exact hret _ _ _ _ dX2_tell_25 hP hD hS
  · have hf := fp_f hf c9
    refine lv_iload_n hx hb dX2_tell_4 rfl (lv_at hl 1 rfl) ?_
    refine lv_aload_n hx hb dX2_tell_5 rfl (lv_at hl 0 rfl) ?_
    obtain ⟨r10, er10, hf⟩ := fp_b hf
    refine RoI.callV (c_X2_cells (l := l) (D := D) (cI := cI) (cJ := cJ) (cZ := cZ) (cQ := cQ) (qs := qs) er10) F (cwV 0 hts gX2_tell_X2_cells rfl rfl rfl yd_X2_cells ⟨Nat.le_of_ble_eq_true rfl, Nat.le_of_ble_eq_true rfl⟩) (hG.r hS) hP [0] rfl 2 rfl rfl rfl hl.1 rfl (Nat.le_of_ble_eq_true rfl) dX2_tell_6 ⟨Nat.zero_le _, Nat.zero_le _⟩ ?_
    refine lv_icmp_ge (tgt := 25) hx hb dX2_tell_9 (by decide) (fun c11 => ?_) (fun c11 => ?_)
    · have hf := fp_t hf c11
      cases hf
      exact hret _ _ _ _ dX2_tell_25 hP hD hS
    · have hf := fp_f hf c11
      refine lv_iload_n hx hb dX2_tell_12 rfl (lv_at hl 1 rfl) ?_
      refine lv_bipush (v := (20 : Int32)) hx hb dX2_tell_13 (by decide) ?_
      refine lv_icmp_ge (tgt := 25) hx hb dX2_tell_15 (by decide) (fun c12 => ?_) (fun c12 => ?_)
      · have hf := fp_t hf c12
        cases hf
        exact hret _ _ _ _ dX2_tell_25 hP hD hS
      · have hf := fp_f hf c12
        refine lv_aload_n hx hb dX2_tell_18 rfl (lv_at hl 0 rfl) ?_
        refine va_get (D := D) (ci := 2) (v := .ref hKd) (C := RX2) (T := TX2) (N := 3) hx hb hts ku_X2_tell_X2 hown hK hP 0 rfl rfl 0 (by decide) (hts _ kw_X2_tell_1) (fun _ h9 => h9) rfl dX2_tell_19 ?_
        refine lv_iload_n hx hb dX2_tell_22 rfl (lv_at hl 1 rfl) ?_
        refine lv_iload_n hx hb dX2_tell_23 rfl (lv_at hl 2 rfl) ?_
        obtain ⟨k13, hf⟩ := fp_c hf
        refine va_iast hx hb hK hP hD hS 1 0 rfl rfl k13 dX2_tell_24 (fun H locs hP hD hS => ?_)
        have hP : va_P D vwCl [(hRm, .inr (2, [.ref hKd, .int co, .int ro])), (hKd, .inl (cI, 20, .inl (upd kd x1.toNatClampNeg x2)))] H := hP
        have hD : va_D A [(hRm, .inr (2, [.ref hKd, .int co, .int ro])), (hKd, .inl (cI, 20, .inl (upd kd x1.toNatClampNeg x2)))] := hD
        cases hf
        exact hret _ _ _ _ dX2_tell_25 hP hD hS
set_option maxRecDepth 100000 in
theorem c_X2_tell {l : Launch} {D : va_G} {cI cJ cZ cQ : ClassId} {qs : Nat × Nat × Nat} {hRm hKd : Nat} {co : Int32} {ro : Int32} {kd : Nat → Int32} {x1 : Int32} {x2 : Int32} {out : (Nat → Int32)} (hf : f_X2_tell co ro kd x1 x2 = some out) : RwV l yX2_tell wsX2_tell { frames := 1, cells := 0, slots := 0, locals := 20 } D (ty4 cI cJ cZ cQ) qs [.ref hRm, .int x1, .int x2] [(hRm, .inr (2, [.ref hKd, .int co, .int ro])), (hKd, .inl (cI, 20, .inl kd))] [(hRm, .inr (2, [.ref hKd, .int co, .int ro])), (hKd, .inl (cI, 20, .inl out))] :=
  RwV.of (own := RX2) (by decide +kernel) rfl rfl (Nat.le_of_ble_eq_true rfl) (fun F hG hA hP hD hS hret ls hl => b_X2_tell F hG hA hP hD hS hf hret hl)
-- method X2_countKinds
theorem yd_X2_countKinds : yX2_countKinds.cls = RX2 ∧ yX2_countKinds.cls ≠ "java/lang/invoke/MethodHandle" ∧ yX2_countKinds.cls ≠ "java/lang/invoke/VarHandle" ∧ (parseMethodDescriptor yX2_countKinds.desc).map (fun d => d.parameters.length) = some 2 := by decide +kernel
def f_X2_countKinds_5 (co : Int32) (ro : Int32) (kd : Nat → Int32) (y1 : Int32) (y2 : Int32) (y3 : Int32) (y4 : Int32) : Option ((Int32 × Int32) ⊕ (Int32)) :=
  Option.bind (f_X2_cells co ro) (fun r14 => (if r14 ≤ y4 then some (Sum.inr y3) else Option.bind (f_X2_kindAt co ro kd y4) (fun r16 => (if r16 < y1 then some (Sum.inl (y3, (y4 + (1 : Int32)))) else (if y2 < r16 then some (Sum.inl (y3, (y4 + (1 : Int32)))) else some (Sum.inl ((y3 + (1 : Int32)), (y4 + (1 : Int32)))))))))
set_option maxHeartbeats 4000000 in
set_option maxRecDepth 100000 in
theorem lp_X2_countKinds_5 {p : Program} {l : Launch} {e : Env} {s : State} {m : MethodId} {args : Array Value} {below : List Frame} {meth : Method} {c : Code} {Q : State → Prop} {D : va_G} {cI cJ cZ cQ : ClassId} {qs : Nat × Nat × Nat} {hRm hKd : Nat} {co : Int32} {ro : Int32} {kd : Nat → Int32} {y1 : Int32} {y2 : Int32}  (F : CallFix p m c cX2_countKinds 6 s args wsX2_countKinds RX2) (hG : kR D (ty4 cI cJ cZ cQ) qs s s.heap) (hP : va_P D vwCl [(hRm, .inr (2, [.ref hKd, .int co, .int ro])), (hKd, .inl (cI, 20, .inl kd))] s.heap) :
    ∀ (n : Nat) {y3 : Int32} {y4 : Int32} (out : Int32), lpf (fun s => f_X2_countKinds_5 co ro kd y1 y2 s.1 s.2) n (y3, y4) = some out → ∀ {ls : Array Slot}, lv_has ls 6 [(0, .ref hRm), (1, .int y1), (2, .int y2), (3, .int y3), (4, .int y4)] → (∀ ls : Array Slot, lv_has ls 6 [(0, .ref hRm), (1, .int y1), (2, .int y2), (3, .int out)] → W p l e { frames := 2, cells := 0, slots := 0, locals := 41 } s m args below meth c s.heap [] 0 0 Q (F0 m 43 ls [])) → W p l e { frames := 2, cells := 0, slots := 0, locals := 41 } s m args below meth c s.heap [] 0 0 Q (F0 m 5 ls []) := by
  have hx := F.1
  have hb := F.2.1
  have hown := F.2.2.2.1
  have hts := F.2.2.2.2
  have hK := hG.1.1
  intro n
  induction n with
  | zero =>
    intro y3 y4 out ho
    exact (fp_l0 ho).elim
  | succ n ih =>
    intro y3 y4 out ho ls hl hex
    obtain ⟨o, hf, ho⟩ := fp_l ho
    have hf : f_X2_countKinds_5 co ro kd y1 y2 y3 y4 = some o := hf
    rw [f_X2_countKinds_5] at hf
    refine lv_iload hx hb dX2_countKinds_5 (lv_at hl 4 rfl) ?_
    refine lv_aload_n hx hb dX2_countKinds_7 rfl (lv_at hl 0 rfl) ?_
    obtain ⟨r14, er14, hf⟩ := fp_b hf
    refine RoI.callV (c_X2_cells (l := l) (D := D) (cI := cI) (cJ := cJ) (cZ := cZ) (cQ := cQ) (qs := qs) er14) F (cwV 0 hts gX2_countKinds_X2_cells rfl rfl rfl yd_X2_cells ⟨Nat.le_of_ble_eq_true rfl, Nat.le_of_ble_eq_true rfl⟩) hG hP [0] rfl 2 rfl rfl rfl hl.1 rfl (Nat.le_of_ble_eq_true rfl) dX2_countKinds_8 ⟨Nat.zero_le _, Nat.zero_le _⟩ ?_
    refine lv_icmp_ge (tgt := 43) hx hb dX2_countKinds_11 (by decide) (fun c15 => ?_) (fun c15 => ?_)
    · have hf := fp_t hf c15
      cases hf
      have ho := fp_inr ho
      cases ho
      exact hex _ (lv_sub hl [0, 1, 2, 3] rfl)
    · have hf := fp_f hf c15
      refine lv_aload_n hx hb dX2_countKinds_14 rfl (lv_at hl 0 rfl) ?_
      refine lv_iload hx hb dX2_countKinds_15 (lv_at hl 4 rfl) ?_
      obtain ⟨r16, er16, hf⟩ := fp_b hf
      refine RoI.callV (c_X2_kindAt (l := l) (D := D) (cI := cI) (cJ := cJ) (cZ := cZ) (cQ := cQ) (qs := qs) er16) F (cwV 1 hts gX2_countKinds_X2_kindAt rfl rfl rfl yd_X2_kindAt ⟨Nat.le_of_ble_eq_true rfl, Nat.le_of_ble_eq_true rfl⟩) hG hP [0, 1] rfl 2 rfl rfl rfl hl.1 rfl (Nat.le_of_ble_eq_true rfl) dX2_countKinds_17 ⟨Nat.zero_le _, Nat.zero_le _⟩ ?_
      refine lv_istore (lv' := [(5, .int r16), (0, .ref hRm), (1, .int y1), (2, .int y2), (3, .int y3), (4, .int y4)]) hx hb dX2_countKinds_20 hl (by decide) rfl (fun ls hl => ?_)
      refine lv_iload hx hb dX2_countKinds_22 (lv_at hl 0 rfl) ?_
      refine lv_iload_n hx hb dX2_countKinds_24 rfl (lv_at hl 2 rfl) ?_
      refine lv_icmp_lt (tgt := 37) hx hb dX2_countKinds_25 (by decide) (fun c17 => ?_) (fun c17 => ?_)
      · have hf := fp_t hf c17
        refine lv_iinc (v := (y4 + (1 : Int32))) (lv' := [(4, .int (y4 + (1 : Int32))), (5, .int r16), (0, .ref hRm), (1, .int y1), (2, .int y2), (3, .int y3)]) hx hb dX2_countKinds_37 hl (k := 5) rfl rfl (by decide) rfl (fun ls hl => ?_)
        refine lv_goto (tgt := 5) hx hb dX2_countKinds_40 (by decide) ?_
        cases hf
        exact ih _ (fp_inl ho) (lv_sub hl [2, 3, 4, 5, 0] rfl) hex
      · have hf := fp_f hf c17
        refine lv_iload hx hb dX2_countKinds_28 (lv_at hl 0 rfl) ?_
        refine lv_iload_n hx hb dX2_countKinds_30 rfl (lv_at hl 3 rfl) ?_
        refine lv_icmp_gt (tgt := 37) hx hb dX2_countKinds_31 (by decide) (fun c18 => ?_) (fun c18 => ?_)
        · have hf := fp_t hf c18
          refine lv_iinc (v := (y4 + (1 : Int32))) (lv' := [(4, .int (y4 + (1 : Int32))), (5, .int r16), (0, .ref hRm), (1, .int y1), (2, .int y2), (3, .int y3)]) hx hb dX2_countKinds_37 hl (k := 5) rfl rfl (by decide) rfl (fun ls hl => ?_)
          refine lv_goto (tgt := 5) hx hb dX2_countKinds_40 (by decide) ?_
          cases hf
          exact ih _ (fp_inl ho) (lv_sub hl [2, 3, 4, 5, 0] rfl) hex
        · have hf := fp_f hf c18
          refine lv_iinc (v := (y3 + (1 : Int32))) (lv' := [(3, .int (y3 + (1 : Int32))), (5, .int r16), (0, .ref hRm), (1, .int y1), (2, .int y2), (4, .int y4)]) hx hb dX2_countKinds_34 hl (k := 4) rfl rfl (by decide) rfl (fun ls hl => ?_)
          refine lv_iinc (v := (y4 + (1 : Int32))) (lv' := [(4, .int (y4 + (1 : Int32))), (3, .int (y3 + (1 : Int32))), (5, .int r16), (0, .ref hRm), (1, .int y1), (2, .int y2)]) hx hb dX2_countKinds_37 hl (k := 5) rfl rfl (by decide) rfl (fun ls hl => ?_)
          refine lv_goto (tgt := 5) hx hb dX2_countKinds_40 (by decide) ?_
          cases hf
          exact ih _ (fp_inl ho) (lv_sub hl [3, 4, 5, 1, 0] rfl) hex
def f_X2_countKinds (co : Int32) (ro : Int32) (kd : Nat → Int32) (x1 : Int32) (x2 : Int32) : Option (Int32) :=
  Option.bind (lpf (fun s => f_X2_countKinds_5 co ro kd x1 x2 s.1 s.2) 1000 ((0 : Int32), (0 : Int32))) (fun o19 => some o19)
set_option maxHeartbeats 4000000 in
set_option maxRecDepth 100000 in
theorem b_X2_countKinds {p : Program} {l : Launch} {e : Env} {s : State} {m : MethodId} {args : Array Value} {below : List Frame} {meth : Method} {c : Code} {Q : State → Prop} {D : va_G} {cI cJ cZ cQ : ClassId} {qs : Nat × Nat × Nat} {hRm hKd : Nat} {co : Int32} {ro : Int32} {kd : Nat → Int32} {x1 : Int32} {x2 : Int32} {out : Int32} (F : CallFix p m c cX2_countKinds 6 s args wsX2_countKinds RX2) (hG : kR D (ty4 cI cJ cZ cQ) qs s s.heap) (hP : va_P D vwCl [(hRm, .inr (2, [.ref hKd, .int co, .int ro])), (hKd, .inl (cI, 20, .inl kd))] s.heap) (hf : f_X2_countKinds co ro kd x1 x2 = some out) (hret : ∀ (pc : Nat) (ls : Array Slot), decode cX2_countKinds pc = .ok (.ireturn, 1) → narrow .int (.int out) = .int out → W p l e { frames := 2, cells := 0, slots := 0, locals := 41 } s m args below meth c s.heap [] 0 0 Q (F0 m pc ls [.int out])) {ls : Array Slot} (hl : lv_has ls 6 [(0, .ref hRm), (1, .int x1), (2, .int x2)]) : W p l e { frames := 2, cells := 0, slots := 0, locals := 41 } s m args below meth c s.heap [] 0 0 Q (F0 m 0 ls []) := by
  have hx := F.1
  have hb := F.2.1
  have hown := F.2.2.2.1
  have hts := F.2.2.2.2
  have hK := hG.1.1
  rw [f_X2_countKinds] at hf
  refine lv_iconst (v := (0 : Int32)) hx hb dX2_countKinds_0 (by decide) ?_
  refine lv_istore_n (lv' := [(3, .int (0 : Int32)), (0, .ref hRm), (1, .int x1), (2, .int x2)]) hx hb dX2_countKinds_1 rfl hl (by decide) rfl (fun ls hl => ?_)
  refine lv_iconst (v := (0 : Int32)) hx hb dX2_countKinds_2 (by decide) ?_
  refine lv_istore (lv' := [(4, .int (0 : Int32)), (3, .int (0 : Int32)), (0, .ref hRm), (1, .int x1), (2, .int x2)]) hx hb dX2_countKinds_3 hl (by decide) rfl (fun ls hl => ?_)
  obtain ⟨o19, eo19, hf⟩ := fp_b hf
  refine lp_X2_countKinds_5 F hG hP _ _ eo19 (lv_sub hl [2, 3, 4, 1, 0] rfl) (fun ls hl => ?_)
  refine lv_iload_n hx hb dX2_countKinds_43 rfl (lv_at hl 3 rfl) ?_
  cases hf
  exact hret _ _ dX2_countKinds_44 (vp_nar_int _)
set_option maxRecDepth 100000 in
theorem c_X2_countKinds {l : Launch} {D : va_G} {cI cJ cZ cQ : ClassId} {qs : Nat × Nat × Nat} {hRm hKd : Nat} {co : Int32} {ro : Int32} {kd : Nat → Int32} {x1 : Int32} {x2 : Int32} {out : Int32} (hf : f_X2_countKinds co ro kd x1 x2 = some out) : RoI l yX2_countKinds wsX2_countKinds { frames := 2, cells := 0, slots := 0, locals := 41 } D (ty4 cI cJ cZ cQ) qs [.ref hRm, .int x1, .int x2] [(hRm, .inr (2, [.ref hKd, .int co, .int ro])), (hKd, .inl (cI, 20, .inl kd))] out :=
  RoI.of (own := RX2) (by decide +kernel) rfl rfl (Nat.le_of_ble_eq_true rfl) (fun F hG hP hret ls hl => b_X2_countKinds F hG hP hf hret hl)
-- method X2_isOverfull
theorem yd_X2_isOverfull : yX2_isOverfull.cls = RX2 ∧ yX2_isOverfull.cls ≠ "java/lang/invoke/MethodHandle" ∧ yX2_isOverfull.cls ≠ "java/lang/invoke/VarHandle" ∧ (parseMethodDescriptor yX2_isOverfull.desc).map (fun d => d.parameters.length) = some 0 := by decide +kernel
def f_X2_isOverfull (co : Int32) (ro : Int32) (kd : Nat → Int32) : Option (Int32) :=
  Option.bind (f_X2_countKinds co ro kd (3 : Int32) (4 : Int32)) (fun r20 => (if (5 : Int32) < r20 then some (1 : Int32) else Option.bind (f_X2_countKinds co ro kd (6 : Int32) (7 : Int32)) (fun r22 => (if r22 ≤ (4 : Int32) then some (0 : Int32) else some (1 : Int32)))))
set_option maxHeartbeats 4000000 in
set_option maxRecDepth 100000 in
theorem b_X2_isOverfull {p : Program} {l : Launch} {e : Env} {s : State} {m : MethodId} {args : Array Value} {below : List Frame} {meth : Method} {c : Code} {Q : State → Prop} {D : va_G} {cI cJ cZ cQ : ClassId} {qs : Nat × Nat × Nat} {hRm hKd : Nat} {co : Int32} {ro : Int32} {kd : Nat → Int32} {out : Int32} (F : CallFix p m c cX2_isOverfull 1 s args wsX2_isOverfull RX2) (hG : kR D (ty4 cI cJ cZ cQ) qs s s.heap) (hP : va_P D vwCl [(hRm, .inr (2, [.ref hKd, .int co, .int ro])), (hKd, .inl (cI, 20, .inl kd))] s.heap) (hf : f_X2_isOverfull co ro kd = some out) (hret : ∀ (pc : Nat) (ls : Array Slot), decode cX2_isOverfull pc = .ok (.ireturn, 1) → narrow .boolean (.int out) = .int out → W p l e { frames := 3, cells := 0, slots := 0, locals := 66 } s m args below meth c s.heap [] 0 0 Q (F0 m pc ls [.int out])) {ls : Array Slot} (hl : lv_has ls 1 [(0, .ref hRm)]) : W p l e { frames := 3, cells := 0, slots := 0, locals := 66 } s m args below meth c s.heap [] 0 0 Q (F0 m 0 ls []) := by
  have hx := F.1
  have hb := F.2.1
  have hown := F.2.2.2.1
  have hts := F.2.2.2.2
  have hK := hG.1.1
  rw [f_X2_isOverfull] at hf
  refine lv_aload_n hx hb dX2_isOverfull_0 rfl (lv_at hl 0 rfl) ?_
  refine lv_iconst (v := (3 : Int32)) hx hb dX2_isOverfull_1 (by decide) ?_
  refine lv_iconst (v := (4 : Int32)) hx hb dX2_isOverfull_2 (by decide) ?_
  obtain ⟨r20, er20, hf⟩ := fp_b hf
  refine RoI.callV (c_X2_countKinds (l := l) (D := D) (cI := cI) (cJ := cJ) (cZ := cZ) (cQ := cQ) (qs := qs) er20) F (cwV 2 hts gX2_isOverfull_X2_countKinds rfl rfl rfl yd_X2_countKinds ⟨Nat.le_of_ble_eq_true rfl, Nat.le_of_ble_eq_true rfl⟩) hG hP [0, 1] rfl 2 rfl rfl rfl hl.1 rfl (Nat.le_of_ble_eq_true rfl) dX2_isOverfull_3 ⟨Nat.zero_le _, Nat.zero_le _⟩ ?_
  refine lv_iconst (v := (5 : Int32)) hx hb dX2_isOverfull_6 (by decide) ?_
  refine lv_icmp_gt (tgt := 22) hx hb dX2_isOverfull_7 (by decide) (fun c21 => ?_) (fun c21 => ?_)
  · have hf := fp_t hf c21
    refine lv_iconst (v := (1 : Int32)) hx hb dX2_isOverfull_22 (by decide) ?_
    refine lv_goto (tgt := 27) hx hb dX2_isOverfull_23 (by decide) ?_
    cases hf
    exact hret _ _ dX2_isOverfull_27 nar_b1
  · have hf := fp_f hf c21
    refine lv_aload_n hx hb dX2_isOverfull_10 rfl (lv_at hl 0 rfl) ?_
    refine lv_bipush (v := (6 : Int32)) hx hb dX2_isOverfull_11 (by decide) ?_
    refine lv_bipush (v := (7 : Int32)) hx hb dX2_isOverfull_13 (by decide) ?_
    obtain ⟨r22, er22, hf⟩ := fp_b hf
    refine RoI.callV (c_X2_countKinds (l := l) (D := D) (cI := cI) (cJ := cJ) (cZ := cZ) (cQ := cQ) (qs := qs) er22) F (cwV 2 hts gX2_isOverfull_X2_countKinds rfl rfl rfl yd_X2_countKinds ⟨Nat.le_of_ble_eq_true rfl, Nat.le_of_ble_eq_true rfl⟩) hG hP [0, 1] rfl 2 rfl rfl rfl hl.1 rfl (Nat.le_of_ble_eq_true rfl) dX2_isOverfull_15 ⟨Nat.zero_le _, Nat.zero_le _⟩ ?_
    refine lv_iconst (v := (4 : Int32)) hx hb dX2_isOverfull_18 (by decide) ?_
    refine lv_icmp_le (tgt := 26) hx hb dX2_isOverfull_19 (by decide) (fun c23 => ?_) (fun c23 => ?_)
    · have hf := fp_t hf c23
      refine lv_iconst (v := (0 : Int32)) hx hb dX2_isOverfull_26 (by decide) ?_
      cases hf
      exact hret _ _ dX2_isOverfull_27 nar_b0
    · have hf := fp_f hf c23
      refine lv_iconst (v := (1 : Int32)) hx hb dX2_isOverfull_22 (by decide) ?_
      refine lv_goto (tgt := 27) hx hb dX2_isOverfull_23 (by decide) ?_
      cases hf
      exact hret _ _ dX2_isOverfull_27 nar_b1
set_option maxRecDepth 100000 in
theorem c_X2_isOverfull {l : Launch} {D : va_G} {cI cJ cZ cQ : ClassId} {qs : Nat × Nat × Nat} {hRm hKd : Nat} {co : Int32} {ro : Int32} {kd : Nat → Int32} {out : Int32} (hf : f_X2_isOverfull co ro kd = some out) : RoI l yX2_isOverfull wsX2_isOverfull { frames := 3, cells := 0, slots := 0, locals := 66 } D (ty4 cI cJ cZ cQ) qs [.ref hRm] [(hRm, .inr (2, [.ref hKd, .int co, .int ro])), (hKd, .inl (cI, 20, .inl kd))] out :=
  RoI.of (own := RX2) (by decide +kernel) rfl rfl (Nat.le_of_ble_eq_true rfl) (fun F hG hP hret ls hl => b_X2_isOverfull F hG hP hf hret hl)
-- method X2_doorCell
theorem yd_X2_doorCell : yX2_doorCell.cls = RX2 ∧ yX2_doorCell.cls ≠ "java/lang/invoke/MethodHandle" ∧ yX2_doorCell.cls ≠ "java/lang/invoke/VarHandle" ∧ (parseMethodDescriptor yX2_doorCell.desc).map (fun d => d.parameters.length) = some 1 := by decide +kernel
def f_X2_doorCell_4 (co : Int32) (ro : Int32) (kd : Nat → Int32) (y1 : Int32) (y2 : Int32) (y3 : Int32) : Option ((Int32 × Int32) ⊕ ((Int32) ⊕ (Unit))) :=
  Option.bind (f_X2_cells co ro) (fun r24 => (if r24 ≤ y3 then some (Sum.inr (Sum.inr ())) else Option.bind (f_X2_kindAt co ro kd y3) (fun r26 => (if r26 < (6 : Int32) then some (Sum.inl (y2, (y3 + (1 : Int32)))) else (if y2 = y1 then some (Sum.inr (Sum.inl y3)) else some (Sum.inl ((y2 + (1 : Int32)), (y3 + (1 : Int32)))))))))
set_option maxHeartbeats 4000000 in
set_option maxRecDepth 100000 in
theorem lp_X2_doorCell_4 {p : Program} {l : Launch} {e : Env} {s : State} {m : MethodId} {args : Array Value} {below : List Frame} {meth : Method} {c : Code} {Q : State → Prop} {D : va_G} {cI cJ cZ cQ : ClassId} {qs : Nat × Nat × Nat} {hRm hKd : Nat} {co : Int32} {ro : Int32} {kd : Nat → Int32} {y1 : Int32}  (F : CallFix p m c cX2_doorCell 4 s args wsX2_doorCell RX2) (hG : kR D (ty4 cI cJ cZ cQ) qs s s.heap) (hP : va_P D vwCl [(hRm, .inr (2, [.ref hKd, .int co, .int ro])), (hKd, .inl (cI, 20, .inl kd))] s.heap) :
    ∀ (n : Nat) {y2 : Int32} {y3 : Int32} (out : (Int32) ⊕ (Unit)), lpf (fun s => f_X2_doorCell_4 co ro kd y1 s.1 s.2) n (y2, y3) = some out → ∀ {ls : Array Slot}, lv_has ls 4 [(0, .ref hRm), (1, .int y1), (2, .int y2), (3, .int y3)] → (∀ xx, out = Sum.inr xx → ∀ ls : Array Slot, lv_has ls 4 [(0, .ref hRm), (1, .int y1)] → W p l e { frames := 2, cells := 0, slots := 0, locals := 41 } s m args below meth c s.heap [] 0 0 Q (F0 m 38 ls [])) → (∀ r9, out = Sum.inl r9 → ∀ (pc : Nat) (ls : Array Slot), decode cX2_doorCell pc = .ok (.ireturn, 1) → narrow .int (.int r9) = .int r9 → W p l e { frames := 2, cells := 0, slots := 0, locals := 41 } s m args below meth c s.heap [] 0 0 Q (F0 m pc ls [.int r9])) → W p l e { frames := 2, cells := 0, slots := 0, locals := 41 } s m args below meth c s.heap [] 0 0 Q (F0 m 4 ls []) := by
  have hx := F.1
  have hb := F.2.1
  have hown := F.2.2.2.1
  have hts := F.2.2.2.2
  have hK := hG.1.1
  intro n
  induction n with
  | zero =>
    intro y2 y3 out ho
    exact (fp_l0 ho).elim
  | succ n ih =>
    intro y2 y3 out ho ls hl hex hre
    obtain ⟨o, hf, ho⟩ := fp_l ho
    have hf : f_X2_doorCell_4 co ro kd y1 y2 y3 = some o := hf
    rw [f_X2_doorCell_4] at hf
    refine lv_iload_n hx hb dX2_doorCell_4 rfl (lv_at hl 3 rfl) ?_
    refine lv_aload_n hx hb dX2_doorCell_5 rfl (lv_at hl 0 rfl) ?_
    obtain ⟨r24, er24, hf⟩ := fp_b hf
    refine RoI.callV (c_X2_cells (l := l) (D := D) (cI := cI) (cJ := cJ) (cZ := cZ) (cQ := cQ) (qs := qs) er24) F (cwV 0 hts gX2_doorCell_X2_cells rfl rfl rfl yd_X2_cells ⟨Nat.le_of_ble_eq_true rfl, Nat.le_of_ble_eq_true rfl⟩) hG hP [0] rfl 2 rfl rfl rfl hl.1 rfl (Nat.le_of_ble_eq_true rfl) dX2_doorCell_6 ⟨Nat.zero_le _, Nat.zero_le _⟩ ?_
    refine lv_icmp_ge (tgt := 38) hx hb dX2_doorCell_9 (by decide) (fun c25 => ?_) (fun c25 => ?_)
    · have hf := fp_t hf c25
      cases hf
      have ho := fp_inr ho
      cases ho
      exact hex _ rfl _ (lv_sub hl [0, 1] rfl)
    · have hf := fp_f hf c25
      refine lv_aload_n hx hb dX2_doorCell_12 rfl (lv_at hl 0 rfl) ?_
      refine lv_iload_n hx hb dX2_doorCell_13 rfl (lv_at hl 3 rfl) ?_
      obtain ⟨r26, er26, hf⟩ := fp_b hf
      refine RoI.callV (c_X2_kindAt (l := l) (D := D) (cI := cI) (cJ := cJ) (cZ := cZ) (cQ := cQ) (qs := qs) er26) F (cwV 1 hts gX2_doorCell_X2_kindAt rfl rfl rfl yd_X2_kindAt ⟨Nat.le_of_ble_eq_true rfl, Nat.le_of_ble_eq_true rfl⟩) hG hP [0, 1] rfl 2 rfl rfl rfl hl.1 rfl (Nat.le_of_ble_eq_true rfl) dX2_doorCell_14 ⟨Nat.zero_le _, Nat.zero_le _⟩ ?_
      refine lv_bipush (v := (6 : Int32)) hx hb dX2_doorCell_17 (by decide) ?_
      refine lv_icmp_lt (tgt := 32) hx hb dX2_doorCell_19 (by decide) (fun c27 => ?_) (fun c27 => ?_)
      · have hf := fp_t hf c27
        refine lv_iinc (v := (y3 + (1 : Int32))) (lv' := [(3, .int (y3 + (1 : Int32))), (0, .ref hRm), (1, .int y1), (2, .int y2)]) hx hb dX2_doorCell_32 hl (k := 3) rfl rfl (by decide) rfl (fun ls hl => ?_)
        refine lv_goto (tgt := 4) hx hb dX2_doorCell_35 (by decide) ?_
        cases hf
        exact ih _ (fp_inl ho) (lv_sub hl [1, 2, 3, 0] rfl) hex hre
      · have hf := fp_f hf c27
        refine lv_iload_n hx hb dX2_doorCell_22 rfl (lv_at hl 2 rfl) ?_
        refine lv_iload_n hx hb dX2_doorCell_23 rfl (lv_at hl 1 rfl) ?_
        refine lv_icmp_ne (tgt := 29) hx hb dX2_doorCell_24 (by decide) (fun c28 => ?_) (fun c28 => ?_)
        · have hf := fp_f hf c28
          refine lv_iinc (v := (y2 + (1 : Int32))) (lv' := [(2, .int (y2 + (1 : Int32))), (0, .ref hRm), (1, .int y1), (3, .int y3)]) hx hb dX2_doorCell_29 hl (k := 2) rfl rfl (by decide) rfl (fun ls hl => ?_)
          refine lv_iinc (v := (y3 + (1 : Int32))) (lv' := [(3, .int (y3 + (1 : Int32))), (2, .int (y2 + (1 : Int32))), (0, .ref hRm), (1, .int y1)]) hx hb dX2_doorCell_32 hl (k := 3) rfl rfl (by decide) rfl (fun ls hl => ?_)
          refine lv_goto (tgt := 4) hx hb dX2_doorCell_35 (by decide) ?_
          cases hf
          exact ih _ (fp_inl ho) (lv_sub hl [2, 3, 1, 0] rfl) hex hre
        · have hf := fp_t hf c28
          refine lv_iload_n hx hb dX2_doorCell_27 rfl (lv_at hl 3 rfl) ?_
          cases hf
          have ho := fp_inr ho
          cases ho
          exact hre _ rfl _ _ dX2_doorCell_28 (vp_nar_int _)
def f_X2_doorCell (co : Int32) (ro : Int32) (kd : Nat → Int32) (x1 : Int32) : Option (Int32) :=
  Option.bind (lpf (fun s => f_X2_doorCell_4 co ro kd x1 s.1 s.2) 1000 ((0 : Int32), (0 : Int32))) (fun o29 => Sum.elim (fun r9 => some r9) (fun z30 => some (-1 : Int32)) o29)
set_option maxHeartbeats 4000000 in
set_option maxRecDepth 100000 in
theorem b_X2_doorCell {p : Program} {l : Launch} {e : Env} {s : State} {m : MethodId} {args : Array Value} {below : List Frame} {meth : Method} {c : Code} {Q : State → Prop} {D : va_G} {cI cJ cZ cQ : ClassId} {qs : Nat × Nat × Nat} {hRm hKd : Nat} {co : Int32} {ro : Int32} {kd : Nat → Int32} {x1 : Int32} {out : Int32} (F : CallFix p m c cX2_doorCell 4 s args wsX2_doorCell RX2) (hG : kR D (ty4 cI cJ cZ cQ) qs s s.heap) (hP : va_P D vwCl [(hRm, .inr (2, [.ref hKd, .int co, .int ro])), (hKd, .inl (cI, 20, .inl kd))] s.heap) (hf : f_X2_doorCell co ro kd x1 = some out) (hret : ∀ (pc : Nat) (ls : Array Slot), decode cX2_doorCell pc = .ok (.ireturn, 1) → narrow .int (.int out) = .int out → W p l e { frames := 2, cells := 0, slots := 0, locals := 41 } s m args below meth c s.heap [] 0 0 Q (F0 m pc ls [.int out])) {ls : Array Slot} (hl : lv_has ls 4 [(0, .ref hRm), (1, .int x1)]) : W p l e { frames := 2, cells := 0, slots := 0, locals := 41 } s m args below meth c s.heap [] 0 0 Q (F0 m 0 ls []) := by
  have hx := F.1
  have hb := F.2.1
  have hown := F.2.2.2.1
  have hts := F.2.2.2.2
  have hK := hG.1.1
  rw [f_X2_doorCell] at hf
  refine lv_iconst (v := (0 : Int32)) hx hb dX2_doorCell_0 (by decide) ?_
  refine lv_istore_n (lv' := [(2, .int (0 : Int32)), (0, .ref hRm), (1, .int x1)]) hx hb dX2_doorCell_1 rfl hl (by decide) rfl (fun ls hl => ?_)
  refine lv_iconst (v := (0 : Int32)) hx hb dX2_doorCell_2 (by decide) ?_
  refine lv_istore_n (lv' := [(3, .int (0 : Int32)), (2, .int (0 : Int32)), (0, .ref hRm), (1, .int x1)]) hx hb dX2_doorCell_3 rfl hl (by decide) rfl (fun ls hl => ?_)
  obtain ⟨o29, eo29, hf⟩ := fp_b hf
  refine lp_X2_doorCell_4 F hG hP _ _ eo29 (lv_sub hl [2, 3, 1, 0] rfl) (fun z30 hz30 ls hl => ?_) (fun r9 h9 => ?_)
  · subst hz30
    have hf := fp_inr hf
    refine lv_iconst (v := (-1 : Int32)) hx hb dX2_doorCell_38 (by decide) ?_
    cases hf
    exact hret _ _ dX2_doorCell_39 (vp_nar_int _)
  · subst h9
    have hf := fp_inl hf
    cases hf
    exact hret
set_option maxRecDepth 100000 in
theorem c_X2_doorCell {l : Launch} {D : va_G} {cI cJ cZ cQ : ClassId} {qs : Nat × Nat × Nat} {hRm hKd : Nat} {co : Int32} {ro : Int32} {kd : Nat → Int32} {x1 : Int32} {out : Int32} (hf : f_X2_doorCell co ro kd x1 = some out) : RoI l yX2_doorCell wsX2_doorCell { frames := 2, cells := 0, slots := 0, locals := 41 } D (ty4 cI cJ cZ cQ) qs [.ref hRm, .int x1] [(hRm, .inr (2, [.ref hKd, .int co, .int ro])), (hKd, .inl (cI, 20, .inl kd))] out :=
  RoI.of (own := RX2) (by decide +kernel) rfl rfl (Nat.le_of_ble_eq_true rfl) (fun F hG hP hret ls hl => b_X2_doorCell F hG hP hf hret hl)
-- method X2_portDirection
theorem yd_X2_portDirection : yX2_portDirection.cls = RX2 ∧ yX2_portDirection.cls ≠ "java/lang/invoke/MethodHandle" ∧ yX2_portDirection.cls ≠ "java/lang/invoke/VarHandle" ∧ (parseMethodDescriptor yX2_portDirection.desc).map (fun d => d.parameters.length) = some 1 := by decide +kernel
theorem ku_X2_portDirection_X2 : ∀ w ∈ u_ws RX2 TX2 3, w ∈ wsX2_portDirection := by decide +kernel
theorem kw_X2_portDirection_1 : Cond.fieldLink RX2 15 "MirrorShares$Room" "columns" "I" ∈ wsX2_portDirection := List.mem_of_getElem? (i := 1) rfl
theorem kw_X2_portDirection_2 : Cond.fieldLink RX2 19 "MirrorShares$Room" "rows" "I" ∈ wsX2_portDirection := List.mem_of_getElem? (i := 2) rfl
def f_X2_portDirection (co : Int32) (ro : Int32) (x1 : Int32) : Option (Int32) :=
  (if co ≤ x1 then (if (co + ro) ≤ x1 then (if (((2 : Int32) * co) + ro) ≤ x1 then some (1 : Int32) else some (0 : Int32)) else some (3 : Int32)) else some (2 : Int32))
set_option maxHeartbeats 4000000 in
set_option maxRecDepth 100000 in
theorem b_X2_portDirection {p : Program} {l : Launch} {e : Env} {s : State} {m : MethodId} {args : Array Value} {below : List Frame} {meth : Method} {c : Code} {Q : State → Prop} {D : va_G} {cI cJ cZ cQ : ClassId} {qs : Nat × Nat × Nat} {hRm hKd : Nat} {co : Int32} {ro : Int32} {x1 : Int32} {out : Int32} (F : CallFix p m c cX2_portDirection 2 s args wsX2_portDirection RX2) (hG : kR D (ty4 cI cJ cZ cQ) qs s s.heap) (hP : va_P D vwCl [(hRm, .inr (2, [.ref hKd, .int co, .int ro]))] s.heap) (hf : f_X2_portDirection co ro x1 = some out) (hret : ∀ (pc : Nat) (ls : Array Slot), decode cX2_portDirection pc = .ok (.ireturn, 1) → narrow .int (.int out) = .int out → W p l e { frames := 0, cells := 0, slots := 0, locals := 0 } s m args below meth c s.heap [] 0 0 Q (F0 m pc ls [.int out])) {ls : Array Slot} (hl : lv_has ls 2 [(0, .ref hRm), (1, .int x1)]) : W p l e { frames := 0, cells := 0, slots := 0, locals := 0 } s m args below meth c s.heap [] 0 0 Q (F0 m 0 ls []) := by
  have hx := F.1
  have hb := F.2.1
  have hown := F.2.2.2.1
  have hts := F.2.2.2.2
  have hK := hG.1.1
  rw [f_X2_portDirection] at hf
  refine lv_iload_n hx hb dX2_portDirection_0 rfl (lv_at hl 1 rfl) ?_
  refine lv_aload_n hx hb dX2_portDirection_1 rfl (lv_at hl 0 rfl) ?_
  refine va_get (D := D) (ci := 2) (v := .int co) (C := RX2) (T := TX2) (N := 3) hx hb hts ku_X2_portDirection_X2 hown hK hP 0 rfl rfl 1 (by decide) (hts _ kw_X2_portDirection_1) (fun _ h9 => h9) rfl dX2_portDirection_2 ?_
  refine lv_icmp_ge (tgt := 10) hx hb dX2_portDirection_5 (by decide) (fun c31 => ?_) (fun c31 => ?_)
  · have hf := fp_t hf c31
    refine lv_iload_n hx hb dX2_portDirection_10 rfl (lv_at hl 1 rfl) ?_
    refine lv_aload_n hx hb dX2_portDirection_11 rfl (lv_at hl 0 rfl) ?_
    refine va_get (D := D) (ci := 2) (v := .int co) (C := RX2) (T := TX2) (N := 3) hx hb hts ku_X2_portDirection_X2 hown hK hP 0 rfl rfl 1 (by decide) (hts _ kw_X2_portDirection_1) (fun _ h9 => h9) rfl dX2_portDirection_12 ?_
    refine lv_aload_n hx hb dX2_portDirection_15 rfl (lv_at hl 0 rfl) ?_
    refine va_get (D := D) (ci := 2) (v := .int ro) (C := RX2) (T := TX2) (N := 3) hx hb hts ku_X2_portDirection_X2 hown hK hP 0 rfl rfl 2 (by decide) (hts _ kw_X2_portDirection_2) (fun _ h9 => h9) rfl dX2_portDirection_16 ?_
    refine lv_iadd hx hb dX2_portDirection_19 ?_
    refine lv_icmp_ge (tgt := 25) hx hb dX2_portDirection_20 (by decide) (fun c32 => ?_) (fun c32 => ?_)
    · have hf := fp_t hf c32
      refine lv_iload_n hx hb dX2_portDirection_25 rfl (lv_at hl 1 rfl) ?_
      refine lv_iconst (v := (2 : Int32)) hx hb dX2_portDirection_26 (by decide) ?_
      refine lv_aload_n hx hb dX2_portDirection_27 rfl (lv_at hl 0 rfl) ?_
      refine va_get (D := D) (ci := 2) (v := .int co) (C := RX2) (T := TX2) (N := 3) hx hb hts ku_X2_portDirection_X2 hown hK hP 0 rfl rfl 1 (by decide) (hts _ kw_X2_portDirection_1) (fun _ h9 => h9) rfl dX2_portDirection_28 ?_
      refine lv_imul hx hb dX2_portDirection_31 ?_
      refine lv_aload_n hx hb dX2_portDirection_32 rfl (lv_at hl 0 rfl) ?_
      refine va_get (D := D) (ci := 2) (v := .int ro) (C := RX2) (T := TX2) (N := 3) hx hb hts ku_X2_portDirection_X2 hown hK hP 0 rfl rfl 2 (by decide) (hts _ kw_X2_portDirection_2) (fun _ h9 => h9) rfl dX2_portDirection_33 ?_
      refine lv_iadd hx hb dX2_portDirection_36 ?_
      refine lv_icmp_ge (tgt := 44) hx hb dX2_portDirection_37 (by decide) (fun c33 => ?_) (fun c33 => ?_)
      · have hf := fp_t hf c33
        refine lv_iconst (v := (1 : Int32)) hx hb dX2_portDirection_44 (by decide) ?_
        cases hf
        exact hret _ _ dX2_portDirection_45 (vp_nar_int _)
      · have hf := fp_f hf c33
        refine lv_iconst (v := (0 : Int32)) hx hb dX2_portDirection_40 (by decide) ?_
        refine lv_goto (tgt := 45) hx hb dX2_portDirection_41 (by decide) ?_
        cases hf
        exact hret _ _ dX2_portDirection_45 (vp_nar_int _)
    · have hf := fp_f hf c32
      refine lv_iconst (v := (3 : Int32)) hx hb dX2_portDirection_23 (by decide) ?_
      cases hf
      exact hret _ _ dX2_portDirection_24 (vp_nar_int _)
  · have hf := fp_f hf c31
    refine lv_iconst (v := (2 : Int32)) hx hb dX2_portDirection_8 (by decide) ?_
    cases hf
    exact hret _ _ dX2_portDirection_9 (vp_nar_int _)
set_option maxRecDepth 100000 in
theorem c_X2_portDirection {l : Launch} {D : va_G} {cI cJ cZ cQ : ClassId} {qs : Nat × Nat × Nat} {hRm hKd : Nat} {co : Int32} {ro : Int32} {x1 : Int32} {out : Int32} (hf : f_X2_portDirection co ro x1 = some out) : RoI l yX2_portDirection wsX2_portDirection { frames := 0, cells := 0, slots := 0, locals := 0 } D (ty4 cI cJ cZ cQ) qs [.ref hRm, .int x1] [(hRm, .inr (2, [.ref hKd, .int co, .int ro]))] out :=
  RoI.of (own := RX2) (by decide +kernel) rfl rfl (Nat.le_of_ble_eq_true rfl) (fun F hG hP hret ls hl => b_X2_portDirection F hG hP hf hret hl)
-- method X2_portCell
theorem yd_X2_portCell : yX2_portCell.cls = RX2 ∧ yX2_portCell.cls ≠ "java/lang/invoke/MethodHandle" ∧ yX2_portCell.cls ≠ "java/lang/invoke/VarHandle" ∧ (parseMethodDescriptor yX2_portCell.desc).map (fun d => d.parameters.length) = some 1 := by decide +kernel
theorem ku_X2_portCell_X2 : ∀ w ∈ u_ws RX2 TX2 3, w ∈ wsX2_portCell := by decide +kernel
theorem kw_X2_portCell_2 : Cond.fieldLink RX2 19 "MirrorShares$Room" "rows" "I" ∈ wsX2_portCell := List.mem_of_getElem? (i := 2) rfl
theorem kw_X2_portCell_1 : Cond.fieldLink RX2 15 "MirrorShares$Room" "columns" "I" ∈ wsX2_portCell := List.mem_of_getElem? (i := 1) rfl
def f_X2_portCell (co : Int32) (ro : Int32) (x1 : Int32) : Option (Int32) :=
  Option.bind (f_X2_portDirection co ro x1) (fun r34 => (if r34 = (0 : Int32) then some (((((ro - (1 : Int32)) * co) + x1) - co) - ro) else (if r34 = (1 : Int32) then some (((x1 - ((2 : Int32) * co)) - ro) * co) else (if r34 = (2 : Int32) then some x1 else (if r34 = (3 : Int32) then some ((((x1 - co) * co) + co) - (1 : Int32)) else some (((x1 - ((2 : Int32) * co)) - ro) * co))))))
set_option maxHeartbeats 4000000 in
set_option maxRecDepth 100000 in
theorem b_X2_portCell {p : Program} {l : Launch} {e : Env} {s : State} {m : MethodId} {args : Array Value} {below : List Frame} {meth : Method} {c : Code} {Q : State → Prop} {D : va_G} {cI cJ cZ cQ : ClassId} {qs : Nat × Nat × Nat} {hRm hKd : Nat} {co : Int32} {ro : Int32} {x1 : Int32} {out : Int32} (F : CallFix p m c cX2_portCell 2 s args wsX2_portCell RX2) (hG : kR D (ty4 cI cJ cZ cQ) qs s s.heap) (hP : va_P D vwCl [(hRm, .inr (2, [.ref hKd, .int co, .int ro]))] s.heap) (hf : f_X2_portCell co ro x1 = some out) (hret : ∀ (pc : Nat) (ls : Array Slot), decode cX2_portCell pc = .ok (.ireturn, 1) → narrow .int (.int out) = .int out → W p l e { frames := 1, cells := 0, slots := 0, locals := 21 } s m args below meth c s.heap [] 0 0 Q (F0 m pc ls [.int out])) {ls : Array Slot} (hl : lv_has ls 2 [(0, .ref hRm), (1, .int x1)]) : W p l e { frames := 1, cells := 0, slots := 0, locals := 21 } s m args below meth c s.heap [] 0 0 Q (F0 m 0 ls []) := by
  have hx := F.1
  have hb := F.2.1
  have hown := F.2.2.2.1
  have hts := F.2.2.2.2
  have hK := hG.1.1
  rw [f_X2_portCell] at hf
  refine lv_aload_n hx hb dX2_portCell_0 rfl (lv_at hl 0 rfl) ?_
  refine lv_iload_n hx hb dX2_portCell_1 rfl (lv_at hl 1 rfl) ?_
  obtain ⟨r34, er34, hf⟩ := fp_b hf
  refine RoI.callV (c_X2_portDirection (l := l) (D := D) (cI := cI) (cJ := cJ) (cZ := cZ) (cQ := cQ) (qs := qs) er34) F (cwV 1 hts gX2_portCell_X2_portDirection rfl rfl rfl yd_X2_portDirection ⟨Nat.le_of_ble_eq_true rfl, Nat.le_of_ble_eq_true rfl⟩) hG hP [0] rfl 2 rfl rfl rfl hl.1 rfl (Nat.le_of_ble_eq_true rfl) dX2_portCell_2 ⟨Nat.zero_le _, Nat.zero_le _⟩ ?_
  by_cases c35 : r34 = (0 : Int32)
  · have hf := fp_t hf c35
    rw [c35]
    refine lv_tableIn (off := 52) (tgt := 57) hx hb dX2_portCell_5 (by decide) (by decide) rfl (by decide) ?_
    refine lv_aload_n hx hb dX2_portCell_57 rfl (lv_at hl 0 rfl) ?_
    refine va_get (D := D) (ci := 2) (v := .int ro) (C := RX2) (T := TX2) (N := 3) hx hb hts ku_X2_portCell_X2 hown hK hP 0 rfl rfl 2 (by decide) (hts _ kw_X2_portCell_2) (fun _ h9 => h9) rfl dX2_portCell_58 ?_
    refine lv_iconst (v := (1 : Int32)) hx hb dX2_portCell_61 (by decide) ?_
    refine lv_isub hx hb dX2_portCell_62 ?_
    refine lv_aload_n hx hb dX2_portCell_63 rfl (lv_at hl 0 rfl) ?_
    refine va_get (D := D) (ci := 2) (v := .int co) (C := RX2) (T := TX2) (N := 3) hx hb hts ku_X2_portCell_X2 hown hK hP 0 rfl rfl 1 (by decide) (hts _ kw_X2_portCell_1) (fun _ h9 => h9) rfl dX2_portCell_64 ?_
    refine lv_imul hx hb dX2_portCell_67 ?_
    refine lv_iload_n hx hb dX2_portCell_68 rfl (lv_at hl 1 rfl) ?_
    refine lv_iadd hx hb dX2_portCell_69 ?_
    refine lv_aload_n hx hb dX2_portCell_70 rfl (lv_at hl 0 rfl) ?_
    refine va_get (D := D) (ci := 2) (v := .int co) (C := RX2) (T := TX2) (N := 3) hx hb hts ku_X2_portCell_X2 hown hK hP 0 rfl rfl 1 (by decide) (hts _ kw_X2_portCell_1) (fun _ h9 => h9) rfl dX2_portCell_71 ?_
    refine lv_isub hx hb dX2_portCell_74 ?_
    refine lv_aload_n hx hb dX2_portCell_75 rfl (lv_at hl 0 rfl) ?_
    refine va_get (D := D) (ci := 2) (v := .int ro) (C := RX2) (T := TX2) (N := 3) hx hb hts ku_X2_portCell_X2 hown hK hP 0 rfl rfl 2 (by decide) (hts _ kw_X2_portCell_2) (fun _ h9 => h9) rfl dX2_portCell_76 ?_
    refine lv_isub hx hb dX2_portCell_79 ?_
    cases hf
    exact hret _ _ dX2_portCell_80 (vp_nar_int _)
  have hf := fp_f hf c35
  by_cases c36 : r34 = (1 : Int32)
  · have hf := fp_t hf c36
    rw [c36]
    refine lv_tableIn (off := 76) (tgt := 81) hx hb dX2_portCell_5 (by decide) (by decide) rfl (by decide) ?_
    refine lv_iload_n hx hb dX2_portCell_81 rfl (lv_at hl 1 rfl) ?_
    refine lv_iconst (v := (2 : Int32)) hx hb dX2_portCell_82 (by decide) ?_
    refine lv_aload_n hx hb dX2_portCell_83 rfl (lv_at hl 0 rfl) ?_
    refine va_get (D := D) (ci := 2) (v := .int co) (C := RX2) (T := TX2) (N := 3) hx hb hts ku_X2_portCell_X2 hown hK hP 0 rfl rfl 1 (by decide) (hts _ kw_X2_portCell_1) (fun _ h9 => h9) rfl dX2_portCell_84 ?_
    refine lv_imul hx hb dX2_portCell_87 ?_
    refine lv_isub hx hb dX2_portCell_88 ?_
    refine lv_aload_n hx hb dX2_portCell_89 rfl (lv_at hl 0 rfl) ?_
    refine va_get (D := D) (ci := 2) (v := .int ro) (C := RX2) (T := TX2) (N := 3) hx hb hts ku_X2_portCell_X2 hown hK hP 0 rfl rfl 2 (by decide) (hts _ kw_X2_portCell_2) (fun _ h9 => h9) rfl dX2_portCell_90 ?_
    refine lv_isub hx hb dX2_portCell_93 ?_
    refine lv_aload_n hx hb dX2_portCell_94 rfl (lv_at hl 0 rfl) ?_
    refine va_get (D := D) (ci := 2) (v := .int co) (C := RX2) (T := TX2) (N := 3) hx hb hts ku_X2_portCell_X2 hown hK hP 0 rfl rfl 1 (by decide) (hts _ kw_X2_portCell_1) (fun _ h9 => h9) rfl dX2_portCell_95 ?_
    refine lv_imul hx hb dX2_portCell_98 ?_
    cases hf
    exact hret _ _ dX2_portCell_99 (vp_nar_int _)
  have hf := fp_f hf c36
  by_cases c37 : r34 = (2 : Int32)
  · have hf := fp_t hf c37
    rw [c37]
    refine lv_tableIn (off := 31) (tgt := 36) hx hb dX2_portCell_5 (by decide) (by decide) rfl (by decide) ?_
    refine lv_iload_n hx hb dX2_portCell_36 rfl (lv_at hl 1 rfl) ?_
    cases hf
    exact hret _ _ dX2_portCell_37 (vp_nar_int _)
  have hf := fp_f hf c37
  by_cases c38 : r34 = (3 : Int32)
  · have hf := fp_t hf c38
    rw [c38]
    refine lv_tableIn (off := 33) (tgt := 38) hx hb dX2_portCell_5 (by decide) (by decide) rfl (by decide) ?_
    refine lv_iload_n hx hb dX2_portCell_38 rfl (lv_at hl 1 rfl) ?_
    refine lv_aload_n hx hb dX2_portCell_39 rfl (lv_at hl 0 rfl) ?_
    refine va_get (D := D) (ci := 2) (v := .int co) (C := RX2) (T := TX2) (N := 3) hx hb hts ku_X2_portCell_X2 hown hK hP 0 rfl rfl 1 (by decide) (hts _ kw_X2_portCell_1) (fun _ h9 => h9) rfl dX2_portCell_40 ?_
    refine lv_isub hx hb dX2_portCell_43 ?_
    refine lv_aload_n hx hb dX2_portCell_44 rfl (lv_at hl 0 rfl) ?_
    refine va_get (D := D) (ci := 2) (v := .int co) (C := RX2) (T := TX2) (N := 3) hx hb hts ku_X2_portCell_X2 hown hK hP 0 rfl rfl 1 (by decide) (hts _ kw_X2_portCell_1) (fun _ h9 => h9) rfl dX2_portCell_45 ?_
    refine lv_imul hx hb dX2_portCell_48 ?_
    refine lv_aload_n hx hb dX2_portCell_49 rfl (lv_at hl 0 rfl) ?_
    refine va_get (D := D) (ci := 2) (v := .int co) (C := RX2) (T := TX2) (N := 3) hx hb hts ku_X2_portCell_X2 hown hK hP 0 rfl rfl 1 (by decide) (hts _ kw_X2_portCell_1) (fun _ h9 => h9) rfl dX2_portCell_50 ?_
    refine lv_iadd hx hb dX2_portCell_53 ?_
    refine lv_iconst (v := (1 : Int32)) hx hb dX2_portCell_54 (by decide) ?_
    refine lv_isub hx hb dX2_portCell_55 ?_
    cases hf
    exact hret _ _ dX2_portCell_56 (vp_nar_int _)
  have hf := fp_f hf c38
  refine lv_tableOut (tgt := 81) hx hb dX2_portCell_5 (sw_out_0_3 c35 c36 c37 c38) (by decide) ?_
  refine lv_iload_n hx hb dX2_portCell_81 rfl (lv_at hl 1 rfl) ?_
  refine lv_iconst (v := (2 : Int32)) hx hb dX2_portCell_82 (by decide) ?_
  refine lv_aload_n hx hb dX2_portCell_83 rfl (lv_at hl 0 rfl) ?_
  refine va_get (D := D) (ci := 2) (v := .int co) (C := RX2) (T := TX2) (N := 3) hx hb hts ku_X2_portCell_X2 hown hK hP 0 rfl rfl 1 (by decide) (hts _ kw_X2_portCell_1) (fun _ h9 => h9) rfl dX2_portCell_84 ?_
  refine lv_imul hx hb dX2_portCell_87 ?_
  refine lv_isub hx hb dX2_portCell_88 ?_
  refine lv_aload_n hx hb dX2_portCell_89 rfl (lv_at hl 0 rfl) ?_
  refine va_get (D := D) (ci := 2) (v := .int ro) (C := RX2) (T := TX2) (N := 3) hx hb hts ku_X2_portCell_X2 hown hK hP 0 rfl rfl 2 (by decide) (hts _ kw_X2_portCell_2) (fun _ h9 => h9) rfl dX2_portCell_90 ?_
  refine lv_isub hx hb dX2_portCell_93 ?_
  refine lv_aload_n hx hb dX2_portCell_94 rfl (lv_at hl 0 rfl) ?_
  refine va_get (D := D) (ci := 2) (v := .int co) (C := RX2) (T := TX2) (N := 3) hx hb hts ku_X2_portCell_X2 hown hK hP 0 rfl rfl 1 (by decide) (hts _ kw_X2_portCell_1) (fun _ h9 => h9) rfl dX2_portCell_95 ?_
  refine lv_imul hx hb dX2_portCell_98 ?_
  cases hf
  exact hret _ _ dX2_portCell_99 (vp_nar_int _)
set_option maxRecDepth 100000 in
theorem c_X2_portCell {l : Launch} {D : va_G} {cI cJ cZ cQ : ClassId} {qs : Nat × Nat × Nat} {hRm hKd : Nat} {co : Int32} {ro : Int32} {x1 : Int32} {out : Int32} (hf : f_X2_portCell co ro x1 = some out) : RoI l yX2_portCell wsX2_portCell { frames := 1, cells := 0, slots := 0, locals := 21 } D (ty4 cI cJ cZ cQ) qs [.ref hRm, .int x1] [(hRm, .inr (2, [.ref hKd, .int co, .int ro]))] out :=
  RoI.of (own := RX2) (by decide +kernel) rfl rfl (Nat.le_of_ble_eq_true rfl) (fun F hG hP hret ls hl => b_X2_portCell F hG hP hf hret hl)
-- method X2_beyond
theorem yd_X2_beyond : yX2_beyond.cls = RX2 ∧ yX2_beyond.cls ≠ "java/lang/invoke/MethodHandle" ∧ yX2_beyond.cls ≠ "java/lang/invoke/VarHandle" ∧ (parseMethodDescriptor yX2_beyond.desc).map (fun d => d.parameters.length) = some 2 := by decide +kernel
theorem ku_X2_beyond_X2 : ∀ w ∈ u_ws RX2 TX2 3, w ∈ wsX2_beyond := by decide +kernel
theorem kw_X2_beyond_1 : Cond.fieldLink RX2 15 "MirrorShares$Room" "columns" "I" ∈ wsX2_beyond := List.mem_of_getElem? (i := 1) rfl
theorem kw_X2_beyond_2 : Cond.fieldLink RX2 19 "MirrorShares$Room" "rows" "I" ∈ wsX2_beyond := List.mem_of_getElem? (i := 2) rfl
def f_X2_beyond (co : Int32) (ro : Int32) (x1 : Int32) (x2 : Int32) : Option (Int32) :=
  Option.bind (if co ≤ 0 then some (0 : Int32) else chk (¬ co = 0) (some (x1 - ((x1 / co) * co)))) (fun j39 => Option.bind (if co ≤ 0 then some (0 : Int32) else chk (¬ co = 0) (some (x1 / co))) (fun j41 => (if x2 = (0 : Int32) then (if j41 ≤ 0 then some (j39 ^^^ (-1 : Int32)) else some (x1 - co)) else (if x2 = (1 : Int32) then (if (co - (1 : Int32)) ≤ j39 then some ((co + j41) ^^^ (-1 : Int32)) else some (x1 + (1 : Int32))) else (if x2 = (2 : Int32) then (if (ro - (1 : Int32)) ≤ j41 then some (((co + ro) + j39) ^^^ (-1 : Int32)) else some (x1 + co)) else (if j39 ≤ 0 then some (((((2 : Int32) * co) + ro) + j41) ^^^ (-1 : Int32)) else some (x1 - (1 : Int32))))))))
set_option maxHeartbeats 4000000 in
set_option maxRecDepth 100000 in
theorem b_X2_beyond {p : Program} {l : Launch} {e : Env} {s : State} {m : MethodId} {args : Array Value} {below : List Frame} {meth : Method} {c : Code} {Q : State → Prop} {D : va_G} {cI cJ cZ cQ : ClassId} {qs : Nat × Nat × Nat} {hRm hKd : Nat} {co : Int32} {ro : Int32} {x1 : Int32} {x2 : Int32} {out : Int32} (F : CallFix p m c cX2_beyond 5 s args wsX2_beyond RX2) (hG : kR D (ty4 cI cJ cZ cQ) qs s s.heap) (hP : va_P D vwCl [(hRm, .inr (2, [.ref hKd, .int co, .int ro]))] s.heap) (hf : f_X2_beyond co ro x1 x2 = some out) (hret : ∀ (pc : Nat) (ls : Array Slot), decode cX2_beyond pc = .ok (.ireturn, 1) → narrow .int (.int out) = .int out → W p l e { frames := 0, cells := 0, slots := 0, locals := 0 } s m args below meth c s.heap [] 0 0 Q (F0 m pc ls [.int out])) {ls : Array Slot} (hl : lv_has ls 5 [(0, .ref hRm), (1, .int x1), (2, .int x2)]) : W p l e { frames := 0, cells := 0, slots := 0, locals := 0 } s m args below meth c s.heap [] 0 0 Q (F0 m 0 ls []) := by
  have hx := F.1
  have hb := F.2.1
  have hown := F.2.2.2.1
  have hts := F.2.2.2.2
  have hK := hG.1.1
  rw [f_X2_beyond] at hf
  refine lv_aload_n hx hb dX2_beyond_0 rfl (lv_at hl 0 rfl) ?_
  refine va_get (D := D) (ci := 2) (v := .int co) (C := RX2) (T := TX2) (N := 3) hx hb hts ku_X2_beyond_X2 hown hK hP 0 rfl rfl 1 (by decide) (hts _ kw_X2_beyond_1) (fun _ h9 => h9) rfl dX2_beyond_1 ?_
  obtain ⟨j39, ej39, hf⟩ := fp_b hf
  have hj40 : ∀ ls : Array Slot, lv_has ls 5 [(0, .ref hRm), (1, .int x1), (2, .int x2)] → W p l e { frames := 0, cells := 0, slots := 0, locals := 0 } s m args below meth c s.heap [] 0 0 Q (F0 m 17 ls [.int j39]) := by
    intro ls hl
    refine lv_istore_n (lv' := [(3, .int j39), (0, .ref hRm), (1, .int x1), (2, .int x2)]) hx hb dX2_beyond_17 rfl hl (by decide) rfl (fun ls hl => ?_)
    refine lv_aload_n hx hb dX2_beyond_18 rfl (lv_at hl 1 rfl) ?_
    refine va_get (D := D) (ci := 2) (v := .int co) (C := RX2) (T := TX2) (N := 3) hx hb hts ku_X2_beyond_X2 hown hK hP 0 rfl rfl 1 (by decide) (hts _ kw_X2_beyond_1) (fun _ h9 => h9) rfl dX2_beyond_19 ?_
    obtain ⟨j41, ej41, hf⟩ := fp_b hf
    have hj42 : ∀ ls : Array Slot, lv_has ls 5 [(0, .ref hRm), (1, .int x1), (2, .int x2), (3, .int j39)] → W p l e { frames := 0, cells := 0, slots := 0, locals := 0 } s m args below meth c s.heap [] 0 0 Q (F0 m 35 ls [.int j41]) := by
      intro ls hl
      refine lv_istore (lv' := [(4, .int j41), (0, .ref hRm), (1, .int x1), (2, .int x2), (3, .int j39)]) hx hb dX2_beyond_35 hl (by decide) rfl (fun ls hl => ?_)
      refine lv_iload_n hx hb dX2_beyond_37 rfl (lv_at hl 3 rfl) ?_
      by_cases c43 : x2 = (0 : Int32)
      · have hf := fp_t hf c43
        rw [c43]
        refine lv_tableIn (off := 26) (tgt := 64) hx hb dX2_beyond_38 (by decide) (by decide) rfl (by decide) ?_
        refine lv_iload hx hb dX2_beyond_64 (lv_at hl 0 rfl) ?_
        refine lv_if_le (tgt := 78) hx hb dX2_beyond_66 (by decide) (fun c44 => ?_) (fun c44 => ?_)
        · have hf := fp_t hf c44
          refine lv_iload_n hx hb dX2_beyond_78 rfl (lv_at hl 4 rfl) ?_
          refine lv_iconst (v := (-1 : Int32)) hx hb dX2_beyond_79 (by decide) ?_
          refine lv_ixor hx hb dX2_beyond_80 ?_
          cases hf
          exact hret _ _ dX2_beyond_81 (vp_nar_int _)
        · have hf := fp_f hf c44
          refine lv_iload_n hx hb dX2_beyond_69 rfl (lv_at hl 2 rfl) ?_
          refine lv_aload_n hx hb dX2_beyond_70 rfl (lv_at hl 1 rfl) ?_
          refine va_get (D := D) (ci := 2) (v := .int co) (C := RX2) (T := TX2) (N := 3) hx hb hts ku_X2_beyond_X2 hown hK hP 0 rfl rfl 1 (by decide) (hts _ kw_X2_beyond_1) (fun _ h9 => h9) rfl dX2_beyond_71 ?_
          refine lv_isub hx hb dX2_beyond_74 ?_
          refine lv_goto (tgt := 81) hx hb dX2_beyond_75 (by decide) ?_
          cases hf
          exact hret _ _ dX2_beyond_81 (vp_nar_int _)
      have hf := fp_f hf c43
      by_cases c45 : x2 = (1 : Int32)
      · have hf := fp_t hf c45
        rw [c45]
        refine lv_tableIn (off := 44) (tgt := 82) hx hb dX2_beyond_38 (by decide) (by decide) rfl (by decide) ?_
        refine lv_iload_n hx hb dX2_beyond_82 rfl (lv_at hl 4 rfl) ?_
        refine lv_aload_n hx hb dX2_beyond_83 rfl (lv_at hl 1 rfl) ?_
        refine va_get (D := D) (ci := 2) (v := .int co) (C := RX2) (T := TX2) (N := 3) hx hb hts ku_X2_beyond_X2 hown hK hP 0 rfl rfl 1 (by decide) (hts _ kw_X2_beyond_1) (fun _ h9 => h9) rfl dX2_beyond_84 ?_
        refine lv_iconst (v := (1 : Int32)) hx hb dX2_beyond_87 (by decide) ?_
        refine lv_isub hx hb dX2_beyond_88 ?_
        refine lv_icmp_ge (tgt := 98) hx hb dX2_beyond_89 (by decide) (fun c46 => ?_) (fun c46 => ?_)
        · have hf := fp_t hf c46
          refine lv_aload_n hx hb dX2_beyond_98 rfl (lv_at hl 1 rfl) ?_
          refine va_get (D := D) (ci := 2) (v := .int co) (C := RX2) (T := TX2) (N := 3) hx hb hts ku_X2_beyond_X2 hown hK hP 0 rfl rfl 1 (by decide) (hts _ kw_X2_beyond_1) (fun _ h9 => h9) rfl dX2_beyond_99 ?_
          refine lv_iload hx hb dX2_beyond_102 (lv_at hl 0 rfl) ?_
          refine lv_iadd hx hb dX2_beyond_104 ?_
          refine lv_iconst (v := (-1 : Int32)) hx hb dX2_beyond_105 (by decide) ?_
          refine lv_ixor hx hb dX2_beyond_106 ?_
          cases hf
          exact hret _ _ dX2_beyond_107 (vp_nar_int _)
        · have hf := fp_f hf c46
          refine lv_iload_n hx hb dX2_beyond_92 rfl (lv_at hl 2 rfl) ?_
          refine lv_iconst (v := (1 : Int32)) hx hb dX2_beyond_93 (by decide) ?_
          refine lv_iadd hx hb dX2_beyond_94 ?_
          refine lv_goto (tgt := 107) hx hb dX2_beyond_95 (by decide) ?_
          cases hf
          exact hret _ _ dX2_beyond_107 (vp_nar_int _)
      have hf := fp_f hf c45
      by_cases c47 : x2 = (2 : Int32)
      · have hf := fp_t hf c47
        rw [c47]
        refine lv_tableIn (off := 70) (tgt := 108) hx hb dX2_beyond_38 (by decide) (by decide) rfl (by decide) ?_
        refine lv_iload hx hb dX2_beyond_108 (lv_at hl 0 rfl) ?_
        refine lv_aload_n hx hb dX2_beyond_110 rfl (lv_at hl 1 rfl) ?_
        refine va_get (D := D) (ci := 2) (v := .int ro) (C := RX2) (T := TX2) (N := 3) hx hb hts ku_X2_beyond_X2 hown hK hP 0 rfl rfl 2 (by decide) (hts _ kw_X2_beyond_2) (fun _ h9 => h9) rfl dX2_beyond_111 ?_
        refine lv_iconst (v := (1 : Int32)) hx hb dX2_beyond_114 (by decide) ?_
        refine lv_isub hx hb dX2_beyond_115 ?_
        refine lv_icmp_ge (tgt := 128) hx hb dX2_beyond_116 (by decide) (fun c48 => ?_) (fun c48 => ?_)
        · have hf := fp_t hf c48
          refine lv_aload_n hx hb dX2_beyond_128 rfl (lv_at hl 1 rfl) ?_
          refine va_get (D := D) (ci := 2) (v := .int co) (C := RX2) (T := TX2) (N := 3) hx hb hts ku_X2_beyond_X2 hown hK hP 0 rfl rfl 1 (by decide) (hts _ kw_X2_beyond_1) (fun _ h9 => h9) rfl dX2_beyond_129 ?_
          refine lv_aload_n hx hb dX2_beyond_132 rfl (lv_at hl 1 rfl) ?_
          refine va_get (D := D) (ci := 2) (v := .int ro) (C := RX2) (T := TX2) (N := 3) hx hb hts ku_X2_beyond_X2 hown hK hP 0 rfl rfl 2 (by decide) (hts _ kw_X2_beyond_2) (fun _ h9 => h9) rfl dX2_beyond_133 ?_
          refine lv_iadd hx hb dX2_beyond_136 ?_
          refine lv_iload_n hx hb dX2_beyond_137 rfl (lv_at hl 4 rfl) ?_
          refine lv_iadd hx hb dX2_beyond_138 ?_
          refine lv_iconst (v := (-1 : Int32)) hx hb dX2_beyond_139 (by decide) ?_
          refine lv_ixor hx hb dX2_beyond_140 ?_
          cases hf
          exact hret _ _ dX2_beyond_141 (vp_nar_int _)
        · have hf := fp_f hf c48
          refine lv_iload_n hx hb dX2_beyond_119 rfl (lv_at hl 2 rfl) ?_
          refine lv_aload_n hx hb dX2_beyond_120 rfl (lv_at hl 1 rfl) ?_
          refine va_get (D := D) (ci := 2) (v := .int co) (C := RX2) (T := TX2) (N := 3) hx hb hts ku_X2_beyond_X2 hown hK hP 0 rfl rfl 1 (by decide) (hts _ kw_X2_beyond_1) (fun _ h9 => h9) rfl dX2_beyond_121 ?_
          refine lv_iadd hx hb dX2_beyond_124 ?_
          refine lv_goto (tgt := 141) hx hb dX2_beyond_125 (by decide) ?_
          cases hf
          exact hret _ _ dX2_beyond_141 (vp_nar_int _)
      have hf := fp_f hf c47
      refine lv_tableOut (tgt := 142) hx hb dX2_beyond_38 (sw_out_0_2 c43 c45 c47) (by decide) ?_
      refine lv_iload_n hx hb dX2_beyond_142 rfl (lv_at hl 4 rfl) ?_
      refine lv_if_le (tgt := 152) hx hb dX2_beyond_143 (by decide) (fun c49 => ?_) (fun c49 => ?_)
      · have hf := fp_t hf c49
        refine lv_iconst (v := (2 : Int32)) hx hb dX2_beyond_152 (by decide) ?_
        refine lv_aload_n hx hb dX2_beyond_153 rfl (lv_at hl 1 rfl) ?_
        refine va_get (D := D) (ci := 2) (v := .int co) (C := RX2) (T := TX2) (N := 3) hx hb hts ku_X2_beyond_X2 hown hK hP 0 rfl rfl 1 (by decide) (hts _ kw_X2_beyond_1) (fun _ h9 => h9) rfl dX2_beyond_154 ?_
        refine lv_imul hx hb dX2_beyond_157 ?_
        refine lv_aload_n hx hb dX2_beyond_158 rfl (lv_at hl 1 rfl) ?_
        refine va_get (D := D) (ci := 2) (v := .int ro) (C := RX2) (T := TX2) (N := 3) hx hb hts ku_X2_beyond_X2 hown hK hP 0 rfl rfl 2 (by decide) (hts _ kw_X2_beyond_2) (fun _ h9 => h9) rfl dX2_beyond_159 ?_
        refine lv_iadd hx hb dX2_beyond_162 ?_
        refine lv_iload hx hb dX2_beyond_163 (lv_at hl 0 rfl) ?_
        refine lv_iadd hx hb dX2_beyond_165 ?_
        refine lv_iconst (v := (-1 : Int32)) hx hb dX2_beyond_166 (by decide) ?_
        refine lv_ixor hx hb dX2_beyond_167 ?_
        cases hf
        exact hret _ _ dX2_beyond_168 (vp_nar_int _)
      · have hf := fp_f hf c49
        refine lv_iload_n hx hb dX2_beyond_146 rfl (lv_at hl 2 rfl) ?_
        refine lv_iconst (v := (1 : Int32)) hx hb dX2_beyond_147 (by decide) ?_
        refine lv_isub hx hb dX2_beyond_148 ?_
        refine lv_goto (tgt := 168) hx hb dX2_beyond_149 (by decide) ?_
        cases hf
        exact hret _ _ dX2_beyond_168 (vp_nar_int _)
    replace hf := ej41
    refine lv_if_le (tgt := 34) hx hb dX2_beyond_22 (by decide) (fun c50 => ?_) (fun c50 => ?_)
    · have hf := fp_t hf c50
      refine lv_iconst (v := (0 : Int32)) hx hb dX2_beyond_34 (by decide) ?_
      cases hf
      exact hj42 _ (lv_sub hl [1, 2, 3, 0] rfl)
    · have hf := fp_f hf c50
      refine lv_iload_n hx hb dX2_beyond_25 rfl (lv_at hl 2 rfl) ?_
      refine lv_aload_n hx hb dX2_beyond_26 rfl (lv_at hl 1 rfl) ?_
      refine va_get (D := D) (ci := 2) (v := .int co) (C := RX2) (T := TX2) (N := 3) hx hb hts ku_X2_beyond_X2 hown hK hP 0 rfl rfl 1 (by decide) (hts _ kw_X2_beyond_1) (fun _ h9 => h9) rfl dX2_beyond_27 ?_
      obtain ⟨k51, hf⟩ := fp_c hf
      refine lv_idiv hx hb dX2_beyond_30 k51 ?_
      refine lv_goto (tgt := 35) hx hb dX2_beyond_31 (by decide) ?_
      cases hf
      exact hj42 _ (lv_sub hl [1, 2, 3, 0] rfl)
  replace hf := ej39
  refine lv_if_le (tgt := 16) hx hb dX2_beyond_4 (by decide) (fun c52 => ?_) (fun c52 => ?_)
  · have hf := fp_t hf c52
    refine lv_iconst (v := (0 : Int32)) hx hb dX2_beyond_16 (by decide) ?_
    cases hf
    exact hj40 _ (lv_sub hl [0, 1, 2] rfl)
  · have hf := fp_f hf c52
    refine lv_iload_n hx hb dX2_beyond_7 rfl (lv_at hl 1 rfl) ?_
    refine lv_aload_n hx hb dX2_beyond_8 rfl (lv_at hl 0 rfl) ?_
    refine va_get (D := D) (ci := 2) (v := .int co) (C := RX2) (T := TX2) (N := 3) hx hb hts ku_X2_beyond_X2 hown hK hP 0 rfl rfl 1 (by decide) (hts _ kw_X2_beyond_1) (fun _ h9 => h9) rfl dX2_beyond_9 ?_
    obtain ⟨k53, hf⟩ := fp_c hf
    refine lv_irem hx hb dX2_beyond_12 k53 ?_
    refine lv_goto (tgt := 17) hx hb dX2_beyond_13 (by decide) ?_
    cases hf
    exact hj40 _ (lv_sub hl [0, 1, 2] rfl)
set_option maxRecDepth 100000 in
theorem c_X2_beyond {l : Launch} {D : va_G} {cI cJ cZ cQ : ClassId} {qs : Nat × Nat × Nat} {hRm hKd : Nat} {co : Int32} {ro : Int32} {x1 : Int32} {x2 : Int32} {out : Int32} (hf : f_X2_beyond co ro x1 x2 = some out) : RoI l yX2_beyond wsX2_beyond { frames := 0, cells := 0, slots := 0, locals := 0 } D (ty4 cI cJ cZ cQ) qs [.ref hRm, .int x1, .int x2] [(hRm, .inr (2, [.ref hKd, .int co, .int ro]))] out :=
  RoI.of (own := RX2) (by decide +kernel) rfl rfl (Nat.le_of_ble_eq_true rfl) (fun F hG hP hret ls hl => b_X2_beyond F hG hP hf hret hl)
-- method X2_become
theorem yd_X2_become : yX2_become.cls = RX2 ∧ yX2_become.cls ≠ "java/lang/invoke/MethodHandle" ∧ yX2_become.cls ≠ "java/lang/invoke/VarHandle" ∧ (parseMethodDescriptor yX2_become.desc).map (fun d => d.parameters.length) = some 1 := by decide +kernel
theorem ku_X2_become_X2 : ∀ w ∈ u_ws RX2 TX2 3, w ∈ wsX2_become := by decide +kernel
theorem kw_X2_become_1 : Cond.fieldLink RX2 15 "MirrorShares$Room" "columns" "I" ∈ wsX2_become := List.mem_of_getElem? (i := 1) rfl
theorem kw_X2_become_2 : Cond.fieldLink RX2 19 "MirrorShares$Room" "rows" "I" ∈ wsX2_become := List.mem_of_getElem? (i := 2) rfl
theorem kw_X2_become_3 : Cond.fieldLink RX2 9 "MirrorShares$Room" "kinds" "[I" ∈ wsX2_become := List.mem_of_getElem? (i := 3) rfl
theorem kw_X2_become_4 : Cond.methodLink RX2 25 arraycopyName ∈ wsX2_become := List.mem_of_getElem? (i := 4) rfl
theorem kw_X2_become_5 : Cond.native arraycopyName ∈ wsX2_become := List.mem_of_getElem? (i := 5) rfl
theorem kw_X2_become_6 : Cond.static arraycopyName ∈ wsX2_become := List.mem_of_getElem? (i := 6) rfl
theorem kw_X2_become_7 : Cond.initialized "java/lang/System" ∈ wsX2_become := List.mem_of_getElem? (i := 7) rfl
def f_X2_become (co : Int32) (ro : Int32) (kd : Nat → Int32) (coO : Int32) (roO : Int32) (kdO : Nat → Int32) : Option (Int32 × Int32 × (Nat → Int32)) :=
  some (coO, roO, (va_cpy kdO kd (Int32.toNatClampNeg (0 : Int32)) (Int32.toNatClampNeg (0 : Int32)) (Int32.toNatClampNeg (20 : Int32))))
set_option maxHeartbeats 4000000 in
set_option maxRecDepth 100000 in
theorem b_X2_become {p : Program} {l : Launch} {e : Env} {s : State} {m : MethodId} {args : Array Value} {below : List Frame} {meth : Method} {c : Code} {Q : State → Prop} {A : Nat → Prop} {H : Heap} {locs : List Loc} {D : va_G} {cI cJ cZ cQ : ClassId} {qs : Nat × Nat × Nat} {hRm hKd hRmO hKdO : Nat} {co : Int32} {ro : Int32} {kd : Nat → Int32} {coO : Int32} {roO : Int32} {kdO : Nat → Int32} {out : Int32 × Int32 × (Nat → Int32)} (F : CallFix p m c cX2_become 2 s args wsX2_become RX2) (hG : kW D (ty4 cI cJ cZ cQ) qs A s s.heap) (hA : ∀ q : Nat, s.heap.size ≤ q → A q) (hP : va_P D vwCl [(hRm, .inr (2, [.ref hKd, .int co, .int ro])), (hKd, .inl (cI, 20, .inl kd)), (hRmO, .inr (2, [.ref hKdO, .int coO, .int roO])), (hKdO, .inl (cI, 20, .inl kdO))] H) (hD : va_D A [(hRm, .inr (2, [.ref hKd, .int co, .int ro])), (hKd, .inl (cI, 20, .inl kd)), (hRmO, .inr (2, [.ref hKdO, .int coO, .int roO])), (hKdO, .inl (cI, 20, .inl kdO))]) (hS : va_S A s.heap H locs) (hf : f_X2_become co ro kd coO roO kdO = some out) (hret : ∀ (pc : Nat) (H : Heap) (locs : List Loc) (ls : Array Slot), decode cX2_become pc = .ok (.return_, 1) → va_P D vwCl [(hRm, .inr (2, [.ref hKd, .int out.1, .int out.2.1])), (hKd, .inl (cI, 20, .inl out.2.2)), (hRmO, .inr (2, [.ref hKdO, .int coO, .int roO])), (hKdO, .inl (cI, 20, .inl kdO))] H → va_D A [(hRm, .inr (2, [.ref hKd, .int out.1, .int out.2.1])), (hKd, .inl (cI, 20, .inl out.2.2)), (hRmO, .inr (2, [.ref hKdO, .int coO, .int roO])), (hKdO, .inl (cI, 20, .inl kdO))] → va_S A s.heap H locs → W p l e { frames := 1, cells := 0, slots := 0, locals := 60 } s m args below meth c H locs 0 0 Q (F0 m pc ls [])) {ls : Array Slot} (hl : lv_has ls 2 [(0, .ref hRm), (1, .ref hRmO)]) : W p l e { frames := 1, cells := 0, slots := 0, locals := 60 } s m args below meth c H locs 0 0 Q (F0 m 0 ls []) := by
  have hx := F.1
  have hb := F.2.1
  have hown := F.2.2.2.1
  have hts := F.2.2.2.2
  have hK := hG.1.1
  rw [f_X2_become] at hf
  refine lv_aload_n hx hb dX2_become_0 rfl (lv_at hl 0 rfl) ?_
  refine lv_aload_n hx hb dX2_become_1 rfl (lv_at hl 1 rfl) ?_
  refine va_get (D := D) (ci := 2) (v := .int coO) (C := RX2) (T := TX2) (N := 3) hx hb hts ku_X2_become_X2 hown hK hP 2 rfl rfl 1 (by decide) (hts _ kw_X2_become_1) (fun _ h9 => h9) rfl dX2_become_2 ?_
  refine va_put (D := D) (ci := 2) (v := .int coO) (ty := .int) (C := RX2) (T := TX2) (N := 3) hx hb hts ku_X2_become_X2 tyX2 tyX2_ok nmX2 hown hK hP hD hS 0 rfl rfl 1 (by decide) (hts _ kw_X2_become_1) (fun _ h9 => h9) rfl (by decide +kernel) rfl rfl (Nat.le_of_ble_eq_true rfl) dX2_become_5 (fun H locs hP hD hS => ?_)
  have hP : va_P D vwCl [(hRm, .inr (2, [.ref hKd, .int coO, .int ro])), (hKd, .inl (cI, 20, .inl kd)), (hRmO, .inr (2, [.ref hKdO, .int coO, .int roO])), (hKdO, .inl (cI, 20, .inl kdO))] H := hP
  have hD : va_D A [(hRm, .inr (2, [.ref hKd, .int coO, .int ro])), (hKd, .inl (cI, 20, .inl kd)), (hRmO, .inr (2, [.ref hKdO, .int coO, .int roO])), (hKdO, .inl (cI, 20, .inl kdO))] := hD
  refine lv_aload_n hx hb dX2_become_8 rfl (lv_at hl 0 rfl) ?_
  refine lv_aload_n hx hb dX2_become_9 rfl (lv_at hl 1 rfl) ?_
  refine va_get (D := D) (ci := 2) (v := .int roO) (C := RX2) (T := TX2) (N := 3) hx hb hts ku_X2_become_X2 hown hK hP 2 rfl rfl 2 (by decide) (hts _ kw_X2_become_2) (fun _ h9 => h9) rfl dX2_become_10 ?_
  refine va_put (D := D) (ci := 2) (v := .int roO) (ty := .int) (C := RX2) (T := TX2) (N := 3) hx hb hts ku_X2_become_X2 tyX2 tyX2_ok nmX2 hown hK hP hD hS 0 rfl rfl 2 (by decide) (hts _ kw_X2_become_2) (fun _ h9 => h9) rfl (by decide +kernel) rfl rfl (Nat.le_of_ble_eq_true rfl) dX2_become_13 (fun H locs hP hD hS => ?_)
  have hP : va_P D vwCl [(hRm, .inr (2, [.ref hKd, .int coO, .int roO])), (hKd, .inl (cI, 20, .inl kd)), (hRmO, .inr (2, [.ref hKdO, .int coO, .int roO])), (hKdO, .inl (cI, 20, .inl kdO))] H := hP
  have hD : va_D A [(hRm, .inr (2, [.ref hKd, .int coO, .int roO])), (hKd, .inl (cI, 20, .inl kd)), (hRmO, .inr (2, [.ref hKdO, .int coO, .int roO])), (hKdO, .inl (cI, 20, .inl kdO))] := hD
  refine lv_aload_n hx hb dX2_become_16 rfl (lv_at hl 1 rfl) ?_
  refine va_get (D := D) (ci := 2) (v := .ref hKdO) (C := RX2) (T := TX2) (N := 3) hx hb hts ku_X2_become_X2 hown hK hP 2 rfl rfl 0 (by decide) (hts _ kw_X2_become_3) (fun _ h9 => h9) rfl dX2_become_17 ?_
  refine lv_iconst (v := (0 : Int32)) hx hb dX2_become_20 (by decide) ?_
  refine lv_aload_n hx hb dX2_become_21 rfl (lv_at hl 0 rfl) ?_
  refine va_get (D := D) (ci := 2) (v := .ref hKd) (C := RX2) (T := TX2) (N := 3) hx hb hts ku_X2_become_X2 hown hK hP 0 rfl rfl 0 (by decide) (hts _ kw_X2_become_3) (fun _ h9 => h9) rfl dX2_become_22 ?_
  refine lv_iconst (v := (0 : Int32)) hx hb dX2_become_25 (by decide) ?_
  refine lv_bipush (v := (20 : Int32)) hx hb dX2_become_26 (by decide) ?_
  refine va_copyi (ty := .int) hx hb (by rw [F.2.2.1]; exact hl.1.symm) hown (hts _ kw_X2_become_4) (hts _ kw_X2_become_5) (hts _ kw_X2_become_6) (hts _ kw_X2_become_7) hK hP hD hS 3 1 0 0 rfl rfl rfl rfl rfl (by decide) (by decide) (by decide) (by decide) (by decide) (fun _ _ => rfl) (Nat.le_of_ble_eq_true rfl) (Nat.le_of_ble_eq_true rfl) dX2_become_28 (fun H locs hP hD hS => ?_)
  have hP : va_P D vwCl [(hRm, .inr (2, [.ref hKd, .int coO, .int roO])), (hKd, .inl (cI, 20, .inl (va_cpy kdO kd (Int32.toNatClampNeg (0 : Int32)) (Int32.toNatClampNeg (0 : Int32)) (Int32.toNatClampNeg (20 : Int32))))), (hRmO, .inr (2, [.ref hKdO, .int coO, .int roO])), (hKdO, .inl (cI, 20, .inl kdO))] H := hP
  have hD : va_D A [(hRm, .inr (2, [.ref hKd, .int coO, .int roO])), (hKd, .inl (cI, 20, .inl (va_cpy kdO kd (Int32.toNatClampNeg (0 : Int32)) (Int32.toNatClampNeg (0 : Int32)) (Int32.toNatClampNeg (20 : Int32))))), (hRmO, .inr (2, [.ref hKdO, .int coO, .int roO])), (hKdO, .inl (cI, 20, .inl kdO))] := hD
  cases hf
  exact hret _ _ _ _ dX2_become_31 hP hD hS
set_option maxRecDepth 100000 in
theorem c_X2_become {l : Launch} {D : va_G} {cI cJ cZ cQ : ClassId} {qs : Nat × Nat × Nat} {hRm hKd hRmO hKdO : Nat} {co : Int32} {ro : Int32} {kd : Nat → Int32} {coO : Int32} {roO : Int32} {kdO : Nat → Int32} {out : Int32 × Int32 × (Nat → Int32)} (hf : f_X2_become co ro kd coO roO kdO = some out) : RwV l yX2_become wsX2_become { frames := 1, cells := 0, slots := 0, locals := 60 } D (ty4 cI cJ cZ cQ) qs [.ref hRm, .ref hRmO] [(hRm, .inr (2, [.ref hKd, .int co, .int ro])), (hKd, .inl (cI, 20, .inl kd)), (hRmO, .inr (2, [.ref hKdO, .int coO, .int roO])), (hKdO, .inl (cI, 20, .inl kdO))] [(hRm, .inr (2, [.ref hKd, .int out.1, .int out.2.1])), (hKd, .inl (cI, 20, .inl out.2.2)), (hRmO, .inr (2, [.ref hKdO, .int coO, .int roO])), (hKdO, .inl (cI, 20, .inl kdO))] :=
  RwV.of (own := RX2) (by decide +kernel) rfl rfl (Nat.le_of_ble_eq_true rfl) (fun F hG hA hP hD hS hret ls hl => b_X2_become F hG hA hP hD hS hf hret hl)
-- method X2_turnedKind
theorem yd_X2_turnedKind : yX2_turnedKind.cls ≠ "java/lang/invoke/MethodHandle" ∧ yX2_turnedKind.cls ≠ "java/lang/invoke/VarHandle" ∧ (parseMethodDescriptor yX2_turnedKind.desc).map (fun d => d.parameters.length) = some 1 := by decide +kernel
def f_X2_turnedKind (x0 : Int32) : Option (Int32) :=
  (if x0 = (1 : Int32) then some (2 : Int32) else (if x0 = (2 : Int32) then some (1 : Int32) else (if x0 = (3 : Int32) then some (4 : Int32) else (if x0 = (4 : Int32) then some (3 : Int32) else some x0))))
set_option maxHeartbeats 4000000 in
set_option maxRecDepth 100000 in
theorem b_X2_turnedKind {p : Program} {l : Launch} {e : Env} {s : State} {m : MethodId} {args : Array Value} {below : List Frame} {meth : Method} {c : Code} {Q : State → Prop} {D : va_G} {cI cJ cZ cQ : ClassId} {qs : Nat × Nat × Nat}  {x0 : Int32} {out : Int32} (F : CallFix p m c cX2_turnedKind 1 s args wsX2_turnedKind RX2) (hG : kR D (ty4 cI cJ cZ cQ) qs s s.heap) (hP : va_P D vwCl [] s.heap) (hf : f_X2_turnedKind x0 = some out) (hret : ∀ (pc : Nat) (ls : Array Slot), decode cX2_turnedKind pc = .ok (.ireturn, 1) → narrow .int (.int out) = .int out → W p l e { frames := 0, cells := 0, slots := 0, locals := 0 } s m args below meth c s.heap [] 0 0 Q (F0 m pc ls [.int out])) {ls : Array Slot} (hl : lv_has ls 1 [(0, .int x0)]) : W p l e { frames := 0, cells := 0, slots := 0, locals := 0 } s m args below meth c s.heap [] 0 0 Q (F0 m 0 ls []) := by
  have hx := F.1
  have hb := F.2.1
  have hown := F.2.2.2.1
  have hts := F.2.2.2.2
  have hK := hG.1.1
  rw [f_X2_turnedKind] at hf
  refine lv_iload_n hx hb dX2_turnedKind_0 rfl (lv_at hl 0 rfl) ?_
  by_cases c54 : x0 = (1 : Int32)
  · have hf := fp_t hf c54
    rw [c54]
    refine lv_tableIn (off := 31) (tgt := 32) hx hb dX2_turnedKind_1 (by decide) (by decide) rfl (by decide) ?_
    refine lv_iconst (v := (2 : Int32)) hx hb dX2_turnedKind_32 (by decide) ?_
    cases hf
    exact hret _ _ dX2_turnedKind_33 (vp_nar_int _)
  have hf := fp_f hf c54
  by_cases c55 : x0 = (2 : Int32)
  · have hf := fp_t hf c55
    rw [c55]
    refine lv_tableIn (off := 33) (tgt := 34) hx hb dX2_turnedKind_1 (by decide) (by decide) rfl (by decide) ?_
    refine lv_iconst (v := (1 : Int32)) hx hb dX2_turnedKind_34 (by decide) ?_
    cases hf
    exact hret _ _ dX2_turnedKind_35 (vp_nar_int _)
  have hf := fp_f hf c55
  by_cases c56 : x0 = (3 : Int32)
  · have hf := fp_t hf c56
    rw [c56]
    refine lv_tableIn (off := 35) (tgt := 36) hx hb dX2_turnedKind_1 (by decide) (by decide) rfl (by decide) ?_
    refine lv_iconst (v := (4 : Int32)) hx hb dX2_turnedKind_36 (by decide) ?_
    cases hf
    exact hret _ _ dX2_turnedKind_37 (vp_nar_int _)
  have hf := fp_f hf c56
  by_cases c57 : x0 = (4 : Int32)
  · have hf := fp_t hf c57
    rw [c57]
    refine lv_tableIn (off := 37) (tgt := 38) hx hb dX2_turnedKind_1 (by decide) (by decide) rfl (by decide) ?_
    refine lv_iconst (v := (3 : Int32)) hx hb dX2_turnedKind_38 (by decide) ?_
    cases hf
    exact hret _ _ dX2_turnedKind_39 (vp_nar_int _)
  have hf := fp_f hf c57
  refine lv_tableOut (tgt := 40) hx hb dX2_turnedKind_1 (sw_out_1_4 c54 c55 c56 c57) (by decide) ?_
  refine lv_iload_n hx hb dX2_turnedKind_40 rfl (lv_at hl 0 rfl) ?_
  cases hf
  exact hret _ _ dX2_turnedKind_41 (vp_nar_int _)
set_option maxRecDepth 100000 in
theorem c_X2_turnedKind {l : Launch} {D : va_G} {cI cJ cZ cQ : ClassId} {qs : Nat × Nat × Nat}  {x0 : Int32} {out : Int32} (hf : f_X2_turnedKind x0 = some out) : RoI l yX2_turnedKind wsX2_turnedKind { frames := 0, cells := 0, slots := 0, locals := 0 } D (ty4 cI cJ cZ cQ) qs [.int x0] [] out :=
  RoI.of (own := RX2) (by decide +kernel) rfl rfl (Nat.le_of_ble_eq_true rfl) (fun F hG hP hret ls hl => b_X2_turnedKind F hG hP hf hret hl)
-- method X2_becomeTurned
theorem yd_X2_becomeTurned : yX2_becomeTurned.cls = RX2 ∧ yX2_becomeTurned.cls ≠ "java/lang/invoke/MethodHandle" ∧ yX2_becomeTurned.cls ≠ "java/lang/invoke/VarHandle" ∧ (parseMethodDescriptor yX2_becomeTurned.desc).map (fun d => d.parameters.length) = some 1 := by decide +kernel
theorem ku_X2_becomeTurned_X2 : ∀ w ∈ u_ws RX2 TX2 3, w ∈ wsX2_becomeTurned := by decide +kernel
theorem kw_X2_becomeTurned_1 : Cond.fieldLink RX2 19 "MirrorShares$Room" "rows" "I" ∈ wsX2_becomeTurned := List.mem_of_getElem? (i := 1) rfl
theorem kw_X2_becomeTurned_2 : Cond.fieldLink RX2 15 "MirrorShares$Room" "columns" "I" ∈ wsX2_becomeTurned := List.mem_of_getElem? (i := 2) rfl
def f_X2_becomeTurned_28 (co : Int32) (ro : Int32) (coO : Int32) (roO : Int32) (kdO : Nat → Int32) (y2 : Int32) (y3 : Int32) (kd : Nat → Int32) : Option ((Int32 × (Nat → Int32)) ⊕ ((Nat → Int32))) :=
  (if coO ≤ y3 then some (Sum.inr kd) else Option.bind (f_X2_kindAt coO roO kdO ((y2 * coO) + y3)) (fun r60 => Option.bind (f_X2_turnedKind r60) (fun r61 => Option.bind (f_X2_tell co ro kd ((((y3 * co) + co) - (1 : Int32)) - y2) r61) (fun r62 => some (Sum.inl ((y3 + (1 : Int32)), r62))))))
set_option maxHeartbeats 4000000 in
set_option maxRecDepth 100000 in
theorem lp_X2_becomeTurned_28 {p : Program} {l : Launch} {e : Env} {s : State} {m : MethodId} {args : Array Value} {below : List Frame} {meth : Method} {c : Code} {Q : State → Prop} {A : Nat → Prop} {D : va_G} {cI cJ cZ cQ : ClassId} {qs : Nat × Nat × Nat} {hRm hKd hRmO hKdO : Nat} {co : Int32} {ro : Int32} {coO : Int32} {roO : Int32} {kdO : Nat → Int32} {y2 : Int32} (F : CallFix p m c cX2_becomeTurned 5 s args wsX2_becomeTurned RX2) (hG : kW D (ty4 cI cJ cZ cQ) qs A s s.heap) (hA : ∀ q : Nat, s.heap.size ≤ q → A q) :
    ∀ (n : Nat) {y3 : Int32} {kd : Nat → Int32} (out : (Nat → Int32)), lpf (fun s => f_X2_becomeTurned_28 co ro coO roO kdO y2 s.1 s.2) n (y3, kd) = some out → ∀ {H : Heap} {locs : List Loc} {ls : Array Slot}, va_P D vwCl [(hRm, .inr (2, [.ref hKd, .int co, .int ro])), (hKd, .inl (cI, 20, .inl kd)), (hRmO, .inr (2, [.ref hKdO, .int coO, .int roO])), (hKdO, .inl (cI, 20, .inl kdO))] H → va_D A [(hRm, .inr (2, [.ref hKd, .int co, .int ro])), (hKd, .inl (cI, 20, .inl kd)), (hRmO, .inr (2, [.ref hKdO, .int coO, .int roO])), (hKdO, .inl (cI, 20, .inl kdO))] → va_S A s.heap H locs → lv_has ls 5 [(0, .ref hRm), (1, .ref hRmO), (2, .int y2), (3, .int y3)] → (∀ (H : Heap) (locs : List Loc) (ls : Array Slot), va_P D vwCl [(hRm, .inr (2, [.ref hKd, .int co, .int ro])), (hKd, .inl (cI, 20, .inl out)), (hRmO, .inr (2, [.ref hKdO, .int coO, .int roO])), (hKdO, .inl (cI, 20, .inl kdO))] H → va_D A [(hRm, .inr (2, [.ref hKd, .int co, .int ro])), (hKd, .inl (cI, 20, .inl out)), (hRmO, .inr (2, [.ref hKdO, .int coO, .int roO])), (hKdO, .inl (cI, 20, .inl kdO))] → va_S A s.heap H locs → lv_has ls 5 [(0, .ref hRm), (1, .ref hRmO), (2, .int y2)] → W p l e { frames := 2, cells := 0, slots := 0, locals := 42 } s m args below meth c H locs 0 0 Q (F0 m 80 ls [])) → W p l e { frames := 2, cells := 0, slots := 0, locals := 42 } s m args below meth c H locs 0 0 Q (F0 m 28 ls []) := by
  have hx := F.1
  have hb := F.2.1
  have hown := F.2.2.2.1
  have hts := F.2.2.2.2
  have hK := hG.1.1
  intro n
  induction n with
  | zero =>
    intro y3 kd out ho
    exact (fp_l0 ho).elim
  | succ n ih =>
    intro y3 kd out ho H locs ls hP hD hS hl hex
    obtain ⟨o, hf, ho⟩ := fp_l ho
    have hf : f_X2_becomeTurned_28 co ro coO roO kdO y2 y3 kd = some o := hf
    rw [f_X2_becomeTurned_28] at hf
    refine lv_iload_n hx hb dX2_becomeTurned_28 rfl (lv_at hl 3 rfl) ?_
    refine lv_aload_n hx hb dX2_becomeTurned_29 rfl (lv_at hl 1 rfl) ?_
    refine va_get (D := D) (ci := 2) (v := .int coO) (C := RX2) (T := TX2) (N := 3) hx hb hts ku_X2_becomeTurned_X2 hown hK hP 2 rfl rfl 1 (by decide) (hts _ kw_X2_becomeTurned_2) (fun _ h9 => h9) rfl dX2_becomeTurned_30 ?_
    refine lv_icmp_ge (tgt := 80) hx hb dX2_becomeTurned_33 (by decide) (fun c59 => ?_) (fun c59 => ?_)
    · have hf := fp_t hf c59
      cases hf
      have ho := fp_inr ho
      cases ho
      exact hex _ _ _ hP hD hS (lv_sub hl [0, 1, 2] rfl)
    · have hf := fp_f hf c59
      refine lv_aload_n hx hb dX2_becomeTurned_36 rfl (lv_at hl 1 rfl) ?_
      refine lv_iload_n hx hb dX2_becomeTurned_37 rfl (lv_at hl 2 rfl) ?_
      refine lv_aload_n hx hb dX2_becomeTurned_38 rfl (lv_at hl 1 rfl) ?_
      refine va_get (D := D) (ci := 2) (v := .int coO) (C := RX2) (T := TX2) (N := 3) hx hb hts ku_X2_becomeTurned_X2 hown hK hP 2 rfl rfl 1 (by decide) (hts _ kw_X2_becomeTurned_2) (fun _ h9 => h9) rfl dX2_becomeTurned_39 ?_
      refine lv_imul hx hb dX2_becomeTurned_42 ?_
      refine lv_iload_n hx hb dX2_becomeTurned_43 rfl (lv_at hl 3 rfl) ?_
      refine lv_iadd hx hb dX2_becomeTurned_44 ?_
      obtain ⟨r60, er60, hf⟩ := fp_b hf
      refine RoI.callV (c_X2_kindAt (l := l) (D := D) (cI := cI) (cJ := cJ) (cZ := cZ) (cQ := cQ) (qs := qs) er60) F (cwV 1 hts gX2_becomeTurned_X2_kindAt rfl rfl rfl yd_X2_kindAt ⟨Nat.le_of_ble_eq_true rfl, Nat.le_of_ble_eq_true rfl⟩) (hG.r hS) hP [2, 3] rfl 2 rfl rfl rfl hl.1 rfl (Nat.le_of_ble_eq_true rfl) dX2_becomeTurned_45 ⟨Nat.zero_le _, Nat.zero_le _⟩ ?_
      refine lv_istore (lv' := [(4, .int r60), (0, .ref hRm), (1, .ref hRmO), (2, .int y2), (3, .int y3)]) hx hb dX2_becomeTurned_48 hl (by decide) rfl (fun ls hl => ?_)
      refine lv_aload_n hx hb dX2_becomeTurned_50 rfl (lv_at hl 1 rfl) ?_
      refine lv_iload_n hx hb dX2_becomeTurned_51 rfl (lv_at hl 4 rfl) ?_
      refine lv_aload_n hx hb dX2_becomeTurned_52 rfl (lv_at hl 1 rfl) ?_
      refine va_get (D := D) (ci := 2) (v := .int co) (C := RX2) (T := TX2) (N := 3) hx hb hts ku_X2_becomeTurned_X2 hown hK hP 0 rfl rfl 1 (by decide) (hts _ kw_X2_becomeTurned_2) (fun _ h9 => h9) rfl dX2_becomeTurned_53 ?_
      refine lv_imul hx hb dX2_becomeTurned_56 ?_
      refine lv_aload_n hx hb dX2_becomeTurned_57 rfl (lv_at hl 1 rfl) ?_
      refine va_get (D := D) (ci := 2) (v := .int co) (C := RX2) (T := TX2) (N := 3) hx hb hts ku_X2_becomeTurned_X2 hown hK hP 0 rfl rfl 1 (by decide) (hts _ kw_X2_becomeTurned_2) (fun _ h9 => h9) rfl dX2_becomeTurned_58 ?_
      refine lv_iadd hx hb dX2_becomeTurned_61 ?_
      refine lv_iconst (v := (1 : Int32)) hx hb dX2_becomeTurned_62 (by decide) ?_
      refine lv_isub hx hb dX2_becomeTurned_63 ?_
      refine lv_iload_n hx hb dX2_becomeTurned_64 rfl (lv_at hl 3 rfl) ?_
      refine lv_isub hx hb dX2_becomeTurned_65 ?_
      refine lv_iload hx hb dX2_becomeTurned_66 (lv_at hl 0 rfl) ?_
      obtain ⟨r61, er61, hf⟩ := fp_b hf
      refine RoI.callS (c_X2_turnedKind (l := l) (D := D) (cI := cI) (cJ := cJ) (cZ := cZ) (cQ := cQ) (qs := qs) er61) F (va_cwS 1 hts gX2_becomeTurned_X2_turnedKind rfl rfl rfl yd_X2_turnedKind ⟨Nat.le_of_ble_eq_true rfl, Nat.le_of_ble_eq_true rfl⟩) (hG.r hS) hP [] rfl rfl hl.1 rfl (Nat.le_of_ble_eq_true rfl) dX2_becomeTurned_68 ⟨Nat.zero_le _, Nat.zero_le _⟩ ?_
      obtain ⟨r62, er62, hf⟩ := fp_b hf
      refine kc_rwV (w2 := [(hRm, .inr (2, [.ref hKd, .int co, .int ro])), (hKd, .inl (cI, 20, .inl r62)), (hRmO, .inr (2, [.ref hKdO, .int coO, .int roO])), (hKdO, .inl (cI, 20, .inl kdO))]) (RwV.runV (c_X2_tell (l := l) (D := D) (cI := cI) (cJ := cJ) (cZ := cZ) (cQ := cQ) (qs := qs) er62) F (cwV 2 hts gX2_becomeTurned_X2_tell rfl rfl rfl yd_X2_tell ⟨Nat.le_of_ble_eq_true rfl, Nat.le_of_ble_eq_true rfl⟩) hG hP hD hS hA [0, 1] (by decide) rfl 2 rfl rfl rfl hl.1 rfl (Nat.le_of_ble_eq_true rfl) dX2_becomeTurned_71 ⟨Nat.zero_le _, Nat.zero_le _⟩) hP hD hS hA [0, 1] [2, 3] [2, 3, 0, 1] rfl (wr := [(hRmO, .inr (2, [.ref hKdO, .int coO, .int roO])), (hKdO, .inl (cI, 20, .inl kdO))]) rfl (by decide) (by decide) rfl (by decide) (fun H locs hP hD hS => ?_)
      refine lv_iinc (v := (y3 + (1 : Int32))) (lv' := [(3, .int (y3 + (1 : Int32))), (4, .int r60), (0, .ref hRm), (1, .ref hRmO), (2, .int y2)]) hx hb dX2_becomeTurned_74 hl (k := 4) rfl rfl (by decide) rfl (fun ls hl => ?_)
      refine lv_goto (tgt := 28) hx hb dX2_becomeTurned_77 (by decide) ?_
      cases hf
      exact ih _ (fp_inl ho) hP hD hS (lv_sub hl [2, 3, 4, 0] rfl) hex
def f_X2_becomeTurned_18 (co : Int32) (ro : Int32) (coO : Int32) (roO : Int32) (kdO : Nat → Int32) (y2 : Int32) (kd : Nat → Int32) : Option ((Int32 × (Nat → Int32)) ⊕ ((Nat → Int32))) :=
  (if roO ≤ y2 then some (Sum.inr kd) else Option.bind (lpf (fun s => f_X2_becomeTurned_28 co ro coO roO kdO y2 s.1 s.2) 1000 ((0 : Int32), kd)) (fun o63 => some (Sum.inl ((y2 + (1 : Int32)), o63))))
set_option maxHeartbeats 4000000 in
set_option maxRecDepth 100000 in
theorem lp_X2_becomeTurned_18 {p : Program} {l : Launch} {e : Env} {s : State} {m : MethodId} {args : Array Value} {below : List Frame} {meth : Method} {c : Code} {Q : State → Prop} {A : Nat → Prop} {D : va_G} {cI cJ cZ cQ : ClassId} {qs : Nat × Nat × Nat} {hRm hKd hRmO hKdO : Nat} {co : Int32} {ro : Int32} {coO : Int32} {roO : Int32} {kdO : Nat → Int32} (F : CallFix p m c cX2_becomeTurned 5 s args wsX2_becomeTurned RX2) (hG : kW D (ty4 cI cJ cZ cQ) qs A s s.heap) (hA : ∀ q : Nat, s.heap.size ≤ q → A q) :
    ∀ (n : Nat) {y2 : Int32} {kd : Nat → Int32} (out : (Nat → Int32)), lpf (fun s => f_X2_becomeTurned_18 co ro coO roO kdO s.1 s.2) n (y2, kd) = some out → ∀ {H : Heap} {locs : List Loc} {ls : Array Slot}, va_P D vwCl [(hRm, .inr (2, [.ref hKd, .int co, .int ro])), (hKd, .inl (cI, 20, .inl kd)), (hRmO, .inr (2, [.ref hKdO, .int coO, .int roO])), (hKdO, .inl (cI, 20, .inl kdO))] H → va_D A [(hRm, .inr (2, [.ref hKd, .int co, .int ro])), (hKd, .inl (cI, 20, .inl kd)), (hRmO, .inr (2, [.ref hKdO, .int coO, .int roO])), (hKdO, .inl (cI, 20, .inl kdO))] → va_S A s.heap H locs → lv_has ls 5 [(0, .ref hRm), (1, .ref hRmO), (2, .int y2)] → (∀ (H : Heap) (locs : List Loc) (ls : Array Slot), va_P D vwCl [(hRm, .inr (2, [.ref hKd, .int co, .int ro])), (hKd, .inl (cI, 20, .inl out)), (hRmO, .inr (2, [.ref hKdO, .int coO, .int roO])), (hKdO, .inl (cI, 20, .inl kdO))] H → va_D A [(hRm, .inr (2, [.ref hKd, .int co, .int ro])), (hKd, .inl (cI, 20, .inl out)), (hRmO, .inr (2, [.ref hKdO, .int coO, .int roO])), (hKdO, .inl (cI, 20, .inl kdO))] → va_S A s.heap H locs → lv_has ls 5 [(0, .ref hRm), (1, .ref hRmO)] → W p l e { frames := 2, cells := 0, slots := 0, locals := 42 } s m args below meth c H locs 0 0 Q (F0 m 86 ls [])) → W p l e { frames := 2, cells := 0, slots := 0, locals := 42 } s m args below meth c H locs 0 0 Q (F0 m 18 ls []) := by
  have hx := F.1
  have hb := F.2.1
  have hown := F.2.2.2.1
  have hts := F.2.2.2.2
  have hK := hG.1.1
  intro n
  induction n with
  | zero =>
    intro y2 kd out ho
    exact (fp_l0 ho).elim
  | succ n ih =>
    intro y2 kd out ho H locs ls hP hD hS hl hex
    obtain ⟨o, hf, ho⟩ := fp_l ho
    have hf : f_X2_becomeTurned_18 co ro coO roO kdO y2 kd = some o := hf
    rw [f_X2_becomeTurned_18] at hf
    refine lv_iload_n hx hb dX2_becomeTurned_18 rfl (lv_at hl 2 rfl) ?_
    refine lv_aload_n hx hb dX2_becomeTurned_19 rfl (lv_at hl 1 rfl) ?_
    refine va_get (D := D) (ci := 2) (v := .int roO) (C := RX2) (T := TX2) (N := 3) hx hb hts ku_X2_becomeTurned_X2 hown hK hP 2 rfl rfl 2 (by decide) (hts _ kw_X2_becomeTurned_1) (fun _ h9 => h9) rfl dX2_becomeTurned_20 ?_
    refine lv_icmp_ge (tgt := 86) hx hb dX2_becomeTurned_23 (by decide) (fun c58 => ?_) (fun c58 => ?_)
    · have hf := fp_t hf c58
      cases hf
      have ho := fp_inr ho
      cases ho
      exact hex _ _ _ hP hD hS (lv_sub hl [0, 1] rfl)
    · have hf := fp_f hf c58
      refine lv_iconst (v := (0 : Int32)) hx hb dX2_becomeTurned_26 (by decide) ?_
      refine lv_istore_n (lv' := [(3, .int (0 : Int32)), (0, .ref hRm), (1, .ref hRmO), (2, .int y2)]) hx hb dX2_becomeTurned_27 rfl hl (by decide) rfl (fun ls hl => ?_)
      obtain ⟨o63, eo63, hf⟩ := fp_b hf
      refine lp_X2_becomeTurned_28 F hG hA _ _ eo63 hP hD hS (lv_sub hl [1, 2, 3, 0] rfl) (fun H locs ls hP hD hS hl => ?_)
      refine lv_iinc (v := (y2 + (1 : Int32))) (lv' := [(2, .int (y2 + (1 : Int32))), (0, .ref hRm), (1, .ref hRmO)]) hx hb dX2_becomeTurned_80 hl (k := 2) rfl rfl (by decide) rfl (fun ls hl => ?_)
      refine lv_goto (tgt := 18) hx hb dX2_becomeTurned_83 (by decide) ?_
      cases hf
      exact ih _ (fp_inl ho) hP hD hS (lv_sub hl [1, 2, 0] rfl) hex
def f_X2_becomeTurned (co : Int32) (ro : Int32) (kd : Nat → Int32) (coO : Int32) (roO : Int32) (kdO : Nat → Int32) : Option (Int32 × Int32 × (Nat → Int32)) :=
  Option.bind (lpf (fun s => f_X2_becomeTurned_18 roO coO coO roO kdO s.1 s.2) 1000 ((0 : Int32), kd)) (fun o64 => some (roO, coO, o64))
set_option maxHeartbeats 4000000 in
set_option maxRecDepth 100000 in
theorem b_X2_becomeTurned {p : Program} {l : Launch} {e : Env} {s : State} {m : MethodId} {args : Array Value} {below : List Frame} {meth : Method} {c : Code} {Q : State → Prop} {A : Nat → Prop} {H : Heap} {locs : List Loc} {D : va_G} {cI cJ cZ cQ : ClassId} {qs : Nat × Nat × Nat} {hRm hKd hRmO hKdO : Nat} {co : Int32} {ro : Int32} {kd : Nat → Int32} {coO : Int32} {roO : Int32} {kdO : Nat → Int32} {out : Int32 × Int32 × (Nat → Int32)} (F : CallFix p m c cX2_becomeTurned 5 s args wsX2_becomeTurned RX2) (hG : kW D (ty4 cI cJ cZ cQ) qs A s s.heap) (hA : ∀ q : Nat, s.heap.size ≤ q → A q) (hP : va_P D vwCl [(hRm, .inr (2, [.ref hKd, .int co, .int ro])), (hKd, .inl (cI, 20, .inl kd)), (hRmO, .inr (2, [.ref hKdO, .int coO, .int roO])), (hKdO, .inl (cI, 20, .inl kdO))] H) (hD : va_D A [(hRm, .inr (2, [.ref hKd, .int co, .int ro])), (hKd, .inl (cI, 20, .inl kd)), (hRmO, .inr (2, [.ref hKdO, .int coO, .int roO])), (hKdO, .inl (cI, 20, .inl kdO))]) (hS : va_S A s.heap H locs) (hf : f_X2_becomeTurned co ro kd coO roO kdO = some out) (hret : ∀ (pc : Nat) (H : Heap) (locs : List Loc) (ls : Array Slot), decode cX2_becomeTurned pc = .ok (.return_, 1) → va_P D vwCl [(hRm, .inr (2, [.ref hKd, .int out.1, .int out.2.1])), (hKd, .inl (cI, 20, .inl out.2.2)), (hRmO, .inr (2, [.ref hKdO, .int coO, .int roO])), (hKdO, .inl (cI, 20, .inl kdO))] H → va_D A [(hRm, .inr (2, [.ref hKd, .int out.1, .int out.2.1])), (hKd, .inl (cI, 20, .inl out.2.2)), (hRmO, .inr (2, [.ref hKdO, .int coO, .int roO])), (hKdO, .inl (cI, 20, .inl kdO))] → va_S A s.heap H locs → W p l e { frames := 2, cells := 0, slots := 0, locals := 42 } s m args below meth c H locs 0 0 Q (F0 m pc ls [])) {ls : Array Slot} (hl : lv_has ls 5 [(0, .ref hRm), (1, .ref hRmO)]) : W p l e { frames := 2, cells := 0, slots := 0, locals := 42 } s m args below meth c H locs 0 0 Q (F0 m 0 ls []) := by
  have hx := F.1
  have hb := F.2.1
  have hown := F.2.2.2.1
  have hts := F.2.2.2.2
  have hK := hG.1.1
  rw [f_X2_becomeTurned] at hf
  refine lv_aload_n hx hb dX2_becomeTurned_0 rfl (lv_at hl 0 rfl) ?_
  refine lv_aload_n hx hb dX2_becomeTurned_1 rfl (lv_at hl 1 rfl) ?_
  refine va_get (D := D) (ci := 2) (v := .int roO) (C := RX2) (T := TX2) (N := 3) hx hb hts ku_X2_becomeTurned_X2 hown hK hP 2 rfl rfl 2 (by decide) (hts _ kw_X2_becomeTurned_1) (fun _ h9 => h9) rfl dX2_becomeTurned_2 ?_
  refine va_put (D := D) (ci := 2) (v := .int roO) (ty := .int) (C := RX2) (T := TX2) (N := 3) hx hb hts ku_X2_becomeTurned_X2 tyX2 tyX2_ok nmX2 hown hK hP hD hS 0 rfl rfl 1 (by decide) (hts _ kw_X2_becomeTurned_2) (fun _ h9 => h9) rfl (by decide +kernel) rfl rfl (Nat.le_of_ble_eq_true rfl) dX2_becomeTurned_5 (fun H locs hP hD hS => ?_)
  have hP : va_P D vwCl [(hRm, .inr (2, [.ref hKd, .int roO, .int ro])), (hKd, .inl (cI, 20, .inl kd)), (hRmO, .inr (2, [.ref hKdO, .int coO, .int roO])), (hKdO, .inl (cI, 20, .inl kdO))] H := hP
  have hD : va_D A [(hRm, .inr (2, [.ref hKd, .int roO, .int ro])), (hKd, .inl (cI, 20, .inl kd)), (hRmO, .inr (2, [.ref hKdO, .int coO, .int roO])), (hKdO, .inl (cI, 20, .inl kdO))] := hD
  refine lv_aload_n hx hb dX2_becomeTurned_8 rfl (lv_at hl 0 rfl) ?_
  refine lv_aload_n hx hb dX2_becomeTurned_9 rfl (lv_at hl 1 rfl) ?_
  refine va_get (D := D) (ci := 2) (v := .int coO) (C := RX2) (T := TX2) (N := 3) hx hb hts ku_X2_becomeTurned_X2 hown hK hP 2 rfl rfl 1 (by decide) (hts _ kw_X2_becomeTurned_2) (fun _ h9 => h9) rfl dX2_becomeTurned_10 ?_
  refine va_put (D := D) (ci := 2) (v := .int coO) (ty := .int) (C := RX2) (T := TX2) (N := 3) hx hb hts ku_X2_becomeTurned_X2 tyX2 tyX2_ok nmX2 hown hK hP hD hS 0 rfl rfl 2 (by decide) (hts _ kw_X2_becomeTurned_1) (fun _ h9 => h9) rfl (by decide +kernel) rfl rfl (Nat.le_of_ble_eq_true rfl) dX2_becomeTurned_13 (fun H locs hP hD hS => ?_)
  have hP : va_P D vwCl [(hRm, .inr (2, [.ref hKd, .int roO, .int coO])), (hKd, .inl (cI, 20, .inl kd)), (hRmO, .inr (2, [.ref hKdO, .int coO, .int roO])), (hKdO, .inl (cI, 20, .inl kdO))] H := hP
  have hD : va_D A [(hRm, .inr (2, [.ref hKd, .int roO, .int coO])), (hKd, .inl (cI, 20, .inl kd)), (hRmO, .inr (2, [.ref hKdO, .int coO, .int roO])), (hKdO, .inl (cI, 20, .inl kdO))] := hD
  refine lv_iconst (v := (0 : Int32)) hx hb dX2_becomeTurned_16 (by decide) ?_
  refine lv_istore_n (lv' := [(2, .int (0 : Int32)), (0, .ref hRm), (1, .ref hRmO)]) hx hb dX2_becomeTurned_17 rfl hl (by decide) rfl (fun ls hl => ?_)
  obtain ⟨o64, eo64, hf⟩ := fp_b hf
  refine lp_X2_becomeTurned_18 F hG hA _ _ eo64 hP hD hS (lv_sub hl [1, 2, 0] rfl) (fun H locs ls hP hD hS hl => ?_)
  cases hf
  exact hret _ _ _ _ dX2_becomeTurned_86 hP hD hS
set_option maxRecDepth 100000 in
theorem c_X2_becomeTurned {l : Launch} {D : va_G} {cI cJ cZ cQ : ClassId} {qs : Nat × Nat × Nat} {hRm hKd hRmO hKdO : Nat} {co : Int32} {ro : Int32} {kd : Nat → Int32} {coO : Int32} {roO : Int32} {kdO : Nat → Int32} {out : Int32 × Int32 × (Nat → Int32)} (hf : f_X2_becomeTurned co ro kd coO roO kdO = some out) : RwV l yX2_becomeTurned wsX2_becomeTurned { frames := 2, cells := 0, slots := 0, locals := 42 } D (ty4 cI cJ cZ cQ) qs [.ref hRm, .ref hRmO] [(hRm, .inr (2, [.ref hKd, .int co, .int ro])), (hKd, .inl (cI, 20, .inl kd)), (hRmO, .inr (2, [.ref hKdO, .int coO, .int roO])), (hKdO, .inl (cI, 20, .inl kdO))] [(hRm, .inr (2, [.ref hKd, .int out.1, .int out.2.1])), (hKd, .inl (cI, 20, .inl out.2.2)), (hRmO, .inr (2, [.ref hKdO, .int coO, .int roO])), (hKdO, .inl (cI, 20, .inl kdO))] :=
  RwV.of (own := RX2) (by decide +kernel) rfl rfl (Nat.le_of_ble_eq_true rfl) (fun F hG hA hP hD hS hret ls hl => b_X2_becomeTurned F hG hA hP hD hS hf hret hl)
-- method X2_empty
theorem yd_X2_empty : yX2_empty.cls = RX2 ∧ yX2_empty.cls ≠ "java/lang/invoke/MethodHandle" ∧ yX2_empty.cls ≠ "java/lang/invoke/VarHandle" ∧ (parseMethodDescriptor yX2_empty.desc).map (fun d => d.parameters.length) = some 0 := by decide +kernel
theorem ku_X2_empty_X2 : ∀ w ∈ u_ws RX2 TX2 3, w ∈ wsX2_empty := by decide +kernel
theorem kw_X2_empty_1 : Cond.fieldLink RX2 15 "MirrorShares$Room" "columns" "I" ∈ wsX2_empty := List.mem_of_getElem? (i := 1) rfl
theorem kw_X2_empty_2 : Cond.fieldLink RX2 19 "MirrorShares$Room" "rows" "I" ∈ wsX2_empty := List.mem_of_getElem? (i := 2) rfl
def f_X2_empty (co : Int32) (ro : Int32) : Option (Int32 × Int32) :=
  some ((0 : Int32), (0 : Int32))
set_option maxHeartbeats 4000000 in
set_option maxRecDepth 100000 in
theorem b_X2_empty {p : Program} {l : Launch} {e : Env} {s : State} {m : MethodId} {args : Array Value} {below : List Frame} {meth : Method} {c : Code} {Q : State → Prop} {A : Nat → Prop} {H : Heap} {locs : List Loc} {D : va_G} {cI cJ cZ cQ : ClassId} {qs : Nat × Nat × Nat} {hRm hKd : Nat} {co : Int32} {ro : Int32} {out : Int32 × Int32} (F : CallFix p m c cX2_empty 1 s args wsX2_empty RX2) (hG : kW D (ty4 cI cJ cZ cQ) qs A s s.heap) (hA : ∀ q : Nat, s.heap.size ≤ q → A q) (hP : va_P D vwCl [(hRm, .inr (2, [.ref hKd, .int co, .int ro]))] H) (hD : va_D A [(hRm, .inr (2, [.ref hKd, .int co, .int ro]))]) (hS : va_S A s.heap H locs) (hf : f_X2_empty co ro = some out) (hret : ∀ (pc : Nat) (H : Heap) (locs : List Loc) (ls : Array Slot), decode cX2_empty pc = .ok (.return_, 1) → va_P D vwCl [(hRm, .inr (2, [.ref hKd, .int out.1, .int out.2]))] H → va_D A [(hRm, .inr (2, [.ref hKd, .int out.1, .int out.2]))] → va_S A s.heap H locs → W p l e { frames := 0, cells := 0, slots := 0, locals := 0 } s m args below meth c H locs 0 0 Q (F0 m pc ls [])) {ls : Array Slot} (hl : lv_has ls 1 [(0, .ref hRm)]) : W p l e { frames := 0, cells := 0, slots := 0, locals := 0 } s m args below meth c H locs 0 0 Q (F0 m 0 ls []) := by
  have hx := F.1
  have hb := F.2.1
  have hown := F.2.2.2.1
  have hts := F.2.2.2.2
  have hK := hG.1.1
  rw [f_X2_empty] at hf
  refine lv_aload_n hx hb dX2_empty_0 rfl (lv_at hl 0 rfl) ?_
  refine lv_iconst (v := (0 : Int32)) hx hb dX2_empty_1 (by decide) ?_
  refine va_put (D := D) (ci := 2) (v := .int (0 : Int32)) (ty := .int) (C := RX2) (T := TX2) (N := 3) hx hb hts ku_X2_empty_X2 tyX2 tyX2_ok nmX2 hown hK hP hD hS 0 rfl rfl 1 (by decide) (hts _ kw_X2_empty_1) (fun _ h9 => h9) rfl (by decide +kernel) rfl rfl (Nat.le_of_ble_eq_true rfl) dX2_empty_2 (fun H locs hP hD hS => ?_)
  have hP : va_P D vwCl [(hRm, .inr (2, [.ref hKd, .int (0 : Int32), .int ro]))] H := hP
  have hD : va_D A [(hRm, .inr (2, [.ref hKd, .int (0 : Int32), .int ro]))] := hD
  refine lv_aload_n hx hb dX2_empty_5 rfl (lv_at hl 0 rfl) ?_
  refine lv_iconst (v := (0 : Int32)) hx hb dX2_empty_6 (by decide) ?_
  refine va_put (D := D) (ci := 2) (v := .int (0 : Int32)) (ty := .int) (C := RX2) (T := TX2) (N := 3) hx hb hts ku_X2_empty_X2 tyX2 tyX2_ok nmX2 hown hK hP hD hS 0 rfl rfl 2 (by decide) (hts _ kw_X2_empty_2) (fun _ h9 => h9) rfl (by decide +kernel) rfl rfl (Nat.le_of_ble_eq_true rfl) dX2_empty_7 (fun H locs hP hD hS => ?_)
  have hP : va_P D vwCl [(hRm, .inr (2, [.ref hKd, .int (0 : Int32), .int (0 : Int32)]))] H := hP
  have hD : va_D A [(hRm, .inr (2, [.ref hKd, .int (0 : Int32), .int (0 : Int32)]))] := hD
  cases hf
  exact hret _ _ _ _ dX2_empty_10 hP hD hS
set_option maxRecDepth 100000 in
theorem c_X2_empty {l : Launch} {D : va_G} {cI cJ cZ cQ : ClassId} {qs : Nat × Nat × Nat} {hRm hKd : Nat} {co : Int32} {ro : Int32} {out : Int32 × Int32} (hf : f_X2_empty co ro = some out) : RwV l yX2_empty wsX2_empty { frames := 0, cells := 0, slots := 0, locals := 0 } D (ty4 cI cJ cZ cQ) qs [.ref hRm] [(hRm, .inr (2, [.ref hKd, .int co, .int ro]))] [(hRm, .inr (2, [.ref hKd, .int out.1, .int out.2]))] :=
  RwV.of (own := RX2) (by decide +kernel) rfl rfl (Nat.le_of_ble_eq_true rfl) (fun F hG hA hP hD hS hret ls hl => b_X2_empty F hG hA hP hD hS hf hret hl)
-- method X2_addRow
theorem yd_X2_addRow : yX2_addRow.cls = RX2 ∧ yX2_addRow.cls ≠ "java/lang/invoke/MethodHandle" ∧ yX2_addRow.cls ≠ "java/lang/invoke/VarHandle" ∧ (parseMethodDescriptor yX2_addRow.desc).map (fun d => d.parameters.length) = some 1 := by decide +kernel
theorem ku_X2_addRow_X2 : ∀ w ∈ u_ws RX2 TX2 3, w ∈ wsX2_addRow := by decide +kernel
theorem kw_X2_addRow_1 : Cond.fieldLink RX2 19 "MirrorShares$Room" "rows" "I" ∈ wsX2_addRow := List.mem_of_getElem? (i := 1) rfl
theorem kw_X2_addRow_2 : Cond.fieldLink RX2 15 "MirrorShares$Room" "columns" "I" ∈ wsX2_addRow := List.mem_of_getElem? (i := 2) rfl
def f_X2_addRow (co : Int32) (ro : Int32) (x1 : Int32) : Option (Int32 × Int32 × Int32) :=
  Option.bind (if ro = 0 then (if x1 < (2 : Int32) then some (0 : Int32) else (if (5 : Int32) < x1 then some (0 : Int32) else some (1 : Int32))) else (if x1 = co then some (1 : Int32) else some (0 : Int32))) (fun j65 => (if j65 = 0 then some ((0 : Int32), co, ro) else (if ro < (4 : Int32) then some ((1 : Int32), x1, (ro + (1 : Int32))) else some ((0 : Int32), co, ro))))
set_option maxHeartbeats 4000000 in
set_option maxRecDepth 100000 in
theorem b_X2_addRow {p : Program} {l : Launch} {e : Env} {s : State} {m : MethodId} {args : Array Value} {below : List Frame} {meth : Method} {c : Code} {Q : State → Prop} {A : Nat → Prop} {H : Heap} {locs : List Loc} {D : va_G} {cI cJ cZ cQ : ClassId} {qs : Nat × Nat × Nat} {hRm hKd : Nat} {co : Int32} {ro : Int32} {x1 : Int32} {out : Int32 × Int32 × Int32} (F : CallFix p m c cX2_addRow 3 s args wsX2_addRow RX2) (hG : kW D (ty4 cI cJ cZ cQ) qs A s s.heap) (hA : ∀ q : Nat, s.heap.size ≤ q → A q) (hP : va_P D vwCl [(hRm, .inr (2, [.ref hKd, .int co, .int ro]))] H) (hD : va_D A [(hRm, .inr (2, [.ref hKd, .int co, .int ro]))]) (hS : va_S A s.heap H locs) (hf : f_X2_addRow co ro x1 = some out) (hret : ∀ (pc : Nat) (H : Heap) (locs : List Loc) (ls : Array Slot), decode cX2_addRow pc = .ok (.ireturn, 1) → narrow .boolean (.int out.1) = .int out.1 → va_P D vwCl [(hRm, .inr (2, [.ref hKd, .int out.2.1, .int out.2.2]))] H → va_D A [(hRm, .inr (2, [.ref hKd, .int out.2.1, .int out.2.2]))] → va_S A s.heap H locs → W p l e { frames := 0, cells := 0, slots := 0, locals := 0 } s m args below meth c H locs 0 0 Q (F0 m pc ls [.int out.1])) {ls : Array Slot} (hl : lv_has ls 3 [(0, .ref hRm), (1, .int x1)]) : W p l e { frames := 0, cells := 0, slots := 0, locals := 0 } s m args below meth c H locs 0 0 Q (F0 m 0 ls []) := by
  have hx := F.1
  have hb := F.2.1
  have hown := F.2.2.2.1
  have hts := F.2.2.2.2
  have hK := hG.1.1
  rw [f_X2_addRow] at hf
  refine lv_aload_n hx hb dX2_addRow_0 rfl (lv_at hl 0 rfl) ?_
  refine va_get (D := D) (ci := 2) (v := .int ro) (C := RX2) (T := TX2) (N := 3) hx hb hts ku_X2_addRow_X2 hown hK hP 0 rfl rfl 2 (by decide) (hts _ kw_X2_addRow_1) (fun _ h9 => h9) rfl dX2_addRow_1 ?_
  obtain ⟨j65, ej65, hf⟩ := fp_b hf
  have hj66 : ∀ (H : Heap) (locs : List Loc) (ls : Array Slot), va_P D vwCl [(hRm, .inr (2, [.ref hKd, .int co, .int ro]))] H → va_D A [(hRm, .inr (2, [.ref hKd, .int co, .int ro]))] → va_S A s.heap H locs → lv_has ls 3 [(0, .ref hRm), (1, .int x1)] → W p l e { frames := 0, cells := 0, slots := 0, locals := 0 } s m args below meth c H locs 0 0 Q (F0 m 38 ls [.int j65]) := by
    intro H locs ls hP hD hS hl
    refine lv_istore_n (lv' := [(2, .int j65), (0, .ref hRm), (1, .int x1)]) hx hb dX2_addRow_38 rfl hl (by decide) rfl (fun ls hl => ?_)
    refine lv_iload_n hx hb dX2_addRow_39 rfl (lv_at hl 0 rfl) ?_
    refine lv_if_eq (tgt := 51) hx hb dX2_addRow_40 (by decide) (fun c67 => ?_) (fun c67 => ?_)
    · have hf := fp_t hf c67
      refine lv_iconst (v := (0 : Int32)) hx hb dX2_addRow_51 (by decide) ?_
      cases hf
      exact hret _ _ _ _ dX2_addRow_52 nar_b0 hP hD hS
    · have hf := fp_f hf c67
      refine lv_aload_n hx hb dX2_addRow_43 rfl (lv_at hl 1 rfl) ?_
      refine va_get (D := D) (ci := 2) (v := .int ro) (C := RX2) (T := TX2) (N := 3) hx hb hts ku_X2_addRow_X2 hown hK hP 0 rfl rfl 2 (by decide) (hts _ kw_X2_addRow_1) (fun _ h9 => h9) rfl dX2_addRow_44 ?_
      refine lv_iconst (v := (4 : Int32)) hx hb dX2_addRow_47 (by decide) ?_
      refine lv_icmp_lt (tgt := 53) hx hb dX2_addRow_48 (by decide) (fun c68 => ?_) (fun c68 => ?_)
      · have hf := fp_t hf c68
        refine lv_aload_n hx hb dX2_addRow_53 rfl (lv_at hl 1 rfl) ?_
        refine lv_iload_n hx hb dX2_addRow_54 rfl (lv_at hl 2 rfl) ?_
        refine va_put (D := D) (ci := 2) (v := .int x1) (ty := .int) (C := RX2) (T := TX2) (N := 3) hx hb hts ku_X2_addRow_X2 tyX2 tyX2_ok nmX2 hown hK hP hD hS 0 rfl rfl 1 (by decide) (hts _ kw_X2_addRow_2) (fun _ h9 => h9) rfl (by decide +kernel) rfl rfl (Nat.le_of_ble_eq_true rfl) dX2_addRow_55 (fun H locs hP hD hS => ?_)
        have hP : va_P D vwCl [(hRm, .inr (2, [.ref hKd, .int x1, .int ro]))] H := hP
        have hD : va_D A [(hRm, .inr (2, [.ref hKd, .int x1, .int ro]))] := hD
        refine lv_aload_n hx hb dX2_addRow_58 rfl (lv_at hl 1 rfl) ?_
        refine lv_dup hx hb dX2_addRow_59 rfl ?_
        refine va_get (D := D) (ci := 2) (v := .int ro) (C := RX2) (T := TX2) (N := 3) hx hb hts ku_X2_addRow_X2 hown hK hP 0 rfl rfl 2 (by decide) (hts _ kw_X2_addRow_1) (fun _ h9 => h9) rfl dX2_addRow_60 ?_
        refine lv_iconst (v := (1 : Int32)) hx hb dX2_addRow_63 (by decide) ?_
        refine lv_iadd hx hb dX2_addRow_64 ?_
        refine va_put (D := D) (ci := 2) (v := .int (ro + (1 : Int32))) (ty := .int) (C := RX2) (T := TX2) (N := 3) hx hb hts ku_X2_addRow_X2 tyX2 tyX2_ok nmX2 hown hK hP hD hS 0 rfl rfl 2 (by decide) (hts _ kw_X2_addRow_1) (fun _ h9 => h9) rfl (by decide +kernel) rfl rfl (Nat.le_of_ble_eq_true rfl) dX2_addRow_65 (fun H locs hP hD hS => ?_)
        have hP : va_P D vwCl [(hRm, .inr (2, [.ref hKd, .int x1, .int (ro + (1 : Int32))]))] H := hP
        have hD : va_D A [(hRm, .inr (2, [.ref hKd, .int x1, .int (ro + (1 : Int32))]))] := hD
        refine lv_iconst (v := (1 : Int32)) hx hb dX2_addRow_68 (by decide) ?_
        cases hf
        exact hret _ _ _ _ dX2_addRow_69 nar_b1 hP hD hS
      · have hf := fp_f hf c68
        refine lv_iconst (v := (0 : Int32)) hx hb dX2_addRow_51 (by decide) ?_
        cases hf
        exact hret _ _ _ _ dX2_addRow_52 nar_b0 hP hD hS
  replace hf := ej65
  refine lv_if_ne (tgt := 25) hx hb dX2_addRow_4 (by decide) (fun c69 => ?_) (fun c69 => ?_)
  · have hf := fp_f hf c69
    refine lv_iload_n hx hb dX2_addRow_25 rfl (lv_at hl 1 rfl) ?_
    refine lv_aload_n hx hb dX2_addRow_26 rfl (lv_at hl 0 rfl) ?_
    refine va_get (D := D) (ci := 2) (v := .int co) (C := RX2) (T := TX2) (N := 3) hx hb hts ku_X2_addRow_X2 hown hK hP 0 rfl rfl 1 (by decide) (hts _ kw_X2_addRow_2) (fun _ h9 => h9) rfl dX2_addRow_27 ?_
    refine lv_icmp_ne (tgt := 37) hx hb dX2_addRow_30 (by decide) (fun c70 => ?_) (fun c70 => ?_)
    · have hf := fp_f hf c70
      refine lv_iconst (v := (0 : Int32)) hx hb dX2_addRow_37 (by decide) ?_
      cases hf
      exact hj66 _ _ _ hP hD hS (lv_sub hl [0, 1] rfl)
    · have hf := fp_t hf c70
      refine lv_iconst (v := (1 : Int32)) hx hb dX2_addRow_33 (by decide) ?_
      refine lv_goto (tgt := 38) hx hb dX2_addRow_34 (by decide) ?_
      cases hf
      exact hj66 _ _ _ hP hD hS (lv_sub hl [0, 1] rfl)
  · have hf := fp_t hf c69
    refine lv_iload_n hx hb dX2_addRow_7 rfl (lv_at hl 1 rfl) ?_
    refine lv_iconst (v := (2 : Int32)) hx hb dX2_addRow_8 (by decide) ?_
    refine lv_icmp_lt (tgt := 21) hx hb dX2_addRow_9 (by decide) (fun c71 => ?_) (fun c71 => ?_)
    · have hf := fp_t hf c71
      refine lv_iconst (v := (0 : Int32)) hx hb dX2_addRow_21 (by decide) ?_
      refine lv_goto (tgt := 38) hx hb dX2_addRow_22 (by decide) ?_
      cases hf
      exact hj66 _ _ _ hP hD hS (lv_sub hl [0, 1] rfl)
    · have hf := fp_f hf c71
      refine lv_iload_n hx hb dX2_addRow_12 rfl (lv_at hl 1 rfl) ?_
      refine lv_iconst (v := (5 : Int32)) hx hb dX2_addRow_13 (by decide) ?_
      refine lv_icmp_gt (tgt := 21) hx hb dX2_addRow_14 (by decide) (fun c72 => ?_) (fun c72 => ?_)
      · have hf := fp_t hf c72
        refine lv_iconst (v := (0 : Int32)) hx hb dX2_addRow_21 (by decide) ?_
        refine lv_goto (tgt := 38) hx hb dX2_addRow_22 (by decide) ?_
        cases hf
        exact hj66 _ _ _ hP hD hS (lv_sub hl [0, 1] rfl)
      · have hf := fp_f hf c72
        refine lv_iconst (v := (1 : Int32)) hx hb dX2_addRow_17 (by decide) ?_
        refine lv_goto (tgt := 38) hx hb dX2_addRow_18 (by decide) ?_
        cases hf
        exact hj66 _ _ _ hP hD hS (lv_sub hl [0, 1] rfl)
set_option maxRecDepth 100000 in
theorem c_X2_addRow {l : Launch} {D : va_G} {cI cJ cZ cQ : ClassId} {qs : Nat × Nat × Nat} {hRm hKd : Nat} {co : Int32} {ro : Int32} {x1 : Int32} {out : Int32 × Int32 × Int32} (hf : f_X2_addRow co ro x1 = some out) : RwI l yX2_addRow wsX2_addRow { frames := 0, cells := 0, slots := 0, locals := 0 } D (ty4 cI cJ cZ cQ) qs [.ref hRm, .int x1] [(hRm, .inr (2, [.ref hKd, .int co, .int ro]))] [(hRm, .inr (2, [.ref hKd, .int out.2.1, .int out.2.2]))] out.1 :=
  RwI.of (own := RX2) (by decide +kernel) rfl rfl (Nat.le_of_ble_eq_true rfl) (fun F hG hA hP hD hS hret ls hl => b_X2_addRow F hG hA hP hD hS hf hret hl)
