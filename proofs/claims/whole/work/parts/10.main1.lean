-- method X5_hasPorts
theorem yd_X5_hasPorts : yX5_hasPorts.cls = RX5 ∧ yX5_hasPorts.cls ≠ "java/lang/invoke/MethodHandle" ∧ yX5_hasPorts.cls ≠ "java/lang/invoke/VarHandle" ∧ (parseMethodDescriptor yX5_hasPorts.desc).map (fun d => d.parameters.length) = some 2 := by decide +kernel
theorem ku_X5_hasPorts_X5 : ∀ w ∈ u_ws RX5 TX5 6, w ∈ wsX5_hasPorts := by decide +kernel
theorem kw_X5_hasPorts_1 : Cond.fieldLink RX5 19 "MirrorShares" "room" "LMirrorShares$Room;" ∈ wsX5_hasPorts := List.mem_of_getElem? (i := 1) rfl
def f_X5_hasPorts (coR : Int32) (roR : Int32) (x1 : Int32) (x2 : Int32) : Option (Int32) :=
  Option.bind (f_X2_hasPort coR roR x1) (fun r1 => (if r1 = 0 then some (0 : Int32) else Option.bind (f_X2_hasPort coR roR x2) (fun r3 => (if r3 = 0 then some (0 : Int32) else some (1 : Int32)))))
set_option maxHeartbeats 4000000 in
set_option maxRecDepth 100000 in
theorem b_X5_hasPorts {p : Program} {l : Launch} {e : Env} {s : State} {m : MethodId} {args : Array Value} {below : List Frame} {meth : Method} {c : Code} {Q : State → Prop} {D : va_G} {cI cJ cZ cQ : ClassId} {qs : Nat × Nat × Nat} {hMs hTo hRmR hRmT hPa hWa hBe hKdR : Nat} {coR : Int32} {roR : Int32} {x1 : Int32} {x2 : Int32} {out : Int32} (F : CallFix p m c cX5_hasPorts 3 s args wsX5_hasPorts RX5) (hG : kR D (ty4 cI cJ cZ cQ) qs s s.heap) (hP : va_P D vwCl [(hMs, .inr (5, [.ref hTo, .ref hRmR, .ref hRmT, .ref hPa, .ref hWa, .ref hBe])), (hRmR, .inr (2, [.ref hKdR, .int coR, .int roR]))] s.heap) (hf : f_X5_hasPorts coR roR x1 x2 = some out) (hret : ∀ (pc : Nat) (ls : Array Slot), decode cX5_hasPorts pc = .ok (.ireturn, 1) → narrow .boolean (.int out) = .int out → W p l e { frames := 2, cells := 0, slots := 0, locals := 41 } s m args below meth c s.heap [] 0 0 Q (F0 m pc ls [.int out])) {ls : Array Slot} (hl : lv_has ls 3 [(0, .ref hMs), (1, .int x1), (2, .int x2)]) : W p l e { frames := 2, cells := 0, slots := 0, locals := 41 } s m args below meth c s.heap [] 0 0 Q (F0 m 0 ls []) := by
  have hx := F.1
  have hb := F.2.1
  have hown := F.2.2.2.1
  have hts := F.2.2.2.2
  have hK := hG.1.1
  rw [f_X5_hasPorts] at hf
  refine lv_aload_n hx hb dX5_hasPorts_0 rfl (lv_at hl 0 rfl) ?_
  refine va_get (D := D) (ci := 5) (v := .ref hRmR) (C := RX5) (T := TX5) (N := 6) hx hb hts ku_X5_hasPorts_X5 hown hK hP 0 rfl rfl 1 (by decide) (hts _ kw_X5_hasPorts_1) (fun _ h9 => h9) rfl dX5_hasPorts_1 ?_
  refine lv_iload_n hx hb dX5_hasPorts_4 rfl (lv_at hl 1 rfl) ?_
  obtain ⟨r1, er1, hf⟩ := fp_b hf
  refine RoI.callV (c_X2_hasPort (l := l) (D := D) (cI := cI) (cJ := cJ) (cZ := cZ) (cQ := cQ) (qs := qs) er1) F (cwV 1 hts gX5_hasPorts_X2_hasPort rfl rfl rfl yd_X2_hasPort ⟨Nat.le_of_ble_eq_true rfl, Nat.le_of_ble_eq_true rfl⟩) hG hP [1] rfl 2 rfl rfl rfl hl.1 rfl (Nat.le_of_ble_eq_true rfl) dX5_hasPorts_5 ⟨Nat.zero_le _, Nat.zero_le _⟩ ?_
  refine lv_if_eq (tgt := 26) hx hb dX5_hasPorts_8 (by decide) (fun c2 => ?_) (fun c2 => ?_)
  · have hf := fp_t hf c2
    refine lv_iconst (v := (0 : Int32)) hx hb dX5_hasPorts_26 (by decide) ?_
    cases hf
    exact hret _ _ dX5_hasPorts_27 nar_b0
  · have hf := fp_f hf c2
    refine lv_aload_n hx hb dX5_hasPorts_11 rfl (lv_at hl 0 rfl) ?_
    refine va_get (D := D) (ci := 5) (v := .ref hRmR) (C := RX5) (T := TX5) (N := 6) hx hb hts ku_X5_hasPorts_X5 hown hK hP 0 rfl rfl 1 (by decide) (hts _ kw_X5_hasPorts_1) (fun _ h9 => h9) rfl dX5_hasPorts_12 ?_
    refine lv_iload_n hx hb dX5_hasPorts_15 rfl (lv_at hl 2 rfl) ?_
    obtain ⟨r3, er3, hf⟩ := fp_b hf
    refine RoI.callV (c_X2_hasPort (l := l) (D := D) (cI := cI) (cJ := cJ) (cZ := cZ) (cQ := cQ) (qs := qs) er3) F (cwV 1 hts gX5_hasPorts_X2_hasPort rfl rfl rfl yd_X2_hasPort ⟨Nat.le_of_ble_eq_true rfl, Nat.le_of_ble_eq_true rfl⟩) hG hP [1] rfl 2 rfl rfl rfl hl.1 rfl (Nat.le_of_ble_eq_true rfl) dX5_hasPorts_16 ⟨Nat.zero_le _, Nat.zero_le _⟩ ?_
    refine lv_if_eq (tgt := 26) hx hb dX5_hasPorts_19 (by decide) (fun c4 => ?_) (fun c4 => ?_)
    · have hf := fp_t hf c4
      refine lv_iconst (v := (0 : Int32)) hx hb dX5_hasPorts_26 (by decide) ?_
      cases hf
      exact hret _ _ dX5_hasPorts_27 nar_b0
    · have hf := fp_f hf c4
      refine lv_iconst (v := (1 : Int32)) hx hb dX5_hasPorts_22 (by decide) ?_
      refine lv_goto (tgt := 27) hx hb dX5_hasPorts_23 (by decide) ?_
      cases hf
      exact hret _ _ dX5_hasPorts_27 nar_b1
set_option maxRecDepth 100000 in
theorem c_X5_hasPorts {l : Launch} {D : va_G} {cI cJ cZ cQ : ClassId} {qs : Nat × Nat × Nat} {hMs hTo hRmR hRmT hPa hWa hBe hKdR : Nat} {coR : Int32} {roR : Int32} {x1 : Int32} {x2 : Int32} {out : Int32} (hf : f_X5_hasPorts coR roR x1 x2 = some out) : RoI l yX5_hasPorts wsX5_hasPorts { frames := 2, cells := 0, slots := 0, locals := 41 } D (ty4 cI cJ cZ cQ) qs [.ref hMs, .int x1, .int x2] [(hMs, .inr (5, [.ref hTo, .ref hRmR, .ref hRmT, .ref hPa, .ref hWa, .ref hBe])), (hRmR, .inr (2, [.ref hKdR, .int coR, .int roR]))] out :=
  RoI.of (own := RX5) (by decide +kernel) rfl rfl (Nat.le_of_ble_eq_true rfl) (fun F hG hP hret ls hl => b_X5_hasPorts F hG hP hf hret hl)
-- method X5_tryCell
theorem yd_X5_tryCell : yX5_tryCell.cls = RX5 ∧ yX5_tryCell.cls ≠ "java/lang/invoke/MethodHandle" ∧ yX5_tryCell.cls ≠ "java/lang/invoke/VarHandle" ∧ (parseMethodDescriptor yX5_tryCell.desc).map (fun d => d.parameters.length) = some 2 := by decide +kernel
theorem ku_X5_tryCell_X5 : ∀ w ∈ u_ws RX5 TX5 6, w ∈ wsX5_tryCell := by decide +kernel
theorem kw_X5_tryCell_1 : Cond.fieldLink RX5 23 "MirrorShares" "trial" "LMirrorShares$Room;" ∈ wsX5_tryCell := List.mem_of_getElem? (i := 1) rfl
theorem kw_X5_tryCell_2 : Cond.fieldLink RX5 19 "MirrorShares" "room" "LMirrorShares$Room;" ∈ wsX5_tryCell := List.mem_of_getElem? (i := 2) rfl
def f_X5_tryCell (coR : Int32) (roR : Int32) (kdR : Nat → Int32) (coT : Int32) (roT : Int32) (kdT : Nat → Int32) (x1 : Int32) (x2 : Int32) : Option (Int32 × Int32 × (Nat → Int32)) :=
  Option.bind (f_X2_become coT roT kdT coR roR kdR) (fun r5 => Option.bind (f_X2_tell r5.1 r5.2.1 r5.2.2 x1 x2) (fun r6 => some (r5.1, r5.2.1, r6)))
set_option maxHeartbeats 4000000 in
set_option maxRecDepth 100000 in
theorem b_X5_tryCell {p : Program} {l : Launch} {e : Env} {s : State} {m : MethodId} {args : Array Value} {below : List Frame} {meth : Method} {c : Code} {Q : State → Prop} {A : Nat → Prop} {H : Heap} {locs : List Loc} {D : va_G} {cI cJ cZ cQ : ClassId} {qs : Nat × Nat × Nat} {hMs hTo hRmR hRmT hPa hWa hBe hKdR hKdT : Nat} {coR : Int32} {roR : Int32} {kdR : Nat → Int32} {coT : Int32} {roT : Int32} {kdT : Nat → Int32} {x1 : Int32} {x2 : Int32} {out : Int32 × Int32 × (Nat → Int32)} (F : CallFix p m c cX5_tryCell 3 s args wsX5_tryCell RX5) (hG : kW D (ty4 cI cJ cZ cQ) qs A s s.heap) (hA : ∀ q : Nat, s.heap.size ≤ q → A q) (hP : va_P D vwCl [(hMs, .inr (5, [.ref hTo, .ref hRmR, .ref hRmT, .ref hPa, .ref hWa, .ref hBe])), (hRmR, .inr (2, [.ref hKdR, .int coR, .int roR])), (hKdR, .inl (cI, 20, .inl kdR)), (hRmT, .inr (2, [.ref hKdT, .int coT, .int roT])), (hKdT, .inl (cI, 20, .inl kdT))] H) (hD : va_D A [(hMs, .inr (5, [.ref hTo, .ref hRmR, .ref hRmT, .ref hPa, .ref hWa, .ref hBe])), (hRmR, .inr (2, [.ref hKdR, .int coR, .int roR])), (hKdR, .inl (cI, 20, .inl kdR)), (hRmT, .inr (2, [.ref hKdT, .int coT, .int roT])), (hKdT, .inl (cI, 20, .inl kdT))]) (hS : va_S A s.heap H locs) (hf : f_X5_tryCell coR roR kdR coT roT kdT x1 x2 = some out) (hret : ∀ (pc : Nat) (H : Heap) (locs : List Loc) (ls : Array Slot), decode cX5_tryCell pc = .ok (.return_, 1) → va_P D vwCl [(hMs, .inr (5, [.ref hTo, .ref hRmR, .ref hRmT, .ref hPa, .ref hWa, .ref hBe])), (hRmR, .inr (2, [.ref hKdR, .int coR, .int roR])), (hKdR, .inl (cI, 20, .inl kdR)), (hRmT, .inr (2, [.ref hKdT, .int out.1, .int out.2.1])), (hKdT, .inl (cI, 20, .inl out.2.2))] H → va_D A [(hMs, .inr (5, [.ref hTo, .ref hRmR, .ref hRmT, .ref hPa, .ref hWa, .ref hBe])), (hRmR, .inr (2, [.ref hKdR, .int coR, .int roR])), (hKdR, .inl (cI, 20, .inl kdR)), (hRmT, .inr (2, [.ref hKdT, .int out.1, .int out.2.1])), (hKdT, .inl (cI, 20, .inl out.2.2))] → va_S A s.heap H locs → W p l e { frames := 2, cells := 0, slots := 0, locals := 81 } s m args below meth c H locs 0 0 Q (F0 m pc ls [])) {ls : Array Slot} (hl : lv_has ls 3 [(0, .ref hMs), (1, .int x1), (2, .int x2)]) : W p l e { frames := 2, cells := 0, slots := 0, locals := 81 } s m args below meth c H locs 0 0 Q (F0 m 0 ls []) := by
  have hx := F.1
  have hb := F.2.1
  have hown := F.2.2.2.1
  have hts := F.2.2.2.2
  have hK := hG.1.1
  rw [f_X5_tryCell] at hf
  refine lv_aload_n hx hb dX5_tryCell_0 rfl (lv_at hl 0 rfl) ?_
  refine va_get (D := D) (ci := 5) (v := .ref hRmT) (C := RX5) (T := TX5) (N := 6) hx hb hts ku_X5_tryCell_X5 hown hK hP 0 rfl rfl 2 (by decide) (hts _ kw_X5_tryCell_1) (fun _ h9 => h9) rfl dX5_tryCell_1 ?_
  refine lv_aload_n hx hb dX5_tryCell_4 rfl (lv_at hl 0 rfl) ?_
  refine va_get (D := D) (ci := 5) (v := .ref hRmR) (C := RX5) (T := TX5) (N := 6) hx hb hts ku_X5_tryCell_X5 hown hK hP 0 rfl rfl 1 (by decide) (hts _ kw_X5_tryCell_2) (fun _ h9 => h9) rfl dX5_tryCell_5 ?_
  obtain ⟨r5, er5, hf⟩ := fp_b hf
  refine kc_rwV (w2 := [(hMs, .inr (5, [.ref hTo, .ref hRmR, .ref hRmT, .ref hPa, .ref hWa, .ref hBe])), (hRmR, .inr (2, [.ref hKdR, .int coR, .int roR])), (hKdR, .inl (cI, 20, .inl kdR)), (hRmT, .inr (2, [.ref hKdT, .int r5.1, .int r5.2.1])), (hKdT, .inl (cI, 20, .inl r5.2.2))]) (RwV.runV (c_X2_become (l := l) (D := D) (cI := cI) (cJ := cJ) (cZ := cZ) (cQ := cQ) (qs := qs) er5) F (cwV 1 hts gX5_tryCell_X2_become rfl rfl rfl yd_X2_become ⟨Nat.le_of_ble_eq_true rfl, Nat.le_of_ble_eq_true rfl⟩) hG hP hD hS hA [3, 4, 1, 2] (by decide) rfl 2 rfl rfl rfl hl.1 rfl (Nat.le_of_ble_eq_true rfl) dX5_tryCell_8 ⟨Nat.zero_le _, Nat.zero_le _⟩) hP hD hS hA [3, 4, 1, 2] [0] [0, 3, 4, 1, 2] rfl (wr := [(hMs, .inr (5, [.ref hTo, .ref hRmR, .ref hRmT, .ref hPa, .ref hWa, .ref hBe]))]) rfl (by decide) (by decide) rfl (by decide) (fun H locs hP hD hS => ?_)
  refine lv_aload_n hx hb dX5_tryCell_11 rfl (lv_at hl 0 rfl) ?_
  refine va_get (D := D) (ci := 5) (v := .ref hRmT) (C := RX5) (T := TX5) (N := 6) hx hb hts ku_X5_tryCell_X5 hown hK hP 0 rfl rfl 2 (by decide) (hts _ kw_X5_tryCell_1) (fun _ h9 => h9) rfl dX5_tryCell_12 ?_
  refine lv_iload_n hx hb dX5_tryCell_15 rfl (lv_at hl 1 rfl) ?_
  refine lv_iload_n hx hb dX5_tryCell_16 rfl (lv_at hl 2 rfl) ?_
  obtain ⟨r6, er6, hf⟩ := fp_b hf
  refine kc_rwV (w2 := [(hMs, .inr (5, [.ref hTo, .ref hRmR, .ref hRmT, .ref hPa, .ref hWa, .ref hBe])), (hRmR, .inr (2, [.ref hKdR, .int coR, .int roR])), (hKdR, .inl (cI, 20, .inl kdR)), (hRmT, .inr (2, [.ref hKdT, .int r5.1, .int r5.2.1])), (hKdT, .inl (cI, 20, .inl r6))]) (RwV.runV (c_X2_tell (l := l) (D := D) (cI := cI) (cJ := cJ) (cZ := cZ) (cQ := cQ) (qs := qs) er6) F (cwV 2 hts gX5_tryCell_X2_tell rfl rfl rfl yd_X2_tell ⟨Nat.le_of_ble_eq_true rfl, Nat.le_of_ble_eq_true rfl⟩) hG hP hD hS hA [3, 4] (by decide) rfl 2 rfl rfl rfl hl.1 rfl (Nat.le_of_ble_eq_true rfl) dX5_tryCell_17 ⟨Nat.zero_le _, Nat.zero_le _⟩) hP hD hS hA [3, 4] [0, 1, 2] [0, 1, 2, 3, 4] rfl (wr := [(hMs, .inr (5, [.ref hTo, .ref hRmR, .ref hRmT, .ref hPa, .ref hWa, .ref hBe])), (hRmR, .inr (2, [.ref hKdR, .int coR, .int roR])), (hKdR, .inl (cI, 20, .inl kdR))]) rfl (by decide) (by decide) rfl (by decide) (fun H locs hP hD hS => ?_)
  cases hf
  exact hret _ _ _ _ dX5_tryCell_20 hP hD hS
set_option maxRecDepth 100000 in
theorem c_X5_tryCell {l : Launch} {D : va_G} {cI cJ cZ cQ : ClassId} {qs : Nat × Nat × Nat} {hMs hTo hRmR hRmT hPa hWa hBe hKdR hKdT : Nat} {coR : Int32} {roR : Int32} {kdR : Nat → Int32} {coT : Int32} {roT : Int32} {kdT : Nat → Int32} {x1 : Int32} {x2 : Int32} {out : Int32 × Int32 × (Nat → Int32)} (hf : f_X5_tryCell coR roR kdR coT roT kdT x1 x2 = some out) : RwV l yX5_tryCell wsX5_tryCell { frames := 2, cells := 0, slots := 0, locals := 81 } D (ty4 cI cJ cZ cQ) qs [.ref hMs, .int x1, .int x2] [(hMs, .inr (5, [.ref hTo, .ref hRmR, .ref hRmT, .ref hPa, .ref hWa, .ref hBe])), (hRmR, .inr (2, [.ref hKdR, .int coR, .int roR])), (hKdR, .inl (cI, 20, .inl kdR)), (hRmT, .inr (2, [.ref hKdT, .int coT, .int roT])), (hKdT, .inl (cI, 20, .inl kdT))] [(hMs, .inr (5, [.ref hTo, .ref hRmR, .ref hRmT, .ref hPa, .ref hWa, .ref hBe])), (hRmR, .inr (2, [.ref hKdR, .int coR, .int roR])), (hKdR, .inl (cI, 20, .inl kdR)), (hRmT, .inr (2, [.ref hKdT, .int out.1, .int out.2.1])), (hKdT, .inl (cI, 20, .inl out.2.2))] :=
  RwV.of (own := RX5) (by decide +kernel) rfl rfl (Nat.le_of_ble_eq_true rfl) (fun F hG hA hP hD hS hret ls hl => b_X5_tryCell F hG hA hP hD hS hf hret hl)
-- method X5_change
theorem yd_X5_change : yX5_change.cls = RX5 ∧ yX5_change.cls ≠ "java/lang/invoke/MethodHandle" ∧ yX5_change.cls ≠ "java/lang/invoke/VarHandle" ∧ (parseMethodDescriptor yX5_change.desc).map (fun d => d.parameters.length) = some 3 := by decide +kernel
theorem ku_X5_change_X5 : ∀ w ∈ u_ws RX5 TX5 6, w ∈ wsX5_change := by decide +kernel
theorem kw_X5_change_1 : Cond.fieldLink RX5 29 "MirrorShares" "past" "LMirrorShares$Past;" ∈ wsX5_change := List.mem_of_getElem? (i := 1) rfl
theorem kw_X5_change_2 : Cond.fieldLink RX5 19 "MirrorShares" "room" "LMirrorShares$Room;" ∈ wsX5_change := List.mem_of_getElem? (i := 2) rfl
def f_X5_change (coR : Int32) (roR : Int32) (kdR : Nat → Int32) (pz : Int32) (pg : Nat → Int32) (x1 : Int32) (x2 : Int32) (x3 : Int32) : Option ((Nat → Int32) × Int32 × (Nat → Int32)) :=
  Option.bind (f_X1_rememberKind pz pg x1 x2) (fun r7 => Option.bind (f_X2_tell coR roR kdR x1 x3) (fun r8 => some (r8, r7.1, r7.2)))
set_option maxHeartbeats 4000000 in
set_option maxRecDepth 100000 in
theorem b_X5_change {p : Program} {l : Launch} {e : Env} {s : State} {m : MethodId} {args : Array Value} {below : List Frame} {meth : Method} {c : Code} {Q : State → Prop} {A : Nat → Prop} {H : Heap} {locs : List Loc} {D : va_G} {cI cJ cZ cQ : ClassId} {qs : Nat × Nat × Nat} {hMs hTo hRmR hRmT hPa hWa hBe hKdR hPg : Nat} {coR : Int32} {roR : Int32} {kdR : Nat → Int32} {pz : Int32} {pg : Nat → Int32} {x1 : Int32} {x2 : Int32} {x3 : Int32} {out : (Nat → Int32) × Int32 × (Nat → Int32)} (F : CallFix p m c cX5_change 4 s args wsX5_change RX5) (hG : kW D (ty4 cI cJ cZ cQ) qs A s s.heap) (hA : ∀ q : Nat, s.heap.size ≤ q → A q) (hP : va_P D vwCl [(hMs, .inr (5, [.ref hTo, .ref hRmR, .ref hRmT, .ref hPa, .ref hWa, .ref hBe])), (hRmR, .inr (2, [.ref hKdR, .int coR, .int roR])), (hKdR, .inl (cI, 20, .inl kdR)), (hPa, .inr (1, [.ref hPg, .int pz])), (hPg, .inl (cI, 4, .inl pg))] H) (hD : va_D A [(hMs, .inr (5, [.ref hTo, .ref hRmR, .ref hRmT, .ref hPa, .ref hWa, .ref hBe])), (hRmR, .inr (2, [.ref hKdR, .int coR, .int roR])), (hKdR, .inl (cI, 20, .inl kdR)), (hPa, .inr (1, [.ref hPg, .int pz])), (hPg, .inl (cI, 4, .inl pg))]) (hS : va_S A s.heap H locs) (hf : f_X5_change coR roR kdR pz pg x1 x2 x3 = some out) (hret : ∀ (pc : Nat) (H : Heap) (locs : List Loc) (ls : Array Slot), decode cX5_change pc = .ok (.return_, 1) → va_P D vwCl [(hMs, .inr (5, [.ref hTo, .ref hRmR, .ref hRmT, .ref hPa, .ref hWa, .ref hBe])), (hRmR, .inr (2, [.ref hKdR, .int coR, .int roR])), (hKdR, .inl (cI, 20, .inl out.1)), (hPa, .inr (1, [.ref hPg, .int out.2.1])), (hPg, .inl (cI, 4, .inl out.2.2))] H → va_D A [(hMs, .inr (5, [.ref hTo, .ref hRmR, .ref hRmT, .ref hPa, .ref hWa, .ref hBe])), (hRmR, .inr (2, [.ref hKdR, .int coR, .int roR])), (hKdR, .inl (cI, 20, .inl out.1)), (hPa, .inr (1, [.ref hPg, .int out.2.1])), (hPg, .inl (cI, 4, .inl out.2.2))] → va_S A s.heap H locs → W p l e { frames := 3, cells := 0, slots := 0, locals := 103 } s m args below meth c H locs 0 0 Q (F0 m pc ls [])) {ls : Array Slot} (hl : lv_has ls 4 [(0, .ref hMs), (1, .int x1), (2, .int x2), (3, .int x3)]) : W p l e { frames := 3, cells := 0, slots := 0, locals := 103 } s m args below meth c H locs 0 0 Q (F0 m 0 ls []) := by
  have hx := F.1
  have hb := F.2.1
  have hown := F.2.2.2.1
  have hts := F.2.2.2.2
  have hK := hG.1.1
  rw [f_X5_change] at hf
  refine lv_aload_n hx hb dX5_change_0 rfl (lv_at hl 0 rfl) ?_
  refine va_get (D := D) (ci := 5) (v := .ref hPa) (C := RX5) (T := TX5) (N := 6) hx hb hts ku_X5_change_X5 hown hK hP 0 rfl rfl 3 (by decide) (hts _ kw_X5_change_1) (fun _ h9 => h9) rfl dX5_change_1 ?_
  refine lv_iload_n hx hb dX5_change_4 rfl (lv_at hl 1 rfl) ?_
  refine lv_iload_n hx hb dX5_change_5 rfl (lv_at hl 2 rfl) ?_
  obtain ⟨r7, er7, hf⟩ := fp_b hf
  refine kc_rwV (w2 := [(hMs, .inr (5, [.ref hTo, .ref hRmR, .ref hRmT, .ref hPa, .ref hWa, .ref hBe])), (hRmR, .inr (2, [.ref hKdR, .int coR, .int roR])), (hKdR, .inl (cI, 20, .inl kdR)), (hPa, .inr (1, [.ref hPg, .int r7.1])), (hPg, .inl (cI, 4, .inl r7.2))]) (RwV.runV (c_X1_rememberKind (l := l) (D := D) (cI := cI) (cJ := cJ) (cZ := cZ) (cQ := cQ) (qs := qs) er7) F (cwV 2 hts gX5_change_X1_rememberKind rfl rfl rfl yd_X1_rememberKind ⟨Nat.le_of_ble_eq_true rfl, Nat.le_of_ble_eq_true rfl⟩) hG hP hD hS hA [3, 4] (by decide) rfl 1 rfl rfl rfl hl.1 rfl (Nat.le_of_ble_eq_true rfl) dX5_change_6 ⟨Nat.zero_le _, Nat.zero_le _⟩) hP hD hS hA [3, 4] [0, 1, 2] [0, 1, 2, 3, 4] rfl (wr := [(hMs, .inr (5, [.ref hTo, .ref hRmR, .ref hRmT, .ref hPa, .ref hWa, .ref hBe])), (hRmR, .inr (2, [.ref hKdR, .int coR, .int roR])), (hKdR, .inl (cI, 20, .inl kdR))]) rfl (by decide) (by decide) rfl (by decide) (fun H locs hP hD hS => ?_)
  refine lv_aload_n hx hb dX5_change_9 rfl (lv_at hl 0 rfl) ?_
  refine va_get (D := D) (ci := 5) (v := .ref hRmR) (C := RX5) (T := TX5) (N := 6) hx hb hts ku_X5_change_X5 hown hK hP 0 rfl rfl 1 (by decide) (hts _ kw_X5_change_2) (fun _ h9 => h9) rfl dX5_change_10 ?_
  refine lv_iload_n hx hb dX5_change_13 rfl (lv_at hl 1 rfl) ?_
  refine lv_iload_n hx hb dX5_change_14 rfl (lv_at hl 3 rfl) ?_
  obtain ⟨r8, er8, hf⟩ := fp_b hf
  refine kc_rwV (w2 := [(hMs, .inr (5, [.ref hTo, .ref hRmR, .ref hRmT, .ref hPa, .ref hWa, .ref hBe])), (hRmR, .inr (2, [.ref hKdR, .int coR, .int roR])), (hKdR, .inl (cI, 20, .inl r8)), (hPa, .inr (1, [.ref hPg, .int r7.1])), (hPg, .inl (cI, 4, .inl r7.2))]) (RwV.runV (c_X2_tell (l := l) (D := D) (cI := cI) (cJ := cJ) (cZ := cZ) (cQ := cQ) (qs := qs) er8) F (cwV 2 hts gX5_change_X2_tell rfl rfl rfl yd_X2_tell ⟨Nat.le_of_ble_eq_true rfl, Nat.le_of_ble_eq_true rfl⟩) hG hP hD hS hA [1, 2] (by decide) rfl 2 rfl rfl rfl hl.1 rfl (Nat.le_of_ble_eq_true rfl) dX5_change_15 ⟨Nat.zero_le _, Nat.zero_le _⟩) hP hD hS hA [1, 2] [0, 3, 4] [0, 3, 4, 1, 2] rfl (wr := [(hMs, .inr (5, [.ref hTo, .ref hRmR, .ref hRmT, .ref hPa, .ref hWa, .ref hBe])), (hPa, .inr (1, [.ref hPg, .int r7.1])), (hPg, .inl (cI, 4, .inl r7.2))]) rfl (by decide) (by decide) rfl (by decide) (fun H locs hP hD hS => ?_)
  cases hf
  exact hret _ _ _ _ dX5_change_18 hP hD hS
set_option maxRecDepth 100000 in
theorem c_X5_change {l : Launch} {D : va_G} {cI cJ cZ cQ : ClassId} {qs : Nat × Nat × Nat} {hMs hTo hRmR hRmT hPa hWa hBe hKdR hPg : Nat} {coR : Int32} {roR : Int32} {kdR : Nat → Int32} {pz : Int32} {pg : Nat → Int32} {x1 : Int32} {x2 : Int32} {x3 : Int32} {out : (Nat → Int32) × Int32 × (Nat → Int32)} (hf : f_X5_change coR roR kdR pz pg x1 x2 x3 = some out) : RwV l yX5_change wsX5_change { frames := 3, cells := 0, slots := 0, locals := 103 } D (ty4 cI cJ cZ cQ) qs [.ref hMs, .int x1, .int x2, .int x3] [(hMs, .inr (5, [.ref hTo, .ref hRmR, .ref hRmT, .ref hPa, .ref hWa, .ref hBe])), (hRmR, .inr (2, [.ref hKdR, .int coR, .int roR])), (hKdR, .inl (cI, 20, .inl kdR)), (hPa, .inr (1, [.ref hPg, .int pz])), (hPg, .inl (cI, 4, .inl pg))] [(hMs, .inr (5, [.ref hTo, .ref hRmR, .ref hRmT, .ref hPa, .ref hWa, .ref hBe])), (hRmR, .inr (2, [.ref hKdR, .int coR, .int roR])), (hKdR, .inl (cI, 20, .inl out.1)), (hPa, .inr (1, [.ref hPg, .int out.2.1])), (hPg, .inl (cI, 4, .inl out.2.2))] :=
  RwV.of (own := RX5) (by decide +kernel) rfl rfl (Nat.le_of_ble_eq_true rfl) (fun F hG hA hP hD hS hret ls hl => b_X5_change F hG hA hP hD hS hf hret hl)
-- method X5_turnRoom
theorem yd_X5_turnRoom : yX5_turnRoom.cls = RX5 ∧ yX5_turnRoom.cls ≠ "java/lang/invoke/MethodHandle" ∧ yX5_turnRoom.cls ≠ "java/lang/invoke/VarHandle" ∧ (parseMethodDescriptor yX5_turnRoom.desc).map (fun d => d.parameters.length) = some 0 := by decide +kernel
theorem ku_X5_turnRoom_X5 : ∀ w ∈ u_ws RX5 TX5 6, w ∈ wsX5_turnRoom := by decide +kernel
theorem kw_X5_turnRoom_1 : Cond.fieldLink RX5 23 "MirrorShares" "trial" "LMirrorShares$Room;" ∈ wsX5_turnRoom := List.mem_of_getElem? (i := 1) rfl
theorem kw_X5_turnRoom_2 : Cond.fieldLink RX5 19 "MirrorShares" "room" "LMirrorShares$Room;" ∈ wsX5_turnRoom := List.mem_of_getElem? (i := 2) rfl
def f_X5_turnRoom (coR : Int32) (roR : Int32) (kdR : Nat → Int32) (coT : Int32) (roT : Int32) (kdT : Nat → Int32) : Option (Int32 × Int32 × (Nat → Int32) × Int32 × Int32 × (Nat → Int32)) :=
  Option.bind (f_X2_becomeTurned coT roT kdT coR roR kdR) (fun r9 => Option.bind (f_X2_become coR roR kdR r9.1 r9.2.1 r9.2.2) (fun r10 => some (r10.1, r10.2.1, r10.2.2, r9.1, r9.2.1, r9.2.2)))
set_option maxHeartbeats 4000000 in
set_option maxRecDepth 100000 in
theorem b_X5_turnRoom {p : Program} {l : Launch} {e : Env} {s : State} {m : MethodId} {args : Array Value} {below : List Frame} {meth : Method} {c : Code} {Q : State → Prop} {A : Nat → Prop} {H : Heap} {locs : List Loc} {D : va_G} {cI cJ cZ cQ : ClassId} {qs : Nat × Nat × Nat} {hMs hTo hRmR hRmT hPa hWa hBe hKdR hKdT : Nat} {coR : Int32} {roR : Int32} {kdR : Nat → Int32} {coT : Int32} {roT : Int32} {kdT : Nat → Int32} {out : Int32 × Int32 × (Nat → Int32) × Int32 × Int32 × (Nat → Int32)} (F : CallFix p m c cX5_turnRoom 1 s args wsX5_turnRoom RX5) (hG : kW D (ty4 cI cJ cZ cQ) qs A s s.heap) (hA : ∀ q : Nat, s.heap.size ≤ q → A q) (hP : va_P D vwCl [(hMs, .inr (5, [.ref hTo, .ref hRmR, .ref hRmT, .ref hPa, .ref hWa, .ref hBe])), (hRmR, .inr (2, [.ref hKdR, .int coR, .int roR])), (hKdR, .inl (cI, 20, .inl kdR)), (hRmT, .inr (2, [.ref hKdT, .int coT, .int roT])), (hKdT, .inl (cI, 20, .inl kdT))] H) (hD : va_D A [(hMs, .inr (5, [.ref hTo, .ref hRmR, .ref hRmT, .ref hPa, .ref hWa, .ref hBe])), (hRmR, .inr (2, [.ref hKdR, .int coR, .int roR])), (hKdR, .inl (cI, 20, .inl kdR)), (hRmT, .inr (2, [.ref hKdT, .int coT, .int roT])), (hKdT, .inl (cI, 20, .inl kdT))]) (hS : va_S A s.heap H locs) (hf : f_X5_turnRoom coR roR kdR coT roT kdT = some out) (hret : ∀ (pc : Nat) (H : Heap) (locs : List Loc) (ls : Array Slot), decode cX5_turnRoom pc = .ok (.return_, 1) → va_P D vwCl [(hMs, .inr (5, [.ref hTo, .ref hRmR, .ref hRmT, .ref hPa, .ref hWa, .ref hBe])), (hRmR, .inr (2, [.ref hKdR, .int out.1, .int out.2.1])), (hKdR, .inl (cI, 20, .inl out.2.2.1)), (hRmT, .inr (2, [.ref hKdT, .int out.2.2.2.1, .int out.2.2.2.2.1])), (hKdT, .inl (cI, 20, .inl out.2.2.2.2.2))] H → va_D A [(hMs, .inr (5, [.ref hTo, .ref hRmR, .ref hRmT, .ref hPa, .ref hWa, .ref hBe])), (hRmR, .inr (2, [.ref hKdR, .int out.1, .int out.2.1])), (hKdR, .inl (cI, 20, .inl out.2.2.1)), (hRmT, .inr (2, [.ref hKdT, .int out.2.2.2.1, .int out.2.2.2.2.1])), (hKdT, .inl (cI, 20, .inl out.2.2.2.2.2))] → va_S A s.heap H locs → W p l e { frames := 3, cells := 0, slots := 0, locals := 81 } s m args below meth c H locs 0 0 Q (F0 m pc ls [])) {ls : Array Slot} (hl : lv_has ls 1 [(0, .ref hMs)]) : W p l e { frames := 3, cells := 0, slots := 0, locals := 81 } s m args below meth c H locs 0 0 Q (F0 m 0 ls []) := by
  have hx := F.1
  have hb := F.2.1
  have hown := F.2.2.2.1
  have hts := F.2.2.2.2
  have hK := hG.1.1
  rw [f_X5_turnRoom] at hf
  refine lv_aload_n hx hb dX5_turnRoom_0 rfl (lv_at hl 0 rfl) ?_
  refine va_get (D := D) (ci := 5) (v := .ref hRmT) (C := RX5) (T := TX5) (N := 6) hx hb hts ku_X5_turnRoom_X5 hown hK hP 0 rfl rfl 2 (by decide) (hts _ kw_X5_turnRoom_1) (fun _ h9 => h9) rfl dX5_turnRoom_1 ?_
  refine lv_aload_n hx hb dX5_turnRoom_4 rfl (lv_at hl 0 rfl) ?_
  refine va_get (D := D) (ci := 5) (v := .ref hRmR) (C := RX5) (T := TX5) (N := 6) hx hb hts ku_X5_turnRoom_X5 hown hK hP 0 rfl rfl 1 (by decide) (hts _ kw_X5_turnRoom_2) (fun _ h9 => h9) rfl dX5_turnRoom_5 ?_
  obtain ⟨r9, er9, hf⟩ := fp_b hf
  refine kc_rwV (w2 := [(hMs, .inr (5, [.ref hTo, .ref hRmR, .ref hRmT, .ref hPa, .ref hWa, .ref hBe])), (hRmR, .inr (2, [.ref hKdR, .int coR, .int roR])), (hKdR, .inl (cI, 20, .inl kdR)), (hRmT, .inr (2, [.ref hKdT, .int r9.1, .int r9.2.1])), (hKdT, .inl (cI, 20, .inl r9.2.2))]) (RwV.runV (c_X2_becomeTurned (l := l) (D := D) (cI := cI) (cJ := cJ) (cZ := cZ) (cQ := cQ) (qs := qs) er9) F (cwV 1 hts gX5_turnRoom_X2_becomeTurned rfl rfl rfl yd_X2_becomeTurned ⟨Nat.le_of_ble_eq_true rfl, Nat.le_of_ble_eq_true rfl⟩) hG hP hD hS hA [3, 4, 1, 2] (by decide) rfl 2 rfl rfl rfl hl.1 rfl (Nat.le_of_ble_eq_true rfl) dX5_turnRoom_8 ⟨Nat.zero_le _, Nat.zero_le _⟩) hP hD hS hA [3, 4, 1, 2] [0] [0, 3, 4, 1, 2] rfl (wr := [(hMs, .inr (5, [.ref hTo, .ref hRmR, .ref hRmT, .ref hPa, .ref hWa, .ref hBe]))]) rfl (by decide) (by decide) rfl (by decide) (fun H locs hP hD hS => ?_)
  refine lv_aload_n hx hb dX5_turnRoom_11 rfl (lv_at hl 0 rfl) ?_
  refine va_get (D := D) (ci := 5) (v := .ref hRmR) (C := RX5) (T := TX5) (N := 6) hx hb hts ku_X5_turnRoom_X5 hown hK hP 0 rfl rfl 1 (by decide) (hts _ kw_X5_turnRoom_2) (fun _ h9 => h9) rfl dX5_turnRoom_12 ?_
  refine lv_aload_n hx hb dX5_turnRoom_15 rfl (lv_at hl 0 rfl) ?_
  refine va_get (D := D) (ci := 5) (v := .ref hRmT) (C := RX5) (T := TX5) (N := 6) hx hb hts ku_X5_turnRoom_X5 hown hK hP 0 rfl rfl 2 (by decide) (hts _ kw_X5_turnRoom_1) (fun _ h9 => h9) rfl dX5_turnRoom_16 ?_
  obtain ⟨r10, er10, hf⟩ := fp_b hf
  refine kc_rwV (w2 := [(hMs, .inr (5, [.ref hTo, .ref hRmR, .ref hRmT, .ref hPa, .ref hWa, .ref hBe])), (hRmR, .inr (2, [.ref hKdR, .int r10.1, .int r10.2.1])), (hKdR, .inl (cI, 20, .inl r10.2.2)), (hRmT, .inr (2, [.ref hKdT, .int r9.1, .int r9.2.1])), (hKdT, .inl (cI, 20, .inl r9.2.2))]) (RwV.runV (c_X2_become (l := l) (D := D) (cI := cI) (cJ := cJ) (cZ := cZ) (cQ := cQ) (qs := qs) er10) F (cwV 1 hts gX5_turnRoom_X2_become rfl rfl rfl yd_X2_become ⟨Nat.le_of_ble_eq_true rfl, Nat.le_of_ble_eq_true rfl⟩) hG hP hD hS hA [1, 2, 3, 4] (by decide) rfl 2 rfl rfl rfl hl.1 rfl (Nat.le_of_ble_eq_true rfl) dX5_turnRoom_19 ⟨Nat.zero_le _, Nat.zero_le _⟩) hP hD hS hA [1, 2, 3, 4] [0] [0, 1, 2, 3, 4] rfl (wr := [(hMs, .inr (5, [.ref hTo, .ref hRmR, .ref hRmT, .ref hPa, .ref hWa, .ref hBe]))]) rfl (by decide) (by decide) rfl (by decide) (fun H locs hP hD hS => ?_)
  cases hf
  exact hret _ _ _ _ dX5_turnRoom_22 hP hD hS
set_option maxRecDepth 100000 in
theorem c_X5_turnRoom {l : Launch} {D : va_G} {cI cJ cZ cQ : ClassId} {qs : Nat × Nat × Nat} {hMs hTo hRmR hRmT hPa hWa hBe hKdR hKdT : Nat} {coR : Int32} {roR : Int32} {kdR : Nat → Int32} {coT : Int32} {roT : Int32} {kdT : Nat → Int32} {out : Int32 × Int32 × (Nat → Int32) × Int32 × Int32 × (Nat → Int32)} (hf : f_X5_turnRoom coR roR kdR coT roT kdT = some out) : RwV l yX5_turnRoom wsX5_turnRoom { frames := 3, cells := 0, slots := 0, locals := 81 } D (ty4 cI cJ cZ cQ) qs [.ref hMs] [(hMs, .inr (5, [.ref hTo, .ref hRmR, .ref hRmT, .ref hPa, .ref hWa, .ref hBe])), (hRmR, .inr (2, [.ref hKdR, .int coR, .int roR])), (hKdR, .inl (cI, 20, .inl kdR)), (hRmT, .inr (2, [.ref hKdT, .int coT, .int roT])), (hKdT, .inl (cI, 20, .inl kdT))] [(hMs, .inr (5, [.ref hTo, .ref hRmR, .ref hRmT, .ref hPa, .ref hWa, .ref hBe])), (hRmR, .inr (2, [.ref hKdR, .int out.1, .int out.2.1])), (hKdR, .inl (cI, 20, .inl out.2.2.1)), (hRmT, .inr (2, [.ref hKdT, .int out.2.2.2.1, .int out.2.2.2.2.1])), (hKdT, .inl (cI, 20, .inl out.2.2.2.2.2))] :=
  RwV.of (own := RX5) (by decide +kernel) rfl rfl (Nat.le_of_ble_eq_true rfl) (fun F hG hA hP hD hS hret ls hl => b_X5_turnRoom F hG hA hP hD hS hf hret hl)
-- method X5_openOnly
theorem yd_X5_openOnly : yX5_openOnly.cls = RX5 ∧ yX5_openOnly.cls ≠ "java/lang/invoke/MethodHandle" ∧ yX5_openOnly.cls ≠ "java/lang/invoke/VarHandle" ∧ (parseMethodDescriptor yX5_openOnly.desc).map (fun d => d.parameters.length) = some 1 := by decide +kernel
theorem ku_X5_openOnly_X5 : ∀ w ∈ u_ws RX5 TX5 6, w ∈ wsX5_openOnly := by decide +kernel
theorem kw_X5_openOnly_1 : Cond.fieldLink RX5 23 "MirrorShares" "trial" "LMirrorShares$Room;" ∈ wsX5_openOnly := List.mem_of_getElem? (i := 1) rfl
theorem kw_X5_openOnly_2 : Cond.fieldLink RX5 19 "MirrorShares" "room" "LMirrorShares$Room;" ∈ wsX5_openOnly := List.mem_of_getElem? (i := 2) rfl
def f_X5_openOnly_13 (coR : Int32) (roR : Int32) (kdR : Nat → Int32) (coT : Int32) (roT : Int32) (y1 : Int32) (y2 : Int32) (kdT : Nat → Int32) : Option ((Int32 × (Nat → Int32)) ⊕ ((Nat → Int32))) :=
  (if (4 : Int32) ≤ y2 then some (Sum.inr kdT) else Option.bind (f_X2_doorCell coR roR kdR y2) (fun r13 => Option.bind (if ((y1 >>> (y2 &&& 31)) &&& (1 : Int32)) = (1 : Int32) then some (6 : Int32) else some (7 : Int32)) (fun j14 => Option.bind (f_X2_tell coT roT kdT r13 j14) (fun r16 => some (Sum.inl ((y2 + (1 : Int32)), r16))))))
set_option maxHeartbeats 4000000 in
set_option maxRecDepth 100000 in
theorem lp_X5_openOnly_13 {p : Program} {l : Launch} {e : Env} {s : State} {m : MethodId} {args : Array Value} {below : List Frame} {meth : Method} {c : Code} {Q : State → Prop} {A : Nat → Prop} {D : va_G} {cI cJ cZ cQ : ClassId} {qs : Nat × Nat × Nat} {hMs hTo hRmR hRmT hPa hWa hBe hKdR hKdT : Nat} {coR : Int32} {roR : Int32} {kdR : Nat → Int32} {coT : Int32} {roT : Int32} {y1 : Int32} (F : CallFix p m c cX5_openOnly 3 s args wsX5_openOnly RX5) (hG : kW D (ty4 cI cJ cZ cQ) qs A s s.heap) (hA : ∀ q : Nat, s.heap.size ≤ q → A q) :
    ∀ (n : Nat) {y2 : Int32} {kdT : Nat → Int32} (out : (Nat → Int32)), lpf (fun s => f_X5_openOnly_13 coR roR kdR coT roT y1 s.1 s.2) n (y2, kdT) = some out → ∀ {H : Heap} {locs : List Loc} {ls : Array Slot}, va_P D vwCl [(hMs, .inr (5, [.ref hTo, .ref hRmR, .ref hRmT, .ref hPa, .ref hWa, .ref hBe])), (hRmR, .inr (2, [.ref hKdR, .int coR, .int roR])), (hKdR, .inl (cI, 20, .inl kdR)), (hRmT, .inr (2, [.ref hKdT, .int coT, .int roT])), (hKdT, .inl (cI, 20, .inl kdT))] H → va_D A [(hMs, .inr (5, [.ref hTo, .ref hRmR, .ref hRmT, .ref hPa, .ref hWa, .ref hBe])), (hRmR, .inr (2, [.ref hKdR, .int coR, .int roR])), (hKdR, .inl (cI, 20, .inl kdR)), (hRmT, .inr (2, [.ref hKdT, .int coT, .int roT])), (hKdT, .inl (cI, 20, .inl kdT))] → va_S A s.heap H locs → lv_has ls 3 [(0, .ref hMs), (1, .int y1), (2, .int y2)] → (∀ (H : Heap) (locs : List Loc) (ls : Array Slot), va_P D vwCl [(hMs, .inr (5, [.ref hTo, .ref hRmR, .ref hRmT, .ref hPa, .ref hWa, .ref hBe])), (hRmR, .inr (2, [.ref hKdR, .int coR, .int roR])), (hKdR, .inl (cI, 20, .inl kdR)), (hRmT, .inr (2, [.ref hKdT, .int coT, .int roT])), (hKdT, .inl (cI, 20, .inl out))] H → va_D A [(hMs, .inr (5, [.ref hTo, .ref hRmR, .ref hRmT, .ref hPa, .ref hWa, .ref hBe])), (hRmR, .inr (2, [.ref hKdR, .int coR, .int roR])), (hKdR, .inl (cI, 20, .inl kdR)), (hRmT, .inr (2, [.ref hKdT, .int coT, .int roT])), (hKdT, .inl (cI, 20, .inl out))] → va_S A s.heap H locs → lv_has ls 3 [(0, .ref hMs), (1, .int y1)] → W p l e { frames := 3, cells := 0, slots := 0, locals := 81 } s m args below meth c H locs 0 0 Q (F0 m 55 ls [])) → W p l e { frames := 3, cells := 0, slots := 0, locals := 81 } s m args below meth c H locs 0 0 Q (F0 m 13 ls []) := by
  have hx := F.1
  have hb := F.2.1
  have hown := F.2.2.2.1
  have hts := F.2.2.2.2
  have hK := hG.1.1
  intro n
  induction n with
  | zero =>
    intro y2 kdT out ho
    exact (fp_l0 ho).elim
  | succ n ih =>
    intro y2 kdT out ho H locs ls hP hD hS hl hex
    obtain ⟨o, hf, ho⟩ := fp_l ho
    have hf : f_X5_openOnly_13 coR roR kdR coT roT y1 y2 kdT = some o := hf
    rw [f_X5_openOnly_13] at hf
    refine lv_iload_n hx hb dX5_openOnly_13 rfl (lv_at hl 2 rfl) ?_
    refine lv_iconst (v := (4 : Int32)) hx hb dX5_openOnly_14 (by decide) ?_
    refine lv_icmp_ge (tgt := 55) hx hb dX5_openOnly_15 (by decide) (fun c12 => ?_) (fun c12 => ?_)
    · have hf := fp_t hf c12
      cases hf
      have ho := fp_inr ho
      cases ho
      exact hex _ _ _ hP hD hS (lv_sub hl [0, 1] rfl)
    · have hf := fp_f hf c12
      refine lv_aload_n hx hb dX5_openOnly_18 rfl (lv_at hl 0 rfl) ?_
      refine va_get (D := D) (ci := 5) (v := .ref hRmT) (C := RX5) (T := TX5) (N := 6) hx hb hts ku_X5_openOnly_X5 hown hK hP 0 rfl rfl 2 (by decide) (hts _ kw_X5_openOnly_1) (fun _ h9 => h9) rfl dX5_openOnly_19 ?_
      refine lv_aload_n hx hb dX5_openOnly_22 rfl (lv_at hl 0 rfl) ?_
      refine va_get (D := D) (ci := 5) (v := .ref hRmR) (C := RX5) (T := TX5) (N := 6) hx hb hts ku_X5_openOnly_X5 hown hK hP 0 rfl rfl 1 (by decide) (hts _ kw_X5_openOnly_2) (fun _ h9 => h9) rfl dX5_openOnly_23 ?_
      refine lv_iload_n hx hb dX5_openOnly_26 rfl (lv_at hl 2 rfl) ?_
      obtain ⟨r13, er13, hf⟩ := fp_b hf
      refine RoI.callV (c_X2_doorCell (l := l) (D := D) (cI := cI) (cJ := cJ) (cZ := cZ) (cQ := cQ) (qs := qs) er13) F (cwV 1 hts gX5_openOnly_X2_doorCell rfl rfl rfl yd_X2_doorCell ⟨Nat.le_of_ble_eq_true rfl, Nat.le_of_ble_eq_true rfl⟩) (hG.r hS) hP [1, 2] rfl 2 rfl rfl rfl hl.1 rfl (Nat.le_of_ble_eq_true rfl) dX5_openOnly_27 ⟨Nat.zero_le _, Nat.zero_le _⟩ ?_
      refine lv_iload_n hx hb dX5_openOnly_30 rfl (lv_at hl 1 rfl) ?_
      refine lv_iload_n hx hb dX5_openOnly_31 rfl (lv_at hl 2 rfl) ?_
      refine lv_ishr hx hb dX5_openOnly_32 ?_
      refine lv_iconst (v := (1 : Int32)) hx hb dX5_openOnly_33 (by decide) ?_
      refine lv_iand hx hb dX5_openOnly_34 ?_
      refine lv_iconst (v := (1 : Int32)) hx hb dX5_openOnly_35 (by decide) ?_
      obtain ⟨j14, ej14, hf⟩ := fp_b hf
      have hj15 : ∀ (H : Heap) (locs : List Loc) (ls : Array Slot), va_P D vwCl [(hMs, .inr (5, [.ref hTo, .ref hRmR, .ref hRmT, .ref hPa, .ref hWa, .ref hBe])), (hRmR, .inr (2, [.ref hKdR, .int coR, .int roR])), (hKdR, .inl (cI, 20, .inl kdR)), (hRmT, .inr (2, [.ref hKdT, .int coT, .int roT])), (hKdT, .inl (cI, 20, .inl kdT))] H → va_D A [(hMs, .inr (5, [.ref hTo, .ref hRmR, .ref hRmT, .ref hPa, .ref hWa, .ref hBe])), (hRmR, .inr (2, [.ref hKdR, .int coR, .int roR])), (hKdR, .inl (cI, 20, .inl kdR)), (hRmT, .inr (2, [.ref hKdT, .int coT, .int roT])), (hKdT, .inl (cI, 20, .inl kdT))] → va_S A s.heap H locs → lv_has ls 3 [(0, .ref hMs), (1, .int y1), (2, .int y2)] → W p l e { frames := 3, cells := 0, slots := 0, locals := 81 } s m args below meth c H locs 0 0 Q (F0 m 46 ls [.int j14, .int r13, .ref hRmT]) := by
        intro H locs ls hP hD hS hl
        obtain ⟨r16, er16, hf⟩ := fp_b hf
        refine kc_rwV (w2 := [(hMs, .inr (5, [.ref hTo, .ref hRmR, .ref hRmT, .ref hPa, .ref hWa, .ref hBe])), (hRmR, .inr (2, [.ref hKdR, .int coR, .int roR])), (hKdR, .inl (cI, 20, .inl kdR)), (hRmT, .inr (2, [.ref hKdT, .int coT, .int roT])), (hKdT, .inl (cI, 20, .inl r16))]) (RwV.runV (c_X2_tell (l := l) (D := D) (cI := cI) (cJ := cJ) (cZ := cZ) (cQ := cQ) (qs := qs) er16) F (cwV 2 hts gX5_openOnly_X2_tell rfl rfl rfl yd_X2_tell ⟨Nat.le_of_ble_eq_true rfl, Nat.le_of_ble_eq_true rfl⟩) hG hP hD hS hA [3, 4] (by decide) rfl 2 rfl rfl rfl hl.1 rfl (Nat.le_of_ble_eq_true rfl) dX5_openOnly_46 ⟨Nat.zero_le _, Nat.zero_le _⟩) hP hD hS hA [3, 4] [0, 1, 2] [0, 1, 2, 3, 4] rfl (wr := [(hMs, .inr (5, [.ref hTo, .ref hRmR, .ref hRmT, .ref hPa, .ref hWa, .ref hBe])), (hRmR, .inr (2, [.ref hKdR, .int coR, .int roR])), (hKdR, .inl (cI, 20, .inl kdR))]) rfl (by decide) (by decide) rfl (by decide) (fun H locs hP hD hS => ?_)
        refine lv_iinc (v := (y2 + (1 : Int32))) (lv' := [(2, .int (y2 + (1 : Int32))), (0, .ref hMs), (1, .int y1)]) hx hb dX5_openOnly_49 hl (k := 2) rfl rfl (by decide) rfl (fun ls hl => ?_)
        refine lv_goto (tgt := 13) hx hb dX5_openOnly_52 (by decide) ?_
        cases hf
        exact ih _ (fp_inl ho) hP hD hS (lv_sub hl [1, 2, 0] rfl) hex
      replace hf := ej14
      refine lv_icmp_ne (tgt := 44) hx hb dX5_openOnly_36 (by decide) (fun c17 => ?_) (fun c17 => ?_)
      · have hf := fp_f hf c17
        refine lv_bipush (v := (7 : Int32)) hx hb dX5_openOnly_44 (by decide) ?_
        cases hf
        exact hj15 _ _ _ hP hD hS (lv_sub hl [0, 1, 2] rfl)
      · have hf := fp_t hf c17
        refine lv_bipush (v := (6 : Int32)) hx hb dX5_openOnly_39 (by decide) ?_
        refine lv_goto (tgt := 46) hx hb dX5_openOnly_41 (by decide) ?_
        cases hf
        exact hj15 _ _ _ hP hD hS (lv_sub hl [0, 1, 2] rfl)
def f_X5_openOnly (coR : Int32) (roR : Int32) (kdR : Nat → Int32) (coT : Int32) (roT : Int32) (kdT : Nat → Int32) (x1 : Int32) : Option (Int32 × Int32 × (Nat → Int32)) :=
  Option.bind (f_X2_become coT roT kdT coR roR kdR) (fun r11 => Option.bind (lpf (fun s => f_X5_openOnly_13 coR roR kdR r11.1 r11.2.1 x1 s.1 s.2) 1000 ((0 : Int32), r11.2.2)) (fun o18 => some (r11.1, r11.2.1, o18)))
set_option maxHeartbeats 4000000 in
set_option maxRecDepth 100000 in
theorem b_X5_openOnly {p : Program} {l : Launch} {e : Env} {s : State} {m : MethodId} {args : Array Value} {below : List Frame} {meth : Method} {c : Code} {Q : State → Prop} {A : Nat → Prop} {H : Heap} {locs : List Loc} {D : va_G} {cI cJ cZ cQ : ClassId} {qs : Nat × Nat × Nat} {hMs hTo hRmR hRmT hPa hWa hBe hKdR hKdT : Nat} {coR : Int32} {roR : Int32} {kdR : Nat → Int32} {coT : Int32} {roT : Int32} {kdT : Nat → Int32} {x1 : Int32} {out : Int32 × Int32 × (Nat → Int32)} (F : CallFix p m c cX5_openOnly 3 s args wsX5_openOnly RX5) (hG : kW D (ty4 cI cJ cZ cQ) qs A s s.heap) (hA : ∀ q : Nat, s.heap.size ≤ q → A q) (hP : va_P D vwCl [(hMs, .inr (5, [.ref hTo, .ref hRmR, .ref hRmT, .ref hPa, .ref hWa, .ref hBe])), (hRmR, .inr (2, [.ref hKdR, .int coR, .int roR])), (hKdR, .inl (cI, 20, .inl kdR)), (hRmT, .inr (2, [.ref hKdT, .int coT, .int roT])), (hKdT, .inl (cI, 20, .inl kdT))] H) (hD : va_D A [(hMs, .inr (5, [.ref hTo, .ref hRmR, .ref hRmT, .ref hPa, .ref hWa, .ref hBe])), (hRmR, .inr (2, [.ref hKdR, .int coR, .int roR])), (hKdR, .inl (cI, 20, .inl kdR)), (hRmT, .inr (2, [.ref hKdT, .int coT, .int roT])), (hKdT, .inl (cI, 20, .inl kdT))]) (hS : va_S A s.heap H locs) (hf : f_X5_openOnly coR roR kdR coT roT kdT x1 = some out) (hret : ∀ (pc : Nat) (H : Heap) (locs : List Loc) (ls : Array Slot), decode cX5_openOnly pc = .ok (.return_, 1) → va_P D vwCl [(hMs, .inr (5, [.ref hTo, .ref hRmR, .ref hRmT, .ref hPa, .ref hWa, .ref hBe])), (hRmR, .inr (2, [.ref hKdR, .int coR, .int roR])), (hKdR, .inl (cI, 20, .inl kdR)), (hRmT, .inr (2, [.ref hKdT, .int out.1, .int out.2.1])), (hKdT, .inl (cI, 20, .inl out.2.2))] H → va_D A [(hMs, .inr (5, [.ref hTo, .ref hRmR, .ref hRmT, .ref hPa, .ref hWa, .ref hBe])), (hRmR, .inr (2, [.ref hKdR, .int coR, .int roR])), (hKdR, .inl (cI, 20, .inl kdR)), (hRmT, .inr (2, [.ref hKdT, .int out.1, .int out.2.1])), (hKdT, .inl (cI, 20, .inl out.2.2))] → va_S A s.heap H locs → W p l e { frames := 3, cells := 0, slots := 0, locals := 81 } s m args below meth c H locs 0 0 Q (F0 m pc ls [])) {ls : Array Slot} (hl : lv_has ls 3 [(0, .ref hMs), (1, .int x1)]) : W p l e { frames := 3, cells := 0, slots := 0, locals := 81 } s m args below meth c H locs 0 0 Q (F0 m 0 ls []) := by
  have hx := F.1
  have hb := F.2.1
  have hown := F.2.2.2.1
  have hts := F.2.2.2.2
  have hK := hG.1.1
  rw [f_X5_openOnly] at hf
  refine lv_aload_n hx hb dX5_openOnly_0 rfl (lv_at hl 0 rfl) ?_
  refine va_get (D := D) (ci := 5) (v := .ref hRmT) (C := RX5) (T := TX5) (N := 6) hx hb hts ku_X5_openOnly_X5 hown hK hP 0 rfl rfl 2 (by decide) (hts _ kw_X5_openOnly_1) (fun _ h9 => h9) rfl dX5_openOnly_1 ?_
  refine lv_aload_n hx hb dX5_openOnly_4 rfl (lv_at hl 0 rfl) ?_
  refine va_get (D := D) (ci := 5) (v := .ref hRmR) (C := RX5) (T := TX5) (N := 6) hx hb hts ku_X5_openOnly_X5 hown hK hP 0 rfl rfl 1 (by decide) (hts _ kw_X5_openOnly_2) (fun _ h9 => h9) rfl dX5_openOnly_5 ?_
  obtain ⟨r11, er11, hf⟩ := fp_b hf
  refine kc_rwV (w2 := [(hMs, .inr (5, [.ref hTo, .ref hRmR, .ref hRmT, .ref hPa, .ref hWa, .ref hBe])), (hRmR, .inr (2, [.ref hKdR, .int coR, .int roR])), (hKdR, .inl (cI, 20, .inl kdR)), (hRmT, .inr (2, [.ref hKdT, .int r11.1, .int r11.2.1])), (hKdT, .inl (cI, 20, .inl r11.2.2))]) (RwV.runV (c_X2_become (l := l) (D := D) (cI := cI) (cJ := cJ) (cZ := cZ) (cQ := cQ) (qs := qs) er11) F (cwV 1 hts gX5_openOnly_X2_become rfl rfl rfl yd_X2_become ⟨Nat.le_of_ble_eq_true rfl, Nat.le_of_ble_eq_true rfl⟩) hG hP hD hS hA [3, 4, 1, 2] (by decide) rfl 2 rfl rfl rfl hl.1 rfl (Nat.le_of_ble_eq_true rfl) dX5_openOnly_8 ⟨Nat.zero_le _, Nat.zero_le _⟩) hP hD hS hA [3, 4, 1, 2] [0] [0, 3, 4, 1, 2] rfl (wr := [(hMs, .inr (5, [.ref hTo, .ref hRmR, .ref hRmT, .ref hPa, .ref hWa, .ref hBe]))]) rfl (by decide) (by decide) rfl (by decide) (fun H locs hP hD hS => ?_)
  refine lv_iconst (v := (0 : Int32)) hx hb dX5_openOnly_11 (by decide) ?_
  refine lv_istore_n (lv' := [(2, .int (0 : Int32)), (0, .ref hMs), (1, .int x1)]) hx hb dX5_openOnly_12 rfl hl (by decide) rfl (fun ls hl => ?_)
  obtain ⟨o18, eo18, hf⟩ := fp_b hf
  refine lp_X5_openOnly_13 F hG hA _ _ eo18 hP hD hS (lv_sub hl [1, 2, 0] rfl) (fun H locs ls hP hD hS hl => ?_)
  cases hf
  exact hret _ _ _ _ dX5_openOnly_55 hP hD hS
set_option maxRecDepth 100000 in
theorem c_X5_openOnly {l : Launch} {D : va_G} {cI cJ cZ cQ : ClassId} {qs : Nat × Nat × Nat} {hMs hTo hRmR hRmT hPa hWa hBe hKdR hKdT : Nat} {coR : Int32} {roR : Int32} {kdR : Nat → Int32} {coT : Int32} {roT : Int32} {kdT : Nat → Int32} {x1 : Int32} {out : Int32 × Int32 × (Nat → Int32)} (hf : f_X5_openOnly coR roR kdR coT roT kdT x1 = some out) : RwV l yX5_openOnly wsX5_openOnly { frames := 3, cells := 0, slots := 0, locals := 81 } D (ty4 cI cJ cZ cQ) qs [.ref hMs, .int x1] [(hMs, .inr (5, [.ref hTo, .ref hRmR, .ref hRmT, .ref hPa, .ref hWa, .ref hBe])), (hRmR, .inr (2, [.ref hKdR, .int coR, .int roR])), (hKdR, .inl (cI, 20, .inl kdR)), (hRmT, .inr (2, [.ref hKdT, .int coT, .int roT])), (hKdT, .inl (cI, 20, .inl kdT))] [(hMs, .inr (5, [.ref hTo, .ref hRmR, .ref hRmT, .ref hPa, .ref hWa, .ref hBe])), (hRmR, .inr (2, [.ref hKdR, .int coR, .int roR])), (hKdR, .inl (cI, 20, .inl kdR)), (hRmT, .inr (2, [.ref hKdT, .int out.1, .int out.2.1])), (hKdT, .inl (cI, 20, .inl out.2.2))] :=
  RwV.of (own := RX5) (by decide +kernel) rfl rfl (Nat.le_of_ble_eq_true rfl) (fun F hG hA hP hD hS hret ls hl => b_X5_openOnly F hG hA hP hD hS hf hret hl)
-- method X5_write
theorem yd_X5_write : yX5_write.cls = RX5 ∧ yX5_write.cls ≠ "java/lang/invoke/MethodHandle" ∧ yX5_write.cls ≠ "java/lang/invoke/VarHandle" ∧ (parseMethodDescriptor yX5_write.desc).map (fun d => d.parameters.length) = some 1 := by decide +kernel
theorem ku_X5_write_X5 : ∀ w ∈ u_ws RX5 TX5 6, w ∈ wsX5_write := by decide +kernel
theorem kw_X5_write_1 : Cond.fieldLink RX5 12 "MirrorShares" "text" "LMirrorShares$Told;" ∈ wsX5_write := List.mem_of_getElem? (i := 1) rfl
def f_X5_write (tn : Int32) (tl : Nat → Int32) (x1 : Int32) : Option (Int32 × Int32 × (Nat → Int32)) :=
  (if x1 < (32 : Int32) then some ((-1 : Int32), tn, tl) else (if x1 ≤ (126 : Int32) then Option.bind (f_X3_append tn tl x1) (fun r21 => some (r21.1, r21.2.1, r21.2.2)) else some ((-1 : Int32), tn, tl)))
set_option maxHeartbeats 4000000 in
set_option maxRecDepth 100000 in
theorem b_X5_write {p : Program} {l : Launch} {e : Env} {s : State} {m : MethodId} {args : Array Value} {below : List Frame} {meth : Method} {c : Code} {Q : State → Prop} {A : Nat → Prop} {H : Heap} {locs : List Loc} {D : va_G} {cI cJ cZ cQ : ClassId} {qs : Nat × Nat × Nat} {hMs hTo hRmR hRmT hPa hWa hBe hTl : Nat} {tn : Int32} {tl : Nat → Int32} {x1 : Int32} {out : Int32 × Int32 × (Nat → Int32)} (F : CallFix p m c cX5_write 2 s args wsX5_write RX5) (hG : kW D (ty4 cI cJ cZ cQ) qs A s s.heap) (hA : ∀ q : Nat, s.heap.size ≤ q → A q) (hP : va_P D vwCl [(hMs, .inr (5, [.ref hTo, .ref hRmR, .ref hRmT, .ref hPa, .ref hWa, .ref hBe])), (hTo, .inr (3, [.ref hTl, .int tn])), (hTl, .inl (cI, 60, .inl tl))] H) (hD : va_D A [(hMs, .inr (5, [.ref hTo, .ref hRmR, .ref hRmT, .ref hPa, .ref hWa, .ref hBe])), (hTo, .inr (3, [.ref hTl, .int tn])), (hTl, .inl (cI, 60, .inl tl))]) (hS : va_S A s.heap H locs) (hf : f_X5_write tn tl x1 = some out) (hret : ∀ (pc : Nat) (H : Heap) (locs : List Loc) (ls : Array Slot), decode cX5_write pc = .ok (.ireturn, 1) → narrow .int (.int out.1) = .int out.1 → va_P D vwCl [(hMs, .inr (5, [.ref hTo, .ref hRmR, .ref hRmT, .ref hPa, .ref hWa, .ref hBe])), (hTo, .inr (3, [.ref hTl, .int out.2.1])), (hTl, .inl (cI, 60, .inl out.2.2))] H → va_D A [(hMs, .inr (5, [.ref hTo, .ref hRmR, .ref hRmT, .ref hPa, .ref hWa, .ref hBe])), (hTo, .inr (3, [.ref hTl, .int out.2.1])), (hTl, .inl (cI, 60, .inl out.2.2))] → va_S A s.heap H locs → W p l e { frames := 1, cells := 0, slots := 0, locals := 21 } s m args below meth c H locs 0 0 Q (F0 m pc ls [.int out.1])) {ls : Array Slot} (hl : lv_has ls 2 [(0, .ref hMs), (1, .int x1)]) : W p l e { frames := 1, cells := 0, slots := 0, locals := 21 } s m args below meth c H locs 0 0 Q (F0 m 0 ls []) := by
  have hx := F.1
  have hb := F.2.1
  have hown := F.2.2.2.1
  have hts := F.2.2.2.2
  have hK := hG.1.1
  rw [f_X5_write] at hf
  refine lv_iload_n hx hb dX5_write_0 rfl (lv_at hl 1 rfl) ?_
  refine lv_bipush (v := (32 : Int32)) hx hb dX5_write_1 (by decide) ?_
  refine lv_icmp_lt (tgt := 12) hx hb dX5_write_3 (by decide) (fun c19 => ?_) (fun c19 => ?_)
  · have hf := fp_t hf c19
    refine lv_iconst (v := (-1 : Int32)) hx hb dX5_write_12 (by decide) ?_
    cases hf
    exact hret _ _ _ _ dX5_write_13 (vp_nar_int _) hP hD hS
  · have hf := fp_f hf c19
    refine lv_iload_n hx hb dX5_write_6 rfl (lv_at hl 1 rfl) ?_
    refine lv_bipush (v := (126 : Int32)) hx hb dX5_write_7 (by decide) ?_
    refine lv_icmp_le (tgt := 14) hx hb dX5_write_9 (by decide) (fun c20 => ?_) (fun c20 => ?_)
    · have hf := fp_t hf c20
      refine lv_aload_n hx hb dX5_write_14 rfl (lv_at hl 0 rfl) ?_
      refine va_get (D := D) (ci := 5) (v := .ref hTo) (C := RX5) (T := TX5) (N := 6) hx hb hts ku_X5_write_X5 hown hK hP 0 rfl rfl 0 (by decide) (hts _ kw_X5_write_1) (fun _ h9 => h9) rfl dX5_write_15 ?_
      refine lv_iload_n hx hb dX5_write_18 rfl (lv_at hl 1 rfl) ?_
      obtain ⟨r21, er21, hf⟩ := fp_b hf
      refine kc_rwI (w2 := [(hMs, .inr (5, [.ref hTo, .ref hRmR, .ref hRmT, .ref hPa, .ref hWa, .ref hBe])), (hTo, .inr (3, [.ref hTl, .int r21.2.1])), (hTl, .inl (cI, 60, .inl r21.2.2))]) (RwI.runV (c_X3_append (l := l) (D := D) (cI := cI) (cJ := cJ) (cZ := cZ) (cQ := cQ) (qs := qs) er21) F (cwV 1 hts gX5_write_X3_append rfl rfl rfl yd_X3_append ⟨Nat.le_of_ble_eq_true rfl, Nat.le_of_ble_eq_true rfl⟩) hG hP hD hS hA [1, 2] (by decide) rfl 3 rfl rfl rfl hl.1 rfl (Nat.le_of_ble_eq_true rfl) dX5_write_19 ⟨Nat.zero_le _, Nat.zero_le _⟩) hP hD hS hA [1, 2] [0] [0, 1, 2] rfl (wr := [(hMs, .inr (5, [.ref hTo, .ref hRmR, .ref hRmT, .ref hPa, .ref hWa, .ref hBe]))]) rfl (by decide) (by decide) rfl (by decide) (fun H locs hP hD hS => ?_)
      cases hf
      exact hret _ _ _ _ dX5_write_22 (vp_nar_int _) hP hD hS
    · have hf := fp_f hf c20
      refine lv_iconst (v := (-1 : Int32)) hx hb dX5_write_12 (by decide) ?_
      cases hf
      exact hret _ _ _ _ dX5_write_13 (vp_nar_int _) hP hD hS
set_option maxRecDepth 100000 in
theorem c_X5_write {l : Launch} {D : va_G} {cI cJ cZ cQ : ClassId} {qs : Nat × Nat × Nat} {hMs hTo hRmR hRmT hPa hWa hBe hTl : Nat} {tn : Int32} {tl : Nat → Int32} {x1 : Int32} {out : Int32 × Int32 × (Nat → Int32)} (hf : f_X5_write tn tl x1 = some out) : RwI l yX5_write wsX5_write { frames := 1, cells := 0, slots := 0, locals := 21 } D (ty4 cI cJ cZ cQ) qs [.ref hMs, .int x1] [(hMs, .inr (5, [.ref hTo, .ref hRmR, .ref hRmT, .ref hPa, .ref hWa, .ref hBe])), (hTo, .inr (3, [.ref hTl, .int tn])), (hTl, .inl (cI, 60, .inl tl))] [(hMs, .inr (5, [.ref hTo, .ref hRmR, .ref hRmT, .ref hPa, .ref hWa, .ref hBe])), (hTo, .inr (3, [.ref hTl, .int out.2.1])), (hTl, .inl (cI, 60, .inl out.2.2))] out.1 :=
  RwI.of (own := RX5) (by decide +kernel) rfl rfl (Nat.le_of_ble_eq_true rfl) (fun F hG hA hP hD hS hret ls hl => b_X5_write F hG hA hP hD hS hf hret hl)
-- method X5_wipe
theorem yd_X5_wipe : yX5_wipe.cls = RX5 ∧ yX5_wipe.cls ≠ "java/lang/invoke/MethodHandle" ∧ yX5_wipe.cls ≠ "java/lang/invoke/VarHandle" ∧ (parseMethodDescriptor yX5_wipe.desc).map (fun d => d.parameters.length) = some 0 := by decide +kernel
theorem ku_X5_wipe_X5 : ∀ w ∈ u_ws RX5 TX5 6, w ∈ wsX5_wipe := by decide +kernel
theorem kw_X5_wipe_1 : Cond.fieldLink RX5 12 "MirrorShares" "text" "LMirrorShares$Told;" ∈ wsX5_wipe := List.mem_of_getElem? (i := 1) rfl
def f_X5_wipe (tn : Int32) : Option (Int32 × Int32) :=
  Option.bind (f_X3_clear tn) (fun r22 => some (r22.1, r22.2))
set_option maxHeartbeats 4000000 in
set_option maxRecDepth 100000 in
theorem b_X5_wipe {p : Program} {l : Launch} {e : Env} {s : State} {m : MethodId} {args : Array Value} {below : List Frame} {meth : Method} {c : Code} {Q : State → Prop} {A : Nat → Prop} {H : Heap} {locs : List Loc} {D : va_G} {cI cJ cZ cQ : ClassId} {qs : Nat × Nat × Nat} {hMs hTo hRmR hRmT hPa hWa hBe hTl : Nat} {tn : Int32} {out : Int32 × Int32} (F : CallFix p m c cX5_wipe 1 s args wsX5_wipe RX5) (hG : kW D (ty4 cI cJ cZ cQ) qs A s s.heap) (hA : ∀ q : Nat, s.heap.size ≤ q → A q) (hP : va_P D vwCl [(hMs, .inr (5, [.ref hTo, .ref hRmR, .ref hRmT, .ref hPa, .ref hWa, .ref hBe])), (hTo, .inr (3, [.ref hTl, .int tn]))] H) (hD : va_D A [(hMs, .inr (5, [.ref hTo, .ref hRmR, .ref hRmT, .ref hPa, .ref hWa, .ref hBe])), (hTo, .inr (3, [.ref hTl, .int tn]))]) (hS : va_S A s.heap H locs) (hf : f_X5_wipe tn = some out) (hret : ∀ (pc : Nat) (H : Heap) (locs : List Loc) (ls : Array Slot), decode cX5_wipe pc = .ok (.ireturn, 1) → narrow .int (.int out.1) = .int out.1 → va_P D vwCl [(hMs, .inr (5, [.ref hTo, .ref hRmR, .ref hRmT, .ref hPa, .ref hWa, .ref hBe])), (hTo, .inr (3, [.ref hTl, .int out.2]))] H → va_D A [(hMs, .inr (5, [.ref hTo, .ref hRmR, .ref hRmT, .ref hPa, .ref hWa, .ref hBe])), (hTo, .inr (3, [.ref hTl, .int out.2]))] → va_S A s.heap H locs → W p l e { frames := 1, cells := 0, slots := 0, locals := 21 } s m args below meth c H locs 0 0 Q (F0 m pc ls [.int out.1])) {ls : Array Slot} (hl : lv_has ls 1 [(0, .ref hMs)]) : W p l e { frames := 1, cells := 0, slots := 0, locals := 21 } s m args below meth c H locs 0 0 Q (F0 m 0 ls []) := by
  have hx := F.1
  have hb := F.2.1
  have hown := F.2.2.2.1
  have hts := F.2.2.2.2
  have hK := hG.1.1
  rw [f_X5_wipe] at hf
  refine lv_aload_n hx hb dX5_wipe_0 rfl (lv_at hl 0 rfl) ?_
  refine va_get (D := D) (ci := 5) (v := .ref hTo) (C := RX5) (T := TX5) (N := 6) hx hb hts ku_X5_wipe_X5 hown hK hP 0 rfl rfl 0 (by decide) (hts _ kw_X5_wipe_1) (fun _ h9 => h9) rfl dX5_wipe_1 ?_
  obtain ⟨r22, er22, hf⟩ := fp_b hf
  refine kc_rwI (w2 := [(hMs, .inr (5, [.ref hTo, .ref hRmR, .ref hRmT, .ref hPa, .ref hWa, .ref hBe])), (hTo, .inr (3, [.ref hTl, .int r22.2]))]) (RwI.runV (c_X3_clear (l := l) (D := D) (cI := cI) (cJ := cJ) (cZ := cZ) (cQ := cQ) (qs := qs) er22) F (cwV 0 hts gX5_wipe_X3_clear rfl rfl rfl yd_X3_clear ⟨Nat.le_of_ble_eq_true rfl, Nat.le_of_ble_eq_true rfl⟩) hG hP hD hS hA [1] (by decide) rfl 3 rfl rfl rfl hl.1 rfl (Nat.le_of_ble_eq_true rfl) dX5_wipe_4 ⟨Nat.zero_le _, Nat.zero_le _⟩) hP hD hS hA [1] [0] [0, 1] rfl (wr := [(hMs, .inr (5, [.ref hTo, .ref hRmR, .ref hRmT, .ref hPa, .ref hWa, .ref hBe]))]) rfl (by decide) (by decide) rfl (by decide) (fun H locs hP hD hS => ?_)
  cases hf
  exact hret _ _ _ _ dX5_wipe_7 (vp_nar_int _) hP hD hS
set_option maxRecDepth 100000 in
theorem c_X5_wipe {l : Launch} {D : va_G} {cI cJ cZ cQ : ClassId} {qs : Nat × Nat × Nat} {hMs hTo hRmR hRmT hPa hWa hBe hTl : Nat} {tn : Int32} {out : Int32 × Int32} (hf : f_X5_wipe tn = some out) : RwI l yX5_wipe wsX5_wipe { frames := 1, cells := 0, slots := 0, locals := 21 } D (ty4 cI cJ cZ cQ) qs [.ref hMs] [(hMs, .inr (5, [.ref hTo, .ref hRmR, .ref hRmT, .ref hPa, .ref hWa, .ref hBe])), (hTo, .inr (3, [.ref hTl, .int tn]))] [(hMs, .inr (5, [.ref hTo, .ref hRmR, .ref hRmT, .ref hPa, .ref hWa, .ref hBe])), (hTo, .inr (3, [.ref hTl, .int out.2]))] out.1 :=
  RwI.of (own := RX5) (by decide +kernel) rfl rfl (Nat.le_of_ble_eq_true rfl) (fun F hG hA hP hD hS hret ls hl => b_X5_wipe F hG hA hP hD hS hf hret hl)
-- method X5_fault
theorem yd_X5_fault : yX5_fault.cls = RX5 ∧ yX5_fault.cls ≠ "java/lang/invoke/MethodHandle" ∧ yX5_fault.cls ≠ "java/lang/invoke/VarHandle" ∧ (parseMethodDescriptor yX5_fault.desc).map (fun d => d.parameters.length) = some 0 := by decide +kernel
theorem ku_X5_fault_X5 : ∀ w ∈ u_ws RX5 TX5 6, w ∈ wsX5_fault := by decide +kernel
theorem kw_X5_fault_1 : Cond.fieldLink RX5 12 "MirrorShares" "text" "LMirrorShares$Told;" ∈ wsX5_fault := List.mem_of_getElem? (i := 1) rfl
theorem kw_X5_fault_2 : Cond.fieldLink RX5 23 "MirrorShares" "trial" "LMirrorShares$Room;" ∈ wsX5_fault := List.mem_of_getElem? (i := 2) rfl
def f_X5_fault (coT : Int32) (roT : Int32) (kdT : Nat → Int32) (tn : Int32) (tl : Nat → Int32) : Option (Int32 × Int32 × Int32 × (Nat → Int32)) :=
  Option.bind (f_X3_readInto coT roT kdT tn tl) (fun r23 => some (r23.1, r23.2.1, r23.2.2.1, r23.2.2.2))
set_option maxHeartbeats 4000000 in
set_option maxRecDepth 100000 in
theorem b_X5_fault {p : Program} {l : Launch} {e : Env} {s : State} {m : MethodId} {args : Array Value} {below : List Frame} {meth : Method} {c : Code} {Q : State → Prop} {A : Nat → Prop} {H : Heap} {locs : List Loc} {D : va_G} {cI cJ cZ cQ : ClassId} {qs : Nat × Nat × Nat} {hMs hTo hRmR hRmT hPa hWa hBe hKdT hTl : Nat} {coT : Int32} {roT : Int32} {kdT : Nat → Int32} {tn : Int32} {tl : Nat → Int32} {out : Int32 × Int32 × Int32 × (Nat → Int32)} (F : CallFix p m c cX5_fault 1 s args wsX5_fault RX5) (hG : kW D (ty4 cI cJ cZ cQ) qs A s s.heap) (hA : ∀ q : Nat, s.heap.size ≤ q → A q) (hP : va_P D vwCl [(hMs, .inr (5, [.ref hTo, .ref hRmR, .ref hRmT, .ref hPa, .ref hWa, .ref hBe])), (hRmT, .inr (2, [.ref hKdT, .int coT, .int roT])), (hKdT, .inl (cI, 20, .inl kdT)), (hTo, .inr (3, [.ref hTl, .int tn])), (hTl, .inl (cI, 60, .inl tl))] H) (hD : va_D A [(hMs, .inr (5, [.ref hTo, .ref hRmR, .ref hRmT, .ref hPa, .ref hWa, .ref hBe])), (hRmT, .inr (2, [.ref hKdT, .int coT, .int roT])), (hKdT, .inl (cI, 20, .inl kdT)), (hTo, .inr (3, [.ref hTl, .int tn])), (hTl, .inl (cI, 60, .inl tl))]) (hS : va_S A s.heap H locs) (hf : f_X5_fault coT roT kdT tn tl = some out) (hret : ∀ (pc : Nat) (H : Heap) (locs : List Loc) (ls : Array Slot), decode cX5_fault pc = .ok (.ireturn, 1) → narrow .int (.int out.1) = .int out.1 → va_P D vwCl [(hMs, .inr (5, [.ref hTo, .ref hRmR, .ref hRmT, .ref hPa, .ref hWa, .ref hBe])), (hRmT, .inr (2, [.ref hKdT, .int out.2.1, .int out.2.2.1])), (hKdT, .inl (cI, 20, .inl out.2.2.2)), (hTo, .inr (3, [.ref hTl, .int tn])), (hTl, .inl (cI, 60, .inl tl))] H → va_D A [(hMs, .inr (5, [.ref hTo, .ref hRmR, .ref hRmT, .ref hPa, .ref hWa, .ref hBe])), (hRmT, .inr (2, [.ref hKdT, .int out.2.1, .int out.2.2.1])), (hKdT, .inl (cI, 20, .inl out.2.2.2)), (hTo, .inr (3, [.ref hTl, .int tn])), (hTl, .inl (cI, 60, .inl tl))] → va_S A s.heap H locs → W p l e { frames := 6, cells := 0, slots := 0, locals := 177 } s m args below meth c H locs 0 0 Q (F0 m pc ls [.int out.1])) {ls : Array Slot} (hl : lv_has ls 1 [(0, .ref hMs)]) : W p l e { frames := 6, cells := 0, slots := 0, locals := 177 } s m args below meth c H locs 0 0 Q (F0 m 0 ls []) := by
  have hx := F.1
  have hb := F.2.1
  have hown := F.2.2.2.1
  have hts := F.2.2.2.2
  have hK := hG.1.1
  rw [f_X5_fault] at hf
  refine lv_aload_n hx hb dX5_fault_0 rfl (lv_at hl 0 rfl) ?_
  refine va_get (D := D) (ci := 5) (v := .ref hTo) (C := RX5) (T := TX5) (N := 6) hx hb hts ku_X5_fault_X5 hown hK hP 0 rfl rfl 0 (by decide) (hts _ kw_X5_fault_1) (fun _ h9 => h9) rfl dX5_fault_1 ?_
  refine lv_aload_n hx hb dX5_fault_4 rfl (lv_at hl 0 rfl) ?_
  refine va_get (D := D) (ci := 5) (v := .ref hRmT) (C := RX5) (T := TX5) (N := 6) hx hb hts ku_X5_fault_X5 hown hK hP 0 rfl rfl 2 (by decide) (hts _ kw_X5_fault_2) (fun _ h9 => h9) rfl dX5_fault_5 ?_
  obtain ⟨r23, er23, hf⟩ := fp_b hf
  refine kc_rwI (w2 := [(hMs, .inr (5, [.ref hTo, .ref hRmR, .ref hRmT, .ref hPa, .ref hWa, .ref hBe])), (hRmT, .inr (2, [.ref hKdT, .int r23.2.1, .int r23.2.2.1])), (hKdT, .inl (cI, 20, .inl r23.2.2.2)), (hTo, .inr (3, [.ref hTl, .int tn])), (hTl, .inl (cI, 60, .inl tl))]) (RwI.runV (c_X3_readInto (l := l) (D := D) (cI := cI) (cJ := cJ) (cZ := cZ) (cQ := cQ) (qs := qs) er23) F (cwV 1 hts gX5_fault_X3_readInto rfl rfl rfl yd_X3_readInto ⟨Nat.le_of_ble_eq_true rfl, Nat.le_of_ble_eq_true rfl⟩) hG hP hD hS hA [3, 1, 2, 4] (by decide) rfl 3 rfl rfl rfl hl.1 rfl (Nat.le_of_ble_eq_true rfl) dX5_fault_8 ⟨Nat.zero_le _, Nat.zero_le _⟩) hP hD hS hA [3, 1, 2, 4] [0] [0, 2, 3, 1, 4] rfl (wr := [(hMs, .inr (5, [.ref hTo, .ref hRmR, .ref hRmT, .ref hPa, .ref hWa, .ref hBe]))]) rfl (by decide) (by decide) rfl (by decide) (fun H locs hP hD hS => ?_)
  cases hf
  exact hret _ _ _ _ dX5_fault_11 (vp_nar_int _) hP hD hS
set_option maxRecDepth 100000 in
theorem c_X5_fault {l : Launch} {D : va_G} {cI cJ cZ cQ : ClassId} {qs : Nat × Nat × Nat} {hMs hTo hRmR hRmT hPa hWa hBe hKdT hTl : Nat} {coT : Int32} {roT : Int32} {kdT : Nat → Int32} {tn : Int32} {tl : Nat → Int32} {out : Int32 × Int32 × Int32 × (Nat → Int32)} (hf : f_X5_fault coT roT kdT tn tl = some out) : RwI l yX5_fault wsX5_fault { frames := 6, cells := 0, slots := 0, locals := 177 } D (ty4 cI cJ cZ cQ) qs [.ref hMs] [(hMs, .inr (5, [.ref hTo, .ref hRmR, .ref hRmT, .ref hPa, .ref hWa, .ref hBe])), (hRmT, .inr (2, [.ref hKdT, .int coT, .int roT])), (hKdT, .inl (cI, 20, .inl kdT)), (hTo, .inr (3, [.ref hTl, .int tn])), (hTl, .inl (cI, 60, .inl tl))] [(hMs, .inr (5, [.ref hTo, .ref hRmR, .ref hRmT, .ref hPa, .ref hWa, .ref hBe])), (hRmT, .inr (2, [.ref hKdT, .int out.2.1, .int out.2.2.1])), (hKdT, .inl (cI, 20, .inl out.2.2.2)), (hTo, .inr (3, [.ref hTl, .int tn])), (hTl, .inl (cI, 60, .inl tl))] out.1 :=
  RwI.of (own := RX5) (by decide +kernel) rfl rfl (Nat.le_of_ble_eq_true rfl) (fun F hG hA hP hD hS hret ls hl => b_X5_fault F hG hA hP hD hS hf hret hl)
-- method X5_lay
theorem yd_X5_lay : yX5_lay.cls = RX5 ∧ yX5_lay.cls ≠ "java/lang/invoke/MethodHandle" ∧ yX5_lay.cls ≠ "java/lang/invoke/VarHandle" ∧ (parseMethodDescriptor yX5_lay.desc).map (fun d => d.parameters.length) = some 0 := by decide +kernel
theorem ku_X5_lay_X5 : ∀ w ∈ u_ws RX5 TX5 6, w ∈ wsX5_lay := by decide +kernel
theorem kw_X5_lay_1 : Cond.fieldLink RX5 12 "MirrorShares" "text" "LMirrorShares$Told;" ∈ wsX5_lay := List.mem_of_getElem? (i := 1) rfl
theorem kw_X5_lay_2 : Cond.fieldLink RX5 23 "MirrorShares" "trial" "LMirrorShares$Room;" ∈ wsX5_lay := List.mem_of_getElem? (i := 2) rfl
theorem ku_X5_lay_X2 : ∀ w ∈ u_ws RX2 TX2 3, w ∈ wsX5_lay := by decide +kernel
theorem kw_X5_lay_3 : Cond.fieldLink RX5 19 "MirrorShares" "room" "LMirrorShares$Room;" ∈ wsX5_lay := List.mem_of_getElem? (i := 3) rfl
theorem kw_X5_lay_4 : Cond.fieldLink RX5 29 "MirrorShares" "past" "LMirrorShares$Past;" ∈ wsX5_lay := List.mem_of_getElem? (i := 4) rfl
def f_X5_lay (coR : Int32) (roR : Int32) (kdR : Nat → Int32) (coT : Int32) (roT : Int32) (kdT : Nat → Int32) (tn : Int32) (tl : Nat → Int32) (pz : Int32) : Option (Int32 × Int32 × Int32 × (Nat → Int32) × Int32 × Int32 × (Nat → Int32) × Int32) :=
  Option.bind (f_X3_readInto coT roT kdT tn tl) (fun r24 => (if r24.1 = (-4 : Int32) then (if r24.2.2.1 = 0 then some ((-2 : Int32), coR, roR, kdR, r24.2.1, r24.2.2.1, r24.2.2.2, pz) else Option.bind (f_X2_become coR roR kdR r24.2.1 r24.2.2.1 r24.2.2.2) (fun r27 => Option.bind (f_X1_forget pz) (fun r28 => Option.bind (f_X2_cells r27.1 r27.2.1) (fun r29 => some (r29, r27.1, r27.2.1, r27.2.2, r24.2.1, r24.2.2.1, r24.2.2.2, r28))))) else some ((-2 : Int32), coR, roR, kdR, r24.2.1, r24.2.2.1, r24.2.2.2, pz)))
set_option maxHeartbeats 4000000 in
set_option maxRecDepth 100000 in
theorem b_X5_lay {p : Program} {l : Launch} {e : Env} {s : State} {m : MethodId} {args : Array Value} {below : List Frame} {meth : Method} {c : Code} {Q : State → Prop} {A : Nat → Prop} {H : Heap} {locs : List Loc} {D : va_G} {cI cJ cZ cQ : ClassId} {qs : Nat × Nat × Nat} {hMs hTo hRmR hRmT hPa hWa hBe hKdR hKdT hTl hPg : Nat} {coR : Int32} {roR : Int32} {kdR : Nat → Int32} {coT : Int32} {roT : Int32} {kdT : Nat → Int32} {tn : Int32} {tl : Nat → Int32} {pz : Int32} {out : Int32 × Int32 × Int32 × (Nat → Int32) × Int32 × Int32 × (Nat → Int32) × Int32} (F : CallFix p m c cX5_lay 1 s args wsX5_lay RX5) (hG : kW D (ty4 cI cJ cZ cQ) qs A s s.heap) (hA : ∀ q : Nat, s.heap.size ≤ q → A q) (hP : va_P D vwCl [(hMs, .inr (5, [.ref hTo, .ref hRmR, .ref hRmT, .ref hPa, .ref hWa, .ref hBe])), (hRmR, .inr (2, [.ref hKdR, .int coR, .int roR])), (hKdR, .inl (cI, 20, .inl kdR)), (hRmT, .inr (2, [.ref hKdT, .int coT, .int roT])), (hKdT, .inl (cI, 20, .inl kdT)), (hTo, .inr (3, [.ref hTl, .int tn])), (hTl, .inl (cI, 60, .inl tl)), (hPa, .inr (1, [.ref hPg, .int pz]))] H) (hD : va_D A [(hMs, .inr (5, [.ref hTo, .ref hRmR, .ref hRmT, .ref hPa, .ref hWa, .ref hBe])), (hRmR, .inr (2, [.ref hKdR, .int coR, .int roR])), (hKdR, .inl (cI, 20, .inl kdR)), (hRmT, .inr (2, [.ref hKdT, .int coT, .int roT])), (hKdT, .inl (cI, 20, .inl kdT)), (hTo, .inr (3, [.ref hTl, .int tn])), (hTl, .inl (cI, 60, .inl tl)), (hPa, .inr (1, [.ref hPg, .int pz]))]) (hS : va_S A s.heap H locs) (hf : f_X5_lay coR roR kdR coT roT kdT tn tl pz = some out) (hret : ∀ (pc : Nat) (H : Heap) (locs : List Loc) (ls : Array Slot), decode cX5_lay pc = .ok (.ireturn, 1) → narrow .int (.int out.1) = .int out.1 → va_P D vwCl [(hMs, .inr (5, [.ref hTo, .ref hRmR, .ref hRmT, .ref hPa, .ref hWa, .ref hBe])), (hRmR, .inr (2, [.ref hKdR, .int out.2.1, .int out.2.2.1])), (hKdR, .inl (cI, 20, .inl out.2.2.2.1)), (hRmT, .inr (2, [.ref hKdT, .int out.2.2.2.2.1, .int out.2.2.2.2.2.1])), (hKdT, .inl (cI, 20, .inl out.2.2.2.2.2.2.1)), (hTo, .inr (3, [.ref hTl, .int tn])), (hTl, .inl (cI, 60, .inl tl)), (hPa, .inr (1, [.ref hPg, .int out.2.2.2.2.2.2.2]))] H → va_D A [(hMs, .inr (5, [.ref hTo, .ref hRmR, .ref hRmT, .ref hPa, .ref hWa, .ref hBe])), (hRmR, .inr (2, [.ref hKdR, .int out.2.1, .int out.2.2.1])), (hKdR, .inl (cI, 20, .inl out.2.2.2.1)), (hRmT, .inr (2, [.ref hKdT, .int out.2.2.2.2.1, .int out.2.2.2.2.2.1])), (hKdT, .inl (cI, 20, .inl out.2.2.2.2.2.2.1)), (hTo, .inr (3, [.ref hTl, .int tn])), (hTl, .inl (cI, 60, .inl tl)), (hPa, .inr (1, [.ref hPg, .int out.2.2.2.2.2.2.2]))] → va_S A s.heap H locs → W p l e { frames := 6, cells := 0, slots := 0, locals := 177 } s m args below meth c H locs 0 0 Q (F0 m pc ls [.int out.1])) {ls : Array Slot} (hl : lv_has ls 1 [(0, .ref hMs)]) : W p l e { frames := 6, cells := 0, slots := 0, locals := 177 } s m args below meth c H locs 0 0 Q (F0 m 0 ls []) := by
  have hx := F.1
  have hb := F.2.1
  have hown := F.2.2.2.1
  have hts := F.2.2.2.2
  have hK := hG.1.1
  rw [f_X5_lay] at hf
  refine lv_aload_n hx hb dX5_lay_0 rfl (lv_at hl 0 rfl) ?_
  refine va_get (D := D) (ci := 5) (v := .ref hTo) (C := RX5) (T := TX5) (N := 6) hx hb hts ku_X5_lay_X5 hown hK hP 0 rfl rfl 0 (by decide) (hts _ kw_X5_lay_1) (fun _ h9 => h9) rfl dX5_lay_1 ?_
  refine lv_aload_n hx hb dX5_lay_4 rfl (lv_at hl 0 rfl) ?_
  refine va_get (D := D) (ci := 5) (v := .ref hRmT) (C := RX5) (T := TX5) (N := 6) hx hb hts ku_X5_lay_X5 hown hK hP 0 rfl rfl 2 (by decide) (hts _ kw_X5_lay_2) (fun _ h9 => h9) rfl dX5_lay_5 ?_
  obtain ⟨r24, er24, hf⟩ := fp_b hf
  refine kc_rwI (w2 := [(hMs, .inr (5, [.ref hTo, .ref hRmR, .ref hRmT, .ref hPa, .ref hWa, .ref hBe])), (hRmR, .inr (2, [.ref hKdR, .int coR, .int roR])), (hKdR, .inl (cI, 20, .inl kdR)), (hRmT, .inr (2, [.ref hKdT, .int r24.2.1, .int r24.2.2.1])), (hKdT, .inl (cI, 20, .inl r24.2.2.2)), (hTo, .inr (3, [.ref hTl, .int tn])), (hTl, .inl (cI, 60, .inl tl)), (hPa, .inr (1, [.ref hPg, .int pz]))]) (RwI.runV (c_X3_readInto (l := l) (D := D) (cI := cI) (cJ := cJ) (cZ := cZ) (cQ := cQ) (qs := qs) er24) F (cwV 1 hts gX5_lay_X3_readInto rfl rfl rfl yd_X3_readInto ⟨Nat.le_of_ble_eq_true rfl, Nat.le_of_ble_eq_true rfl⟩) hG hP hD hS hA [5, 3, 4, 6] (by decide) rfl 3 rfl rfl rfl hl.1 rfl (Nat.le_of_ble_eq_true rfl) dX5_lay_8 ⟨Nat.zero_le _, Nat.zero_le _⟩) hP hD hS hA [5, 3, 4, 6] [0, 1, 2, 7] [0, 1, 2, 5, 6, 4, 7, 3] rfl (wr := [(hMs, .inr (5, [.ref hTo, .ref hRmR, .ref hRmT, .ref hPa, .ref hWa, .ref hBe])), (hRmR, .inr (2, [.ref hKdR, .int coR, .int roR])), (hKdR, .inl (cI, 20, .inl kdR)), (hPa, .inr (1, [.ref hPg, .int pz]))]) rfl (by decide) (by decide) rfl (by decide) (fun H locs hP hD hS => ?_)
  refine lv_bipush (v := (-4 : Int32)) hx hb dX5_lay_11 (by decide) ?_
  refine lv_icmp_ne (tgt := 26) hx hb dX5_lay_13 (by decide) (fun c25 => ?_) (fun c25 => ?_)
  · have hf := fp_f hf c25
    refine lv_bipush (v := (-2 : Int32)) hx hb dX5_lay_26 (by decide) ?_
    cases hf
    exact hret _ _ _ _ dX5_lay_28 (vp_nar_int _) hP hD hS
  · have hf := fp_t hf c25
    refine lv_aload_n hx hb dX5_lay_16 rfl (lv_at hl 0 rfl) ?_
    refine va_get (D := D) (ci := 5) (v := .ref hRmT) (C := RX5) (T := TX5) (N := 6) hx hb hts ku_X5_lay_X5 hown hK hP 0 rfl rfl 2 (by decide) (hts _ kw_X5_lay_2) (fun _ h9 => h9) rfl dX5_lay_17 ?_
    refine va_getN (D := D) (ci := 2) (v := .int r24.2.2.1) (C := RX2) (T := TX2) (N := 3) (host := "MirrorShares") hx hb hts ku_X5_lay_X2 hown hK hP 3 rfl rfl 2 (by decide) (nwf_3 hG.1) (fun _ h9 => h9) rfl dX5_lay_20 ?_
    refine lv_if_ne (tgt := 29) hx hb dX5_lay_23 (by decide) (fun c26 => ?_) (fun c26 => ?_)
    · have hf := fp_f hf c26
      refine lv_aload_n hx hb dX5_lay_29 rfl (lv_at hl 0 rfl) ?_
      refine va_get (D := D) (ci := 5) (v := .ref hRmR) (C := RX5) (T := TX5) (N := 6) hx hb hts ku_X5_lay_X5 hown hK hP 0 rfl rfl 1 (by decide) (hts _ kw_X5_lay_3) (fun _ h9 => h9) rfl dX5_lay_30 ?_
      refine lv_aload_n hx hb dX5_lay_33 rfl (lv_at hl 0 rfl) ?_
      refine va_get (D := D) (ci := 5) (v := .ref hRmT) (C := RX5) (T := TX5) (N := 6) hx hb hts ku_X5_lay_X5 hown hK hP 0 rfl rfl 2 (by decide) (hts _ kw_X5_lay_2) (fun _ h9 => h9) rfl dX5_lay_34 ?_
      obtain ⟨r27, er27, hf⟩ := fp_b hf
      refine kc_rwV (w2 := [(hMs, .inr (5, [.ref hTo, .ref hRmR, .ref hRmT, .ref hPa, .ref hWa, .ref hBe])), (hRmR, .inr (2, [.ref hKdR, .int r27.1, .int r27.2.1])), (hKdR, .inl (cI, 20, .inl r27.2.2)), (hRmT, .inr (2, [.ref hKdT, .int r24.2.1, .int r24.2.2.1])), (hKdT, .inl (cI, 20, .inl r24.2.2.2)), (hTo, .inr (3, [.ref hTl, .int tn])), (hTl, .inl (cI, 60, .inl tl)), (hPa, .inr (1, [.ref hPg, .int pz]))]) (RwV.runV (c_X2_become (l := l) (D := D) (cI := cI) (cJ := cJ) (cZ := cZ) (cQ := cQ) (qs := qs) er27) F (cwV 1 hts gX5_lay_X2_become rfl rfl rfl yd_X2_become ⟨Nat.le_of_ble_eq_true rfl, Nat.le_of_ble_eq_true rfl⟩) hG hP hD hS hA [1, 2, 3, 4] (by decide) rfl 2 rfl rfl rfl hl.1 rfl (Nat.le_of_ble_eq_true rfl) dX5_lay_37 ⟨Nat.zero_le _, Nat.zero_le _⟩) hP hD hS hA [1, 2, 3, 4] [0, 5, 6, 7] [0, 4, 5, 6, 7, 1, 2, 3] rfl (wr := [(hMs, .inr (5, [.ref hTo, .ref hRmR, .ref hRmT, .ref hPa, .ref hWa, .ref hBe])), (hTo, .inr (3, [.ref hTl, .int tn])), (hTl, .inl (cI, 60, .inl tl)), (hPa, .inr (1, [.ref hPg, .int pz]))]) rfl (by decide) (by decide) rfl (by decide) (fun H locs hP hD hS => ?_)
      refine lv_aload_n hx hb dX5_lay_40 rfl (lv_at hl 0 rfl) ?_
      refine va_get (D := D) (ci := 5) (v := .ref hPa) (C := RX5) (T := TX5) (N := 6) hx hb hts ku_X5_lay_X5 hown hK hP 0 rfl rfl 3 (by decide) (hts _ kw_X5_lay_4) (fun _ h9 => h9) rfl dX5_lay_41 ?_
      obtain ⟨r28, er28, hf⟩ := fp_b hf
      refine kc_rwV (w2 := [(hMs, .inr (5, [.ref hTo, .ref hRmR, .ref hRmT, .ref hPa, .ref hWa, .ref hBe])), (hRmR, .inr (2, [.ref hKdR, .int r27.1, .int r27.2.1])), (hKdR, .inl (cI, 20, .inl r27.2.2)), (hRmT, .inr (2, [.ref hKdT, .int r24.2.1, .int r24.2.2.1])), (hKdT, .inl (cI, 20, .inl r24.2.2.2)), (hTo, .inr (3, [.ref hTl, .int tn])), (hTl, .inl (cI, 60, .inl tl)), (hPa, .inr (1, [.ref hPg, .int r28]))]) (RwV.runV (c_X1_forget (l := l) (D := D) (cI := cI) (cJ := cJ) (cZ := cZ) (cQ := cQ) (qs := qs) er28) F (cwV 0 hts gX5_lay_X1_forget rfl rfl rfl yd_X1_forget ⟨Nat.le_of_ble_eq_true rfl, Nat.le_of_ble_eq_true rfl⟩) hG hP hD hS hA [7] (by decide) rfl 1 rfl rfl rfl hl.1 rfl (Nat.le_of_ble_eq_true rfl) dX5_lay_44 ⟨Nat.zero_le _, Nat.zero_le _⟩) hP hD hS hA [7] [0, 1, 2, 3, 4, 5, 6] [0, 1, 2, 3, 4, 5, 6, 7] rfl (wr := [(hMs, .inr (5, [.ref hTo, .ref hRmR, .ref hRmT, .ref hPa, .ref hWa, .ref hBe])), (hRmR, .inr (2, [.ref hKdR, .int r27.1, .int r27.2.1])), (hKdR, .inl (cI, 20, .inl r27.2.2)), (hRmT, .inr (2, [.ref hKdT, .int r24.2.1, .int r24.2.2.1])), (hKdT, .inl (cI, 20, .inl r24.2.2.2)), (hTo, .inr (3, [.ref hTl, .int tn])), (hTl, .inl (cI, 60, .inl tl))]) rfl (by decide) (by decide) rfl (by decide) (fun H locs hP hD hS => ?_)
      refine lv_aload_n hx hb dX5_lay_47 rfl (lv_at hl 0 rfl) ?_
      refine va_get (D := D) (ci := 5) (v := .ref hRmR) (C := RX5) (T := TX5) (N := 6) hx hb hts ku_X5_lay_X5 hown hK hP 0 rfl rfl 1 (by decide) (hts _ kw_X5_lay_3) (fun _ h9 => h9) rfl dX5_lay_48 ?_
      obtain ⟨r29, er29, hf⟩ := fp_b hf
      refine RoI.callV (c_X2_cells (l := l) (D := D) (cI := cI) (cJ := cJ) (cZ := cZ) (cQ := cQ) (qs := qs) er29) F (cwV 0 hts gX5_lay_X2_cells rfl rfl rfl yd_X2_cells ⟨Nat.le_of_ble_eq_true rfl, Nat.le_of_ble_eq_true rfl⟩) (hG.r hS) hP [1] rfl 2 rfl rfl rfl hl.1 rfl (Nat.le_of_ble_eq_true rfl) dX5_lay_51 ⟨Nat.zero_le _, Nat.zero_le _⟩ ?_
      cases hf
      exact hret _ _ _ _ dX5_lay_54 (vp_nar_int _) hP hD hS
    · have hf := fp_t hf c26
      refine lv_bipush (v := (-2 : Int32)) hx hb dX5_lay_26 (by decide) ?_
      cases hf
      exact hret _ _ _ _ dX5_lay_28 (vp_nar_int _) hP hD hS
set_option maxRecDepth 100000 in
theorem c_X5_lay {l : Launch} {D : va_G} {cI cJ cZ cQ : ClassId} {qs : Nat × Nat × Nat} {hMs hTo hRmR hRmT hPa hWa hBe hKdR hKdT hTl hPg : Nat} {coR : Int32} {roR : Int32} {kdR : Nat → Int32} {coT : Int32} {roT : Int32} {kdT : Nat → Int32} {tn : Int32} {tl : Nat → Int32} {pz : Int32} {out : Int32 × Int32 × Int32 × (Nat → Int32) × Int32 × Int32 × (Nat → Int32) × Int32} (hf : f_X5_lay coR roR kdR coT roT kdT tn tl pz = some out) : RwI l yX5_lay wsX5_lay { frames := 6, cells := 0, slots := 0, locals := 177 } D (ty4 cI cJ cZ cQ) qs [.ref hMs] [(hMs, .inr (5, [.ref hTo, .ref hRmR, .ref hRmT, .ref hPa, .ref hWa, .ref hBe])), (hRmR, .inr (2, [.ref hKdR, .int coR, .int roR])), (hKdR, .inl (cI, 20, .inl kdR)), (hRmT, .inr (2, [.ref hKdT, .int coT, .int roT])), (hKdT, .inl (cI, 20, .inl kdT)), (hTo, .inr (3, [.ref hTl, .int tn])), (hTl, .inl (cI, 60, .inl tl)), (hPa, .inr (1, [.ref hPg, .int pz]))] [(hMs, .inr (5, [.ref hTo, .ref hRmR, .ref hRmT, .ref hPa, .ref hWa, .ref hBe])), (hRmR, .inr (2, [.ref hKdR, .int out.2.1, .int out.2.2.1])), (hKdR, .inl (cI, 20, .inl out.2.2.2.1)), (hRmT, .inr (2, [.ref hKdT, .int out.2.2.2.2.1, .int out.2.2.2.2.2.1])), (hKdT, .inl (cI, 20, .inl out.2.2.2.2.2.2.1)), (hTo, .inr (3, [.ref hTl, .int tn])), (hTl, .inl (cI, 60, .inl tl)), (hPa, .inr (1, [.ref hPg, .int out.2.2.2.2.2.2.2]))] out.1 :=
  RwI.of (own := RX5) (by decide +kernel) rfl rfl (Nat.le_of_ble_eq_true rfl) (fun F hG hA hP hD hS hret ls hl => b_X5_lay F hG hA hP hD hS hf hret hl)
-- method X5_put
theorem yd_X5_put : yX5_put.cls = RX5 ∧ yX5_put.cls ≠ "java/lang/invoke/MethodHandle" ∧ yX5_put.cls ≠ "java/lang/invoke/VarHandle" ∧ (parseMethodDescriptor yX5_put.desc).map (fun d => d.parameters.length) = some 2 := by decide +kernel
theorem ku_X5_put_X5 : ∀ w ∈ u_ws RX5 TX5 6, w ∈ wsX5_put := by decide +kernel
theorem kw_X5_put_1 : Cond.fieldLink RX5 19 "MirrorShares" "room" "LMirrorShares$Room;" ∈ wsX5_put := List.mem_of_getElem? (i := 1) rfl
theorem kw_X5_put_2 : Cond.fieldLink RX5 23 "MirrorShares" "trial" "LMirrorShares$Room;" ∈ wsX5_put := List.mem_of_getElem? (i := 2) rfl
def f_X5_put (coR : Int32) (roR : Int32) (kdR : Nat → Int32) (coT : Int32) (roT : Int32) (kdT : Nat → Int32) (pz : Int32) (pg : Nat → Int32) (x1 : Int32) (x2 : Int32) : Option (Int32 × (Nat → Int32) × Int32 × Int32 × (Nat → Int32) × Int32 × (Nat → Int32)) :=
  Option.bind (f_X2_kindAt coR roR kdR x1) (fun r30 => (if r30 = (-1 : Int32) then some ((-1 : Int32), kdR, coT, roT, kdT, pz, pg) else (if x2 < 0 then some ((-1 : Int32), kdR, coT, roT, kdT, pz, pg) else (if x2 ≤ (7 : Int32) then (if r30 = x2 then some ((-2 : Int32), kdR, coT, roT, kdT, pz, pg) else Option.bind (f_X5_tryCell coR roR kdR coT roT kdT x1 x2) (fun r35 => Option.bind (f_X2_isOverfull r35.1 r35.2.1 r35.2.2) (fun r36 => (if r36 = 0 then Option.bind (f_X5_change coR roR kdR pz pg x1 r30 x2) (fun r38 => some (r30, r38.1, r35.1, r35.2.1, r35.2.2, r38.2.1, r38.2.2)) else some ((-3 : Int32), kdR, r35.1, r35.2.1, r35.2.2, pz, pg))))) else some ((-1 : Int32), kdR, coT, roT, kdT, pz, pg)))))
set_option maxHeartbeats 4000000 in
set_option maxRecDepth 100000 in
theorem b_X5_put {p : Program} {l : Launch} {e : Env} {s : State} {m : MethodId} {args : Array Value} {below : List Frame} {meth : Method} {c : Code} {Q : State → Prop} {A : Nat → Prop} {H : Heap} {locs : List Loc} {D : va_G} {cI cJ cZ cQ : ClassId} {qs : Nat × Nat × Nat} {hMs hTo hRmR hRmT hPa hWa hBe hKdR hKdT hPg : Nat} {coR : Int32} {roR : Int32} {kdR : Nat → Int32} {coT : Int32} {roT : Int32} {kdT : Nat → Int32} {pz : Int32} {pg : Nat → Int32} {x1 : Int32} {x2 : Int32} {out : Int32 × (Nat → Int32) × Int32 × Int32 × (Nat → Int32) × Int32 × (Nat → Int32)} (F : CallFix p m c cX5_put 4 s args wsX5_put RX5) (hG : kW D (ty4 cI cJ cZ cQ) qs A s s.heap) (hA : ∀ q : Nat, s.heap.size ≤ q → A q) (hP : va_P D vwCl [(hMs, .inr (5, [.ref hTo, .ref hRmR, .ref hRmT, .ref hPa, .ref hWa, .ref hBe])), (hRmR, .inr (2, [.ref hKdR, .int coR, .int roR])), (hKdR, .inl (cI, 20, .inl kdR)), (hRmT, .inr (2, [.ref hKdT, .int coT, .int roT])), (hKdT, .inl (cI, 20, .inl kdT)), (hPa, .inr (1, [.ref hPg, .int pz])), (hPg, .inl (cI, 4, .inl pg))] H) (hD : va_D A [(hMs, .inr (5, [.ref hTo, .ref hRmR, .ref hRmT, .ref hPa, .ref hWa, .ref hBe])), (hRmR, .inr (2, [.ref hKdR, .int coR, .int roR])), (hKdR, .inl (cI, 20, .inl kdR)), (hRmT, .inr (2, [.ref hKdT, .int coT, .int roT])), (hKdT, .inl (cI, 20, .inl kdT)), (hPa, .inr (1, [.ref hPg, .int pz])), (hPg, .inl (cI, 4, .inl pg))]) (hS : va_S A s.heap H locs) (hf : f_X5_put coR roR kdR coT roT kdT pz pg x1 x2 = some out) (hret : ∀ (pc : Nat) (H : Heap) (locs : List Loc) (ls : Array Slot), decode cX5_put pc = .ok (.ireturn, 1) → narrow .int (.int out.1) = .int out.1 → va_P D vwCl [(hMs, .inr (5, [.ref hTo, .ref hRmR, .ref hRmT, .ref hPa, .ref hWa, .ref hBe])), (hRmR, .inr (2, [.ref hKdR, .int coR, .int roR])), (hKdR, .inl (cI, 20, .inl out.2.1)), (hRmT, .inr (2, [.ref hKdT, .int out.2.2.1, .int out.2.2.2.1])), (hKdT, .inl (cI, 20, .inl out.2.2.2.2.1)), (hPa, .inr (1, [.ref hPg, .int out.2.2.2.2.2.1])), (hPg, .inl (cI, 4, .inl out.2.2.2.2.2.2))] H → va_D A [(hMs, .inr (5, [.ref hTo, .ref hRmR, .ref hRmT, .ref hPa, .ref hWa, .ref hBe])), (hRmR, .inr (2, [.ref hKdR, .int coR, .int roR])), (hKdR, .inl (cI, 20, .inl out.2.1)), (hRmT, .inr (2, [.ref hKdT, .int out.2.2.1, .int out.2.2.2.1])), (hKdT, .inl (cI, 20, .inl out.2.2.2.2.1)), (hPa, .inr (1, [.ref hPg, .int out.2.2.2.2.2.1])), (hPg, .inl (cI, 4, .inl out.2.2.2.2.2.2))] → va_S A s.heap H locs → W p l e { frames := 4, cells := 0, slots := 0, locals := 126 } s m args below meth c H locs 0 0 Q (F0 m pc ls [.int out.1])) {ls : Array Slot} (hl : lv_has ls 4 [(0, .ref hMs), (1, .int x1), (2, .int x2)]) : W p l e { frames := 4, cells := 0, slots := 0, locals := 126 } s m args below meth c H locs 0 0 Q (F0 m 0 ls []) := by
  have hx := F.1
  have hb := F.2.1
  have hown := F.2.2.2.1
  have hts := F.2.2.2.2
  have hK := hG.1.1
  rw [f_X5_put] at hf
  refine lv_aload_n hx hb dX5_put_0 rfl (lv_at hl 0 rfl) ?_
  refine va_get (D := D) (ci := 5) (v := .ref hRmR) (C := RX5) (T := TX5) (N := 6) hx hb hts ku_X5_put_X5 hown hK hP 0 rfl rfl 1 (by decide) (hts _ kw_X5_put_1) (fun _ h9 => h9) rfl dX5_put_1 ?_
  refine lv_iload_n hx hb dX5_put_4 rfl (lv_at hl 1 rfl) ?_
  obtain ⟨r30, er30, hf⟩ := fp_b hf
  refine RoI.callV (c_X2_kindAt (l := l) (D := D) (cI := cI) (cJ := cJ) (cZ := cZ) (cQ := cQ) (qs := qs) er30) F (cwV 1 hts gX5_put_X2_kindAt rfl rfl rfl yd_X2_kindAt ⟨Nat.le_of_ble_eq_true rfl, Nat.le_of_ble_eq_true rfl⟩) (hG.r hS) hP [1, 2] rfl 2 rfl rfl rfl hl.1 rfl (Nat.le_of_ble_eq_true rfl) dX5_put_5 ⟨Nat.zero_le _, Nat.zero_le _⟩ ?_
  refine lv_istore_n (lv' := [(3, .int r30), (0, .ref hMs), (1, .int x1), (2, .int x2)]) hx hb dX5_put_8 rfl hl (by decide) rfl (fun ls hl => ?_)
  refine lv_iload_n hx hb dX5_put_9 rfl (lv_at hl 0 rfl) ?_
  refine lv_iconst (v := (-1 : Int32)) hx hb dX5_put_10 (by decide) ?_
  refine lv_icmp_eq (tgt := 24) hx hb dX5_put_11 (by decide) (fun c31 => ?_) (fun c31 => ?_)
  · have hf := fp_t hf c31
    refine lv_iconst (v := (-1 : Int32)) hx hb dX5_put_24 (by decide) ?_
    cases hf
    exact hret _ _ _ _ dX5_put_25 (vp_nar_int _) hP hD hS
  · have hf := fp_f hf c31
    refine lv_iload_n hx hb dX5_put_14 rfl (lv_at hl 3 rfl) ?_
    refine lv_if_lt (tgt := 24) hx hb dX5_put_15 (by decide) (fun c32 => ?_) (fun c32 => ?_)
    · have hf := fp_t hf c32
      refine lv_iconst (v := (-1 : Int32)) hx hb dX5_put_24 (by decide) ?_
      cases hf
      exact hret _ _ _ _ dX5_put_25 (vp_nar_int _) hP hD hS
    · have hf := fp_f hf c32
      refine lv_iload_n hx hb dX5_put_18 rfl (lv_at hl 3 rfl) ?_
      refine lv_bipush (v := (7 : Int32)) hx hb dX5_put_19 (by decide) ?_
      refine lv_icmp_le (tgt := 26) hx hb dX5_put_21 (by decide) (fun c33 => ?_) (fun c33 => ?_)
      · have hf := fp_t hf c33
        refine lv_iload_n hx hb dX5_put_26 rfl (lv_at hl 0 rfl) ?_
        refine lv_iload_n hx hb dX5_put_27 rfl (lv_at hl 3 rfl) ?_
        refine lv_icmp_ne (tgt := 34) hx hb dX5_put_28 (by decide) (fun c34 => ?_) (fun c34 => ?_)
        · have hf := fp_f hf c34
          refine lv_aload_n hx hb dX5_put_34 rfl (lv_at hl 1 rfl) ?_
          refine lv_iload_n hx hb dX5_put_35 rfl (lv_at hl 2 rfl) ?_
          refine lv_iload_n hx hb dX5_put_36 rfl (lv_at hl 3 rfl) ?_
          obtain ⟨r35, er35, hf⟩ := fp_b hf
          refine kc_rwV (w2 := [(hMs, .inr (5, [.ref hTo, .ref hRmR, .ref hRmT, .ref hPa, .ref hWa, .ref hBe])), (hRmR, .inr (2, [.ref hKdR, .int coR, .int roR])), (hKdR, .inl (cI, 20, .inl kdR)), (hRmT, .inr (2, [.ref hKdT, .int r35.1, .int r35.2.1])), (hKdT, .inl (cI, 20, .inl r35.2.2)), (hPa, .inr (1, [.ref hPg, .int pz])), (hPg, .inl (cI, 4, .inl pg))]) (RwV.runV (c_X5_tryCell (l := l) (D := D) (cI := cI) (cJ := cJ) (cZ := cZ) (cQ := cQ) (qs := qs) er35) F (cwV 2 hts gX5_put_X5_tryCell rfl rfl rfl yd_X5_tryCell ⟨Nat.le_of_ble_eq_true rfl, Nat.le_of_ble_eq_true rfl⟩) hG hP hD hS hA [0, 1, 2, 3, 4] (by decide) rfl 5 rfl rfl rfl hl.1 rfl (Nat.le_of_ble_eq_true rfl) dX5_put_37 ⟨Nat.zero_le _, Nat.zero_le _⟩) hP hD hS hA [0, 1, 2, 3, 4] [5, 6] [2, 3, 4, 5, 6, 0, 1] rfl (wr := [(hPa, .inr (1, [.ref hPg, .int pz])), (hPg, .inl (cI, 4, .inl pg))]) rfl (by decide) (by decide) rfl (by decide) (fun H locs hP hD hS => ?_)
          refine lv_aload_n hx hb dX5_put_40 rfl (lv_at hl 1 rfl) ?_
          refine va_get (D := D) (ci := 5) (v := .ref hRmT) (C := RX5) (T := TX5) (N := 6) hx hb hts ku_X5_put_X5 hown hK hP 0 rfl rfl 2 (by decide) (hts _ kw_X5_put_2) (fun _ h9 => h9) rfl dX5_put_41 ?_
          obtain ⟨r36, er36, hf⟩ := fp_b hf
          refine RoI.callV (c_X2_isOverfull (l := l) (D := D) (cI := cI) (cJ := cJ) (cZ := cZ) (cQ := cQ) (qs := qs) er36) F (cwV 0 hts gX5_put_X2_isOverfull rfl rfl rfl yd_X2_isOverfull ⟨Nat.le_of_ble_eq_true rfl, Nat.le_of_ble_eq_true rfl⟩) (hG.r hS) hP [3, 4] rfl 2 rfl rfl rfl hl.1 rfl (Nat.le_of_ble_eq_true rfl) dX5_put_44 ⟨Nat.zero_le _, Nat.zero_le _⟩ ?_
          refine lv_if_eq (tgt := 53) hx hb dX5_put_47 (by decide) (fun c37 => ?_) (fun c37 => ?_)
          · have hf := fp_t hf c37
            refine lv_aload_n hx hb dX5_put_53 rfl (lv_at hl 1 rfl) ?_
            refine lv_iload_n hx hb dX5_put_54 rfl (lv_at hl 2 rfl) ?_
            refine lv_iload_n hx hb dX5_put_55 rfl (lv_at hl 0 rfl) ?_
            refine lv_iload_n hx hb dX5_put_56 rfl (lv_at hl 3 rfl) ?_
            obtain ⟨r38, er38, hf⟩ := fp_b hf
            refine kc_rwV (w2 := [(hMs, .inr (5, [.ref hTo, .ref hRmR, .ref hRmT, .ref hPa, .ref hWa, .ref hBe])), (hRmR, .inr (2, [.ref hKdR, .int coR, .int roR])), (hKdR, .inl (cI, 20, .inl r38.1)), (hRmT, .inr (2, [.ref hKdT, .int r35.1, .int r35.2.1])), (hKdT, .inl (cI, 20, .inl r35.2.2)), (hPa, .inr (1, [.ref hPg, .int r38.2.1])), (hPg, .inl (cI, 4, .inl r38.2.2))]) (RwV.runV (c_X5_change (l := l) (D := D) (cI := cI) (cJ := cJ) (cZ := cZ) (cQ := cQ) (qs := qs) er38) F (cwV 3 hts gX5_put_X5_change rfl rfl rfl yd_X5_change ⟨Nat.le_of_ble_eq_true rfl, Nat.le_of_ble_eq_true rfl⟩) hG hP hD hS hA [0, 1, 2, 5, 6] (by decide) rfl 5 rfl rfl rfl hl.1 rfl (Nat.le_of_ble_eq_true rfl) dX5_put_57 ⟨Nat.zero_le _, Nat.zero_le _⟩) hP hD hS hA [0, 1, 2, 5, 6] [3, 4] [2, 3, 4, 0, 1, 5, 6] rfl (wr := [(hRmT, .inr (2, [.ref hKdT, .int r35.1, .int r35.2.1])), (hKdT, .inl (cI, 20, .inl r35.2.2))]) rfl (by decide) (by decide) rfl (by decide) (fun H locs hP hD hS => ?_)
            refine lv_iload_n hx hb dX5_put_60 rfl (lv_at hl 0 rfl) ?_
            cases hf
            exact hret _ _ _ _ dX5_put_61 (vp_nar_int _) hP hD hS
          · have hf := fp_f hf c37
            refine lv_bipush (v := (-3 : Int32)) hx hb dX5_put_50 (by decide) ?_
            cases hf
            exact hret _ _ _ _ dX5_put_52 (vp_nar_int _) hP hD hS
        · have hf := fp_t hf c34
          refine lv_bipush (v := (-2 : Int32)) hx hb dX5_put_31 (by decide) ?_
          cases hf
          exact hret _ _ _ _ dX5_put_33 (vp_nar_int _) hP hD hS
      · have hf := fp_f hf c33
        refine lv_iconst (v := (-1 : Int32)) hx hb dX5_put_24 (by decide) ?_
        cases hf
        exact hret _ _ _ _ dX5_put_25 (vp_nar_int _) hP hD hS
set_option maxRecDepth 100000 in
theorem c_X5_put {l : Launch} {D : va_G} {cI cJ cZ cQ : ClassId} {qs : Nat × Nat × Nat} {hMs hTo hRmR hRmT hPa hWa hBe hKdR hKdT hPg : Nat} {coR : Int32} {roR : Int32} {kdR : Nat → Int32} {coT : Int32} {roT : Int32} {kdT : Nat → Int32} {pz : Int32} {pg : Nat → Int32} {x1 : Int32} {x2 : Int32} {out : Int32 × (Nat → Int32) × Int32 × Int32 × (Nat → Int32) × Int32 × (Nat → Int32)} (hf : f_X5_put coR roR kdR coT roT kdT pz pg x1 x2 = some out) : RwI l yX5_put wsX5_put { frames := 4, cells := 0, slots := 0, locals := 126 } D (ty4 cI cJ cZ cQ) qs [.ref hMs, .int x1, .int x2] [(hMs, .inr (5, [.ref hTo, .ref hRmR, .ref hRmT, .ref hPa, .ref hWa, .ref hBe])), (hRmR, .inr (2, [.ref hKdR, .int coR, .int roR])), (hKdR, .inl (cI, 20, .inl kdR)), (hRmT, .inr (2, [.ref hKdT, .int coT, .int roT])), (hKdT, .inl (cI, 20, .inl kdT)), (hPa, .inr (1, [.ref hPg, .int pz])), (hPg, .inl (cI, 4, .inl pg))] [(hMs, .inr (5, [.ref hTo, .ref hRmR, .ref hRmT, .ref hPa, .ref hWa, .ref hBe])), (hRmR, .inr (2, [.ref hKdR, .int coR, .int roR])), (hKdR, .inl (cI, 20, .inl out.2.1)), (hRmT, .inr (2, [.ref hKdT, .int out.2.2.1, .int out.2.2.2.1])), (hKdT, .inl (cI, 20, .inl out.2.2.2.2.1)), (hPa, .inr (1, [.ref hPg, .int out.2.2.2.2.2.1])), (hPg, .inl (cI, 4, .inl out.2.2.2.2.2.2))] out.1 :=
  RwI.of (own := RX5) (by decide +kernel) rfl rfl (Nat.le_of_ble_eq_true rfl) (fun F hG hA hP hD hS hret ls hl => b_X5_put F hG hA hP hD hS hf hret hl)
-- method X5_door
theorem yd_X5_door : yX5_door.cls = RX5 ∧ yX5_door.cls ≠ "java/lang/invoke/MethodHandle" ∧ yX5_door.cls ≠ "java/lang/invoke/VarHandle" ∧ (parseMethodDescriptor yX5_door.desc).map (fun d => d.parameters.length) = some 2 := by decide +kernel
theorem ku_X5_door_X5 : ∀ w ∈ u_ws RX5 TX5 6, w ∈ wsX5_door := by decide +kernel
theorem kw_X5_door_1 : Cond.fieldLink RX5 19 "MirrorShares" "room" "LMirrorShares$Room;" ∈ wsX5_door := List.mem_of_getElem? (i := 1) rfl
def f_X5_door (coR : Int32) (roR : Int32) (kdR : Nat → Int32) (pz : Int32) (pg : Nat → Int32) (x1 : Int32) (x2 : Int32) : Option (Int32 × (Nat → Int32) × Int32 × (Nat → Int32)) :=
  Option.bind (f_X2_doorCell coR roR kdR x1) (fun r39 => (if r39 = (-1 : Int32) then some ((-1 : Int32), kdR, pz, pg) else Option.bind (f_X5_isPart x2 (2 : Int32)) (fun r41 => (if r41 = 0 then some ((-1 : Int32), kdR, pz, pg) else Option.bind (f_X2_kindAt coR roR kdR r39) (fun r43 => Option.bind (if x2 = (1 : Int32) then some (6 : Int32) else some (7 : Int32)) (fun j44 => (if r43 = j44 then some ((-2 : Int32), kdR, pz, pg) else Option.bind (f_X5_change coR roR kdR pz pg r39 r43 j44) (fun r47 => Option.bind (f_X2_countKinds coR roR r47.1 (6 : Int32) (6 : Int32)) (fun r48 => some (r48, r47.1, r47.2.1, r47.2.2))))))))))
set_option maxHeartbeats 4000000 in
set_option maxRecDepth 100000 in
theorem b_X5_door {p : Program} {l : Launch} {e : Env} {s : State} {m : MethodId} {args : Array Value} {below : List Frame} {meth : Method} {c : Code} {Q : State → Prop} {A : Nat → Prop} {H : Heap} {locs : List Loc} {D : va_G} {cI cJ cZ cQ : ClassId} {qs : Nat × Nat × Nat} {hMs hTo hRmR hRmT hPa hWa hBe hKdR hPg : Nat} {coR : Int32} {roR : Int32} {kdR : Nat → Int32} {pz : Int32} {pg : Nat → Int32} {x1 : Int32} {x2 : Int32} {out : Int32 × (Nat → Int32) × Int32 × (Nat → Int32)} (F : CallFix p m c cX5_door 6 s args wsX5_door RX5) (hG : kW D (ty4 cI cJ cZ cQ) qs A s s.heap) (hA : ∀ q : Nat, s.heap.size ≤ q → A q) (hP : va_P D vwCl [(hMs, .inr (5, [.ref hTo, .ref hRmR, .ref hRmT, .ref hPa, .ref hWa, .ref hBe])), (hRmR, .inr (2, [.ref hKdR, .int coR, .int roR])), (hKdR, .inl (cI, 20, .inl kdR)), (hPa, .inr (1, [.ref hPg, .int pz])), (hPg, .inl (cI, 4, .inl pg))] H) (hD : va_D A [(hMs, .inr (5, [.ref hTo, .ref hRmR, .ref hRmT, .ref hPa, .ref hWa, .ref hBe])), (hRmR, .inr (2, [.ref hKdR, .int coR, .int roR])), (hKdR, .inl (cI, 20, .inl kdR)), (hPa, .inr (1, [.ref hPg, .int pz])), (hPg, .inl (cI, 4, .inl pg))]) (hS : va_S A s.heap H locs) (hf : f_X5_door coR roR kdR pz pg x1 x2 = some out) (hret : ∀ (pc : Nat) (H : Heap) (locs : List Loc) (ls : Array Slot), decode cX5_door pc = .ok (.ireturn, 1) → narrow .int (.int out.1) = .int out.1 → va_P D vwCl [(hMs, .inr (5, [.ref hTo, .ref hRmR, .ref hRmT, .ref hPa, .ref hWa, .ref hBe])), (hRmR, .inr (2, [.ref hKdR, .int coR, .int roR])), (hKdR, .inl (cI, 20, .inl out.2.1)), (hPa, .inr (1, [.ref hPg, .int out.2.2.1])), (hPg, .inl (cI, 4, .inl out.2.2.2))] H → va_D A [(hMs, .inr (5, [.ref hTo, .ref hRmR, .ref hRmT, .ref hPa, .ref hWa, .ref hBe])), (hRmR, .inr (2, [.ref hKdR, .int coR, .int roR])), (hKdR, .inl (cI, 20, .inl out.2.1)), (hPa, .inr (1, [.ref hPg, .int out.2.2.1])), (hPg, .inl (cI, 4, .inl out.2.2.2))] → va_S A s.heap H locs → W p l e { frames := 4, cells := 0, slots := 0, locals := 126 } s m args below meth c H locs 0 0 Q (F0 m pc ls [.int out.1])) {ls : Array Slot} (hl : lv_has ls 6 [(0, .ref hMs), (1, .int x1), (2, .int x2)]) : W p l e { frames := 4, cells := 0, slots := 0, locals := 126 } s m args below meth c H locs 0 0 Q (F0 m 0 ls []) := by
  have hx := F.1
  have hb := F.2.1
  have hown := F.2.2.2.1
  have hts := F.2.2.2.2
  have hK := hG.1.1
  rw [f_X5_door] at hf
  refine lv_aload_n hx hb dX5_door_0 rfl (lv_at hl 0 rfl) ?_
  refine va_get (D := D) (ci := 5) (v := .ref hRmR) (C := RX5) (T := TX5) (N := 6) hx hb hts ku_X5_door_X5 hown hK hP 0 rfl rfl 1 (by decide) (hts _ kw_X5_door_1) (fun _ h9 => h9) rfl dX5_door_1 ?_
  refine lv_iload_n hx hb dX5_door_4 rfl (lv_at hl 1 rfl) ?_
  obtain ⟨r39, er39, hf⟩ := fp_b hf
  refine RoI.callV (c_X2_doorCell (l := l) (D := D) (cI := cI) (cJ := cJ) (cZ := cZ) (cQ := cQ) (qs := qs) er39) F (cwV 1 hts gX5_door_X2_doorCell rfl rfl rfl yd_X2_doorCell ⟨Nat.le_of_ble_eq_true rfl, Nat.le_of_ble_eq_true rfl⟩) (hG.r hS) hP [1, 2] rfl 2 rfl rfl rfl hl.1 rfl (Nat.le_of_ble_eq_true rfl) dX5_door_5 ⟨Nat.zero_le _, Nat.zero_le _⟩ ?_
  refine lv_istore_n (lv' := [(3, .int r39), (0, .ref hMs), (1, .int x1), (2, .int x2)]) hx hb dX5_door_8 rfl hl (by decide) rfl (fun ls hl => ?_)
  refine lv_iload_n hx hb dX5_door_9 rfl (lv_at hl 0 rfl) ?_
  refine lv_iconst (v := (-1 : Int32)) hx hb dX5_door_10 (by decide) ?_
  refine lv_icmp_eq (tgt := 22) hx hb dX5_door_11 (by decide) (fun c40 => ?_) (fun c40 => ?_)
  · have hf := fp_t hf c40
    refine lv_iconst (v := (-1 : Int32)) hx hb dX5_door_22 (by decide) ?_
    cases hf
    exact hret _ _ _ _ dX5_door_23 (vp_nar_int _) hP hD hS
  · have hf := fp_f hf c40
    refine lv_iload_n hx hb dX5_door_14 rfl (lv_at hl 3 rfl) ?_
    refine lv_iconst (v := (2 : Int32)) hx hb dX5_door_15 (by decide) ?_
    obtain ⟨r41, er41, hf⟩ := fp_b hf
    refine RoI.callS (c_X5_isPart (l := l) (D := D) (cI := cI) (cJ := cJ) (cZ := cZ) (cQ := cQ) (qs := qs) er41) F (va_cwS 2 hts gX5_door_X5_isPart rfl rfl rfl yd_X5_isPart ⟨Nat.le_of_ble_eq_true rfl, Nat.le_of_ble_eq_true rfl⟩) (hG.r hS) hP [] rfl rfl hl.1 rfl (Nat.le_of_ble_eq_true rfl) dX5_door_16 ⟨Nat.zero_le _, Nat.zero_le _⟩ ?_
    refine lv_if_ne (tgt := 24) hx hb dX5_door_19 (by decide) (fun c42 => ?_) (fun c42 => ?_)
    · have hf := fp_f hf c42
      refine lv_aload_n hx hb dX5_door_24 rfl (lv_at hl 1 rfl) ?_
      refine va_get (D := D) (ci := 5) (v := .ref hRmR) (C := RX5) (T := TX5) (N := 6) hx hb hts ku_X5_door_X5 hown hK hP 0 rfl rfl 1 (by decide) (hts _ kw_X5_door_1) (fun _ h9 => h9) rfl dX5_door_25 ?_
      refine lv_iload_n hx hb dX5_door_28 rfl (lv_at hl 0 rfl) ?_
      obtain ⟨r43, er43, hf⟩ := fp_b hf
      refine RoI.callV (c_X2_kindAt (l := l) (D := D) (cI := cI) (cJ := cJ) (cZ := cZ) (cQ := cQ) (qs := qs) er43) F (cwV 1 hts gX5_door_X2_kindAt rfl rfl rfl yd_X2_kindAt ⟨Nat.le_of_ble_eq_true rfl, Nat.le_of_ble_eq_true rfl⟩) (hG.r hS) hP [1, 2] rfl 2 rfl rfl rfl hl.1 rfl (Nat.le_of_ble_eq_true rfl) dX5_door_29 ⟨Nat.zero_le _, Nat.zero_le _⟩ ?_
      refine lv_istore (lv' := [(4, .int r43), (3, .int r39), (0, .ref hMs), (1, .int x1), (2, .int x2)]) hx hb dX5_door_32 hl (by decide) rfl (fun ls hl => ?_)
      refine lv_iload_n hx hb dX5_door_34 rfl (lv_at hl 4 rfl) ?_
      refine lv_iconst (v := (1 : Int32)) hx hb dX5_door_35 (by decide) ?_
      obtain ⟨j44, ej44, hf⟩ := fp_b hf
      have hj45 : ∀ (H : Heap) (locs : List Loc) (ls : Array Slot), va_P D vwCl [(hMs, .inr (5, [.ref hTo, .ref hRmR, .ref hRmT, .ref hPa, .ref hWa, .ref hBe])), (hRmR, .inr (2, [.ref hKdR, .int coR, .int roR])), (hKdR, .inl (cI, 20, .inl kdR)), (hPa, .inr (1, [.ref hPg, .int pz])), (hPg, .inl (cI, 4, .inl pg))] H → va_D A [(hMs, .inr (5, [.ref hTo, .ref hRmR, .ref hRmT, .ref hPa, .ref hWa, .ref hBe])), (hRmR, .inr (2, [.ref hKdR, .int coR, .int roR])), (hKdR, .inl (cI, 20, .inl kdR)), (hPa, .inr (1, [.ref hPg, .int pz])), (hPg, .inl (cI, 4, .inl pg))] → va_S A s.heap H locs → lv_has ls 6 [(0, .ref hMs), (3, .int r39), (4, .int r43)] → W p l e { frames := 4, cells := 0, slots := 0, locals := 126 } s m args below meth c H locs 0 0 Q (F0 m 46 ls [.int j44]) := by
        intro H locs ls hP hD hS hl
        refine lv_istore (lv' := [(5, .int j44), (0, .ref hMs), (3, .int r39), (4, .int r43)]) hx hb dX5_door_46 hl (by decide) rfl (fun ls hl => ?_)
        refine lv_iload hx hb dX5_door_48 (lv_at hl 3 rfl) ?_
        refine lv_iload hx hb dX5_door_50 (lv_at hl 0 rfl) ?_
        refine lv_icmp_ne (tgt := 58) hx hb dX5_door_52 (by decide) (fun c46 => ?_) (fun c46 => ?_)
        · have hf := fp_f hf c46
          refine lv_aload_n hx hb dX5_door_58 rfl (lv_at hl 1 rfl) ?_
          refine lv_iload_n hx hb dX5_door_59 rfl (lv_at hl 2 rfl) ?_
          refine lv_iload hx hb dX5_door_60 (lv_at hl 3 rfl) ?_
          refine lv_iload hx hb dX5_door_62 (lv_at hl 0 rfl) ?_
          obtain ⟨r47, er47, hf⟩ := fp_b hf
          refine kc_rwV (w2 := [(hMs, .inr (5, [.ref hTo, .ref hRmR, .ref hRmT, .ref hPa, .ref hWa, .ref hBe])), (hRmR, .inr (2, [.ref hKdR, .int coR, .int roR])), (hKdR, .inl (cI, 20, .inl r47.1)), (hPa, .inr (1, [.ref hPg, .int r47.2.1])), (hPg, .inl (cI, 4, .inl r47.2.2))]) (RwV.runV (c_X5_change (l := l) (D := D) (cI := cI) (cJ := cJ) (cZ := cZ) (cQ := cQ) (qs := qs) er47) F (cwV 3 hts gX5_door_X5_change rfl rfl rfl yd_X5_change ⟨Nat.le_of_ble_eq_true rfl, Nat.le_of_ble_eq_true rfl⟩) hG hP hD hS hA [0, 1, 2, 3, 4] (by decide) rfl 5 rfl rfl rfl hl.1 rfl (Nat.le_of_ble_eq_true rfl) dX5_door_64 ⟨Nat.zero_le _, Nat.zero_le _⟩) hP hD hS hA [0, 1, 2, 3, 4] [] [0, 1, 2, 3, 4] rfl (wr := []) rfl (by decide) (by decide) rfl (by decide) (fun H locs hP hD hS => ?_)
          refine lv_aload_n hx hb dX5_door_67 rfl (lv_at hl 1 rfl) ?_
          refine va_get (D := D) (ci := 5) (v := .ref hRmR) (C := RX5) (T := TX5) (N := 6) hx hb hts ku_X5_door_X5 hown hK hP 0 rfl rfl 1 (by decide) (hts _ kw_X5_door_1) (fun _ h9 => h9) rfl dX5_door_68 ?_
          refine lv_bipush (v := (6 : Int32)) hx hb dX5_door_71 (by decide) ?_
          refine lv_bipush (v := (6 : Int32)) hx hb dX5_door_73 (by decide) ?_
          obtain ⟨r48, er48, hf⟩ := fp_b hf
          refine RoI.callV (c_X2_countKinds (l := l) (D := D) (cI := cI) (cJ := cJ) (cZ := cZ) (cQ := cQ) (qs := qs) er48) F (cwV 2 hts gX5_door_X2_countKinds rfl rfl rfl yd_X2_countKinds ⟨Nat.le_of_ble_eq_true rfl, Nat.le_of_ble_eq_true rfl⟩) (hG.r hS) hP [1, 2] rfl 2 rfl rfl rfl hl.1 rfl (Nat.le_of_ble_eq_true rfl) dX5_door_75 ⟨Nat.zero_le _, Nat.zero_le _⟩ ?_
          cases hf
          exact hret _ _ _ _ dX5_door_78 (vp_nar_int _) hP hD hS
        · have hf := fp_t hf c46
          refine lv_bipush (v := (-2 : Int32)) hx hb dX5_door_55 (by decide) ?_
          cases hf
          exact hret _ _ _ _ dX5_door_57 (vp_nar_int _) hP hD hS
      replace hf := ej44
      refine lv_icmp_ne (tgt := 44) hx hb dX5_door_36 (by decide) (fun c49 => ?_) (fun c49 => ?_)
      · have hf := fp_f hf c49
        refine lv_bipush (v := (7 : Int32)) hx hb dX5_door_44 (by decide) ?_
        cases hf
        exact hj45 _ _ _ hP hD hS (lv_sub hl [2, 1, 0] rfl)
      · have hf := fp_t hf c49
        refine lv_bipush (v := (6 : Int32)) hx hb dX5_door_39 (by decide) ?_
        refine lv_goto (tgt := 46) hx hb dX5_door_41 (by decide) ?_
        cases hf
        exact hj45 _ _ _ hP hD hS (lv_sub hl [2, 1, 0] rfl)
    · have hf := fp_t hf c42
      refine lv_iconst (v := (-1 : Int32)) hx hb dX5_door_22 (by decide) ?_
      cases hf
      exact hret _ _ _ _ dX5_door_23 (vp_nar_int _) hP hD hS
set_option maxRecDepth 100000 in
theorem c_X5_door {l : Launch} {D : va_G} {cI cJ cZ cQ : ClassId} {qs : Nat × Nat × Nat} {hMs hTo hRmR hRmT hPa hWa hBe hKdR hPg : Nat} {coR : Int32} {roR : Int32} {kdR : Nat → Int32} {pz : Int32} {pg : Nat → Int32} {x1 : Int32} {x2 : Int32} {out : Int32 × (Nat → Int32) × Int32 × (Nat → Int32)} (hf : f_X5_door coR roR kdR pz pg x1 x2 = some out) : RwI l yX5_door wsX5_door { frames := 4, cells := 0, slots := 0, locals := 126 } D (ty4 cI cJ cZ cQ) qs [.ref hMs, .int x1, .int x2] [(hMs, .inr (5, [.ref hTo, .ref hRmR, .ref hRmT, .ref hPa, .ref hWa, .ref hBe])), (hRmR, .inr (2, [.ref hKdR, .int coR, .int roR])), (hKdR, .inl (cI, 20, .inl kdR)), (hPa, .inr (1, [.ref hPg, .int pz])), (hPg, .inl (cI, 4, .inl pg))] [(hMs, .inr (5, [.ref hTo, .ref hRmR, .ref hRmT, .ref hPa, .ref hWa, .ref hBe])), (hRmR, .inr (2, [.ref hKdR, .int coR, .int roR])), (hKdR, .inl (cI, 20, .inl out.2.1)), (hPa, .inr (1, [.ref hPg, .int out.2.2.1])), (hPg, .inl (cI, 4, .inl out.2.2.2))] out.1 :=
  RwI.of (own := RX5) (by decide +kernel) rfl rfl (Nat.le_of_ble_eq_true rfl) (fun F hG hA hP hD hS hret ls hl => b_X5_door F hG hA hP hD hS hf hret hl)
-- method X5_turn
theorem yd_X5_turn : yX5_turn.cls = RX5 ∧ yX5_turn.cls ≠ "java/lang/invoke/MethodHandle" ∧ yX5_turn.cls ≠ "java/lang/invoke/VarHandle" ∧ (parseMethodDescriptor yX5_turn.desc).map (fun d => d.parameters.length) = some 0 := by decide +kernel
theorem ku_X5_turn_X5 : ∀ w ∈ u_ws RX5 TX5 6, w ∈ wsX5_turn := by decide +kernel
theorem kw_X5_turn_1 : Cond.fieldLink RX5 19 "MirrorShares" "room" "LMirrorShares$Room;" ∈ wsX5_turn := List.mem_of_getElem? (i := 1) rfl
theorem ku_X5_turn_X2 : ∀ w ∈ u_ws RX2 TX2 3, w ∈ wsX5_turn := by decide +kernel
theorem kw_X5_turn_2 : Cond.fieldLink RX5 29 "MirrorShares" "past" "LMirrorShares$Past;" ∈ wsX5_turn := List.mem_of_getElem? (i := 2) rfl
def f_X5_turn (coR : Int32) (roR : Int32) (kdR : Nat → Int32) (coT : Int32) (roT : Int32) (kdT : Nat → Int32) (pz : Int32) (pg : Nat → Int32) : Option (Int32 × Int32 × Int32 × (Nat → Int32) × Int32 × Int32 × (Nat → Int32) × Int32 × (Nat → Int32)) :=
  (if roR < (2 : Int32) then some ((-2 : Int32), coR, roR, kdR, coT, roT, kdT, pz, pg) else (if coR ≤ (4 : Int32) then Option.bind (f_X5_turnRoom coR roR kdR coT roT kdT) (fun r52 => Option.bind (f_X1_rememberTurn pz pg) (fun r53 => some (r52.1, r52.1, r52.2.1, r52.2.2.1, r52.2.2.2.1, r52.2.2.2.2.1, r52.2.2.2.2.2, r53.1, r53.2))) else some ((-2 : Int32), coR, roR, kdR, coT, roT, kdT, pz, pg)))
set_option maxHeartbeats 4000000 in
set_option maxRecDepth 100000 in
theorem b_X5_turn {p : Program} {l : Launch} {e : Env} {s : State} {m : MethodId} {args : Array Value} {below : List Frame} {meth : Method} {c : Code} {Q : State → Prop} {A : Nat → Prop} {H : Heap} {locs : List Loc} {D : va_G} {cI cJ cZ cQ : ClassId} {qs : Nat × Nat × Nat} {hMs hTo hRmR hRmT hPa hWa hBe hKdR hKdT hPg : Nat} {coR : Int32} {roR : Int32} {kdR : Nat → Int32} {coT : Int32} {roT : Int32} {kdT : Nat → Int32} {pz : Int32} {pg : Nat → Int32} {out : Int32 × Int32 × Int32 × (Nat → Int32) × Int32 × Int32 × (Nat → Int32) × Int32 × (Nat → Int32)} (F : CallFix p m c cX5_turn 1 s args wsX5_turn RX5) (hG : kW D (ty4 cI cJ cZ cQ) qs A s s.heap) (hA : ∀ q : Nat, s.heap.size ≤ q → A q) (hP : va_P D vwCl [(hMs, .inr (5, [.ref hTo, .ref hRmR, .ref hRmT, .ref hPa, .ref hWa, .ref hBe])), (hRmR, .inr (2, [.ref hKdR, .int coR, .int roR])), (hKdR, .inl (cI, 20, .inl kdR)), (hRmT, .inr (2, [.ref hKdT, .int coT, .int roT])), (hKdT, .inl (cI, 20, .inl kdT)), (hPa, .inr (1, [.ref hPg, .int pz])), (hPg, .inl (cI, 4, .inl pg))] H) (hD : va_D A [(hMs, .inr (5, [.ref hTo, .ref hRmR, .ref hRmT, .ref hPa, .ref hWa, .ref hBe])), (hRmR, .inr (2, [.ref hKdR, .int coR, .int roR])), (hKdR, .inl (cI, 20, .inl kdR)), (hRmT, .inr (2, [.ref hKdT, .int coT, .int roT])), (hKdT, .inl (cI, 20, .inl kdT)), (hPa, .inr (1, [.ref hPg, .int pz])), (hPg, .inl (cI, 4, .inl pg))]) (hS : va_S A s.heap H locs) (hf : f_X5_turn coR roR kdR coT roT kdT pz pg = some out) (hret : ∀ (pc : Nat) (H : Heap) (locs : List Loc) (ls : Array Slot), decode cX5_turn pc = .ok (.ireturn, 1) → narrow .int (.int out.1) = .int out.1 → va_P D vwCl [(hMs, .inr (5, [.ref hTo, .ref hRmR, .ref hRmT, .ref hPa, .ref hWa, .ref hBe])), (hRmR, .inr (2, [.ref hKdR, .int out.2.1, .int out.2.2.1])), (hKdR, .inl (cI, 20, .inl out.2.2.2.1)), (hRmT, .inr (2, [.ref hKdT, .int out.2.2.2.2.1, .int out.2.2.2.2.2.1])), (hKdT, .inl (cI, 20, .inl out.2.2.2.2.2.2.1)), (hPa, .inr (1, [.ref hPg, .int out.2.2.2.2.2.2.2.1])), (hPg, .inl (cI, 4, .inl out.2.2.2.2.2.2.2.2))] H → va_D A [(hMs, .inr (5, [.ref hTo, .ref hRmR, .ref hRmT, .ref hPa, .ref hWa, .ref hBe])), (hRmR, .inr (2, [.ref hKdR, .int out.2.1, .int out.2.2.1])), (hKdR, .inl (cI, 20, .inl out.2.2.2.1)), (hRmT, .inr (2, [.ref hKdT, .int out.2.2.2.2.1, .int out.2.2.2.2.2.1])), (hKdT, .inl (cI, 20, .inl out.2.2.2.2.2.2.1)), (hPa, .inr (1, [.ref hPg, .int out.2.2.2.2.2.2.2.1])), (hPg, .inl (cI, 4, .inl out.2.2.2.2.2.2.2.2))] → va_S A s.heap H locs → W p l e { frames := 4, cells := 0, slots := 0, locals := 101 } s m args below meth c H locs 0 0 Q (F0 m pc ls [.int out.1])) {ls : Array Slot} (hl : lv_has ls 1 [(0, .ref hMs)]) : W p l e { frames := 4, cells := 0, slots := 0, locals := 101 } s m args below meth c H locs 0 0 Q (F0 m 0 ls []) := by
  have hx := F.1
  have hb := F.2.1
  have hown := F.2.2.2.1
  have hts := F.2.2.2.2
  have hK := hG.1.1
  rw [f_X5_turn] at hf
  refine lv_aload_n hx hb dX5_turn_0 rfl (lv_at hl 0 rfl) ?_
  refine va_get (D := D) (ci := 5) (v := .ref hRmR) (C := RX5) (T := TX5) (N := 6) hx hb hts ku_X5_turn_X5 hown hK hP 0 rfl rfl 1 (by decide) (hts _ kw_X5_turn_1) (fun _ h9 => h9) rfl dX5_turn_1 ?_
  refine va_getN (D := D) (ci := 2) (v := .int roR) (C := RX2) (T := TX2) (N := 3) (host := "MirrorShares") hx hb hts ku_X5_turn_X2 hown hK hP 1 rfl rfl 2 (by decide) (nwf_3 hG.1) (fun _ h9 => h9) rfl dX5_turn_4 ?_
  refine lv_iconst (v := (2 : Int32)) hx hb dX5_turn_7 (by decide) ?_
  refine lv_icmp_lt (tgt := 22) hx hb dX5_turn_8 (by decide) (fun c50 => ?_) (fun c50 => ?_)
  · have hf := fp_t hf c50
    refine lv_bipush (v := (-2 : Int32)) hx hb dX5_turn_22 (by decide) ?_
    cases hf
    exact hret _ _ _ _ dX5_turn_24 (vp_nar_int _) hP hD hS
  · have hf := fp_f hf c50
    refine lv_aload_n hx hb dX5_turn_11 rfl (lv_at hl 0 rfl) ?_
    refine va_get (D := D) (ci := 5) (v := .ref hRmR) (C := RX5) (T := TX5) (N := 6) hx hb hts ku_X5_turn_X5 hown hK hP 0 rfl rfl 1 (by decide) (hts _ kw_X5_turn_1) (fun _ h9 => h9) rfl dX5_turn_12 ?_
    refine va_getN (D := D) (ci := 2) (v := .int coR) (C := RX2) (T := TX2) (N := 3) (host := "MirrorShares") hx hb hts ku_X5_turn_X2 hown hK hP 1 rfl rfl 1 (by decide) (nwf_2 hG.1) (fun _ h9 => h9) rfl dX5_turn_15 ?_
    refine lv_iconst (v := (4 : Int32)) hx hb dX5_turn_18 (by decide) ?_
    refine lv_icmp_le (tgt := 25) hx hb dX5_turn_19 (by decide) (fun c51 => ?_) (fun c51 => ?_)
    · have hf := fp_t hf c51
      refine lv_aload_n hx hb dX5_turn_25 rfl (lv_at hl 0 rfl) ?_
      obtain ⟨r52, er52, hf⟩ := fp_b hf
      refine kc_rwV (w2 := [(hMs, .inr (5, [.ref hTo, .ref hRmR, .ref hRmT, .ref hPa, .ref hWa, .ref hBe])), (hRmR, .inr (2, [.ref hKdR, .int r52.1, .int r52.2.1])), (hKdR, .inl (cI, 20, .inl r52.2.2.1)), (hRmT, .inr (2, [.ref hKdT, .int r52.2.2.2.1, .int r52.2.2.2.2.1])), (hKdT, .inl (cI, 20, .inl r52.2.2.2.2.2)), (hPa, .inr (1, [.ref hPg, .int pz])), (hPg, .inl (cI, 4, .inl pg))]) (RwV.runV (c_X5_turnRoom (l := l) (D := D) (cI := cI) (cJ := cJ) (cZ := cZ) (cQ := cQ) (qs := qs) er52) F (cwV 0 hts gX5_turn_X5_turnRoom rfl rfl rfl yd_X5_turnRoom ⟨Nat.le_of_ble_eq_true rfl, Nat.le_of_ble_eq_true rfl⟩) hG hP hD hS hA [0, 1, 2, 3, 4] (by decide) rfl 5 rfl rfl rfl hl.1 rfl (Nat.le_of_ble_eq_true rfl) dX5_turn_26 ⟨Nat.zero_le _, Nat.zero_le _⟩) hP hD hS hA [0, 1, 2, 3, 4] [5, 6] [2, 3, 4, 5, 6, 0, 1] rfl (wr := [(hPa, .inr (1, [.ref hPg, .int pz])), (hPg, .inl (cI, 4, .inl pg))]) rfl (by decide) (by decide) rfl (by decide) (fun H locs hP hD hS => ?_)
      refine lv_aload_n hx hb dX5_turn_29 rfl (lv_at hl 0 rfl) ?_
      refine va_get (D := D) (ci := 5) (v := .ref hPa) (C := RX5) (T := TX5) (N := 6) hx hb hts ku_X5_turn_X5 hown hK hP 0 rfl rfl 3 (by decide) (hts _ kw_X5_turn_2) (fun _ h9 => h9) rfl dX5_turn_30 ?_
      obtain ⟨r53, er53, hf⟩ := fp_b hf
      refine kc_rwV (w2 := [(hMs, .inr (5, [.ref hTo, .ref hRmR, .ref hRmT, .ref hPa, .ref hWa, .ref hBe])), (hRmR, .inr (2, [.ref hKdR, .int r52.1, .int r52.2.1])), (hKdR, .inl (cI, 20, .inl r52.2.2.1)), (hRmT, .inr (2, [.ref hKdT, .int r52.2.2.2.1, .int r52.2.2.2.2.1])), (hKdT, .inl (cI, 20, .inl r52.2.2.2.2.2)), (hPa, .inr (1, [.ref hPg, .int r53.1])), (hPg, .inl (cI, 4, .inl r53.2))]) (RwV.runV (c_X1_rememberTurn (l := l) (D := D) (cI := cI) (cJ := cJ) (cZ := cZ) (cQ := cQ) (qs := qs) er53) F (cwV 0 hts gX5_turn_X1_rememberTurn rfl rfl rfl yd_X1_rememberTurn ⟨Nat.le_of_ble_eq_true rfl, Nat.le_of_ble_eq_true rfl⟩) hG hP hD hS hA [5, 6] (by decide) rfl 1 rfl rfl rfl hl.1 rfl (Nat.le_of_ble_eq_true rfl) dX5_turn_33 ⟨Nat.zero_le _, Nat.zero_le _⟩) hP hD hS hA [5, 6] [0, 1, 2, 3, 4] [0, 1, 2, 3, 4, 5, 6] rfl (wr := [(hMs, .inr (5, [.ref hTo, .ref hRmR, .ref hRmT, .ref hPa, .ref hWa, .ref hBe])), (hRmR, .inr (2, [.ref hKdR, .int r52.1, .int r52.2.1])), (hKdR, .inl (cI, 20, .inl r52.2.2.1)), (hRmT, .inr (2, [.ref hKdT, .int r52.2.2.2.1, .int r52.2.2.2.2.1])), (hKdT, .inl (cI, 20, .inl r52.2.2.2.2.2))]) rfl (by decide) (by decide) rfl (by decide) (fun H locs hP hD hS => ?_)
      refine lv_aload_n hx hb dX5_turn_36 rfl (lv_at hl 0 rfl) ?_
      refine va_get (D := D) (ci := 5) (v := .ref hRmR) (C := RX5) (T := TX5) (N := 6) hx hb hts ku_X5_turn_X5 hown hK hP 0 rfl rfl 1 (by decide) (hts _ kw_X5_turn_1) (fun _ h9 => h9) rfl dX5_turn_37 ?_
      refine va_getN (D := D) (ci := 2) (v := .int r52.1) (C := RX2) (T := TX2) (N := 3) (host := "MirrorShares") hx hb hts ku_X5_turn_X2 hown hK hP 1 rfl rfl 1 (by decide) (nwf_2 hG.1) (fun _ h9 => h9) rfl dX5_turn_40 ?_
      cases hf
      exact hret _ _ _ _ dX5_turn_43 (vp_nar_int _) hP hD hS
    · have hf := fp_f hf c51
      refine lv_bipush (v := (-2 : Int32)) hx hb dX5_turn_22 (by decide) ?_
      cases hf
      exact hret _ _ _ _ dX5_turn_24 (vp_nar_int _) hP hD hS
set_option maxRecDepth 100000 in
theorem c_X5_turn {l : Launch} {D : va_G} {cI cJ cZ cQ : ClassId} {qs : Nat × Nat × Nat} {hMs hTo hRmR hRmT hPa hWa hBe hKdR hKdT hPg : Nat} {coR : Int32} {roR : Int32} {kdR : Nat → Int32} {coT : Int32} {roT : Int32} {kdT : Nat → Int32} {pz : Int32} {pg : Nat → Int32} {out : Int32 × Int32 × Int32 × (Nat → Int32) × Int32 × Int32 × (Nat → Int32) × Int32 × (Nat → Int32)} (hf : f_X5_turn coR roR kdR coT roT kdT pz pg = some out) : RwI l yX5_turn wsX5_turn { frames := 4, cells := 0, slots := 0, locals := 101 } D (ty4 cI cJ cZ cQ) qs [.ref hMs] [(hMs, .inr (5, [.ref hTo, .ref hRmR, .ref hRmT, .ref hPa, .ref hWa, .ref hBe])), (hRmR, .inr (2, [.ref hKdR, .int coR, .int roR])), (hKdR, .inl (cI, 20, .inl kdR)), (hRmT, .inr (2, [.ref hKdT, .int coT, .int roT])), (hKdT, .inl (cI, 20, .inl kdT)), (hPa, .inr (1, [.ref hPg, .int pz])), (hPg, .inl (cI, 4, .inl pg))] [(hMs, .inr (5, [.ref hTo, .ref hRmR, .ref hRmT, .ref hPa, .ref hWa, .ref hBe])), (hRmR, .inr (2, [.ref hKdR, .int out.2.1, .int out.2.2.1])), (hKdR, .inl (cI, 20, .inl out.2.2.2.1)), (hRmT, .inr (2, [.ref hKdT, .int out.2.2.2.2.1, .int out.2.2.2.2.2.1])), (hKdT, .inl (cI, 20, .inl out.2.2.2.2.2.2.1)), (hPa, .inr (1, [.ref hPg, .int out.2.2.2.2.2.2.2.1])), (hPg, .inl (cI, 4, .inl out.2.2.2.2.2.2.2.2))] out.1 :=
  RwI.of (own := RX5) (by decide +kernel) rfl rfl (Nat.le_of_ble_eq_true rfl) (fun F hG hA hP hD hS hret ls hl => b_X5_turn F hG hA hP hD hS hf hret hl)
-- method X5_undo
theorem yd_X5_undo : yX5_undo.cls = RX5 ∧ yX5_undo.cls ≠ "java/lang/invoke/MethodHandle" ∧ yX5_undo.cls ≠ "java/lang/invoke/VarHandle" ∧ (parseMethodDescriptor yX5_undo.desc).map (fun d => d.parameters.length) = some 0 := by decide +kernel
theorem ku_X5_undo_X5 : ∀ w ∈ u_ws RX5 TX5 6, w ∈ wsX5_undo := by decide +kernel
theorem kw_X5_undo_1 : Cond.fieldLink RX5 29 "MirrorShares" "past" "LMirrorShares$Past;" ∈ wsX5_undo := List.mem_of_getElem? (i := 1) rfl
theorem ku_X5_undo_X1 : ∀ w ∈ u_ws RX1 TX1 2, w ∈ wsX5_undo := by decide +kernel
theorem kw_X5_undo_2 : Cond.fieldLink RX5 19 "MirrorShares" "room" "LMirrorShares$Room;" ∈ wsX5_undo := List.mem_of_getElem? (i := 2) rfl
def f_X5_undo (coR : Int32) (roR : Int32) (kdR : Nat → Int32) (coT : Int32) (roT : Int32) (kdT : Nat → Int32) (pz : Int32) (pg : Nat → Int32) : Option (Int32 × Int32 × Int32 × (Nat → Int32) × Int32 × Int32 × (Nat → Int32) × Int32) :=
  (if pz = 0 then some ((-2 : Int32), coR, roR, kdR, coT, roT, kdT, pz) else Option.bind (f_X1_takeLatest pz pg) (fun r55 => (if r55.1 = (-1 : Int32) then Option.bind (f_X5_turnRoom coR roR kdR coT roT kdT) (fun r60 => Option.bind (f_X5_turnRoom r60.1 r60.2.1 r60.2.2.1 r60.2.2.2.1 r60.2.2.2.2.1 r60.2.2.2.2.2) (fun r61 => Option.bind (f_X5_turnRoom r61.1 r61.2.1 r61.2.2.1 r61.2.2.2.1 r61.2.2.2.2.1 r61.2.2.2.2.2) (fun r62 => some (r55.2, r62.1, r62.2.1, r62.2.2.1, r62.2.2.2.1, r62.2.2.2.2.1, r62.2.2.2.2.2, r55.2)))) else Option.bind (f_X1_cellOf r55.1) (fun r57 => Option.bind (f_X1_kindOf r55.1) (fun r58 => Option.bind (f_X2_tell coR roR kdR r57 r58) (fun r59 => some (r55.2, coR, roR, r59, coT, roT, kdT, r55.2)))))))
set_option maxHeartbeats 4000000 in
set_option maxRecDepth 100000 in
theorem b_X5_undo {p : Program} {l : Launch} {e : Env} {s : State} {m : MethodId} {args : Array Value} {below : List Frame} {meth : Method} {c : Code} {Q : State → Prop} {A : Nat → Prop} {H : Heap} {locs : List Loc} {D : va_G} {cI cJ cZ cQ : ClassId} {qs : Nat × Nat × Nat} {hMs hTo hRmR hRmT hPa hWa hBe hKdR hKdT hPg : Nat} {coR : Int32} {roR : Int32} {kdR : Nat → Int32} {coT : Int32} {roT : Int32} {kdT : Nat → Int32} {pz : Int32} {pg : Nat → Int32} {out : Int32 × Int32 × Int32 × (Nat → Int32) × Int32 × Int32 × (Nat → Int32) × Int32} (F : CallFix p m c cX5_undo 2 s args wsX5_undo RX5) (hG : kW D (ty4 cI cJ cZ cQ) qs A s s.heap) (hA : ∀ q : Nat, s.heap.size ≤ q → A q) (hP : va_P D vwCl [(hMs, .inr (5, [.ref hTo, .ref hRmR, .ref hRmT, .ref hPa, .ref hWa, .ref hBe])), (hRmR, .inr (2, [.ref hKdR, .int coR, .int roR])), (hKdR, .inl (cI, 20, .inl kdR)), (hRmT, .inr (2, [.ref hKdT, .int coT, .int roT])), (hKdT, .inl (cI, 20, .inl kdT)), (hPa, .inr (1, [.ref hPg, .int pz])), (hPg, .inl (cI, 4, .inl pg))] H) (hD : va_D A [(hMs, .inr (5, [.ref hTo, .ref hRmR, .ref hRmT, .ref hPa, .ref hWa, .ref hBe])), (hRmR, .inr (2, [.ref hKdR, .int coR, .int roR])), (hKdR, .inl (cI, 20, .inl kdR)), (hRmT, .inr (2, [.ref hKdT, .int coT, .int roT])), (hKdT, .inl (cI, 20, .inl kdT)), (hPa, .inr (1, [.ref hPg, .int pz])), (hPg, .inl (cI, 4, .inl pg))]) (hS : va_S A s.heap H locs) (hf : f_X5_undo coR roR kdR coT roT kdT pz pg = some out) (hret : ∀ (pc : Nat) (H : Heap) (locs : List Loc) (ls : Array Slot), decode cX5_undo pc = .ok (.ireturn, 1) → narrow .int (.int out.1) = .int out.1 → va_P D vwCl [(hMs, .inr (5, [.ref hTo, .ref hRmR, .ref hRmT, .ref hPa, .ref hWa, .ref hBe])), (hRmR, .inr (2, [.ref hKdR, .int out.2.1, .int out.2.2.1])), (hKdR, .inl (cI, 20, .inl out.2.2.2.1)), (hRmT, .inr (2, [.ref hKdT, .int out.2.2.2.2.1, .int out.2.2.2.2.2.1])), (hKdT, .inl (cI, 20, .inl out.2.2.2.2.2.2.1)), (hPa, .inr (1, [.ref hPg, .int out.2.2.2.2.2.2.2])), (hPg, .inl (cI, 4, .inl pg))] H → va_D A [(hMs, .inr (5, [.ref hTo, .ref hRmR, .ref hRmT, .ref hPa, .ref hWa, .ref hBe])), (hRmR, .inr (2, [.ref hKdR, .int out.2.1, .int out.2.2.1])), (hKdR, .inl (cI, 20, .inl out.2.2.2.1)), (hRmT, .inr (2, [.ref hKdT, .int out.2.2.2.2.1, .int out.2.2.2.2.2.1])), (hKdT, .inl (cI, 20, .inl out.2.2.2.2.2.2.1)), (hPa, .inr (1, [.ref hPg, .int out.2.2.2.2.2.2.2])), (hPg, .inl (cI, 4, .inl pg))] → va_S A s.heap H locs → W p l e { frames := 4, cells := 0, slots := 0, locals := 101 } s m args below meth c H locs 0 0 Q (F0 m pc ls [.int out.1])) {ls : Array Slot} (hl : lv_has ls 2 [(0, .ref hMs)]) : W p l e { frames := 4, cells := 0, slots := 0, locals := 101 } s m args below meth c H locs 0 0 Q (F0 m 0 ls []) := by
  have hx := F.1
  have hb := F.2.1
  have hown := F.2.2.2.1
  have hts := F.2.2.2.2
  have hK := hG.1.1
  rw [f_X5_undo] at hf
  refine lv_aload_n hx hb dX5_undo_0 rfl (lv_at hl 0 rfl) ?_
  refine va_get (D := D) (ci := 5) (v := .ref hPa) (C := RX5) (T := TX5) (N := 6) hx hb hts ku_X5_undo_X5 hown hK hP 0 rfl rfl 3 (by decide) (hts _ kw_X5_undo_1) (fun _ h9 => h9) rfl dX5_undo_1 ?_
  refine va_getN (D := D) (ci := 1) (v := .int pz) (C := RX1) (T := TX1) (N := 2) (host := "MirrorShares") hx hb hts ku_X5_undo_X1 hown hK hP 5 rfl rfl 1 (by decide) (nwf_4 hG.1) (fun _ h9 => h9) rfl dX5_undo_4 ?_
  refine lv_if_ne (tgt := 13) hx hb dX5_undo_7 (by decide) (fun c54 => ?_) (fun c54 => ?_)
  · have hf := fp_f hf c54
    refine lv_aload_n hx hb dX5_undo_13 rfl (lv_at hl 0 rfl) ?_
    refine va_get (D := D) (ci := 5) (v := .ref hPa) (C := RX5) (T := TX5) (N := 6) hx hb hts ku_X5_undo_X5 hown hK hP 0 rfl rfl 3 (by decide) (hts _ kw_X5_undo_1) (fun _ h9 => h9) rfl dX5_undo_14 ?_
    obtain ⟨r55, er55, hf⟩ := fp_b hf
    refine kc_rwI (w2 := [(hMs, .inr (5, [.ref hTo, .ref hRmR, .ref hRmT, .ref hPa, .ref hWa, .ref hBe])), (hRmR, .inr (2, [.ref hKdR, .int coR, .int roR])), (hKdR, .inl (cI, 20, .inl kdR)), (hRmT, .inr (2, [.ref hKdT, .int coT, .int roT])), (hKdT, .inl (cI, 20, .inl kdT)), (hPa, .inr (1, [.ref hPg, .int r55.2])), (hPg, .inl (cI, 4, .inl pg))]) (RwI.runV (c_X1_takeLatest (l := l) (D := D) (cI := cI) (cJ := cJ) (cZ := cZ) (cQ := cQ) (qs := qs) er55) F (cwV 0 hts gX5_undo_X1_takeLatest rfl rfl rfl yd_X1_takeLatest ⟨Nat.le_of_ble_eq_true rfl, Nat.le_of_ble_eq_true rfl⟩) hG hP hD hS hA [5, 6] (by decide) rfl 1 rfl rfl rfl hl.1 rfl (Nat.le_of_ble_eq_true rfl) dX5_undo_17 ⟨Nat.zero_le _, Nat.zero_le _⟩) hP hD hS hA [5, 6] [0, 1, 2, 3, 4] [0, 1, 2, 3, 4, 5, 6] rfl (wr := [(hMs, .inr (5, [.ref hTo, .ref hRmR, .ref hRmT, .ref hPa, .ref hWa, .ref hBe])), (hRmR, .inr (2, [.ref hKdR, .int coR, .int roR])), (hKdR, .inl (cI, 20, .inl kdR)), (hRmT, .inr (2, [.ref hKdT, .int coT, .int roT])), (hKdT, .inl (cI, 20, .inl kdT))]) rfl (by decide) (by decide) rfl (by decide) (fun H locs hP hD hS => ?_)
    refine lv_istore_n (lv' := [(1, .int r55.1), (0, .ref hMs)]) hx hb dX5_undo_20 rfl hl (by decide) rfl (fun ls hl => ?_)
    refine lv_iload_n hx hb dX5_undo_21 rfl (lv_at hl 0 rfl) ?_
    refine lv_iconst (v := (-1 : Int32)) hx hb dX5_undo_22 (by decide) ?_
    refine lv_icmp_ne (tgt := 41) hx hb dX5_undo_23 (by decide) (fun c56 => ?_) (fun c56 => ?_)
    · have hf := fp_f hf c56
      refine lv_aload_n hx hb dX5_undo_41 rfl (lv_at hl 1 rfl) ?_
      refine va_get (D := D) (ci := 5) (v := .ref hRmR) (C := RX5) (T := TX5) (N := 6) hx hb hts ku_X5_undo_X5 hown hK hP 0 rfl rfl 1 (by decide) (hts _ kw_X5_undo_2) (fun _ h9 => h9) rfl dX5_undo_42 ?_
      refine lv_iload_n hx hb dX5_undo_45 rfl (lv_at hl 0 rfl) ?_
      obtain ⟨r57, er57, hf⟩ := fp_b hf
      refine RoI.callS (c_X1_cellOf (l := l) (D := D) (cI := cI) (cJ := cJ) (cZ := cZ) (cQ := cQ) (qs := qs) er57) F (va_cwS 1 hts gX5_undo_X1_cellOf rfl rfl rfl yd_X1_cellOf ⟨Nat.le_of_ble_eq_true rfl, Nat.le_of_ble_eq_true rfl⟩) (hG.r hS) hP [] rfl rfl hl.1 rfl (Nat.le_of_ble_eq_true rfl) dX5_undo_46 ⟨Nat.zero_le _, Nat.zero_le _⟩ ?_
      refine lv_iload_n hx hb dX5_undo_49 rfl (lv_at hl 0 rfl) ?_
      obtain ⟨r58, er58, hf⟩ := fp_b hf
      refine RoI.callS (c_X1_kindOf (l := l) (D := D) (cI := cI) (cJ := cJ) (cZ := cZ) (cQ := cQ) (qs := qs) er58) F (va_cwS 1 hts gX5_undo_X1_kindOf rfl rfl rfl yd_X1_kindOf ⟨Nat.le_of_ble_eq_true rfl, Nat.le_of_ble_eq_true rfl⟩) (hG.r hS) hP [] rfl rfl hl.1 rfl (Nat.le_of_ble_eq_true rfl) dX5_undo_50 ⟨Nat.zero_le _, Nat.zero_le _⟩ ?_
      obtain ⟨r59, er59, hf⟩ := fp_b hf
      refine kc_rwV (w2 := [(hMs, .inr (5, [.ref hTo, .ref hRmR, .ref hRmT, .ref hPa, .ref hWa, .ref hBe])), (hRmR, .inr (2, [.ref hKdR, .int coR, .int roR])), (hKdR, .inl (cI, 20, .inl r59)), (hRmT, .inr (2, [.ref hKdT, .int coT, .int roT])), (hKdT, .inl (cI, 20, .inl kdT)), (hPa, .inr (1, [.ref hPg, .int r55.2])), (hPg, .inl (cI, 4, .inl pg))]) (RwV.runV (c_X2_tell (l := l) (D := D) (cI := cI) (cJ := cJ) (cZ := cZ) (cQ := cQ) (qs := qs) er59) F (cwV 2 hts gX5_undo_X2_tell rfl rfl rfl yd_X2_tell ⟨Nat.le_of_ble_eq_true rfl, Nat.le_of_ble_eq_true rfl⟩) hG hP hD hS hA [1, 2] (by decide) rfl 2 rfl rfl rfl hl.1 rfl (Nat.le_of_ble_eq_true rfl) dX5_undo_53 ⟨Nat.zero_le _, Nat.zero_le _⟩) hP hD hS hA [1, 2] [0, 3, 4, 5, 6] [0, 5, 6, 1, 2, 3, 4] rfl (wr := [(hMs, .inr (5, [.ref hTo, .ref hRmR, .ref hRmT, .ref hPa, .ref hWa, .ref hBe])), (hRmT, .inr (2, [.ref hKdT, .int coT, .int roT])), (hKdT, .inl (cI, 20, .inl kdT)), (hPa, .inr (1, [.ref hPg, .int r55.2])), (hPg, .inl (cI, 4, .inl pg))]) rfl (by decide) (by decide) rfl (by decide) (fun H locs hP hD hS => ?_)
      refine lv_aload_n hx hb dX5_undo_56 rfl (lv_at hl 1 rfl) ?_
      refine va_get (D := D) (ci := 5) (v := .ref hPa) (C := RX5) (T := TX5) (N := 6) hx hb hts ku_X5_undo_X5 hown hK hP 0 rfl rfl 3 (by decide) (hts _ kw_X5_undo_1) (fun _ h9 => h9) rfl dX5_undo_57 ?_
      refine va_getN (D := D) (ci := 1) (v := .int r55.2) (C := RX1) (T := TX1) (N := 2) (host := "MirrorShares") hx hb hts ku_X5_undo_X1 hown hK hP 5 rfl rfl 1 (by decide) (nwf_4 hG.1) (fun _ h9 => h9) rfl dX5_undo_60 ?_
      cases hf
      exact hret _ _ _ _ dX5_undo_63 (vp_nar_int _) hP hD hS
    · have hf := fp_t hf c56
      refine lv_aload_n hx hb dX5_undo_26 rfl (lv_at hl 1 rfl) ?_
      obtain ⟨r60, er60, hf⟩ := fp_b hf
      refine kc_rwV (w2 := [(hMs, .inr (5, [.ref hTo, .ref hRmR, .ref hRmT, .ref hPa, .ref hWa, .ref hBe])), (hRmR, .inr (2, [.ref hKdR, .int r60.1, .int r60.2.1])), (hKdR, .inl (cI, 20, .inl r60.2.2.1)), (hRmT, .inr (2, [.ref hKdT, .int r60.2.2.2.1, .int r60.2.2.2.2.1])), (hKdT, .inl (cI, 20, .inl r60.2.2.2.2.2)), (hPa, .inr (1, [.ref hPg, .int r55.2])), (hPg, .inl (cI, 4, .inl pg))]) (RwV.runV (c_X5_turnRoom (l := l) (D := D) (cI := cI) (cJ := cJ) (cZ := cZ) (cQ := cQ) (qs := qs) er60) F (cwV 0 hts gX5_undo_X5_turnRoom rfl rfl rfl yd_X5_turnRoom ⟨Nat.le_of_ble_eq_true rfl, Nat.le_of_ble_eq_true rfl⟩) hG hP hD hS hA [0, 1, 2, 3, 4] (by decide) rfl 5 rfl rfl rfl hl.1 rfl (Nat.le_of_ble_eq_true rfl) dX5_undo_27 ⟨Nat.zero_le _, Nat.zero_le _⟩) hP hD hS hA [0, 1, 2, 3, 4] [5, 6] [2, 3, 4, 5, 6, 0, 1] rfl (wr := [(hPa, .inr (1, [.ref hPg, .int r55.2])), (hPg, .inl (cI, 4, .inl pg))]) rfl (by decide) (by decide) rfl (by decide) (fun H locs hP hD hS => ?_)
      refine lv_aload_n hx hb dX5_undo_30 rfl (lv_at hl 1 rfl) ?_
      obtain ⟨r61, er61, hf⟩ := fp_b hf
      refine kc_rwV (w2 := [(hMs, .inr (5, [.ref hTo, .ref hRmR, .ref hRmT, .ref hPa, .ref hWa, .ref hBe])), (hRmR, .inr (2, [.ref hKdR, .int r61.1, .int r61.2.1])), (hKdR, .inl (cI, 20, .inl r61.2.2.1)), (hRmT, .inr (2, [.ref hKdT, .int r61.2.2.2.1, .int r61.2.2.2.2.1])), (hKdT, .inl (cI, 20, .inl r61.2.2.2.2.2)), (hPa, .inr (1, [.ref hPg, .int r55.2])), (hPg, .inl (cI, 4, .inl pg))]) (RwV.runV (c_X5_turnRoom (l := l) (D := D) (cI := cI) (cJ := cJ) (cZ := cZ) (cQ := cQ) (qs := qs) er61) F (cwV 0 hts gX5_undo_X5_turnRoom rfl rfl rfl yd_X5_turnRoom ⟨Nat.le_of_ble_eq_true rfl, Nat.le_of_ble_eq_true rfl⟩) hG hP hD hS hA [0, 1, 2, 3, 4] (by decide) rfl 5 rfl rfl rfl hl.1 rfl (Nat.le_of_ble_eq_true rfl) dX5_undo_31 ⟨Nat.zero_le _, Nat.zero_le _⟩) hP hD hS hA [0, 1, 2, 3, 4] [5, 6] [2, 3, 4, 5, 6, 0, 1] rfl (wr := [(hPa, .inr (1, [.ref hPg, .int r55.2])), (hPg, .inl (cI, 4, .inl pg))]) rfl (by decide) (by decide) rfl (by decide) (fun H locs hP hD hS => ?_)
      refine lv_aload_n hx hb dX5_undo_34 rfl (lv_at hl 1 rfl) ?_
      obtain ⟨r62, er62, hf⟩ := fp_b hf
      refine kc_rwV (w2 := [(hMs, .inr (5, [.ref hTo, .ref hRmR, .ref hRmT, .ref hPa, .ref hWa, .ref hBe])), (hRmR, .inr (2, [.ref hKdR, .int r62.1, .int r62.2.1])), (hKdR, .inl (cI, 20, .inl r62.2.2.1)), (hRmT, .inr (2, [.ref hKdT, .int r62.2.2.2.1, .int r62.2.2.2.2.1])), (hKdT, .inl (cI, 20, .inl r62.2.2.2.2.2)), (hPa, .inr (1, [.ref hPg, .int r55.2])), (hPg, .inl (cI, 4, .inl pg))]) (RwV.runV (c_X5_turnRoom (l := l) (D := D) (cI := cI) (cJ := cJ) (cZ := cZ) (cQ := cQ) (qs := qs) er62) F (cwV 0 hts gX5_undo_X5_turnRoom rfl rfl rfl yd_X5_turnRoom ⟨Nat.le_of_ble_eq_true rfl, Nat.le_of_ble_eq_true rfl⟩) hG hP hD hS hA [0, 1, 2, 3, 4] (by decide) rfl 5 rfl rfl rfl hl.1 rfl (Nat.le_of_ble_eq_true rfl) dX5_undo_35 ⟨Nat.zero_le _, Nat.zero_le _⟩) hP hD hS hA [0, 1, 2, 3, 4] [5, 6] [2, 3, 4, 5, 6, 0, 1] rfl (wr := [(hPa, .inr (1, [.ref hPg, .int r55.2])), (hPg, .inl (cI, 4, .inl pg))]) rfl (by decide) (by decide) rfl (by decide) (fun H locs hP hD hS => ?_)
      refine lv_goto (tgt := 56) hx hb dX5_undo_38 (by decide) ?_
      refine lv_aload_n hx hb dX5_undo_56 rfl (lv_at hl 1 rfl) ?_
      refine va_get (D := D) (ci := 5) (v := .ref hPa) (C := RX5) (T := TX5) (N := 6) hx hb hts ku_X5_undo_X5 hown hK hP 0 rfl rfl 3 (by decide) (hts _ kw_X5_undo_1) (fun _ h9 => h9) rfl dX5_undo_57 ?_
      refine va_getN (D := D) (ci := 1) (v := .int r55.2) (C := RX1) (T := TX1) (N := 2) (host := "MirrorShares") hx hb hts ku_X5_undo_X1 hown hK hP 5 rfl rfl 1 (by decide) (nwf_4 hG.1) (fun _ h9 => h9) rfl dX5_undo_60 ?_
      cases hf
      exact hret _ _ _ _ dX5_undo_63 (vp_nar_int _) hP hD hS
  · have hf := fp_t hf c54
    refine lv_bipush (v := (-2 : Int32)) hx hb dX5_undo_10 (by decide) ?_
    cases hf
    exact hret _ _ _ _ dX5_undo_12 (vp_nar_int _) hP hD hS
set_option maxRecDepth 100000 in
theorem c_X5_undo {l : Launch} {D : va_G} {cI cJ cZ cQ : ClassId} {qs : Nat × Nat × Nat} {hMs hTo hRmR hRmT hPa hWa hBe hKdR hKdT hPg : Nat} {coR : Int32} {roR : Int32} {kdR : Nat → Int32} {coT : Int32} {roT : Int32} {kdT : Nat → Int32} {pz : Int32} {pg : Nat → Int32} {out : Int32 × Int32 × Int32 × (Nat → Int32) × Int32 × Int32 × (Nat → Int32) × Int32} (hf : f_X5_undo coR roR kdR coT roT kdT pz pg = some out) : RwI l yX5_undo wsX5_undo { frames := 4, cells := 0, slots := 0, locals := 101 } D (ty4 cI cJ cZ cQ) qs [.ref hMs] [(hMs, .inr (5, [.ref hTo, .ref hRmR, .ref hRmT, .ref hPa, .ref hWa, .ref hBe])), (hRmR, .inr (2, [.ref hKdR, .int coR, .int roR])), (hKdR, .inl (cI, 20, .inl kdR)), (hRmT, .inr (2, [.ref hKdT, .int coT, .int roT])), (hKdT, .inl (cI, 20, .inl kdT)), (hPa, .inr (1, [.ref hPg, .int pz])), (hPg, .inl (cI, 4, .inl pg))] [(hMs, .inr (5, [.ref hTo, .ref hRmR, .ref hRmT, .ref hPa, .ref hWa, .ref hBe])), (hRmR, .inr (2, [.ref hKdR, .int out.2.1, .int out.2.2.1])), (hKdR, .inl (cI, 20, .inl out.2.2.2.1)), (hRmT, .inr (2, [.ref hKdT, .int out.2.2.2.2.1, .int out.2.2.2.2.2.1])), (hKdT, .inl (cI, 20, .inl out.2.2.2.2.2.2.1)), (hPa, .inr (1, [.ref hPg, .int out.2.2.2.2.2.2.2])), (hPg, .inl (cI, 4, .inl pg))] out.1 :=
  RwI.of (own := RX5) (by decide +kernel) rfl rfl (Nat.le_of_ble_eq_true rfl) (fun F hG hA hP hD hS hret ls hl => b_X5_undo F hG hA hP hD hS hf hret hl)
-- method X5_cell
theorem yd_X5_cell : yX5_cell.cls = RX5 ∧ yX5_cell.cls ≠ "java/lang/invoke/MethodHandle" ∧ yX5_cell.cls ≠ "java/lang/invoke/VarHandle" ∧ (parseMethodDescriptor yX5_cell.desc).map (fun d => d.parameters.length) = some 1 := by decide +kernel
theorem ku_X5_cell_X5 : ∀ w ∈ u_ws RX5 TX5 6, w ∈ wsX5_cell := by decide +kernel
theorem kw_X5_cell_1 : Cond.fieldLink RX5 19 "MirrorShares" "room" "LMirrorShares$Room;" ∈ wsX5_cell := List.mem_of_getElem? (i := 1) rfl
def f_X5_cell (coR : Int32) (roR : Int32) (kdR : Nat → Int32) (x1 : Int32) : Option (Int32) :=
  Option.bind (f_X2_kindAt coR roR kdR x1) (fun r63 => some r63)
set_option maxHeartbeats 4000000 in
set_option maxRecDepth 100000 in
theorem b_X5_cell {p : Program} {l : Launch} {e : Env} {s : State} {m : MethodId} {args : Array Value} {below : List Frame} {meth : Method} {c : Code} {Q : State → Prop} {D : va_G} {cI cJ cZ cQ : ClassId} {qs : Nat × Nat × Nat} {hMs hTo hRmR hRmT hPa hWa hBe hKdR : Nat} {coR : Int32} {roR : Int32} {kdR : Nat → Int32} {x1 : Int32} {out : Int32} (F : CallFix p m c cX5_cell 2 s args wsX5_cell RX5) (hG : kR D (ty4 cI cJ cZ cQ) qs s s.heap) (hP : va_P D vwCl [(hMs, .inr (5, [.ref hTo, .ref hRmR, .ref hRmT, .ref hPa, .ref hWa, .ref hBe])), (hRmR, .inr (2, [.ref hKdR, .int coR, .int roR])), (hKdR, .inl (cI, 20, .inl kdR))] s.heap) (hf : f_X5_cell coR roR kdR x1 = some out) (hret : ∀ (pc : Nat) (ls : Array Slot), decode cX5_cell pc = .ok (.ireturn, 1) → narrow .int (.int out) = .int out → W p l e { frames := 2, cells := 0, slots := 0, locals := 41 } s m args below meth c s.heap [] 0 0 Q (F0 m pc ls [.int out])) {ls : Array Slot} (hl : lv_has ls 2 [(0, .ref hMs), (1, .int x1)]) : W p l e { frames := 2, cells := 0, slots := 0, locals := 41 } s m args below meth c s.heap [] 0 0 Q (F0 m 0 ls []) := by
  have hx := F.1
  have hb := F.2.1
  have hown := F.2.2.2.1
  have hts := F.2.2.2.2
  have hK := hG.1.1
  rw [f_X5_cell] at hf
  refine lv_aload_n hx hb dX5_cell_0 rfl (lv_at hl 0 rfl) ?_
  refine va_get (D := D) (ci := 5) (v := .ref hRmR) (C := RX5) (T := TX5) (N := 6) hx hb hts ku_X5_cell_X5 hown hK hP 0 rfl rfl 1 (by decide) (hts _ kw_X5_cell_1) (fun _ h9 => h9) rfl dX5_cell_1 ?_
  refine lv_iload_n hx hb dX5_cell_4 rfl (lv_at hl 1 rfl) ?_
  obtain ⟨r63, er63, hf⟩ := fp_b hf
  refine RoI.callV (c_X2_kindAt (l := l) (D := D) (cI := cI) (cJ := cJ) (cZ := cZ) (cQ := cQ) (qs := qs) er63) F (cwV 1 hts gX5_cell_X2_kindAt rfl rfl rfl yd_X2_kindAt ⟨Nat.le_of_ble_eq_true rfl, Nat.le_of_ble_eq_true rfl⟩) hG hP [1, 2] rfl 2 rfl rfl rfl hl.1 rfl (Nat.le_of_ble_eq_true rfl) dX5_cell_5 ⟨Nat.zero_le _, Nat.zero_le _⟩ ?_
  cases hf
  exact hret _ _ dX5_cell_8 (vp_nar_int _)
set_option maxRecDepth 100000 in
theorem c_X5_cell {l : Launch} {D : va_G} {cI cJ cZ cQ : ClassId} {qs : Nat × Nat × Nat} {hMs hTo hRmR hRmT hPa hWa hBe hKdR : Nat} {coR : Int32} {roR : Int32} {kdR : Nat → Int32} {x1 : Int32} {out : Int32} (hf : f_X5_cell coR roR kdR x1 = some out) : RoI l yX5_cell wsX5_cell { frames := 2, cells := 0, slots := 0, locals := 41 } D (ty4 cI cJ cZ cQ) qs [.ref hMs, .int x1] [(hMs, .inr (5, [.ref hTo, .ref hRmR, .ref hRmT, .ref hPa, .ref hWa, .ref hBe])), (hRmR, .inr (2, [.ref hKdR, .int coR, .int roR])), (hKdR, .inl (cI, 20, .inl kdR))] out :=
  RoI.of (own := RX5) (by decide +kernel) rfl rfl (Nat.le_of_ble_eq_true rfl) (fun F hG hP hret ls hl => b_X5_cell F hG hP hf hret hl)
-- method X5_doorAt
theorem yd_X5_doorAt : yX5_doorAt.cls = RX5 ∧ yX5_doorAt.cls ≠ "java/lang/invoke/MethodHandle" ∧ yX5_doorAt.cls ≠ "java/lang/invoke/VarHandle" ∧ (parseMethodDescriptor yX5_doorAt.desc).map (fun d => d.parameters.length) = some 1 := by decide +kernel
theorem ku_X5_doorAt_X5 : ∀ w ∈ u_ws RX5 TX5 6, w ∈ wsX5_doorAt := by decide +kernel
theorem kw_X5_doorAt_1 : Cond.fieldLink RX5 19 "MirrorShares" "room" "LMirrorShares$Room;" ∈ wsX5_doorAt := List.mem_of_getElem? (i := 1) rfl
def f_X5_doorAt (coR : Int32) (roR : Int32) (kdR : Nat → Int32) (x1 : Int32) : Option (Int32) :=
  Option.bind (f_X2_doorCell coR roR kdR x1) (fun r64 => some r64)
set_option maxHeartbeats 4000000 in
set_option maxRecDepth 100000 in
theorem b_X5_doorAt {p : Program} {l : Launch} {e : Env} {s : State} {m : MethodId} {args : Array Value} {below : List Frame} {meth : Method} {c : Code} {Q : State → Prop} {D : va_G} {cI cJ cZ cQ : ClassId} {qs : Nat × Nat × Nat} {hMs hTo hRmR hRmT hPa hWa hBe hKdR : Nat} {coR : Int32} {roR : Int32} {kdR : Nat → Int32} {x1 : Int32} {out : Int32} (F : CallFix p m c cX5_doorAt 2 s args wsX5_doorAt RX5) (hG : kR D (ty4 cI cJ cZ cQ) qs s s.heap) (hP : va_P D vwCl [(hMs, .inr (5, [.ref hTo, .ref hRmR, .ref hRmT, .ref hPa, .ref hWa, .ref hBe])), (hRmR, .inr (2, [.ref hKdR, .int coR, .int roR])), (hKdR, .inl (cI, 20, .inl kdR))] s.heap) (hf : f_X5_doorAt coR roR kdR x1 = some out) (hret : ∀ (pc : Nat) (ls : Array Slot), decode cX5_doorAt pc = .ok (.ireturn, 1) → narrow .int (.int out) = .int out → W p l e { frames := 3, cells := 0, slots := 0, locals := 64 } s m args below meth c s.heap [] 0 0 Q (F0 m pc ls [.int out])) {ls : Array Slot} (hl : lv_has ls 2 [(0, .ref hMs), (1, .int x1)]) : W p l e { frames := 3, cells := 0, slots := 0, locals := 64 } s m args below meth c s.heap [] 0 0 Q (F0 m 0 ls []) := by
  have hx := F.1
  have hb := F.2.1
  have hown := F.2.2.2.1
  have hts := F.2.2.2.2
  have hK := hG.1.1
  rw [f_X5_doorAt] at hf
  refine lv_aload_n hx hb dX5_doorAt_0 rfl (lv_at hl 0 rfl) ?_
  refine va_get (D := D) (ci := 5) (v := .ref hRmR) (C := RX5) (T := TX5) (N := 6) hx hb hts ku_X5_doorAt_X5 hown hK hP 0 rfl rfl 1 (by decide) (hts _ kw_X5_doorAt_1) (fun _ h9 => h9) rfl dX5_doorAt_1 ?_
  refine lv_iload_n hx hb dX5_doorAt_4 rfl (lv_at hl 1 rfl) ?_
  obtain ⟨r64, er64, hf⟩ := fp_b hf
  refine RoI.callV (c_X2_doorCell (l := l) (D := D) (cI := cI) (cJ := cJ) (cZ := cZ) (cQ := cQ) (qs := qs) er64) F (cwV 1 hts gX5_doorAt_X2_doorCell rfl rfl rfl yd_X2_doorCell ⟨Nat.le_of_ble_eq_true rfl, Nat.le_of_ble_eq_true rfl⟩) hG hP [1, 2] rfl 2 rfl rfl rfl hl.1 rfl (Nat.le_of_ble_eq_true rfl) dX5_doorAt_5 ⟨Nat.zero_le _, Nat.zero_le _⟩ ?_
  cases hf
  exact hret _ _ dX5_doorAt_8 (vp_nar_int _)
set_option maxRecDepth 100000 in
theorem c_X5_doorAt {l : Launch} {D : va_G} {cI cJ cZ cQ : ClassId} {qs : Nat × Nat × Nat} {hMs hTo hRmR hRmT hPa hWa hBe hKdR : Nat} {coR : Int32} {roR : Int32} {kdR : Nat → Int32} {x1 : Int32} {out : Int32} (hf : f_X5_doorAt coR roR kdR x1 = some out) : RoI l yX5_doorAt wsX5_doorAt { frames := 3, cells := 0, slots := 0, locals := 64 } D (ty4 cI cJ cZ cQ) qs [.ref hMs, .int x1] [(hMs, .inr (5, [.ref hTo, .ref hRmR, .ref hRmT, .ref hPa, .ref hWa, .ref hBe])), (hRmR, .inr (2, [.ref hKdR, .int coR, .int roR])), (hKdR, .inl (cI, 20, .inl kdR))] out :=
  RoI.of (own := RX5) (by decide +kernel) rfl rfl (Nat.le_of_ble_eq_true rfl) (fun F hG hP hret ls hl => b_X5_doorAt F hG hP hf hret hl)
-- method X5_port
theorem yd_X5_port : yX5_port.cls = RX5 ∧ yX5_port.cls ≠ "java/lang/invoke/MethodHandle" ∧ yX5_port.cls ≠ "java/lang/invoke/VarHandle" ∧ (parseMethodDescriptor yX5_port.desc).map (fun d => d.parameters.length) = some 2 := by decide +kernel
theorem ku_X5_port_X5 : ∀ w ∈ u_ws RX5 TX5 6, w ∈ wsX5_port := by decide +kernel
theorem kw_X5_port_1 : Cond.fieldLink RX5 19 "MirrorShares" "room" "LMirrorShares$Room;" ∈ wsX5_port := List.mem_of_getElem? (i := 1) rfl
def f_X5_port (coR : Int32) (roR : Int32) (x1 : Int32) (x2 : Int32) : Option (Int32) :=
  Option.bind (f_X2_hasPort coR roR x1) (fun r65 => (if r65 = 0 then some (-1 : Int32) else Option.bind (f_X5_isPart x2 (2 : Int32)) (fun r67 => (if r67 = 0 then some (-1 : Int32) else (if x2 = 0 then Option.bind (f_X2_portCell coR roR x1) (fun r71 => some r71) else Option.bind (f_X2_portDirection coR roR x1) (fun r70 => some r70))))))
set_option maxHeartbeats 4000000 in
set_option maxRecDepth 100000 in
theorem b_X5_port {p : Program} {l : Launch} {e : Env} {s : State} {m : MethodId} {args : Array Value} {below : List Frame} {meth : Method} {c : Code} {Q : State → Prop} {D : va_G} {cI cJ cZ cQ : ClassId} {qs : Nat × Nat × Nat} {hMs hTo hRmR hRmT hPa hWa hBe hKdR : Nat} {coR : Int32} {roR : Int32} {x1 : Int32} {x2 : Int32} {out : Int32} (F : CallFix p m c cX5_port 3 s args wsX5_port RX5) (hG : kR D (ty4 cI cJ cZ cQ) qs s s.heap) (hP : va_P D vwCl [(hMs, .inr (5, [.ref hTo, .ref hRmR, .ref hRmT, .ref hPa, .ref hWa, .ref hBe])), (hRmR, .inr (2, [.ref hKdR, .int coR, .int roR]))] s.heap) (hf : f_X5_port coR roR x1 x2 = some out) (hret : ∀ (pc : Nat) (ls : Array Slot), decode cX5_port pc = .ok (.ireturn, 1) → narrow .int (.int out) = .int out → W p l e { frames := 2, cells := 0, slots := 0, locals := 42 } s m args below meth c s.heap [] 0 0 Q (F0 m pc ls [.int out])) {ls : Array Slot} (hl : lv_has ls 3 [(0, .ref hMs), (1, .int x1), (2, .int x2)]) : W p l e { frames := 2, cells := 0, slots := 0, locals := 42 } s m args below meth c s.heap [] 0 0 Q (F0 m 0 ls []) := by
  have hx := F.1
  have hb := F.2.1
  have hown := F.2.2.2.1
  have hts := F.2.2.2.2
  have hK := hG.1.1
  rw [f_X5_port] at hf
  refine lv_aload_n hx hb dX5_port_0 rfl (lv_at hl 0 rfl) ?_
  refine va_get (D := D) (ci := 5) (v := .ref hRmR) (C := RX5) (T := TX5) (N := 6) hx hb hts ku_X5_port_X5 hown hK hP 0 rfl rfl 1 (by decide) (hts _ kw_X5_port_1) (fun _ h9 => h9) rfl dX5_port_1 ?_
  refine lv_iload_n hx hb dX5_port_4 rfl (lv_at hl 1 rfl) ?_
  obtain ⟨r65, er65, hf⟩ := fp_b hf
  refine RoI.callV (c_X2_hasPort (l := l) (D := D) (cI := cI) (cJ := cJ) (cZ := cZ) (cQ := cQ) (qs := qs) er65) F (cwV 1 hts gX5_port_X2_hasPort rfl rfl rfl yd_X2_hasPort ⟨Nat.le_of_ble_eq_true rfl, Nat.le_of_ble_eq_true rfl⟩) hG hP [1] rfl 2 rfl rfl rfl hl.1 rfl (Nat.le_of_ble_eq_true rfl) dX5_port_5 ⟨Nat.zero_le _, Nat.zero_le _⟩ ?_
  refine lv_if_eq (tgt := 19) hx hb dX5_port_8 (by decide) (fun c66 => ?_) (fun c66 => ?_)
  · have hf := fp_t hf c66
    refine lv_iconst (v := (-1 : Int32)) hx hb dX5_port_19 (by decide) ?_
    cases hf
    exact hret _ _ dX5_port_20 (vp_nar_int _)
  · have hf := fp_f hf c66
    refine lv_iload_n hx hb dX5_port_11 rfl (lv_at hl 2 rfl) ?_
    refine lv_iconst (v := (2 : Int32)) hx hb dX5_port_12 (by decide) ?_
    obtain ⟨r67, er67, hf⟩ := fp_b hf
    refine RoI.callS (c_X5_isPart (l := l) (D := D) (cI := cI) (cJ := cJ) (cZ := cZ) (cQ := cQ) (qs := qs) er67) F (va_cwS 2 hts gX5_port_X5_isPart rfl rfl rfl yd_X5_isPart ⟨Nat.le_of_ble_eq_true rfl, Nat.le_of_ble_eq_true rfl⟩) hG hP [] rfl rfl hl.1 rfl (Nat.le_of_ble_eq_true rfl) dX5_port_13 ⟨Nat.zero_le _, Nat.zero_le _⟩ ?_
    refine lv_if_ne (tgt := 21) hx hb dX5_port_16 (by decide) (fun c68 => ?_) (fun c68 => ?_)
    · have hf := fp_f hf c68
      refine lv_iload_n hx hb dX5_port_21 rfl (lv_at hl 2 rfl) ?_
      refine lv_if_ne (tgt := 36) hx hb dX5_port_22 (by decide) (fun c69 => ?_) (fun c69 => ?_)
      · have hf := fp_f hf c69
        refine lv_aload_n hx hb dX5_port_36 rfl (lv_at hl 0 rfl) ?_
        refine va_get (D := D) (ci := 5) (v := .ref hRmR) (C := RX5) (T := TX5) (N := 6) hx hb hts ku_X5_port_X5 hown hK hP 0 rfl rfl 1 (by decide) (hts _ kw_X5_port_1) (fun _ h9 => h9) rfl dX5_port_37 ?_
        refine lv_iload_n hx hb dX5_port_40 rfl (lv_at hl 1 rfl) ?_
        obtain ⟨r70, er70, hf⟩ := fp_b hf
        refine RoI.callV (c_X2_portDirection (l := l) (D := D) (cI := cI) (cJ := cJ) (cZ := cZ) (cQ := cQ) (qs := qs) er70) F (cwV 1 hts gX5_port_X2_portDirection rfl rfl rfl yd_X2_portDirection ⟨Nat.le_of_ble_eq_true rfl, Nat.le_of_ble_eq_true rfl⟩) hG hP [1] rfl 2 rfl rfl rfl hl.1 rfl (Nat.le_of_ble_eq_true rfl) dX5_port_41 ⟨Nat.zero_le _, Nat.zero_le _⟩ ?_
        cases hf
        exact hret _ _ dX5_port_44 (vp_nar_int _)
      · have hf := fp_t hf c69
        refine lv_aload_n hx hb dX5_port_25 rfl (lv_at hl 0 rfl) ?_
        refine va_get (D := D) (ci := 5) (v := .ref hRmR) (C := RX5) (T := TX5) (N := 6) hx hb hts ku_X5_port_X5 hown hK hP 0 rfl rfl 1 (by decide) (hts _ kw_X5_port_1) (fun _ h9 => h9) rfl dX5_port_26 ?_
        refine lv_iload_n hx hb dX5_port_29 rfl (lv_at hl 1 rfl) ?_
        obtain ⟨r71, er71, hf⟩ := fp_b hf
        refine RoI.callV (c_X2_portCell (l := l) (D := D) (cI := cI) (cJ := cJ) (cZ := cZ) (cQ := cQ) (qs := qs) er71) F (cwV 1 hts gX5_port_X2_portCell rfl rfl rfl yd_X2_portCell ⟨Nat.le_of_ble_eq_true rfl, Nat.le_of_ble_eq_true rfl⟩) hG hP [1] rfl 2 rfl rfl rfl hl.1 rfl (Nat.le_of_ble_eq_true rfl) dX5_port_30 ⟨Nat.zero_le _, Nat.zero_le _⟩ ?_
        refine lv_goto (tgt := 44) hx hb dX5_port_33 (by decide) ?_
        cases hf
        exact hret _ _ dX5_port_44 (vp_nar_int _)
    · have hf := fp_t hf c68
      refine lv_iconst (v := (-1 : Int32)) hx hb dX5_port_19 (by decide) ?_
      cases hf
      exact hret _ _ dX5_port_20 (vp_nar_int _)
set_option maxRecDepth 100000 in
theorem c_X5_port {l : Launch} {D : va_G} {cI cJ cZ cQ : ClassId} {qs : Nat × Nat × Nat} {hMs hTo hRmR hRmT hPa hWa hBe hKdR : Nat} {coR : Int32} {roR : Int32} {x1 : Int32} {x2 : Int32} {out : Int32} (hf : f_X5_port coR roR x1 x2 = some out) : RoI l yX5_port wsX5_port { frames := 2, cells := 0, slots := 0, locals := 42 } D (ty4 cI cJ cZ cQ) qs [.ref hMs, .int x1, .int x2] [(hMs, .inr (5, [.ref hTo, .ref hRmR, .ref hRmT, .ref hPa, .ref hWa, .ref hBe])), (hRmR, .inr (2, [.ref hKdR, .int coR, .int roR]))] out :=
  RoI.of (own := RX5) (by decide +kernel) rfl rfl (Nat.le_of_ble_eq_true rfl) (fun F hG hP hret ls hl => b_X5_port F hG hP hf hret hl)
