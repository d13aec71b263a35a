-- method X5_isHalf
theorem yd_X5_isHalf : yX5_isHalf.cls ≠ "java/lang/invoke/MethodHandle" ∧ yX5_isHalf.cls ≠ "java/lang/invoke/VarHandle" ∧ (parseMethodDescriptor yX5_isHalf.desc).map (fun d => d.parameters.length) = some 1 := by decide +kernel
def f_X5_isHalf (x0 : Int32) : Option (Int32) :=
  (if x0 = (3 : Int32) then some (1 : Int32) else (if x0 = (4 : Int32) then some (1 : Int32) else some (0 : Int32)))
set_option maxHeartbeats 4000000 in
set_option maxRecDepth 100000 in
theorem b_X5_isHalf {p : Program} {l : Launch} {e : Env} {s : State} {m : MethodId} {args : Array Value} {below : List Frame} {meth : Method} {c : Code} {Q : State → Prop} {D : va_G} {cI cJ cZ cQ : ClassId} {qs : Nat × Nat × Nat}  {x0 : Int32} {out : Int32} (F : CallFix p m c cX5_isHalf 1 s args wsX5_isHalf RX5) (hG : kR D (ty4 cI cJ cZ cQ) qs s s.heap) (hP : va_P D vwCl [] s.heap) (hf : f_X5_isHalf x0 = some out) (hret : ∀ (pc : Nat) (ls : Array Slot), decode cX5_isHalf pc = .ok (.ireturn, 1) → narrow .boolean (.int out) = .int out → W p l e { frames := 0, cells := 0, slots := 0, locals := 0 } s m args below meth c s.heap [] 0 0 Q (F0 m pc ls [.int out])) {ls : Array Slot} (hl : lv_has ls 1 [(0, .int x0)]) : W p l e { frames := 0, cells := 0, slots := 0, locals := 0 } s m args below meth c s.heap [] 0 0 Q (F0 m 0 ls []) := by
  have hx := F.1
  have hb := F.2.1
  have hown := F.2.2.2.1
  have hts := F.2.2.2.2
  have hK := hG.1.1
  rw [f_X5_isHalf] at hf
  refine lv_iload_n hx hb dX5_isHalf_0 rfl (lv_at hl 0 rfl) ?_
  refine lv_iconst (v := (3 : Int32)) hx hb dX5_isHalf_1 (by decide) ?_
  refine lv_icmp_eq (tgt := 10) hx hb dX5_isHalf_2 (by decide) (fun c1 => ?_) (fun c1 => ?_)
  · have hf := fp_t hf c1
    refine lv_iconst (v := (1 : Int32)) hx hb dX5_isHalf_10 (by decide) ?_
    refine lv_goto (tgt := 15) hx hb dX5_isHalf_11 (by decide) ?_
    cases hf
    exact hret _ _ dX5_isHalf_15 nar_b1
  · have hf := fp_f hf c1
    refine lv_iload_n hx hb dX5_isHalf_5 rfl (lv_at hl 0 rfl) ?_
    refine lv_iconst (v := (4 : Int32)) hx hb dX5_isHalf_6 (by decide) ?_
    refine lv_icmp_ne (tgt := 14) hx hb dX5_isHalf_7 (by decide) (fun c2 => ?_) (fun c2 => ?_)
    · have hf := fp_f hf c2
      refine lv_iconst (v := (0 : Int32)) hx hb dX5_isHalf_14 (by decide) ?_
      cases hf
      exact hret _ _ dX5_isHalf_15 nar_b0
    · have hf := fp_t hf c2
      refine lv_iconst (v := (1 : Int32)) hx hb dX5_isHalf_10 (by decide) ?_
      refine lv_goto (tgt := 15) hx hb dX5_isHalf_11 (by decide) ?_
      cases hf
      exact hret _ _ dX5_isHalf_15 nar_b1
set_option maxRecDepth 100000 in
theorem c_X5_isHalf {l : Launch} {D : va_G} {cI cJ cZ cQ : ClassId} {qs : Nat × Nat × Nat}  {x0 : Int32} {out : Int32} (hf : f_X5_isHalf x0 = some out) : RoI l yX5_isHalf wsX5_isHalf { frames := 0, cells := 0, slots := 0, locals := 0 } D (ty4 cI cJ cZ cQ) qs [.int x0] [] out :=
  RoI.of (own := RX5) (by decide +kernel) rfl rfl (Nat.le_of_ble_eq_true rfl) (fun F hG hP hret ls hl => b_X5_isHalf F hG hP hf hret hl)
-- method X5_letsOn
theorem yd_X5_letsOn : yX5_letsOn.cls ≠ "java/lang/invoke/MethodHandle" ∧ yX5_letsOn.cls ≠ "java/lang/invoke/VarHandle" ∧ (parseMethodDescriptor yX5_letsOn.desc).map (fun d => d.parameters.length) = some 1 := by decide +kernel
def f_X5_letsOn (x0 : Int32) : Option (Int32) :=
  (if x0 = 0 then some (1 : Int32) else (if x0 = (6 : Int32) then some (1 : Int32) else Option.bind (f_X5_isHalf x0) (fun r5 => (if r5 = 0 then some (0 : Int32) else some (1 : Int32)))))
set_option maxHeartbeats 4000000 in
set_option maxRecDepth 100000 in
theorem b_X5_letsOn {p : Program} {l : Launch} {e : Env} {s : State} {m : MethodId} {args : Array Value} {below : List Frame} {meth : Method} {c : Code} {Q : State → Prop} {D : va_G} {cI cJ cZ cQ : ClassId} {qs : Nat × Nat × Nat}  {x0 : Int32} {out : Int32} (F : CallFix p m c cX5_letsOn 1 s args wsX5_letsOn RX5) (hG : kR D (ty4 cI cJ cZ cQ) qs s s.heap) (hP : va_P D vwCl [] s.heap) (hf : f_X5_letsOn x0 = some out) (hret : ∀ (pc : Nat) (ls : Array Slot), decode cX5_letsOn pc = .ok (.ireturn, 1) → narrow .boolean (.int out) = .int out → W p l e { frames := 1, cells := 0, slots := 0, locals := 20 } s m args below meth c s.heap [] 0 0 Q (F0 m pc ls [.int out])) {ls : Array Slot} (hl : lv_has ls 1 [(0, .int x0)]) : W p l e { frames := 1, cells := 0, slots := 0, locals := 20 } s m args below meth c s.heap [] 0 0 Q (F0 m 0 ls []) := by
  have hx := F.1
  have hb := F.2.1
  have hown := F.2.2.2.1
  have hts := F.2.2.2.2
  have hK := hG.1.1
  rw [f_X5_letsOn] at hf
  refine lv_iload_n hx hb dX5_letsOn_0 rfl (lv_at hl 0 rfl) ?_
  refine lv_if_eq (tgt := 17) hx hb dX5_letsOn_1 (by decide) (fun c3 => ?_) (fun c3 => ?_)
  · have hf := fp_t hf c3
    refine lv_iconst (v := (1 : Int32)) hx hb dX5_letsOn_17 (by decide) ?_
    refine lv_goto (tgt := 22) hx hb dX5_letsOn_18 (by decide) ?_
    cases hf
    exact hret _ _ dX5_letsOn_22 nar_b1
  · have hf := fp_f hf c3
    refine lv_iload_n hx hb dX5_letsOn_4 rfl (lv_at hl 0 rfl) ?_
    refine lv_bipush (v := (6 : Int32)) hx hb dX5_letsOn_5 (by decide) ?_
    refine lv_icmp_eq (tgt := 17) hx hb dX5_letsOn_7 (by decide) (fun c4 => ?_) (fun c4 => ?_)
    · have hf := fp_t hf c4
      refine lv_iconst (v := (1 : Int32)) hx hb dX5_letsOn_17 (by decide) ?_
      refine lv_goto (tgt := 22) hx hb dX5_letsOn_18 (by decide) ?_
      cases hf
      exact hret _ _ dX5_letsOn_22 nar_b1
    · have hf := fp_f hf c4
      refine lv_iload_n hx hb dX5_letsOn_10 rfl (lv_at hl 0 rfl) ?_
      obtain ⟨r5, er5, hf⟩ := fp_b hf
      refine RoI.callS (c_X5_isHalf (l := l) (D := D) (cI := cI) (cJ := cJ) (cZ := cZ) (cQ := cQ) (qs := qs) er5) F (va_cwS 1 hts gX5_letsOn_X5_isHalf rfl rfl rfl yd_X5_isHalf ⟨Nat.le_of_ble_eq_true rfl, Nat.le_of_ble_eq_true rfl⟩) hG hP [] rfl rfl hl.1 rfl (Nat.le_of_ble_eq_true rfl) dX5_letsOn_11 ⟨Nat.zero_le _, Nat.zero_le _⟩ ?_
      refine lv_if_eq (tgt := 21) hx hb dX5_letsOn_14 (by decide) (fun c6 => ?_) (fun c6 => ?_)
      · have hf := fp_t hf c6
        refine lv_iconst (v := (0 : Int32)) hx hb dX5_letsOn_21 (by decide) ?_
        cases hf
        exact hret _ _ dX5_letsOn_22 nar_b0
      · have hf := fp_f hf c6
        refine lv_iconst (v := (1 : Int32)) hx hb dX5_letsOn_17 (by decide) ?_
        refine lv_goto (tgt := 22) hx hb dX5_letsOn_18 (by decide) ?_
        cases hf
        exact hret _ _ dX5_letsOn_22 nar_b1
set_option maxRecDepth 100000 in
theorem c_X5_letsOn {l : Launch} {D : va_G} {cI cJ cZ cQ : ClassId} {qs : Nat × Nat × Nat}  {x0 : Int32} {out : Int32} (hf : f_X5_letsOn x0 = some out) : RoI l yX5_letsOn wsX5_letsOn { frames := 1, cells := 0, slots := 0, locals := 20 } D (ty4 cI cJ cZ cQ) qs [.int x0] [] out :=
  RoI.of (own := RX5) (by decide +kernel) rfl rfl (Nat.le_of_ble_eq_true rfl) (fun F hG hP hret ls hl => b_X5_letsOn F hG hP hf hret hl)
-- method X5_turnsBeam
theorem yd_X5_turnsBeam : yX5_turnsBeam.cls ≠ "java/lang/invoke/MethodHandle" ∧ yX5_turnsBeam.cls ≠ "java/lang/invoke/VarHandle" ∧ (parseMethodDescriptor yX5_turnsBeam.desc).map (fun d => d.parameters.length) = some 1 := by decide +kernel
def f_X5_turnsBeam (x0 : Int32) : Option (Int32) :=
  (if x0 = (1 : Int32) then some (1 : Int32) else (if x0 = (2 : Int32) then some (1 : Int32) else Option.bind (f_X5_isHalf x0) (fun r9 => (if r9 = 0 then some (0 : Int32) else some (1 : Int32)))))
set_option maxHeartbeats 4000000 in
set_option maxRecDepth 100000 in
theorem b_X5_turnsBeam {p : Program} {l : Launch} {e : Env} {s : State} {m : MethodId} {args : Array Value} {below : List Frame} {meth : Method} {c : Code} {Q : State → Prop} {D : va_G} {cI cJ cZ cQ : ClassId} {qs : Nat × Nat × Nat}  {x0 : Int32} {out : Int32} (F : CallFix p m c cX5_turnsBeam 1 s args wsX5_turnsBeam RX5) (hG : kR D (ty4 cI cJ cZ cQ) qs s s.heap) (hP : va_P D vwCl [] s.heap) (hf : f_X5_turnsBeam x0 = some out) (hret : ∀ (pc : Nat) (ls : Array Slot), decode cX5_turnsBeam pc = .ok (.ireturn, 1) → narrow .boolean (.int out) = .int out → W p l e { frames := 1, cells := 0, slots := 0, locals := 20 } s m args below meth c s.heap [] 0 0 Q (F0 m pc ls [.int out])) {ls : Array Slot} (hl : lv_has ls 1 [(0, .int x0)]) : W p l e { frames := 1, cells := 0, slots := 0, locals := 20 } s m args below meth c s.heap [] 0 0 Q (F0 m 0 ls []) := by
  have hx := F.1
  have hb := F.2.1
  have hown := F.2.2.2.1
  have hts := F.2.2.2.2
  have hK := hG.1.1
  rw [f_X5_turnsBeam] at hf
  refine lv_iload_n hx hb dX5_turnsBeam_0 rfl (lv_at hl 0 rfl) ?_
  refine lv_iconst (v := (1 : Int32)) hx hb dX5_turnsBeam_1 (by decide) ?_
  refine lv_icmp_eq (tgt := 17) hx hb dX5_turnsBeam_2 (by decide) (fun c7 => ?_) (fun c7 => ?_)
  · have hf := fp_t hf c7
    refine lv_iconst (v := (1 : Int32)) hx hb dX5_turnsBeam_17 (by decide) ?_
    refine lv_goto (tgt := 22) hx hb dX5_turnsBeam_18 (by decide) ?_
    cases hf
    exact hret _ _ dX5_turnsBeam_22 nar_b1
  · have hf := fp_f hf c7
    refine lv_iload_n hx hb dX5_turnsBeam_5 rfl (lv_at hl 0 rfl) ?_
    refine lv_iconst (v := (2 : Int32)) hx hb dX5_turnsBeam_6 (by decide) ?_
    refine lv_icmp_eq (tgt := 17) hx hb dX5_turnsBeam_7 (by decide) (fun c8 => ?_) (fun c8 => ?_)
    · have hf := fp_t hf c8
      refine lv_iconst (v := (1 : Int32)) hx hb dX5_turnsBeam_17 (by decide) ?_
      refine lv_goto (tgt := 22) hx hb dX5_turnsBeam_18 (by decide) ?_
      cases hf
      exact hret _ _ dX5_turnsBeam_22 nar_b1
    · have hf := fp_f hf c8
      refine lv_iload_n hx hb dX5_turnsBeam_10 rfl (lv_at hl 0 rfl) ?_
      obtain ⟨r9, er9, hf⟩ := fp_b hf
      refine RoI.callS (c_X5_isHalf (l := l) (D := D) (cI := cI) (cJ := cJ) (cZ := cZ) (cQ := cQ) (qs := qs) er9) F (va_cwS 1 hts gX5_turnsBeam_X5_isHalf rfl rfl rfl yd_X5_isHalf ⟨Nat.le_of_ble_eq_true rfl, Nat.le_of_ble_eq_true rfl⟩) hG hP [] rfl rfl hl.1 rfl (Nat.le_of_ble_eq_true rfl) dX5_turnsBeam_11 ⟨Nat.zero_le _, Nat.zero_le _⟩ ?_
      refine lv_if_eq (tgt := 21) hx hb dX5_turnsBeam_14 (by decide) (fun c10 => ?_) (fun c10 => ?_)
      · have hf := fp_t hf c10
        refine lv_iconst (v := (0 : Int32)) hx hb dX5_turnsBeam_21 (by decide) ?_
        cases hf
        exact hret _ _ dX5_turnsBeam_22 nar_b0
      · have hf := fp_f hf c10
        refine lv_iconst (v := (1 : Int32)) hx hb dX5_turnsBeam_17 (by decide) ?_
        refine lv_goto (tgt := 22) hx hb dX5_turnsBeam_18 (by decide) ?_
        cases hf
        exact hret _ _ dX5_turnsBeam_22 nar_b1
set_option maxRecDepth 100000 in
theorem c_X5_turnsBeam {l : Launch} {D : va_G} {cI cJ cZ cQ : ClassId} {qs : Nat × Nat × Nat}  {x0 : Int32} {out : Int32} (hf : f_X5_turnsBeam x0 = some out) : RoI l yX5_turnsBeam wsX5_turnsBeam { frames := 1, cells := 0, slots := 0, locals := 20 } D (ty4 cI cJ cZ cQ) qs [.int x0] [] out :=
  RoI.of (own := RX5) (by decide +kernel) rfl rfl (Nat.le_of_ble_eq_true rfl) (fun F hG hP hret ls hl => b_X5_turnsBeam F hG hP hf hret hl)
-- method X5_turnedBy
theorem yd_X5_turnedBy : yX5_turnedBy.cls ≠ "java/lang/invoke/MethodHandle" ∧ yX5_turnedBy.cls ≠ "java/lang/invoke/VarHandle" ∧ (parseMethodDescriptor yX5_turnedBy.desc).map (fun d => d.parameters.length) = some 2 := by decide +kernel
def f_X5_turnedBy (x0 : Int32) (x1 : Int32) : Option (Int32) :=
  Option.bind (if x0 = (1 : Int32) then some (1 : Int32) else (if x0 = (3 : Int32) then some (1 : Int32) else some (0 : Int32))) (fun j11 => (if j11 = 0 then some ((3 : Int32) - x1) else some (x1 ^^^ (1 : Int32))))
set_option maxHeartbeats 4000000 in
set_option maxRecDepth 100000 in
theorem b_X5_turnedBy {p : Program} {l : Launch} {e : Env} {s : State} {m : MethodId} {args : Array Value} {below : List Frame} {meth : Method} {c : Code} {Q : State → Prop} {D : va_G} {cI cJ cZ cQ : ClassId} {qs : Nat × Nat × Nat}  {x0 : Int32} {x1 : Int32} {out : Int32} (F : CallFix p m c cX5_turnedBy 3 s args wsX5_turnedBy RX5) (hG : kR D (ty4 cI cJ cZ cQ) qs s s.heap) (hP : va_P D vwCl [] s.heap) (hf : f_X5_turnedBy x0 x1 = some out) (hret : ∀ (pc : Nat) (ls : Array Slot), decode cX5_turnedBy pc = .ok (.ireturn, 1) → narrow .int (.int out) = .int out → W p l e { frames := 0, cells := 0, slots := 0, locals := 0 } s m args below meth c s.heap [] 0 0 Q (F0 m pc ls [.int out])) {ls : Array Slot} (hl : lv_has ls 3 [(0, .int x0), (1, .int x1)]) : W p l e { frames := 0, cells := 0, slots := 0, locals := 0 } s m args below meth c s.heap [] 0 0 Q (F0 m 0 ls []) := by
  have hx := F.1
  have hb := F.2.1
  have hown := F.2.2.2.1
  have hts := F.2.2.2.2
  have hK := hG.1.1
  rw [f_X5_turnedBy] at hf
  refine lv_iload_n hx hb dX5_turnedBy_0 rfl (lv_at hl 0 rfl) ?_
  refine lv_iconst (v := (1 : Int32)) hx hb dX5_turnedBy_1 (by decide) ?_
  obtain ⟨j11, ej11, hf⟩ := fp_b hf
  have hj12 : ∀ ls : Array Slot, lv_has ls 3 [(1, .int x1)] → W p l e { frames := 0, cells := 0, slots := 0, locals := 0 } s m args below meth c s.heap [] 0 0 Q (F0 m 15 ls [.int j11]) := by
    intro ls hl
    refine lv_istore_n (lv' := [(2, .int j11), (1, .int x1)]) hx hb dX5_turnedBy_15 rfl hl (by decide) rfl (fun ls hl => ?_)
    refine lv_iload_n hx hb dX5_turnedBy_16 rfl (lv_at hl 0 rfl) ?_
    refine lv_if_eq (tgt := 26) hx hb dX5_turnedBy_17 (by decide) (fun c13 => ?_) (fun c13 => ?_)
    · have hf := fp_t hf c13
      refine lv_iconst (v := (3 : Int32)) hx hb dX5_turnedBy_26 (by decide) ?_
      refine lv_iload_n hx hb dX5_turnedBy_27 rfl (lv_at hl 1 rfl) ?_
      refine lv_isub hx hb dX5_turnedBy_28 ?_
      cases hf
      exact hret _ _ dX5_turnedBy_29 (vp_nar_int _)
    · have hf := fp_f hf c13
      refine lv_iload_n hx hb dX5_turnedBy_20 rfl (lv_at hl 1 rfl) ?_
      refine lv_iconst (v := (1 : Int32)) hx hb dX5_turnedBy_21 (by decide) ?_
      refine lv_ixor hx hb dX5_turnedBy_22 ?_
      refine lv_goto (tgt := 29) hx hb dX5_turnedBy_23 (by decide) ?_
      cases hf
      exact hret _ _ dX5_turnedBy_29 (vp_nar_int _)
  replace hf := ej11
  refine lv_icmp_eq (tgt := 10) hx hb dX5_turnedBy_2 (by decide) (fun c14 => ?_) (fun c14 => ?_)
  · have hf := fp_t hf c14
    refine lv_iconst (v := (1 : Int32)) hx hb dX5_turnedBy_10 (by decide) ?_
    refine lv_goto (tgt := 15) hx hb dX5_turnedBy_11 (by decide) ?_
    cases hf
    exact hj12 _ (lv_sub hl [1] rfl)
  · have hf := fp_f hf c14
    refine lv_iload_n hx hb dX5_turnedBy_5 rfl (lv_at hl 0 rfl) ?_
    refine lv_iconst (v := (3 : Int32)) hx hb dX5_turnedBy_6 (by decide) ?_
    refine lv_icmp_ne (tgt := 14) hx hb dX5_turnedBy_7 (by decide) (fun c15 => ?_) (fun c15 => ?_)
    · have hf := fp_f hf c15
      refine lv_iconst (v := (0 : Int32)) hx hb dX5_turnedBy_14 (by decide) ?_
      cases hf
      exact hj12 _ (lv_sub hl [1] rfl)
    · have hf := fp_t hf c15
      refine lv_iconst (v := (1 : Int32)) hx hb dX5_turnedBy_10 (by decide) ?_
      refine lv_goto (tgt := 15) hx hb dX5_turnedBy_11 (by decide) ?_
      cases hf
      exact hj12 _ (lv_sub hl [1] rfl)
set_option maxRecDepth 100000 in
theorem c_X5_turnedBy {l : Launch} {D : va_G} {cI cJ cZ cQ : ClassId} {qs : Nat × Nat × Nat}  {x0 : Int32} {x1 : Int32} {out : Int32} (hf : f_X5_turnedBy x0 x1 = some out) : RoI l yX5_turnedBy wsX5_turnedBy { frames := 0, cells := 0, slots := 0, locals := 0 } D (ty4 cI cJ cZ cQ) qs [.int x0, .int x1] [] out :=
  RoI.of (own := RX5) (by decide +kernel) rfl rfl (Nat.le_of_ble_eq_true rfl) (fun F hG hP hret ls hl => b_X5_turnedBy F hG hP hf hret hl)
-- method X5_isPart
theorem yd_X5_isPart : yX5_isPart.cls ≠ "java/lang/invoke/MethodHandle" ∧ yX5_isPart.cls ≠ "java/lang/invoke/VarHandle" ∧ (parseMethodDescriptor yX5_isPart.desc).map (fun d => d.parameters.length) = some 2 := by decide +kernel
def f_X5_isPart (x0 : Int32) (x1 : Int32) : Option (Int32) :=
  (if x0 < 0 then some (0 : Int32) else (if x1 ≤ x0 then some (0 : Int32) else some (1 : Int32)))
set_option maxHeartbeats 4000000 in
set_option maxRecDepth 100000 in
theorem b_X5_isPart {p : Program} {l : Launch} {e : Env} {s : State} {m : MethodId} {args : Array Value} {below : List Frame} {meth : Method} {c : Code} {Q : State → Prop} {D : va_G} {cI cJ cZ cQ : ClassId} {qs : Nat × Nat × Nat}  {x0 : Int32} {x1 : Int32} {out : Int32} (F : CallFix p m c cX5_isPart 2 s args wsX5_isPart RX5) (hG : kR D (ty4 cI cJ cZ cQ) qs s s.heap) (hP : va_P D vwCl [] s.heap) (hf : f_X5_isPart x0 x1 = some out) (hret : ∀ (pc : Nat) (ls : Array Slot), decode cX5_isPart pc = .ok (.ireturn, 1) → narrow .boolean (.int out) = .int out → W p l e { frames := 0, cells := 0, slots := 0, locals := 0 } s m args below meth c s.heap [] 0 0 Q (F0 m pc ls [.int out])) {ls : Array Slot} (hl : lv_has ls 2 [(0, .int x0), (1, .int x1)]) : W p l e { frames := 0, cells := 0, slots := 0, locals := 0 } s m args below meth c s.heap [] 0 0 Q (F0 m 0 ls []) := by
  have hx := F.1
  have hb := F.2.1
  have hown := F.2.2.2.1
  have hts := F.2.2.2.2
  have hK := hG.1.1
  rw [f_X5_isPart] at hf
  refine lv_iload_n hx hb dX5_isPart_0 rfl (lv_at hl 0 rfl) ?_
  refine lv_if_lt (tgt := 13) hx hb dX5_isPart_1 (by decide) (fun c16 => ?_) (fun c16 => ?_)
  · have hf := fp_t hf c16
    refine lv_iconst (v := (0 : Int32)) hx hb dX5_isPart_13 (by decide) ?_
    cases hf
    exact hret _ _ dX5_isPart_14 nar_b0
  · have hf := fp_f hf c16
    refine lv_iload_n hx hb dX5_isPart_4 rfl (lv_at hl 0 rfl) ?_
    refine lv_iload_n hx hb dX5_isPart_5 rfl (lv_at hl 1 rfl) ?_
    refine lv_icmp_ge (tgt := 13) hx hb dX5_isPart_6 (by decide) (fun c17 => ?_) (fun c17 => ?_)
    · have hf := fp_t hf c17
      refine lv_iconst (v := (0 : Int32)) hx hb dX5_isPart_13 (by decide) ?_
      cases hf
      exact hret _ _ dX5_isPart_14 nar_b0
    · have hf := fp_f hf c17
      refine lv_iconst (v := (1 : Int32)) hx hb dX5_isPart_9 (by decide) ?_
      refine lv_goto (tgt := 14) hx hb dX5_isPart_10 (by decide) ?_
      cases hf
      exact hret _ _ dX5_isPart_14 nar_b1
set_option maxRecDepth 100000 in
theorem c_X5_isPart {l : Launch} {D : va_G} {cI cJ cZ cQ : ClassId} {qs : Nat × Nat × Nat}  {x0 : Int32} {x1 : Int32} {out : Int32} (hf : f_X5_isPart x0 x1 = some out) : RoI l yX5_isPart wsX5_isPart { frames := 0, cells := 0, slots := 0, locals := 0 } D (ty4 cI cJ cZ cQ) qs [.int x0, .int x1] [] out :=
  RoI.of (own := RX5) (by decide +kernel) rfl rfl (Nat.le_of_ble_eq_true rfl) (fun F hG hP hret ls hl => b_X5_isPart F hG hP hf hret hl)
-- method X5_compareFractions
theorem yd_X5_compareFractions : yX5_compareFractions.cls ≠ "java/lang/invoke/MethodHandle" ∧ yX5_compareFractions.cls ≠ "java/lang/invoke/VarHandle" ∧ (parseMethodDescriptor yX5_compareFractions.desc).map (fun d => d.parameters.length) = some 4 := by decide +kernel
def f_X5_compareFractions (x0 : Int64) (x2 : Int64) (x4 : Int64) (x6 : Int64) : Option (Int32) :=
  Option.bind (f_J13_compare_74951 (x0 * x6) (x4 * x2)) (fun r18 => some r18)
set_option maxHeartbeats 4000000 in
set_option maxRecDepth 100000 in
theorem b_X5_compareFractions {p : Program} {l : Launch} {e : Env} {s : State} {m : MethodId} {args : Array Value} {below : List Frame} {meth : Method} {c : Code} {Q : State → Prop} {D : va_G} {cI cJ cZ cQ : ClassId} {qs : Nat × Nat × Nat}  {x0 : Int64} {x2 : Int64} {x4 : Int64} {x6 : Int64} {out : Int32} (F : CallFix p m c cX5_compareFractions 8 s args wsX5_compareFractions RX5) (hG : kR D (ty4 cI cJ cZ cQ) qs s s.heap) (hP : va_P D vwCl [] s.heap) (hf : f_X5_compareFractions x0 x2 x4 x6 = some out) (hret : ∀ (pc : Nat) (ls : Array Slot), decode cX5_compareFractions pc = .ok (.ireturn, 1) → narrow .int (.int out) = .int out → W p l e { frames := 1, cells := 0, slots := 0, locals := 23 } s m args below meth c s.heap [] 0 0 Q (F0 m pc ls [.int out])) {ls : Array Slot} (hl : lv_has ls 8 [(0, .long x0), (2, .long x2), (4, .long x4), (6, .long x6)]) : W p l e { frames := 1, cells := 0, slots := 0, locals := 23 } s m args below meth c s.heap [] 0 0 Q (F0 m 0 ls []) := by
  have hx := F.1
  have hb := F.2.1
  have hown := F.2.2.2.1
  have hts := F.2.2.2.2
  have hK := hG.1.1
  rw [f_X5_compareFractions] at hf
  refine lv_lload_n hx hb dX5_compareFractions_0 rfl (lv_at hl 0 rfl) ?_
  refine lv_lload hx hb dX5_compareFractions_1 (lv_at hl 3 rfl) ?_
  refine lv_lmul hx hb dX5_compareFractions_3 ?_
  refine lv_lload hx hb dX5_compareFractions_4 (lv_at hl 2 rfl) ?_
  refine lv_lload_n hx hb dX5_compareFractions_6 rfl (lv_at hl 1 rfl) ?_
  refine lv_lmul hx hb dX5_compareFractions_7 ?_
  obtain ⟨r18, er18, hf⟩ := fp_b hf
  refine RoI.callS (c_J13_compare_74951 (l := l) (D := D) (cI := cI) (cJ := cJ) (cZ := cZ) (cQ := cQ) (qs := qs) er18) F (va_cwS 2 hts gX5_compareFractions_J13_compare_74951 rfl rfl rfl yd_J13_compare_74951 ⟨Nat.le_of_ble_eq_true rfl, Nat.le_of_ble_eq_true rfl⟩) hG hP [] rfl rfl hl.1 rfl (Nat.le_of_ble_eq_true rfl) dX5_compareFractions_8 ⟨Nat.zero_le _, Nat.zero_le _⟩ ?_
  cases hf
  exact hret _ _ dX5_compareFractions_11 (vp_nar_int _)
set_option maxRecDepth 100000 in
theorem c_X5_compareFractions {l : Launch} {D : va_G} {cI cJ cZ cQ : ClassId} {qs : Nat × Nat × Nat}  {x0 : Int64} {x2 : Int64} {x4 : Int64} {x6 : Int64} {out : Int32} (hf : f_X5_compareFractions x0 x2 x4 x6 = some out) : RoI l yX5_compareFractions wsX5_compareFractions { frames := 1, cells := 0, slots := 0, locals := 23 } D (ty4 cI cJ cZ cQ) qs [.long x0, .long x2, .long x4, .long x6] [] out :=
  RoI.of (own := RX5) (by decide +kernel) rfl rfl (Nat.le_of_ble_eq_true rfl) (fun F hG hP hret ls hl => b_X5_compareFractions F hG hP hf hret hl)
-- method X5_commonDivisor
theorem yd_X5_commonDivisor : yX5_commonDivisor.cls ≠ "java/lang/invoke/MethodHandle" ∧ yX5_commonDivisor.cls ≠ "java/lang/invoke/VarHandle" ∧ (parseMethodDescriptor yX5_commonDivisor.desc).map (fun d => d.parameters.length) = some 2 := by decide +kernel
def f_X5_commonDivisor_9 (y4 : Int64) (y6 : Int64) (y8 : Int32) : Option ((Int64 × Int64 × Int32) ⊕ (Int64)) :=
  (if (100 : Int32) ≤ y8 then some (Sum.inr y4) else (if (lg_cmp y6 (0 : Int64)) = 0 then some (Sum.inr y4) else chk (¬ y6 = 0) (some (Sum.inl (y6, (y4 - ((y4 / y6) * y6)), (y8 + (1 : Int32)))))))
set_option maxHeartbeats 4000000 in
set_option maxRecDepth 100000 in
theorem lp_X5_commonDivisor_9 {p : Program} {l : Launch} {e : Env} {s : State} {m : MethodId} {args : Array Value} {below : List Frame} {meth : Method} {c : Code} {Q : State → Prop} {D : va_G} {cI cJ cZ cQ : ClassId} {qs : Nat × Nat × Nat}    (F : CallFix p m c cX5_commonDivisor 11 s args wsX5_commonDivisor RX5) (hG : kR D (ty4 cI cJ cZ cQ) qs s s.heap) (hP : va_P D vwCl [] s.heap) :
    ∀ (n : Nat) {y4 : Int64} {y6 : Int64} {y8 : Int32} (out : Int64), lpf (fun s => f_X5_commonDivisor_9 s.1 s.2.1 s.2.2) n (y4, y6, y8) = some out → ∀ {ls : Array Slot}, lv_has ls 11 [(4, .long y4), (6, .long y6), (8, .int y8)] → (∀ ls : Array Slot, lv_has ls 11 [(4, .long out)] → W p l e { frames := 0, cells := 0, slots := 0, locals := 0 } s m args below meth c s.heap [] 0 0 Q (F0 m 44 ls [])) → W p l e { frames := 0, cells := 0, slots := 0, locals := 0 } s m args below meth c s.heap [] 0 0 Q (F0 m 9 ls []) := by
  have hx := F.1
  have hb := F.2.1
  have hown := F.2.2.2.1
  have hts := F.2.2.2.2
  have hK := hG.1.1
  intro n
  induction n with
  | zero =>
    intro y4 y6 y8 out ho
    exact (fp_l0 ho).elim
  | succ n ih =>
    intro y4 y6 y8 out ho ls hl hex
    obtain ⟨o, hf, ho⟩ := fp_l ho
    have hf : f_X5_commonDivisor_9 y4 y6 y8 = some o := hf
    rw [f_X5_commonDivisor_9] at hf
    refine lv_iload hx hb dX5_commonDivisor_9 (lv_at hl 2 rfl) ?_
    refine lv_bipush (v := (100 : Int32)) hx hb dX5_commonDivisor_11 (by decide) ?_
    refine lv_icmp_ge (tgt := 44) hx hb dX5_commonDivisor_13 (by decide) (fun c19 => ?_) (fun c19 => ?_)
    · have hf := fp_t hf c19
      cases hf
      have ho := fp_inr ho
      cases ho
      exact hex _ (lv_sub hl [0] rfl)
    · have hf := fp_f hf c19
      refine lv_lload hx hb dX5_commonDivisor_16 (lv_at hl 1 rfl) ?_
      refine lv_lconst (v := 0) hx hb dX5_commonDivisor_18 (by decide) ?_
      refine W.lcmp hx hb dX5_commonDivisor_19 ?_
      refine lv_if_eq (tgt := 44) hx hb dX5_commonDivisor_20 (by decide) (fun c20 => ?_) (fun c20 => ?_)
      · have hf := fp_t hf c20
        cases hf
        have ho := fp_inr ho
        cases ho
        exact hex _ (lv_sub hl [0] rfl)
      · have hf := fp_f hf c20
        refine lv_lload hx hb dX5_commonDivisor_23 (lv_at hl 0 rfl) ?_
        refine lv_lload hx hb dX5_commonDivisor_25 (lv_at hl 1 rfl) ?_
        obtain ⟨k21, hf⟩ := fp_c hf
        refine lv_lrem hx hb dX5_commonDivisor_27 k21 ?_
        refine lv_lstore (lv' := [(9, .long (y4 - ((y4 / y6) * y6))), (4, .long y4), (6, .long y6), (8, .int y8)]) hx hb dX5_commonDivisor_28 hl (by decide) rfl (fun ls hl => ?_)
        refine lv_lload hx hb dX5_commonDivisor_30 (lv_at hl 2 rfl) ?_
        refine lv_lstore (lv' := [(4, .long y6), (9, .long (y4 - ((y4 / y6) * y6))), (6, .long y6), (8, .int y8)]) hx hb dX5_commonDivisor_32 hl (by decide) rfl (fun ls hl => ?_)
        refine lv_lload hx hb dX5_commonDivisor_34 (lv_at hl 1 rfl) ?_
        refine lv_lstore (lv' := [(6, .long (y4 - ((y4 / y6) * y6))), (4, .long y6), (9, .long (y4 - ((y4 / y6) * y6))), (8, .int y8)]) hx hb dX5_commonDivisor_36 hl (by decide) rfl (fun ls hl => ?_)
        refine lv_iinc (v := (y8 + (1 : Int32))) (lv' := [(8, .int (y8 + (1 : Int32))), (6, .long (y4 - ((y4 / y6) * y6))), (4, .long y6), (9, .long (y4 - ((y4 / y6) * y6)))]) hx hb dX5_commonDivisor_38 hl (k := 3) rfl rfl (by decide) rfl (fun ls hl => ?_)
        refine lv_goto (tgt := 9) hx hb dX5_commonDivisor_41 (by decide) ?_
        cases hf
        exact ih _ (fp_inl ho) (lv_sub hl [2, 1, 0] rfl) hex
def f_X5_commonDivisor (x0 : Int64) (x2 : Int64) : Option (Int64) :=
  Option.bind (lpf (fun s => f_X5_commonDivisor_9 s.1 s.2.1 s.2.2) 1000 (x0, x2, (0 : Int32))) (fun o22 => some o22)
set_option maxHeartbeats 4000000 in
set_option maxRecDepth 100000 in
theorem b_X5_commonDivisor {p : Program} {l : Launch} {e : Env} {s : State} {m : MethodId} {args : Array Value} {below : List Frame} {meth : Method} {c : Code} {Q : State → Prop} {D : va_G} {cI cJ cZ cQ : ClassId} {qs : Nat × Nat × Nat}  {x0 : Int64} {x2 : Int64} {out : Int64} (F : CallFix p m c cX5_commonDivisor 11 s args wsX5_commonDivisor RX5) (hG : kR D (ty4 cI cJ cZ cQ) qs s s.heap) (hP : va_P D vwCl [] s.heap) (hf : f_X5_commonDivisor x0 x2 = some out) (hret : ∀ (pc : Nat) (ls : Array Slot), decode cX5_commonDivisor pc = .ok (.lreturn, 1) → W p l e { frames := 0, cells := 0, slots := 0, locals := 0 } s m args below meth c s.heap [] 0 0 Q (F0 m pc ls [.long out])) {ls : Array Slot} (hl : lv_has ls 11 [(0, .long x0), (2, .long x2)]) : W p l e { frames := 0, cells := 0, slots := 0, locals := 0 } s m args below meth c s.heap [] 0 0 Q (F0 m 0 ls []) := by
  have hx := F.1
  have hb := F.2.1
  have hown := F.2.2.2.1
  have hts := F.2.2.2.2
  have hK := hG.1.1
  rw [f_X5_commonDivisor] at hf
  refine lv_lload_n hx hb dX5_commonDivisor_0 rfl (lv_at hl 0 rfl) ?_
  refine lv_lstore (lv' := [(4, .long x0), (0, .long x0), (2, .long x2)]) hx hb dX5_commonDivisor_1 hl (by decide) rfl (fun ls hl => ?_)
  refine lv_lload_n hx hb dX5_commonDivisor_3 rfl (lv_at hl 2 rfl) ?_
  refine lv_lstore (lv' := [(6, .long x2), (4, .long x0), (0, .long x0), (2, .long x2)]) hx hb dX5_commonDivisor_4 hl (by decide) rfl (fun ls hl => ?_)
  refine lv_iconst (v := (0 : Int32)) hx hb dX5_commonDivisor_6 (by decide) ?_
  refine lv_istore (lv' := [(8, .int (0 : Int32)), (6, .long x2), (4, .long x0), (0, .long x0), (2, .long x2)]) hx hb dX5_commonDivisor_7 hl (by decide) rfl (fun ls hl => ?_)
  obtain ⟨o22, eo22, hf⟩ := fp_b hf
  refine lp_X5_commonDivisor_9 F hG hP _ _ eo22 (lv_sub hl [2, 1, 0] rfl) (fun ls hl => ?_)
  refine lv_lload hx hb dX5_commonDivisor_44 (lv_at hl 0 rfl) ?_
  cases hf
  exact hret _ _ dX5_commonDivisor_46
set_option maxRecDepth 100000 in
theorem c_X5_commonDivisor {l : Launch} {D : va_G} {cI cJ cZ cQ : ClassId} {qs : Nat × Nat × Nat}  {x0 : Int64} {x2 : Int64} {out : Int64} (hf : f_X5_commonDivisor x0 x2 = some out) : RoL l yX5_commonDivisor wsX5_commonDivisor { frames := 0, cells := 0, slots := 0, locals := 0 } D (ty4 cI cJ cZ cQ) qs [.long x0, .long x2] [] out :=
  RoL.of (own := RX5) (by decide +kernel) rfl rfl (Nat.le_of_ble_eq_true rfl) (fun F hG hP hret ls hl => b_X5_commonDivisor F hG hP hf hret hl)
-- method X5_lowest
theorem yd_X5_lowest : yX5_lowest.cls ≠ "java/lang/invoke/MethodHandle" ∧ yX5_lowest.cls ≠ "java/lang/invoke/VarHandle" ∧ (parseMethodDescriptor yX5_lowest.desc).map (fun d => d.parameters.length) = some 3 := by decide +kernel
def f_X5_lowest (x0 : Int64) (x2 : Int64) (x4 : Int32) : Option (Int32) :=
  Option.bind (f_X5_commonDivisor x0 x2) (fun r23 => (if (lg_cmp r23 (0 : Int64)) = 0 then some x4 else (if x4 = 0 then chk (¬ r23 = 0) (some (Int64.toInt32 (x0 / r23))) else chk (¬ r23 = 0) (some (Int64.toInt32 (x2 / r23))))))
set_option maxHeartbeats 4000000 in
set_option maxRecDepth 100000 in
theorem b_X5_lowest {p : Program} {l : Launch} {e : Env} {s : State} {m : MethodId} {args : Array Value} {below : List Frame} {meth : Method} {c : Code} {Q : State → Prop} {D : va_G} {cI cJ cZ cQ : ClassId} {qs : Nat × Nat × Nat}  {x0 : Int64} {x2 : Int64} {x4 : Int32} {out : Int32} (F : CallFix p m c cX5_lowest 7 s args wsX5_lowest RX5) (hG : kR D (ty4 cI cJ cZ cQ) qs s s.heap) (hP : va_P D vwCl [] s.heap) (hf : f_X5_lowest x0 x2 x4 = some out) (hret : ∀ (pc : Nat) (ls : Array Slot), decode cX5_lowest pc = .ok (.ireturn, 1) → narrow .int (.int out) = .int out → W p l e { frames := 1, cells := 0, slots := 0, locals := 30 } s m args below meth c s.heap [] 0 0 Q (F0 m pc ls [.int out])) {ls : Array Slot} (hl : lv_has ls 7 [(0, .long x0), (2, .long x2), (4, .int x4)]) : W p l e { frames := 1, cells := 0, slots := 0, locals := 30 } s m args below meth c s.heap [] 0 0 Q (F0 m 0 ls []) := by
  have hx := F.1
  have hb := F.2.1
  have hown := F.2.2.2.1
  have hts := F.2.2.2.2
  have hK := hG.1.1
  rw [f_X5_lowest] at hf
  refine lv_lload_n hx hb dX5_lowest_0 rfl (lv_at hl 0 rfl) ?_
  refine lv_lload_n hx hb dX5_lowest_1 rfl (lv_at hl 1 rfl) ?_
  obtain ⟨r23, er23, hf⟩ := fp_b hf
  refine RoL.callS (c_X5_commonDivisor (l := l) (D := D) (cI := cI) (cJ := cJ) (cZ := cZ) (cQ := cQ) (qs := qs) er23) F (va_cwS 2 hts gX5_lowest_X5_commonDivisor rfl rfl rfl yd_X5_commonDivisor ⟨Nat.le_of_ble_eq_true rfl, Nat.le_of_ble_eq_true rfl⟩) hG hP [] rfl rfl hl.1 rfl (Nat.le_of_ble_eq_true rfl) dX5_lowest_2 ⟨Nat.zero_le _, Nat.zero_le _⟩ ?_
  refine lv_lstore (lv' := [(5, .long r23), (0, .long x0), (2, .long x2), (4, .int x4)]) hx hb dX5_lowest_5 hl (by decide) rfl (fun ls hl => ?_)
  refine lv_lload hx hb dX5_lowest_7 (lv_at hl 0 rfl) ?_
  refine lv_lconst (v := 0) hx hb dX5_lowest_9 (by decide) ?_
  refine W.lcmp hx hb dX5_lowest_10 ?_
  refine lv_if_ne (tgt := 17) hx hb dX5_lowest_11 (by decide) (fun c24 => ?_) (fun c24 => ?_)
  · have hf := fp_f hf c24
    refine lv_iload hx hb dX5_lowest_17 (lv_at hl 3 rfl) ?_
    refine lv_if_ne (tgt := 26) hx hb dX5_lowest_19 (by decide) (fun c25 => ?_) (fun c25 => ?_)
    · have hf := fp_f hf c25
      refine lv_lload_n hx hb dX5_lowest_26 rfl (lv_at hl 2 rfl) ?_
      refine lv_lload hx hb dX5_lowest_27 (lv_at hl 0 rfl) ?_
      obtain ⟨k26, hf⟩ := fp_c hf
      refine lv_ldiv hx hb dX5_lowest_29 k26 ?_
      refine lv_l2i (v := (Int64.toInt32 (x2 / r23))) hx hb dX5_lowest_30 rfl ?_
      cases hf
      exact hret _ _ dX5_lowest_31 (vp_nar_int _)
    · have hf := fp_t hf c25
      refine lv_lload_n hx hb dX5_lowest_22 rfl (lv_at hl 1 rfl) ?_
      refine lv_goto (tgt := 27) hx hb dX5_lowest_23 (by decide) ?_
      refine lv_lload hx hb dX5_lowest_27 (lv_at hl 0 rfl) ?_
      obtain ⟨k27, hf⟩ := fp_c hf
      refine lv_ldiv hx hb dX5_lowest_29 k27 ?_
      refine lv_l2i (v := (Int64.toInt32 (x0 / r23))) hx hb dX5_lowest_30 rfl ?_
      cases hf
      exact hret _ _ dX5_lowest_31 (vp_nar_int _)
  · have hf := fp_t hf c24
    refine lv_iload hx hb dX5_lowest_14 (lv_at hl 3 rfl) ?_
    cases hf
    exact hret _ _ dX5_lowest_16 (vp_nar_int _)
set_option maxRecDepth 100000 in
theorem c_X5_lowest {l : Launch} {D : va_G} {cI cJ cZ cQ : ClassId} {qs : Nat × Nat × Nat}  {x0 : Int64} {x2 : Int64} {x4 : Int32} {out : Int32} (hf : f_X5_lowest x0 x2 x4 = some out) : RoI l yX5_lowest wsX5_lowest { frames := 1, cells := 0, slots := 0, locals := 30 } D (ty4 cI cJ cZ cQ) qs [.long x0, .long x2, .int x4] [] out :=
  RoI.of (own := RX5) (by decide +kernel) rfl rfl (Nat.le_of_ble_eq_true rfl) (fun F hG hP hret ls hl => b_X5_lowest F hG hP hf hret hl)
-- method X5_floatBits
theorem yd_X5_floatBits : yX5_floatBits.cls ≠ "java/lang/invoke/MethodHandle" ∧ yX5_floatBits.cls ≠ "java/lang/invoke/VarHandle" ∧ (parseMethodDescriptor yX5_floatBits.desc).map (fun d => d.parameters.length) = some 2 := by decide +kernel
theorem kw_X5_floatBits_1 : Cond.constantFloat RX5 208 (1258291200) ∈ wsX5_floatBits := List.mem_of_getElem? (i := 1) rfl
def f_X5_floatBits_27 (y2 : UInt32) (y3 : UInt32) (y4 : Int32) (y5 : Int32) : Option ((UInt32 × Int32 × Int32) ⊕ (UInt32 × Int32)) :=
  (if (127 : Int32) ≤ y5 then some (Sum.inr (y3, y4)) else (if 0 ≤ (Op.cmpValue (FP.fcmp y3 y2) .g) then some (Sum.inr (y3, y4)) else chk ((FP.fmul y3 (0x40000000 : UInt32)) &&& 0x7fffffff ≤ 0x7f800000) (some (Sum.inl ((FP.fmul y3 (0x40000000 : UInt32)), (y4 + (-1 : Int32)), (y5 + (1 : Int32)))))))
set_option maxHeartbeats 4000000 in
set_option maxRecDepth 100000 in
theorem lp_X5_floatBits_27 {p : Program} {l : Launch} {e : Env} {s : State} {m : MethodId} {args : Array Value} {below : List Frame} {meth : Method} {c : Code} {Q : State → Prop} {D : va_G} {cI cJ cZ cQ : ClassId} {qs : Nat × Nat × Nat}  {y2 : UInt32}  (F : CallFix p m c cX5_floatBits 6 s args wsX5_floatBits RX5) (hG : kR D (ty4 cI cJ cZ cQ) qs s s.heap) (hP : va_P D vwCl [] s.heap) :
    ∀ (n : Nat) {y3 : UInt32} {y4 : Int32} {y5 : Int32} (out : UInt32 × Int32), lpf (fun s => f_X5_floatBits_27 y2 s.1 s.2.1 s.2.2) n (y3, y4, y5) = some out → ∀ {ls : Array Slot}, lv_has ls 6 [(2, .float y2), (3, .float y3), (4, .int y4), (5, .int y5)] → (∀ ls : Array Slot, lv_has ls 6 [(2, .float y2), (3, .float out.1), (4, .int out.2)] → W p l e { frames := 0, cells := 0, slots := 0, locals := 0 } s m args below meth c s.heap [] 0 0 Q (F0 m 53 ls [])) → W p l e { frames := 0, cells := 0, slots := 0, locals := 0 } s m args below meth c s.heap [] 0 0 Q (F0 m 27 ls []) := by
  have hx := F.1
  have hb := F.2.1
  have hown := F.2.2.2.1
  have hts := F.2.2.2.2
  have hK := hG.1.1
  intro n
  induction n with
  | zero =>
    intro y3 y4 y5 out ho
    exact (fp_l0 ho).elim
  | succ n ih =>
    intro y3 y4 y5 out ho ls hl hex
    obtain ⟨o, hf, ho⟩ := fp_l ho
    have hf : f_X5_floatBits_27 y2 y3 y4 y5 = some o := hf
    rw [f_X5_floatBits_27] at hf
    refine lv_iload hx hb dX5_floatBits_27 (lv_at hl 3 rfl) ?_
    refine lv_bipush (v := (127 : Int32)) hx hb dX5_floatBits_29 (by decide) ?_
    refine lv_icmp_ge (tgt := 53) hx hb dX5_floatBits_31 (by decide) (fun c31 => ?_) (fun c31 => ?_)
    · have hf := fp_t hf c31
      cases hf
      have ho := fp_inr ho
      cases ho
      exact hex _ (lv_sub hl [0, 1, 2] rfl)
    · have hf := fp_f hf c31
      refine lv_fload_n hx hb dX5_floatBits_34 rfl (lv_at hl 1 rfl) ?_
      refine lv_fload_n hx hb dX5_floatBits_35 rfl (lv_at hl 0 rfl) ?_
      refine lv_fcmp hx hb dX5_floatBits_36 ?_
      refine lv_if_ge (tgt := 53) hx hb dX5_floatBits_37 (by decide) (fun c32 => ?_) (fun c32 => ?_)
      · have hf := fp_t hf c32
        cases hf
        have ho := fp_inr ho
        cases ho
        exact hex _ (lv_sub hl [0, 1, 2] rfl)
      · have hf := fp_f hf c32
        refine lv_fload_n hx hb dX5_floatBits_40 rfl (lv_at hl 1 rfl) ?_
        refine lv_fconst2 hx hb dX5_floatBits_41 ?_
        obtain ⟨k33, hf⟩ := fp_c hf
        refine lv_fmul hx hb dX5_floatBits_42 k33 ?_
        refine lv_fstore_n (lv' := [(3, .float (FP.fmul y3 (0x40000000 : UInt32))), (2, .float y2), (4, .int y4), (5, .int y5)]) hx hb dX5_floatBits_43 rfl hl (by decide) rfl (fun ls hl => ?_)
        refine lv_iinc (v := (y4 + (-1 : Int32))) (lv' := [(4, .int (y4 + (-1 : Int32))), (3, .float (FP.fmul y3 (0x40000000 : UInt32))), (2, .float y2), (5, .int y5)]) hx hb dX5_floatBits_44 hl (k := 2) rfl rfl (by decide) rfl (fun ls hl => ?_)
        refine lv_iinc (v := (y5 + (1 : Int32))) (lv' := [(5, .int (y5 + (1 : Int32))), (4, .int (y4 + (-1 : Int32))), (3, .float (FP.fmul y3 (0x40000000 : UInt32))), (2, .float y2)]) hx hb dX5_floatBits_47 hl (k := 3) rfl rfl (by decide) rfl (fun ls hl => ?_)
        refine lv_goto (tgt := 27) hx hb dX5_floatBits_50 (by decide) ?_
        cases hf
        exact ih _ (fp_inl ho) (lv_sub hl [3, 2, 1, 0] rfl) hex
def f_X5_floatBits (x0 : Int32) (x1 : Int32) : Option (Int32) :=
  (if x0 ≤ 0 then some (0 : Int32) else (if 0 < x1 then chk ((FP.fdiv (FP.i2f x0) (FP.i2f x1)) &&& 0x7fffffff ≤ 0x7f800000) (Option.bind (lpf (fun s => f_X5_floatBits_27 (1258291200 : UInt32) s.1 s.2.1 s.2.2) 1000 ((FP.fdiv (FP.i2f x0) (FP.i2f x1)), (150 : Int32), (0 : Int32))) (fun o34 => chk ((FP.fsub o34.1 (1258291200 : UInt32)) &&& 0x7fffffff ≤ 0x7f800000) (some ((o34.2 <<< ((23 : Int32) &&& 31)) + (FP.f2i (FP.fsub o34.1 (1258291200 : UInt32))))))) else some (0 : Int32)))
set_option maxHeartbeats 4000000 in
set_option maxRecDepth 100000 in
theorem b_X5_floatBits {p : Program} {l : Launch} {e : Env} {s : State} {m : MethodId} {args : Array Value} {below : List Frame} {meth : Method} {c : Code} {Q : State → Prop} {D : va_G} {cI cJ cZ cQ : ClassId} {qs : Nat × Nat × Nat}  {x0 : Int32} {x1 : Int32} {out : Int32} (F : CallFix p m c cX5_floatBits 6 s args wsX5_floatBits RX5) (hG : kR D (ty4 cI cJ cZ cQ) qs s s.heap) (hP : va_P D vwCl [] s.heap) (hf : f_X5_floatBits x0 x1 = some out) (hret : ∀ (pc : Nat) (ls : Array Slot), decode cX5_floatBits pc = .ok (.ireturn, 1) → narrow .int (.int out) = .int out → W p l e { frames := 0, cells := 0, slots := 0, locals := 0 } s m args below meth c s.heap [] 0 0 Q (F0 m pc ls [.int out])) {ls : Array Slot} (hl : lv_has ls 6 [(0, .int x0), (1, .int x1)]) : W p l e { frames := 0, cells := 0, slots := 0, locals := 0 } s m args below meth c s.heap [] 0 0 Q (F0 m 0 ls []) := by
  have hx := F.1
  have hb := F.2.1
  have hown := F.2.2.2.1
  have hts := F.2.2.2.2
  have hK := hG.1.1
  rw [f_X5_floatBits] at hf
  refine lv_iload_n hx hb dX5_floatBits_0 rfl (lv_at hl 0 rfl) ?_
  refine lv_if_le (tgt := 8) hx hb dX5_floatBits_1 (by decide) (fun c28 => ?_) (fun c28 => ?_)
  · have hf := fp_t hf c28
    refine lv_iconst (v := (0 : Int32)) hx hb dX5_floatBits_8 (by decide) ?_
    cases hf
    exact hret _ _ dX5_floatBits_9 (vp_nar_int _)
  · have hf := fp_f hf c28
    refine lv_iload_n hx hb dX5_floatBits_4 rfl (lv_at hl 1 rfl) ?_
    refine lv_if_gt (tgt := 10) hx hb dX5_floatBits_5 (by decide) (fun c29 => ?_) (fun c29 => ?_)
    · have hf := fp_t hf c29
      refine lv_ldcf hx hb hown (hts _ kw_X5_floatBits_1) dX5_floatBits_10 ?_
      refine lv_fstore_n (lv' := [(2, .float (1258291200 : UInt32)), (0, .int x0), (1, .int x1)]) hx hb dX5_floatBits_12 rfl hl (by decide) rfl (fun ls hl => ?_)
      refine lv_iload_n hx hb dX5_floatBits_13 rfl (lv_at hl 1 rfl) ?_
      refine lv_i2f hx hb dX5_floatBits_14 ?_
      refine lv_iload_n hx hb dX5_floatBits_15 rfl (lv_at hl 2 rfl) ?_
      refine lv_i2f hx hb dX5_floatBits_16 ?_
      obtain ⟨k30, hf⟩ := fp_c hf
      refine lv_fdiv hx hb dX5_floatBits_17 k30 ?_
      refine lv_fstore_n (lv' := [(3, .float (FP.fdiv (FP.i2f x0) (FP.i2f x1))), (2, .float (1258291200 : UInt32)), (0, .int x0), (1, .int x1)]) hx hb dX5_floatBits_18 rfl hl (by decide) rfl (fun ls hl => ?_)
      refine lv_sipush (v := (150 : Int32)) hx hb dX5_floatBits_19 (by decide) ?_
      refine lv_istore (lv' := [(4, .int (150 : Int32)), (3, .float (FP.fdiv (FP.i2f x0) (FP.i2f x1))), (2, .float (1258291200 : UInt32)), (0, .int x0), (1, .int x1)]) hx hb dX5_floatBits_22 hl (by decide) rfl (fun ls hl => ?_)
      refine lv_iconst (v := (0 : Int32)) hx hb dX5_floatBits_24 (by decide) ?_
      refine lv_istore (lv' := [(5, .int (0 : Int32)), (4, .int (150 : Int32)), (3, .float (FP.fdiv (FP.i2f x0) (FP.i2f x1))), (2, .float (1258291200 : UInt32)), (0, .int x0), (1, .int x1)]) hx hb dX5_floatBits_25 hl (by decide) rfl (fun ls hl => ?_)
      obtain ⟨o34, eo34, hf⟩ := fp_b hf
      refine lp_X5_floatBits_27 F hG hP _ _ eo34 (lv_sub hl [3, 2, 1, 0] rfl) (fun ls hl => ?_)
      refine lv_iload hx hb dX5_floatBits_53 (lv_at hl 2 rfl) ?_
      refine lv_bipush (v := (23 : Int32)) hx hb dX5_floatBits_55 (by decide) ?_
      refine lv_ishl hx hb dX5_floatBits_57 ?_
      refine lv_fload_n hx hb dX5_floatBits_58 rfl (lv_at hl 1 rfl) ?_
      refine lv_fload_n hx hb dX5_floatBits_59 rfl (lv_at hl 0 rfl) ?_
      obtain ⟨k35, hf⟩ := fp_c hf
      refine lv_fsub hx hb dX5_floatBits_60 k35 ?_
      refine lv_f2i hx hb dX5_floatBits_61 ?_
      refine lv_iadd hx hb dX5_floatBits_62 ?_
      cases hf
      exact hret _ _ dX5_floatBits_63 (vp_nar_int _)
    · have hf := fp_f hf c29
      refine lv_iconst (v := (0 : Int32)) hx hb dX5_floatBits_8 (by decide) ?_
      cases hf
      exact hret _ _ dX5_floatBits_9 (vp_nar_int _)
set_option maxRecDepth 100000 in
theorem c_X5_floatBits {l : Launch} {D : va_G} {cI cJ cZ cQ : ClassId} {qs : Nat × Nat × Nat}  {x0 : Int32} {x1 : Int32} {out : Int32} (hf : f_X5_floatBits x0 x1 = some out) : RoI l yX5_floatBits wsX5_floatBits { frames := 0, cells := 0, slots := 0, locals := 0 } D (ty4 cI cJ cZ cQ) qs [.int x0, .int x1] [] out :=
  RoI.of (own := RX5) (by decide +kernel) rfl rfl (Nat.le_of_ble_eq_true rfl) (fun F hG hP hret ls hl => b_X5_floatBits F hG hP hf hret hl)
-- method X1_cellOf
theorem yd_X1_cellOf : yX1_cellOf.cls ≠ "java/lang/invoke/MethodHandle" ∧ yX1_cellOf.cls ≠ "java/lang/invoke/VarHandle" ∧ (parseMethodDescriptor yX1_cellOf.desc).map (fun d => d.parameters.length) = some 1 := by decide +kernel
def f_X1_cellOf (x0 : Int32) : Option (Int32) :=
  some (x0 / (8 : Int32))
set_option maxHeartbeats 4000000 in
set_option maxRecDepth 100000 in
theorem b_X1_cellOf {p : Program} {l : Launch} {e : Env} {s : State} {m : MethodId} {args : Array Value} {below : List Frame} {meth : Method} {c : Code} {Q : State → Prop} {D : va_G} {cI cJ cZ cQ : ClassId} {qs : Nat × Nat × Nat}  {x0 : Int32} {out : Int32} (F : CallFix p m c cX1_cellOf 1 s args wsX1_cellOf RX1) (hG : kR D (ty4 cI cJ cZ cQ) qs s s.heap) (hP : va_P D vwCl [] s.heap) (hf : f_X1_cellOf x0 = some out) (hret : ∀ (pc : Nat) (ls : Array Slot), decode cX1_cellOf pc = .ok (.ireturn, 1) → narrow .int (.int out) = .int out → W p l e { frames := 0, cells := 0, slots := 0, locals := 0 } s m args below meth c s.heap [] 0 0 Q (F0 m pc ls [.int out])) {ls : Array Slot} (hl : lv_has ls 1 [(0, .int x0)]) : W p l e { frames := 0, cells := 0, slots := 0, locals := 0 } s m args below meth c s.heap [] 0 0 Q (F0 m 0 ls []) := by
  have hx := F.1
  have hb := F.2.1
  have hown := F.2.2.2.1
  have hts := F.2.2.2.2
  have hK := hG.1.1
  rw [f_X1_cellOf] at hf
  refine lv_iload_n hx hb dX1_cellOf_0 rfl (lv_at hl 0 rfl) ?_
  refine lv_bipush (v := (8 : Int32)) hx hb dX1_cellOf_1 (by decide) ?_
  refine lv_idiv hx hb dX1_cellOf_3 (by decide) ?_
  cases hf
  exact hret _ _ dX1_cellOf_4 (vp_nar_int _)
set_option maxRecDepth 100000 in
theorem c_X1_cellOf {l : Launch} {D : va_G} {cI cJ cZ cQ : ClassId} {qs : Nat × Nat × Nat}  {x0 : Int32} {out : Int32} (hf : f_X1_cellOf x0 = some out) : RoI l yX1_cellOf wsX1_cellOf { frames := 0, cells := 0, slots := 0, locals := 0 } D (ty4 cI cJ cZ cQ) qs [.int x0] [] out :=
  RoI.of (own := RX1) (by decide +kernel) rfl rfl (Nat.le_of_ble_eq_true rfl) (fun F hG hP hret ls hl => b_X1_cellOf F hG hP hf hret hl)
-- method X1_kindOf
theorem yd_X1_kindOf : yX1_kindOf.cls ≠ "java/lang/invoke/MethodHandle" ∧ yX1_kindOf.cls ≠ "java/lang/invoke/VarHandle" ∧ (parseMethodDescriptor yX1_kindOf.desc).map (fun d => d.parameters.length) = some 1 := by decide +kernel
def f_X1_kindOf (x0 : Int32) : Option (Int32) :=
  some (x0 - ((x0 / (8 : Int32)) * (8 : Int32)))
set_option maxHeartbeats 4000000 in
set_option maxRecDepth 100000 in
theorem b_X1_kindOf {p : Program} {l : Launch} {e : Env} {s : State} {m : MethodId} {args : Array Value} {below : List Frame} {meth : Method} {c : Code} {Q : State → Prop} {D : va_G} {cI cJ cZ cQ : ClassId} {qs : Nat × Nat × Nat}  {x0 : Int32} {out : Int32} (F : CallFix p m c cX1_kindOf 1 s args wsX1_kindOf RX1) (hG : kR D (ty4 cI cJ cZ cQ) qs s s.heap) (hP : va_P D vwCl [] s.heap) (hf : f_X1_kindOf x0 = some out) (hret : ∀ (pc : Nat) (ls : Array Slot), decode cX1_kindOf pc = .ok (.ireturn, 1) → narrow .int (.int out) = .int out → W p l e { frames := 0, cells := 0, slots := 0, locals := 0 } s m args below meth c s.heap [] 0 0 Q (F0 m pc ls [.int out])) {ls : Array Slot} (hl : lv_has ls 1 [(0, .int x0)]) : W p l e { frames := 0, cells := 0, slots := 0, locals := 0 } s m args below meth c s.heap [] 0 0 Q (F0 m 0 ls []) := by
  have hx := F.1
  have hb := F.2.1
  have hown := F.2.2.2.1
  have hts := F.2.2.2.2
  have hK := hG.1.1
  rw [f_X1_kindOf] at hf
  refine lv_iload_n hx hb dX1_kindOf_0 rfl (lv_at hl 0 rfl) ?_
  refine lv_bipush (v := (8 : Int32)) hx hb dX1_kindOf_1 (by decide) ?_
  refine lv_irem hx hb dX1_kindOf_3 (by decide) ?_
  cases hf
  exact hret _ _ dX1_kindOf_4 (vp_nar_int _)
set_option maxRecDepth 100000 in
theorem c_X1_kindOf {l : Launch} {D : va_G} {cI cJ cZ cQ : ClassId} {qs : Nat × Nat × Nat}  {x0 : Int32} {out : Int32} (hf : f_X1_kindOf x0 = some out) : RoI l yX1_kindOf wsX1_kindOf { frames := 0, cells := 0, slots := 0, locals := 0 } D (ty4 cI cJ cZ cQ) qs [.int x0] [] out :=
  RoI.of (own := RX1) (by decide +kernel) rfl rfl (Nat.le_of_ble_eq_true rfl) (fun F hG hP hret ls hl => b_X1_kindOf F hG hP hf hret hl)
-- method X1_remember
theorem yd_X1_remember : yX1_remember.cls = RX1 ∧ yX1_remember.cls ≠ "java/lang/invoke/MethodHandle" ∧ yX1_remember.cls ≠ "java/lang/invoke/VarHandle" ∧ (parseMethodDescriptor yX1_remember.desc).map (fun d => d.parameters.length) = some 1 := by decide +kernel
theorem ku_X1_remember_X1 : ∀ w ∈ u_ws RX1 TX1 2, w ∈ wsX1_remember := by decide +kernel
theorem kw_X1_remember_1 : Cond.fieldLink RX1 15 "MirrorShares$Past" "size" "I" ∈ wsX1_remember := List.mem_of_getElem? (i := 1) rfl
theorem kw_X1_remember_2 : Cond.fieldLink RX1 9 "MirrorShares$Past" "changes" "[I" ∈ wsX1_remember := List.mem_of_getElem? (i := 2) rfl
theorem kw_X1_remember_3 : Cond.methodLink RX1 23 arraycopyName ∈ wsX1_remember := List.mem_of_getElem? (i := 3) rfl
theorem kw_X1_remember_4 : Cond.native arraycopyName ∈ wsX1_remember := List.mem_of_getElem? (i := 4) rfl
theorem kw_X1_remember_5 : Cond.static arraycopyName ∈ wsX1_remember := List.mem_of_getElem? (i := 5) rfl
theorem kw_X1_remember_6 : Cond.initialized "java/lang/System" ∈ wsX1_remember := List.mem_of_getElem? (i := 6) rfl
def f_X1_remember (pz : Int32) (pg : Nat → Int32) (x1 : Int32) : Option (Int32 × (Nat → Int32)) :=
  Option.bind (if pz < (4 : Int32) then some (pz, pg) else some ((3 : Int32), (va_cpy pg pg (Int32.toNatClampNeg (1 : Int32)) (Int32.toNatClampNeg (0 : Int32)) (Int32.toNatClampNeg (3 : Int32))))) (fun j36 => chk (aix j36.1 4) (some ((j36.1 + (1 : Int32)), (upd j36.2 (Int32.toNatClampNeg j36.1) x1))))
set_option maxHeartbeats 4000000 in
set_option maxRecDepth 100000 in
theorem b_X1_remember {p : Program} {l : Launch} {e : Env} {s : State} {m : MethodId} {args : Array Value} {below : List Frame} {meth : Method} {c : Code} {Q : State → Prop} {A : Nat → Prop} {H : Heap} {locs : List Loc} {D : va_G} {cI cJ cZ cQ : ClassId} {qs : Nat × Nat × Nat} {hPa hPg : Nat} {pz : Int32} {pg : Nat → Int32} {x1 : Int32} {out : Int32 × (Nat → Int32)} (F : CallFix p m c cX1_remember 2 s args wsX1_remember RX1) (hG : kW D (ty4 cI cJ cZ cQ) qs A s s.heap) (hA : ∀ q : Nat, s.heap.size ≤ q → A q) (hP : va_P D vwCl [(hPa, .inr (1, [.ref hPg, .int pz])), (hPg, .inl (cI, 4, .inl pg))] H) (hD : va_D A [(hPa, .inr (1, [.ref hPg, .int pz])), (hPg, .inl (cI, 4, .inl pg))]) (hS : va_S A s.heap H locs) (hf : f_X1_remember pz pg x1 = some out) (hret : ∀ (pc : Nat) (H : Heap) (locs : List Loc) (ls : Array Slot), decode cX1_remember pc = .ok (.return_, 1) → va_P D vwCl [(hPa, .inr (1, [.ref hPg, .int out.1])), (hPg, .inl (cI, 4, .inl out.2))] H → va_D A [(hPa, .inr (1, [.ref hPg, .int out.1])), (hPg, .inl (cI, 4, .inl out.2))] → va_S A s.heap H locs → W p l e { frames := 1, cells := 0, slots := 0, locals := 60 } s m args below meth c H locs 0 0 Q (F0 m pc ls [])) {ls : Array Slot} (hl : lv_has ls 2 [(0, .ref hPa), (1, .int x1)]) : W p l e { frames := 1, cells := 0, slots := 0, locals := 60 } s m args below meth c H locs 0 0 Q (F0 m 0 ls []) := by
  have hx := F.1
  have hb := F.2.1
  have hown := F.2.2.2.1
  have hts := F.2.2.2.2
  have hK := hG.1.1
  rw [f_X1_remember] at hf
  refine lv_aload_n hx hb dX1_remember_0 rfl (lv_at hl 0 rfl) ?_
  refine va_get (D := D) (ci := 1) (v := .int pz) (C := RX1) (T := TX1) (N := 2) hx hb hts ku_X1_remember_X1 hown hK hP 0 rfl rfl 1 (by decide) (hts _ kw_X1_remember_1) (fun _ h9 => h9) rfl dX1_remember_1 ?_
  refine lv_iconst (v := (4 : Int32)) hx hb dX1_remember_4 (by decide) ?_
  obtain ⟨j36, ej36, hf⟩ := fp_b hf
  have hj37 : ∀ (H : Heap) (locs : List Loc) (ls : Array Slot), va_P D vwCl [(hPa, .inr (1, [.ref hPg, .int j36.1])), (hPg, .inl (cI, 4, .inl j36.2))] H → va_D A [(hPa, .inr (1, [.ref hPg, .int j36.1])), (hPg, .inl (cI, 4, .inl j36.2))] → va_S A s.heap H locs → lv_has ls 2 [(0, .ref hPa), (1, .int x1)] → W p l e { frames := 1, cells := 0, slots := 0, locals := 60 } s m args below meth c H locs 0 0 Q (F0 m 27 ls []) := by
    intro H locs ls hP hD hS hl
    refine lv_aload_n hx hb dX1_remember_27 rfl (lv_at hl 0 rfl) ?_
    refine va_get (D := D) (ci := 1) (v := .ref hPg) (C := RX1) (T := TX1) (N := 2) hx hb hts ku_X1_remember_X1 hown hK hP 0 rfl rfl 0 (by decide) (hts _ kw_X1_remember_2) (fun _ h9 => h9) rfl dX1_remember_28 ?_
    refine lv_aload_n hx hb dX1_remember_31 rfl (lv_at hl 0 rfl) ?_
    refine va_get (D := D) (ci := 1) (v := .int j36.1) (C := RX1) (T := TX1) (N := 2) hx hb hts ku_X1_remember_X1 hown hK hP 0 rfl rfl 1 (by decide) (hts _ kw_X1_remember_1) (fun _ h9 => h9) rfl dX1_remember_32 ?_
    refine lv_iload_n hx hb dX1_remember_35 rfl (lv_at hl 1 rfl) ?_
    obtain ⟨k38, hf⟩ := fp_c hf
    refine va_iast hx hb hK hP hD hS 1 0 rfl rfl k38 dX1_remember_36 (fun H locs hP hD hS => ?_)
    have hP : va_P D vwCl [(hPa, .inr (1, [.ref hPg, .int j36.1])), (hPg, .inl (cI, 4, .inl (upd j36.2 (Int32.toNatClampNeg j36.1) x1)))] H := hP
    have hD : va_D A [(hPa, .inr (1, [.ref hPg, .int j36.1])), (hPg, .inl (cI, 4, .inl (upd j36.2 (Int32.toNatClampNeg j36.1) x1)))] := hD
    refine lv_aload_n hx hb dX1_remember_37 rfl (lv_at hl 0 rfl) ?_
    refine lv_dup hx hb dX1_remember_38 rfl ?_
    refine va_get (D := D) (ci := 1) (v := .int j36.1) (C := RX1) (T := TX1) (N := 2) hx hb hts ku_X1_remember_X1 hown hK hP 0 rfl rfl 1 (by decide) (hts _ kw_X1_remember_1) (fun _ h9 => h9) rfl dX1_remember_39 ?_
    refine lv_iconst (v := (1 : Int32)) hx hb dX1_remember_42 (by decide) ?_
    refine lv_iadd hx hb dX1_remember_43 ?_
    refine va_put (D := D) (ci := 1) (v := .int (j36.1 + (1 : Int32))) (ty := .int) (C := RX1) (T := TX1) (N := 2) hx hb hts ku_X1_remember_X1 tyX1 tyX1_ok nmX1 hown hK hP hD hS 0 rfl rfl 1 (by decide) (hts _ kw_X1_remember_1) (fun _ h9 => h9) rfl (by decide +kernel) rfl rfl (Nat.le_of_ble_eq_true rfl) dX1_remember_44 (fun H locs hP hD hS => ?_)
    have hP : va_P D vwCl [(hPa, .inr (1, [.ref hPg, .int (j36.1 + (1 : Int32))])), (hPg, .inl (cI, 4, .inl (upd j36.2 (Int32.toNatClampNeg j36.1) x1)))] H := hP
    have hD : va_D A [(hPa, .inr (1, [.ref hPg, .int (j36.1 + (1 : Int32))])), (hPg, .inl (cI, 4, .inl (upd j36.2 (Int32.toNatClampNeg j36.1) x1)))] := hD
    cases hf
    exact hret _ _ _ _ dX1_remember_47 hP hD hS
  replace hf := ej36
  refine lv_icmp_lt (tgt := 27) hx hb dX1_remember_5 (by decide) (fun c39 => ?_) (fun c39 => ?_)
  · have hf := fp_t hf c39
    cases hf
    exact hj37 _ _ _ hP hD hS (lv_sub hl [0, 1] rfl)
  · have hf := fp_f hf c39
    refine lv_aload_n hx hb dX1_remember_8 rfl (lv_at hl 0 rfl) ?_
    refine va_get (D := D) (ci := 1) (v := .ref hPg) (C := RX1) (T := TX1) (N := 2) hx hb hts ku_X1_remember_X1 hown hK hP 0 rfl rfl 0 (by decide) (hts _ kw_X1_remember_2) (fun _ h9 => h9) rfl dX1_remember_9 ?_
    refine lv_iconst (v := (1 : Int32)) hx hb dX1_remember_12 (by decide) ?_
    refine lv_aload_n hx hb dX1_remember_13 rfl (lv_at hl 0 rfl) ?_
    refine va_get (D := D) (ci := 1) (v := .ref hPg) (C := RX1) (T := TX1) (N := 2) hx hb hts ku_X1_remember_X1 hown hK hP 0 rfl rfl 0 (by decide) (hts _ kw_X1_remember_2) (fun _ h9 => h9) rfl dX1_remember_14 ?_
    refine lv_iconst (v := (0 : Int32)) hx hb dX1_remember_17 (by decide) ?_
    refine lv_iconst (v := (3 : Int32)) hx hb dX1_remember_18 (by decide) ?_
    refine va_copyi (ty := .int) hx hb (by rw [F.2.2.1]; exact hl.1.symm) hown (hts _ kw_X1_remember_3) (hts _ kw_X1_remember_4) (hts _ kw_X1_remember_5) (hts _ kw_X1_remember_6) hK hP hD hS 1 1 0 0 rfl rfl rfl rfl rfl (by decide) (by decide) (by decide) (by decide) (by decide) (fun _ _ => rfl) (Nat.le_of_ble_eq_true rfl) (Nat.le_of_ble_eq_true rfl) dX1_remember_19 (fun H locs hP hD hS => ?_)
    have hP : va_P D vwCl [(hPa, .inr (1, [.ref hPg, .int pz])), (hPg, .inl (cI, 4, .inl (va_cpy pg pg (Int32.toNatClampNeg (1 : Int32)) (Int32.toNatClampNeg (0 : Int32)) (Int32.toNatClampNeg (3 : Int32)))))] H := hP
    have hD : va_D A [(hPa, .inr (1, [.ref hPg, .int pz])), (hPg, .inl (cI, 4, .inl (va_cpy pg pg (Int32.toNatClampNeg (1 : Int32)) (Int32.toNatClampNeg (0 : Int32)) (Int32.toNatClampNeg (3 : Int32)))))] := hD
    refine lv_aload_n hx hb dX1_remember_22 rfl (lv_at hl 0 rfl) ?_
    refine lv_iconst (v := (3 : Int32)) hx hb dX1_remember_23 (by decide) ?_
    refine va_put (D := D) (ci := 1) (v := .int (3 : Int32)) (ty := .int) (C := RX1) (T := TX1) (N := 2) hx hb hts ku_X1_remember_X1 tyX1 tyX1_ok nmX1 hown hK hP hD hS 0 rfl rfl 1 (by decide) (hts _ kw_X1_remember_1) (fun _ h9 => h9) rfl (by decide +kernel) rfl rfl (Nat.le_of_ble_eq_true rfl) dX1_remember_24 (fun H locs hP hD hS => ?_)
    have hP : va_P D vwCl [(hPa, .inr (1, [.ref hPg, .int (3 : Int32)])), (hPg, .inl (cI, 4, .inl (va_cpy pg pg (Int32.toNatClampNeg (1 : Int32)) (Int32.toNatClampNeg (0 : Int32)) (Int32.toNatClampNeg (3 : Int32)))))] H := hP
    have hD : va_D A [(hPa, .inr (1, [.ref hPg, .int (3 : Int32)])), (hPg, .inl (cI, 4, .inl (va_cpy pg pg (Int32.toNatClampNeg (1 : Int32)) (Int32.toNatClampNeg (0 : Int32)) (Int32.toNatClampNeg (3 : Int32)))))] := hD
    cases hf
    exact hj37 _ _ _ hP hD hS (lv_sub hl [0, 1] rfl)
set_option maxRecDepth 100000 in
theorem c_X1_remember {l : Launch} {D : va_G} {cI cJ cZ cQ : ClassId} {qs : Nat × Nat × Nat} {hPa hPg : Nat} {pz : Int32} {pg : Nat → Int32} {x1 : Int32} {out : Int32 × (Nat → Int32)} (hf : f_X1_remember pz pg x1 = some out) : RwV l yX1_remember wsX1_remember { frames := 1, cells := 0, slots := 0, locals := 60 } D (ty4 cI cJ cZ cQ) qs [.ref hPa, .int x1] [(hPa, .inr (1, [.ref hPg, .int pz])), (hPg, .inl (cI, 4, .inl pg))] [(hPa, .inr (1, [.ref hPg, .int out.1])), (hPg, .inl (cI, 4, .inl out.2))] :=
  RwV.of (own := RX1) (by decide +kernel) rfl rfl (Nat.le_of_ble_eq_true rfl) (fun F hG hA hP hD hS hret ls hl => b_X1_remember F hG hA hP hD hS hf hret hl)
-- method X1_rememberKind
theorem yd_X1_rememberKind : yX1_rememberKind.cls = RX1 ∧ yX1_rememberKind.cls ≠ "java/lang/invoke/MethodHandle" ∧ yX1_rememberKind.cls ≠ "java/lang/invoke/VarHandle" ∧ (parseMethodDescriptor yX1_rememberKind.desc).map (fun d => d.parameters.length) = some 2 := by decide +kernel
def f_X1_rememberKind (pz : Int32) (pg : Nat → Int32) (x1 : Int32) (x2 : Int32) : Option (Int32 × (Nat → Int32)) :=
  Option.bind (f_X1_remember pz pg ((x1 * (8 : Int32)) + x2)) (fun r40 => some (r40.1, r40.2))
set_option maxHeartbeats 4000000 in
set_option maxRecDepth 100000 in
theorem b_X1_rememberKind {p : Program} {l : Launch} {e : Env} {s : State} {m : MethodId} {args : Array Value} {below : List Frame} {meth : Method} {c : Code} {Q : State → Prop} {A : Nat → Prop} {H : Heap} {locs : List Loc} {D : va_G} {cI cJ cZ cQ : ClassId} {qs : Nat × Nat × Nat} {hPa hPg : Nat} {pz : Int32} {pg : Nat → Int32} {x1 : Int32} {x2 : Int32} {out : Int32 × (Nat → Int32)} (F : CallFix p m c cX1_rememberKind 3 s args wsX1_rememberKind RX1) (hG : kW D (ty4 cI cJ cZ cQ) qs A s s.heap) (hA : ∀ q : Nat, s.heap.size ≤ q → A q) (hP : va_P D vwCl [(hPa, .inr (1, [.ref hPg, .int pz])), (hPg, .inl (cI, 4, .inl pg))] H) (hD : va_D A [(hPa, .inr (1, [.ref hPg, .int pz])), (hPg, .inl (cI, 4, .inl pg))]) (hS : va_S A s.heap H locs) (hf : f_X1_rememberKind pz pg x1 x2 = some out) (hret : ∀ (pc : Nat) (H : Heap) (locs : List Loc) (ls : Array Slot), decode cX1_rememberKind pc = .ok (.return_, 1) → va_P D vwCl [(hPa, .inr (1, [.ref hPg, .int out.1])), (hPg, .inl (cI, 4, .inl out.2))] H → va_D A [(hPa, .inr (1, [.ref hPg, .int out.1])), (hPg, .inl (cI, 4, .inl out.2))] → va_S A s.heap H locs → W p l e { frames := 2, cells := 0, slots := 0, locals := 81 } s m args below meth c H locs 0 0 Q (F0 m pc ls [])) {ls : Array Slot} (hl : lv_has ls 3 [(0, .ref hPa), (1, .int x1), (2, .int x2)]) : W p l e { frames := 2, cells := 0, slots := 0, locals := 81 } s m args below meth c H locs 0 0 Q (F0 m 0 ls []) := by
  have hx := F.1
  have hb := F.2.1
  have hown := F.2.2.2.1
  have hts := F.2.2.2.2
  have hK := hG.1.1
  rw [f_X1_rememberKind] at hf
  refine lv_aload_n hx hb dX1_rememberKind_0 rfl (lv_at hl 0 rfl) ?_
  refine lv_iload_n hx hb dX1_rememberKind_1 rfl (lv_at hl 1 rfl) ?_
  refine lv_bipush (v := (8 : Int32)) hx hb dX1_rememberKind_2 (by decide) ?_
  refine lv_imul hx hb dX1_rememberKind_4 ?_
  refine lv_iload_n hx hb dX1_rememberKind_5 rfl (lv_at hl 2 rfl) ?_
  refine lv_iadd hx hb dX1_rememberKind_6 ?_
  obtain ⟨r40, er40, hf⟩ := fp_b hf
  refine kc_rwV (w2 := [(hPa, .inr (1, [.ref hPg, .int r40.1])), (hPg, .inl (cI, 4, .inl r40.2))]) (RwV.runV (c_X1_remember (l := l) (D := D) (cI := cI) (cJ := cJ) (cZ := cZ) (cQ := cQ) (qs := qs) er40) F (cwV 1 hts gX1_rememberKind_X1_remember rfl rfl rfl yd_X1_remember ⟨Nat.le_of_ble_eq_true rfl, Nat.le_of_ble_eq_true rfl⟩) hG hP hD hS hA [0, 1] (by decide) rfl 1 rfl rfl rfl hl.1 rfl (Nat.le_of_ble_eq_true rfl) dX1_rememberKind_7 ⟨Nat.zero_le _, Nat.zero_le _⟩) hP hD hS hA [0, 1] [] [0, 1] rfl (wr := []) rfl (by decide) (by decide) rfl (by decide) (fun H locs hP hD hS => ?_)
  cases hf
  exact hret _ _ _ _ dX1_rememberKind_10 hP hD hS
set_option maxRecDepth 100000 in
theorem c_X1_rememberKind {l : Launch} {D : va_G} {cI cJ cZ cQ : ClassId} {qs : Nat × Nat × Nat} {hPa hPg : Nat} {pz : Int32} {pg : Nat → Int32} {x1 : Int32} {x2 : Int32} {out : Int32 × (Nat → Int32)} (hf : f_X1_rememberKind pz pg x1 x2 = some out) : RwV l yX1_rememberKind wsX1_rememberKind { frames := 2, cells := 0, slots := 0, locals := 81 } D (ty4 cI cJ cZ cQ) qs [.ref hPa, .int x1, .int x2] [(hPa, .inr (1, [.ref hPg, .int pz])), (hPg, .inl (cI, 4, .inl pg))] [(hPa, .inr (1, [.ref hPg, .int out.1])), (hPg, .inl (cI, 4, .inl out.2))] :=
  RwV.of (own := RX1) (by decide +kernel) rfl rfl (Nat.le_of_ble_eq_true rfl) (fun F hG hA hP hD hS hret ls hl => b_X1_rememberKind F hG hA hP hD hS hf hret hl)
-- method X1_rememberTurn
theorem yd_X1_rememberTurn : yX1_rememberTurn.cls = RX1 ∧ yX1_rememberTurn.cls ≠ "java/lang/invoke/MethodHandle" ∧ yX1_rememberTurn.cls ≠ "java/lang/invoke/VarHandle" ∧ (parseMethodDescriptor yX1_rememberTurn.desc).map (fun d => d.parameters.length) = some 0 := by decide +kernel
def f_X1_rememberTurn (pz : Int32) (pg : Nat → Int32) : Option (Int32 × (Nat → Int32)) :=
  Option.bind (f_X1_remember pz pg (-1 : Int32)) (fun r41 => some (r41.1, r41.2))
set_option maxHeartbeats 4000000 in
set_option maxRecDepth 100000 in
theorem b_X1_rememberTurn {p : Program} {l : Launch} {e : Env} {s : State} {m : MethodId} {args : Array Value} {below : List Frame} {meth : Method} {c : Code} {Q : State → Prop} {A : Nat → Prop} {H : Heap} {locs : List Loc} {D : va_G} {cI cJ cZ cQ : ClassId} {qs : Nat × Nat × Nat} {hPa hPg : Nat} {pz : Int32} {pg : Nat → Int32} {out : Int32 × (Nat → Int32)} (F : CallFix p m c cX1_rememberTurn 1 s args wsX1_rememberTurn RX1) (hG : kW D (ty4 cI cJ cZ cQ) qs A s s.heap) (hA : ∀ q : Nat, s.heap.size ≤ q → A q) (hP : va_P D vwCl [(hPa, .inr (1, [.ref hPg, .int pz])), (hPg, .inl (cI, 4, .inl pg))] H) (hD : va_D A [(hPa, .inr (1, [.ref hPg, .int pz])), (hPg, .inl (cI, 4, .inl pg))]) (hS : va_S A s.heap H locs) (hf : f_X1_rememberTurn pz pg = some out) (hret : ∀ (pc : Nat) (H : Heap) (locs : List Loc) (ls : Array Slot), decode cX1_rememberTurn pc = .ok (.return_, 1) → va_P D vwCl [(hPa, .inr (1, [.ref hPg, .int out.1])), (hPg, .inl (cI, 4, .inl out.2))] H → va_D A [(hPa, .inr (1, [.ref hPg, .int out.1])), (hPg, .inl (cI, 4, .inl out.2))] → va_S A s.heap H locs → W p l e { frames := 2, cells := 0, slots := 0, locals := 81 } s m args below meth c H locs 0 0 Q (F0 m pc ls [])) {ls : Array Slot} (hl : lv_has ls 1 [(0, .ref hPa)]) : W p l e { frames := 2, cells := 0, slots := 0, locals := 81 } s m args below meth c H locs 0 0 Q (F0 m 0 ls []) := by
  have hx := F.1
  have hb := F.2.1
  have hown := F.2.2.2.1
  have hts := F.2.2.2.2
  have hK := hG.1.1
  rw [f_X1_rememberTurn] at hf
  refine lv_aload_n hx hb dX1_rememberTurn_0 rfl (lv_at hl 0 rfl) ?_
  refine lv_iconst (v := (-1 : Int32)) hx hb dX1_rememberTurn_1 (by decide) ?_
  obtain ⟨r41, er41, hf⟩ := fp_b hf
  refine kc_rwV (w2 := [(hPa, .inr (1, [.ref hPg, .int r41.1])), (hPg, .inl (cI, 4, .inl r41.2))]) (RwV.runV (c_X1_remember (l := l) (D := D) (cI := cI) (cJ := cJ) (cZ := cZ) (cQ := cQ) (qs := qs) er41) F (cwV 1 hts gX1_rememberTurn_X1_remember rfl rfl rfl yd_X1_remember ⟨Nat.le_of_ble_eq_true rfl, Nat.le_of_ble_eq_true rfl⟩) hG hP hD hS hA [0, 1] (by decide) rfl 1 rfl rfl rfl hl.1 rfl (Nat.le_of_ble_eq_true rfl) dX1_rememberTurn_2 ⟨Nat.zero_le _, Nat.zero_le _⟩) hP hD hS hA [0, 1] [] [0, 1] rfl (wr := []) rfl (by decide) (by decide) rfl (by decide) (fun H locs hP hD hS => ?_)
  cases hf
  exact hret _ _ _ _ dX1_rememberTurn_5 hP hD hS
set_option maxRecDepth 100000 in
theorem c_X1_rememberTurn {l : Launch} {D : va_G} {cI cJ cZ cQ : ClassId} {qs : Nat × Nat × Nat} {hPa hPg : Nat} {pz : Int32} {pg : Nat → Int32} {out : Int32 × (Nat → Int32)} (hf : f_X1_rememberTurn pz pg = some out) : RwV l yX1_rememberTurn wsX1_rememberTurn { frames := 2, cells := 0, slots := 0, locals := 81 } D (ty4 cI cJ cZ cQ) qs [.ref hPa] [(hPa, .inr (1, [.ref hPg, .int pz])), (hPg, .inl (cI, 4, .inl pg))] [(hPa, .inr (1, [.ref hPg, .int out.1])), (hPg, .inl (cI, 4, .inl out.2))] :=
  RwV.of (own := RX1) (by decide +kernel) rfl rfl (Nat.le_of_ble_eq_true rfl) (fun F hG hA hP hD hS hret ls hl => b_X1_rememberTurn F hG hA hP hD hS hf hret hl)
-- method X1_takeLatest
theorem yd_X1_takeLatest : yX1_takeLatest.cls = RX1 ∧ yX1_takeLatest.cls ≠ "java/lang/invoke/MethodHandle" ∧ yX1_takeLatest.cls ≠ "java/lang/invoke/VarHandle" ∧ (parseMethodDescriptor yX1_takeLatest.desc).map (fun d => d.parameters.length) = some 0 := by decide +kernel
theorem ku_X1_takeLatest_X1 : ∀ w ∈ u_ws RX1 TX1 2, w ∈ wsX1_takeLatest := by decide +kernel
theorem kw_X1_takeLatest_1 : Cond.fieldLink RX1 15 "MirrorShares$Past" "size" "I" ∈ wsX1_takeLatest := List.mem_of_getElem? (i := 1) rfl
theorem kw_X1_takeLatest_2 : Cond.fieldLink RX1 9 "MirrorShares$Past" "changes" "[I" ∈ wsX1_takeLatest := List.mem_of_getElem? (i := 2) rfl
def f_X1_takeLatest (pz : Int32) (pg : Nat → Int32) : Option (Int32 × Int32) :=
  (if 0 < pz then chk (aix (pz - (1 : Int32)) 4) (some ((pg (Int32.toNatClampNeg (pz - (1 : Int32)))), (pz - (1 : Int32)))) else some ((-1 : Int32), pz))
set_option maxHeartbeats 4000000 in
set_option maxRecDepth 100000 in
theorem b_X1_takeLatest {p : Program} {l : Launch} {e : Env} {s : State} {m : MethodId} {args : Array Value} {below : List Frame} {meth : Method} {c : Code} {Q : State → Prop} {A : Nat → Prop} {H : Heap} {locs : List Loc} {D : va_G} {cI cJ cZ cQ : ClassId} {qs : Nat × Nat × Nat} {hPa hPg : Nat} {pz : Int32} {pg : Nat → Int32} {out : Int32 × Int32} (F : CallFix p m c cX1_takeLatest 1 s args wsX1_takeLatest RX1) (hG : kW D (ty4 cI cJ cZ cQ) qs A s s.heap) (hA : ∀ q : Nat, s.heap.size ≤ q → A q) (hP : va_P D vwCl [(hPa, .inr (1, [.ref hPg, .int pz])), (hPg, .inl (cI, 4, .inl pg))] H) (hD : va_D A [(hPa, .inr (1, [.ref hPg, .int pz])), (hPg, .inl (cI, 4, .inl pg))]) (hS : va_S A s.heap H locs) (hf : f_X1_takeLatest pz pg = some out) (hret : ∀ (pc : Nat) (H : Heap) (locs : List Loc) (ls : Array Slot), decode cX1_takeLatest pc = .ok (.ireturn, 1) → narrow .int (.int out.1) = .int out.1 → va_P D vwCl [(hPa, .inr (1, [.ref hPg, .int out.2])), (hPg, .inl (cI, 4, .inl pg))] H → va_D A [(hPa, .inr (1, [.ref hPg, .int out.2])), (hPg, .inl (cI, 4, .inl pg))] → va_S A s.heap H locs → W p l e { frames := 0, cells := 0, slots := 0, locals := 0 } s m args below meth c H locs 0 0 Q (F0 m pc ls [.int out.1])) {ls : Array Slot} (hl : lv_has ls 1 [(0, .ref hPa)]) : W p l e { frames := 0, cells := 0, slots := 0, locals := 0 } s m args below meth c H locs 0 0 Q (F0 m 0 ls []) := by
  have hx := F.1
  have hb := F.2.1
  have hown := F.2.2.2.1
  have hts := F.2.2.2.2
  have hK := hG.1.1
  rw [f_X1_takeLatest] at hf
  refine lv_aload_n hx hb dX1_takeLatest_0 rfl (lv_at hl 0 rfl) ?_
  refine va_get (D := D) (ci := 1) (v := .int pz) (C := RX1) (T := TX1) (N := 2) hx hb hts ku_X1_takeLatest_X1 hown hK hP 0 rfl rfl 1 (by decide) (hts _ kw_X1_takeLatest_1) (fun _ h9 => h9) rfl dX1_takeLatest_1 ?_
  refine lv_if_gt (tgt := 9) hx hb dX1_takeLatest_4 (by decide) (fun c42 => ?_) (fun c42 => ?_)
  · have hf := fp_t hf c42
    refine lv_aload_n hx hb dX1_takeLatest_9 rfl (lv_at hl 0 rfl) ?_
    refine lv_dup hx hb dX1_takeLatest_10 rfl ?_
    refine va_get (D := D) (ci := 1) (v := .int pz) (C := RX1) (T := TX1) (N := 2) hx hb hts ku_X1_takeLatest_X1 hown hK hP 0 rfl rfl 1 (by decide) (hts _ kw_X1_takeLatest_1) (fun _ h9 => h9) rfl dX1_takeLatest_11 ?_
    refine lv_iconst (v := (1 : Int32)) hx hb dX1_takeLatest_14 (by decide) ?_
    refine lv_isub hx hb dX1_takeLatest_15 ?_
    refine va_put (D := D) (ci := 1) (v := .int (pz - (1 : Int32))) (ty := .int) (C := RX1) (T := TX1) (N := 2) hx hb hts ku_X1_takeLatest_X1 tyX1 tyX1_ok nmX1 hown hK hP hD hS 0 rfl rfl 1 (by decide) (hts _ kw_X1_takeLatest_1) (fun _ h9 => h9) rfl (by decide +kernel) rfl rfl (Nat.le_of_ble_eq_true rfl) dX1_takeLatest_16 (fun H locs hP hD hS => ?_)
    have hP : va_P D vwCl [(hPa, .inr (1, [.ref hPg, .int (pz - (1 : Int32))])), (hPg, .inl (cI, 4, .inl pg))] H := hP
    have hD : va_D A [(hPa, .inr (1, [.ref hPg, .int (pz - (1 : Int32))])), (hPg, .inl (cI, 4, .inl pg))] := hD
    refine lv_aload_n hx hb dX1_takeLatest_19 rfl (lv_at hl 0 rfl) ?_
    refine va_get (D := D) (ci := 1) (v := .ref hPg) (C := RX1) (T := TX1) (N := 2) hx hb hts ku_X1_takeLatest_X1 hown hK hP 0 rfl rfl 0 (by decide) (hts _ kw_X1_takeLatest_2) (fun _ h9 => h9) rfl dX1_takeLatest_20 ?_
    refine lv_aload_n hx hb dX1_takeLatest_23 rfl (lv_at hl 0 rfl) ?_
    refine va_get (D := D) (ci := 1) (v := .int (pz - (1 : Int32))) (C := RX1) (T := TX1) (N := 2) hx hb hts ku_X1_takeLatest_X1 hown hK hP 0 rfl rfl 1 (by decide) (hts _ kw_X1_takeLatest_1) (fun _ h9 => h9) rfl dX1_takeLatest_24 ?_
    obtain ⟨k43, hf⟩ := fp_c hf
    refine va_iald hx hb hK hP 1 0 rfl rfl k43 dX1_takeLatest_27 ?_
    cases hf
    exact hret _ _ _ _ dX1_takeLatest_28 (vp_nar_int _) hP hD hS
  · have hf := fp_f hf c42
    refine lv_iconst (v := (-1 : Int32)) hx hb dX1_takeLatest_7 (by decide) ?_
    cases hf
    exact hret _ _ _ _ dX1_takeLatest_8 (vp_nar_int _) hP hD hS
set_option maxRecDepth 100000 in
theorem c_X1_takeLatest {l : Launch} {D : va_G} {cI cJ cZ cQ : ClassId} {qs : Nat × Nat × Nat} {hPa hPg : Nat} {pz : Int32} {pg : Nat → Int32} {out : Int32 × Int32} (hf : f_X1_takeLatest pz pg = some out) : RwI l yX1_takeLatest wsX1_takeLatest { frames := 0, cells := 0, slots := 0, locals := 0 } D (ty4 cI cJ cZ cQ) qs [.ref hPa] [(hPa, .inr (1, [.ref hPg, .int pz])), (hPg, .inl (cI, 4, .inl pg))] [(hPa, .inr (1, [.ref hPg, .int out.2])), (hPg, .inl (cI, 4, .inl pg))] out.1 :=
  RwI.of (own := RX1) (by decide +kernel) rfl rfl (Nat.le_of_ble_eq_true rfl) (fun F hG hA hP hD hS hret ls hl => b_X1_takeLatest F hG hA hP hD hS hf hret hl)
-- method X1_forget
theorem yd_X1_forget : yX1_forget.cls = RX1 ∧ yX1_forget.cls ≠ "java/lang/invoke/MethodHandle" ∧ yX1_forget.cls ≠ "java/lang/invoke/VarHandle" ∧ (parseMethodDescriptor yX1_forget.desc).map (fun d => d.parameters.length) = some 0 := by decide +kernel
theorem ku_X1_forget_X1 : ∀ w ∈ u_ws RX1 TX1 2, w ∈ wsX1_forget := by decide +kernel
theorem kw_X1_forget_1 : Cond.fieldLink RX1 15 "MirrorShares$Past" "size" "I" ∈ wsX1_forget := List.mem_of_getElem? (i := 1) rfl
def f_X1_forget (pz : Int32) : Option (Int32) :=
  some (0 : Int32)
set_option maxHeartbeats 4000000 in
set_option maxRecDepth 100000 in
theorem b_X1_forget {p : Program} {l : Launch} {e : Env} {s : State} {m : MethodId} {args : Array Value} {below : List Frame} {meth : Method} {c : Code} {Q : State → Prop} {A : Nat → Prop} {H : Heap} {locs : List Loc} {D : va_G} {cI cJ cZ cQ : ClassId} {qs : Nat × Nat × Nat} {hPa hPg : Nat} {pz : Int32} {out : Int32} (F : CallFix p m c cX1_forget 1 s args wsX1_forget RX1) (hG : kW D (ty4 cI cJ cZ cQ) qs A s s.heap) (hA : ∀ q : Nat, s.heap.size ≤ q → A q) (hP : va_P D vwCl [(hPa, .inr (1, [.ref hPg, .int pz]))] H) (hD : va_D A [(hPa, .inr (1, [.ref hPg, .int pz]))]) (hS : va_S A s.heap H locs) (hf : f_X1_forget pz = some out) (hret : ∀ (pc : Nat) (H : Heap) (locs : List Loc) (ls : Array Slot), decode cX1_forget pc = .ok (.return_, 1) → va_P D vwCl [(hPa, .inr (1, [.ref hPg, .int out]))] H → va_D A [(hPa, .inr (1, [.ref hPg, .int out]))] → va_S A s.heap H locs → W p l e { frames := 0, cells := 0, slots := 0, locals := 0 } s m args below meth c H locs 0 0 Q (F0 m pc ls [])) {ls : Array Slot} (hl : lv_has ls 1 [(0, .ref hPa)]) : W p l e { frames := 0, cells := 0, slots := 0, locals := 0 } s m args below meth c H locs 0 0 Q (F0 m 0 ls []) := by
  have hx := F.1
  have hb := F.2.1
  have hown := F.2.2.2.1
  have hts := F.2.2.2.2
  have hK := hG.1.1
  rw [f_X1_forget] at hf
  refine lv_aload_n hx hb dX1_forget_0 rfl (lv_at hl 0 rfl) ?_
  refine lv_iconst (v := (0 : Int32)) hx hb dX1_forget_1 (by decide) ?_
  refine va_put (D := D) (ci := 1) (v := .int (0 : Int32)) (ty := .int) (C := RX1) (T := TX1) (N := 2) hx hb hts ku_X1_forget_X1 tyX1 tyX1_ok nmX1 hown hK hP hD hS 0 rfl rfl 1 (by decide) (hts _ kw_X1_forget_1) (fun _ h9 => h9) rfl (by decide +kernel) rfl rfl (Nat.le_of_ble_eq_true rfl) dX1_forget_2 (fun H locs hP hD hS => ?_)
  have hP : va_P D vwCl [(hPa, .inr (1, [.ref hPg, .int (0 : Int32)]))] H := hP
  have hD : va_D A [(hPa, .inr (1, [.ref hPg, .int (0 : Int32)]))] := hD
  cases hf
  exact hret _ _ _ _ dX1_forget_5 hP hD hS
set_option maxRecDepth 100000 in
theorem c_X1_forget {l : Launch} {D : va_G} {cI cJ cZ cQ : ClassId} {qs : Nat × Nat × Nat} {hPa hPg : Nat} {pz : Int32} {out : Int32} (hf : f_X1_forget pz = some out) : RwV l yX1_forget wsX1_forget { frames := 0, cells := 0, slots := 0, locals := 0 } D (ty4 cI cJ cZ cQ) qs [.ref hPa] [(hPa, .inr (1, [.ref hPg, .int pz]))] [(hPa, .inr (1, [.ref hPg, .int out]))] :=
  RwV.of (own := RX1) (by decide +kernel) rfl rfl (Nat.le_of_ble_eq_true rfl) (fun F hG hA hP hD hS hret ls hl => b_X1_forget F hG hA hP hD hS hf hret hl)
-- method X3_append
theorem yd_X3_append : yX3_append.cls = RX3 ∧ yX3_append.cls ≠ "java/lang/invoke/MethodHandle" ∧ yX3_append.cls ≠ "java/lang/invoke/VarHandle" ∧ (parseMethodDescriptor yX3_append.desc).map (fun d => d.parameters.length) = some 1 := by decide +kernel
theorem ku_X3_append_X3 : ∀ w ∈ u_ws RX3 TX3 2, w ∈ wsX3_append := by decide +kernel
theorem kw_X3_append_1 : Cond.fieldLink RX3 15 "MirrorShares$Told" "length" "I" ∈ wsX3_append := List.mem_of_getElem? (i := 1) rfl
theorem kw_X3_append_2 : Cond.fieldLink RX3 9 "MirrorShares$Told" "letters" "[I" ∈ wsX3_append := List.mem_of_getElem? (i := 2) rfl
def f_X3_append (tn : Int32) (tl : Nat → Int32) (x1 : Int32) : Option (Int32 × Int32 × (Nat → Int32)) :=
  (if tn < (60 : Int32) then chk (aix tn 60) (some ((tn + (1 : Int32)), (tn + (1 : Int32)), (upd tl tn.toNatClampNeg x1))) else some ((-3 : Int32), tn, tl))
set_option maxHeartbeats 4000000 in
set_option maxRecDepth 100000 in
theorem b_X3_append {p : Program} {l : Launch} {e : Env} {s : State} {m : MethodId} {args : Array Value} {below : List Frame} {meth : Method} {c : Code} {Q : State → Prop} {A : Nat → Prop} {H : Heap} {locs : List Loc} {D : va_G} {cI cJ cZ cQ : ClassId} {qs : Nat × Nat × Nat} {hTo hTl : Nat} {tn : Int32} {tl : Nat → Int32} {x1 : Int32} {out : Int32 × Int32 × (Nat → Int32)} (F : CallFix p m c cX3_append 2 s args wsX3_append RX3) (hG : kW D (ty4 cI cJ cZ cQ) qs A s s.heap) (hA : ∀ q : Nat, s.heap.size ≤ q → A q) (hP : va_P D vwCl [(hTo, .inr (3, [.ref hTl, .int tn])), (hTl, .inl (cI, 60, .inl tl))] H) (hD : va_D A [(hTo, .inr (3, [.ref hTl, .int tn])), (hTl, .inl (cI, 60, .inl tl))]) (hS : va_S A s.heap H locs) (hf : f_X3_append tn tl x1 = some out) (hret : ∀ (pc : Nat) (H : Heap) (locs : List Loc) (ls : Array Slot), decode cX3_append pc = .ok (.ireturn, 1) → narrow .int (.int out.1) = .int out.1 → va_P D vwCl [(hTo, .inr (3, [.ref hTl, .int out.2.1])), (hTl, .inl (cI, 60, .inl out.2.2))] H → va_D A [(hTo, .inr (3, [.ref hTl, .int out.2.1])), (hTl, .inl (cI, 60, .inl out.2.2))] → va_S A s.heap H locs → W p l e { frames := 0, cells := 0, slots := 0, locals := 0 } s m args below meth c H locs 0 0 Q (F0 m pc ls [.int out.1])) {ls : Array Slot} (hl : lv_has ls 2 [(0, .ref hTo), (1, .int x1)]) : W p l e { frames := 0, cells := 0, slots := 0, locals := 0 } s m args below meth c H locs 0 0 Q (F0 m 0 ls []) := by
  have hx := F.1
  have hb := F.2.1
  have hown := F.2.2.2.1
  have hts := F.2.2.2.2
  have hK := hG.1.1
  rw [f_X3_append] at hf
  refine lv_aload_n hx hb dX3_append_0 rfl (lv_at hl 0 rfl) ?_
  refine va_get (D := D) (ci := 3) (v := .int tn) (C := RX3) (T := TX3) (N := 2) hx hb hts ku_X3_append_X3 hown hK hP 0 rfl rfl 1 (by decide) (hts _ kw_X3_append_1) (fun _ h9 => h9) rfl dX3_append_1 ?_
  refine lv_bipush (v := (60 : Int32)) hx hb dX3_append_4 (by decide) ?_
  refine lv_icmp_lt (tgt := 12) hx hb dX3_append_6 (by decide) (fun c44 => ?_) (fun c44 => ?_)
  · have hf := fp_t hf c44
    refine lv_aload_n hx hb dX3_append_12 rfl (lv_at hl 0 rfl) ?_
    refine va_get (D := D) (ci := 3) (v := .ref hTl) (C := RX3) (T := TX3) (N := 2) hx hb hts ku_X3_append_X3 hown hK hP 0 rfl rfl 0 (by decide) (hts _ kw_X3_append_2) (fun _ h9 => h9) rfl dX3_append_13 ?_
    refine lv_aload_n hx hb dX3_append_16 rfl (lv_at hl 0 rfl) ?_
    refine va_get (D := D) (ci := 3) (v := .int tn) (C := RX3) (T := TX3) (N := 2) hx hb hts ku_X3_append_X3 hown hK hP 0 rfl rfl 1 (by decide) (hts _ kw_X3_append_1) (fun _ h9 => h9) rfl dX3_append_17 ?_
    refine lv_iload_n hx hb dX3_append_20 rfl (lv_at hl 1 rfl) ?_
    obtain ⟨k45, hf⟩ := fp_c hf
    refine va_iast hx hb hK hP hD hS 1 0 rfl rfl k45 dX3_append_21 (fun H locs hP hD hS => ?_)
    have hP : va_P D vwCl [(hTo, .inr (3, [.ref hTl, .int tn])), (hTl, .inl (cI, 60, .inl (upd tl tn.toNatClampNeg x1)))] H := hP
    have hD : va_D A [(hTo, .inr (3, [.ref hTl, .int tn])), (hTl, .inl (cI, 60, .inl (upd tl tn.toNatClampNeg x1)))] := hD
    refine lv_aload_n hx hb dX3_append_22 rfl (lv_at hl 0 rfl) ?_
    refine lv_dup hx hb dX3_append_23 rfl ?_
    refine va_get (D := D) (ci := 3) (v := .int tn) (C := RX3) (T := TX3) (N := 2) hx hb hts ku_X3_append_X3 hown hK hP 0 rfl rfl 1 (by decide) (hts _ kw_X3_append_1) (fun _ h9 => h9) rfl dX3_append_24 ?_
    refine lv_iconst (v := (1 : Int32)) hx hb dX3_append_27 (by decide) ?_
    refine lv_iadd hx hb dX3_append_28 ?_
    refine va_put (D := D) (ci := 3) (v := .int (tn + (1 : Int32))) (ty := .int) (C := RX3) (T := TX3) (N := 2) hx hb hts ku_X3_append_X3 tyX3 tyX3_ok nmX3 hown hK hP hD hS 0 rfl rfl 1 (by decide) (hts _ kw_X3_append_1) (fun _ h9 => h9) rfl (by decide +kernel) rfl rfl (Nat.le_of_ble_eq_true rfl) dX3_append_29 (fun H locs hP hD hS => ?_)
    have hP : va_P D vwCl [(hTo, .inr (3, [.ref hTl, .int (tn + (1 : Int32))])), (hTl, .inl (cI, 60, .inl (upd tl tn.toNatClampNeg x1)))] H := hP
    have hD : va_D A [(hTo, .inr (3, [.ref hTl, .int (tn + (1 : Int32))])), (hTl, .inl (cI, 60, .inl (upd tl tn.toNatClampNeg x1)))] := hD
    refine lv_aload_n hx hb dX3_append_32 rfl (lv_at hl 0 rfl) ?_
    refine va_get (D := D) (ci := 3) (v := .int (tn + (1 : Int32))) (C := RX3) (T := TX3) (N := 2) hx hb hts ku_X3_append_X3 hown hK hP 0 rfl rfl 1 (by decide) (hts _ kw_X3_append_1) (fun _ h9 => h9) rfl dX3_append_33 ?_
    cases hf
    exact hret _ _ _ _ dX3_append_36 (vp_nar_int _) hP hD hS
  · have hf := fp_f hf c44
    refine lv_bipush (v := (-3 : Int32)) hx hb dX3_append_9 (by decide) ?_
    cases hf
    exact hret _ _ _ _ dX3_append_11 (vp_nar_int _) hP hD hS
set_option maxRecDepth 100000 in
theorem c_X3_append {l : Launch} {D : va_G} {cI cJ cZ cQ : ClassId} {qs : Nat × Nat × Nat} {hTo hTl : Nat} {tn : Int32} {tl : Nat → Int32} {x1 : Int32} {out : Int32 × Int32 × (Nat → Int32)} (hf : f_X3_append tn tl x1 = some out) : RwI l yX3_append wsX3_append { frames := 0, cells := 0, slots := 0, locals := 0 } D (ty4 cI cJ cZ cQ) qs [.ref hTo, .int x1] [(hTo, .inr (3, [.ref hTl, .int tn])), (hTl, .inl (cI, 60, .inl tl))] [(hTo, .inr (3, [.ref hTl, .int out.2.1])), (hTl, .inl (cI, 60, .inl out.2.2))] out.1 :=
  RwI.of (own := RX3) (by decide +kernel) rfl rfl (Nat.le_of_ble_eq_true rfl) (fun F hG hA hP hD hS hret ls hl => b_X3_append F hG hA hP hD hS hf hret hl)
-- method X3_clear
theorem yd_X3_clear : yX3_clear.cls = RX3 ∧ yX3_clear.cls ≠ "java/lang/invoke/MethodHandle" ∧ yX3_clear.cls ≠ "java/lang/invoke/VarHandle" ∧ (parseMethodDescriptor yX3_clear.desc).map (fun d => d.parameters.length) = some 0 := by decide +kernel
theorem ku_X3_clear_X3 : ∀ w ∈ u_ws RX3 TX3 2, w ∈ wsX3_clear := by decide +kernel
theorem kw_X3_clear_1 : Cond.fieldLink RX3 15 "MirrorShares$Told" "length" "I" ∈ wsX3_clear := List.mem_of_getElem? (i := 1) rfl
def f_X3_clear (tn : Int32) : Option (Int32 × Int32) :=
  some (tn, (0 : Int32))
set_option maxHeartbeats 4000000 in
set_option maxRecDepth 100000 in
theorem b_X3_clear {p : Program} {l : Launch} {e : Env} {s : State} {m : MethodId} {args : Array Value} {below : List Frame} {meth : Method} {c : Code} {Q : State → Prop} {A : Nat → Prop} {H : Heap} {locs : List Loc} {D : va_G} {cI cJ cZ cQ : ClassId} {qs : Nat × Nat × Nat} {hTo hTl : Nat} {tn : Int32} {out : Int32 × Int32} (F : CallFix p m c cX3_clear 2 s args wsX3_clear RX3) (hG : kW D (ty4 cI cJ cZ cQ) qs A s s.heap) (hA : ∀ q : Nat, s.heap.size ≤ q → A q) (hP : va_P D vwCl [(hTo, .inr (3, [.ref hTl, .int tn]))] H) (hD : va_D A [(hTo, .inr (3, [.ref hTl, .int tn]))]) (hS : va_S A s.heap H locs) (hf : f_X3_clear tn = some out) (hret : ∀ (pc : Nat) (H : Heap) (locs : List Loc) (ls : Array Slot), decode cX3_clear pc = .ok (.ireturn, 1) → narrow .int (.int out.1) = .int out.1 → va_P D vwCl [(hTo, .inr (3, [.ref hTl, .int out.2]))] H → va_D A [(hTo, .inr (3, [.ref hTl, .int out.2]))] → va_S A s.heap H locs → W p l e { frames := 0, cells := 0, slots := 0, locals := 0 } s m args below meth c H locs 0 0 Q (F0 m pc ls [.int out.1])) {ls : Array Slot} (hl : lv_has ls 2 [(0, .ref hTo)]) : W p l e { frames := 0, cells := 0, slots := 0, locals := 0 } s m args below meth c H locs 0 0 Q (F0 m 0 ls []) := by
  have hx := F.1
  have hb := F.2.1
  have hown := F.2.2.2.1
  have hts := F.2.2.2.2
  have hK := hG.1.1
  rw [f_X3_clear] at hf
  refine lv_aload_n hx hb dX3_clear_0 rfl (lv_at hl 0 rfl) ?_
  refine va_get (D := D) (ci := 3) (v := .int tn) (C := RX3) (T := TX3) (N := 2) hx hb hts ku_X3_clear_X3 hown hK hP 0 rfl rfl 1 (by decide) (hts _ kw_X3_clear_1) (fun _ h9 => h9) rfl dX3_clear_1 ?_
  refine lv_istore_n (lv' := [(1, .int tn), (0, .ref hTo)]) hx hb dX3_clear_4 rfl hl (by decide) rfl (fun ls hl => ?_)
  refine lv_aload_n hx hb dX3_clear_5 rfl (lv_at hl 1 rfl) ?_
  refine lv_iconst (v := (0 : Int32)) hx hb dX3_clear_6 (by decide) ?_
  refine va_put (D := D) (ci := 3) (v := .int (0 : Int32)) (ty := .int) (C := RX3) (T := TX3) (N := 2) hx hb hts ku_X3_clear_X3 tyX3 tyX3_ok nmX3 hown hK hP hD hS 0 rfl rfl 1 (by decide) (hts _ kw_X3_clear_1) (fun _ h9 => h9) rfl (by decide +kernel) rfl rfl (Nat.le_of_ble_eq_true rfl) dX3_clear_7 (fun H locs hP hD hS => ?_)
  have hP : va_P D vwCl [(hTo, .inr (3, [.ref hTl, .int (0 : Int32)]))] H := hP
  have hD : va_D A [(hTo, .inr (3, [.ref hTl, .int (0 : Int32)]))] := hD
  refine lv_iload_n hx hb dX3_clear_10 rfl (lv_at hl 0 rfl) ?_
  cases hf
  exact hret _ _ _ _ dX3_clear_11 (vp_nar_int _) hP hD hS
set_option maxRecDepth 100000 in
theorem c_X3_clear {l : Launch} {D : va_G} {cI cJ cZ cQ : ClassId} {qs : Nat × Nat × Nat} {hTo hTl : Nat} {tn : Int32} {out : Int32 × Int32} (hf : f_X3_clear tn = some out) : RwI l yX3_clear wsX3_clear { frames := 0, cells := 0, slots := 0, locals := 0 } D (ty4 cI cJ cZ cQ) qs [.ref hTo] [(hTo, .inr (3, [.ref hTl, .int tn]))] [(hTo, .inr (3, [.ref hTl, .int out.2]))] out.1 :=
  RwI.of (own := RX3) (by decide +kernel) rfl rfl (Nat.le_of_ble_eq_true rfl) (fun F hG hA hP hD hS hret ls hl => b_X3_clear F hG hA hP hD hS hf hret hl)
-- method X3_letterAt
theorem yd_X3_letterAt : yX3_letterAt.cls = RX3 ∧ yX3_letterAt.cls ≠ "java/lang/invoke/MethodHandle" ∧ yX3_letterAt.cls ≠ "java/lang/invoke/VarHandle" ∧ (parseMethodDescriptor yX3_letterAt.desc).map (fun d => d.parameters.length) = some 1 := by decide +kernel
theorem ku_X3_letterAt_X3 : ∀ w ∈ u_ws RX3 TX3 2, w ∈ wsX3_letterAt := by decide +kernel
theorem kw_X3_letterAt_1 : Cond.fieldLink RX3 15 "MirrorShares$Told" "length" "I" ∈ wsX3_letterAt := List.mem_of_getElem? (i := 1) rfl
theorem kw_X3_letterAt_2 : Cond.fieldLink RX3 9 "MirrorShares$Told" "letters" "[I" ∈ wsX3_letterAt := List.mem_of_getElem? (i := 2) rfl
def f_X3_letterAt (tn : Int32) (tl : Nat → Int32) (x1 : Int32) : Option (Int32) :=
  (if x1 < 0 then some (0 : Int32) else (if tn ≤ x1 then some (0 : Int32) else (if (60 : Int32) ≤ x1 then some (0 : Int32) else chk (aix x1 60) (some (tl x1.toNatClampNeg)))))
set_option maxHeartbeats 4000000 in
set_option maxRecDepth 100000 in
theorem b_X3_letterAt {p : Program} {l : Launch} {e : Env} {s : State} {m : MethodId} {args : Array Value} {below : List Frame} {meth : Method} {c : Code} {Q : State → Prop} {D : va_G} {cI cJ cZ cQ : ClassId} {qs : Nat × Nat × Nat} {hTo hTl : Nat} {tn : Int32} {tl : Nat → Int32} {x1 : Int32} {out : Int32} (F : CallFix p m c cX3_letterAt 2 s args wsX3_letterAt RX3) (hG : kR D (ty4 cI cJ cZ cQ) qs s s.heap) (hP : va_P D vwCl [(hTo, .inr (3, [.ref hTl, .int tn])), (hTl, .inl (cI, 60, .inl tl))] s.heap) (hf : f_X3_letterAt tn tl x1 = some out) (hret : ∀ (pc : Nat) (ls : Array Slot), decode cX3_letterAt pc = .ok (.ireturn, 1) → narrow .int (.int out) = .int out → W p l e { frames := 0, cells := 0, slots := 0, locals := 0 } s m args below meth c s.heap [] 0 0 Q (F0 m pc ls [.int out])) {ls : Array Slot} (hl : lv_has ls 2 [(0, .ref hTo), (1, .int x1)]) : W p l e { frames := 0, cells := 0, slots := 0, locals := 0 } s m args below meth c s.heap [] 0 0 Q (F0 m 0 ls []) := by
  have hx := F.1
  have hb := F.2.1
  have hown := F.2.2.2.1
  have hts := F.2.2.2.2
  have hK := hG.1.1
  rw [f_X3_letterAt] at hf
  refine lv_iload_n hx hb dX3_letterAt_0 rfl (lv_at hl 1 rfl) ?_
  refine lv_if_lt (tgt := 27) hx hb dX3_letterAt_1 (by decide) (fun c46 => ?_) (fun c46 => ?_)
  · have hf := fp_t hf c46
    refine lv_iconst (v := (0 : Int32)) hx hb dX3_letterAt_27 (by decide) ?_
    cases hf
    exact hret _ _ dX3_letterAt_28 (vp_nar_int _)
  · have hf := fp_f hf c46
    refine lv_iload_n hx hb dX3_letterAt_4 rfl (lv_at hl 1 rfl) ?_
    refine lv_aload_n hx hb dX3_letterAt_5 rfl (lv_at hl 0 rfl) ?_
    refine va_get (D := D) (ci := 3) (v := .int tn) (C := RX3) (T := TX3) (N := 2) hx hb hts ku_X3_letterAt_X3 hown hK hP 0 rfl rfl 1 (by decide) (hts _ kw_X3_letterAt_1) (fun _ h9 => h9) rfl dX3_letterAt_6 ?_
    refine lv_icmp_ge (tgt := 27) hx hb dX3_letterAt_9 (by decide) (fun c47 => ?_) (fun c47 => ?_)
    · have hf := fp_t hf c47
      refine lv_iconst (v := (0 : Int32)) hx hb dX3_letterAt_27 (by decide) ?_
      cases hf
      exact hret _ _ dX3_letterAt_28 (vp_nar_int _)
    · have hf := fp_f hf c47
      refine lv_iload_n hx hb dX3_letterAt_12 rfl (lv_at hl 1 rfl) ?_
      refine lv_bipush (v := (60 : Int32)) hx hb dX3_letterAt_13 (by decide) ?_
      refine lv_icmp_ge (tgt := 27) hx hb dX3_letterAt_15 (by decide) (fun c48 => ?_) (fun c48 => ?_)
      · have hf := fp_t hf c48
        refine lv_iconst (v := (0 : Int32)) hx hb dX3_letterAt_27 (by decide) ?_
        cases hf
        exact hret _ _ dX3_letterAt_28 (vp_nar_int _)
      · have hf := fp_f hf c48
        refine lv_aload_n hx hb dX3_letterAt_18 rfl (lv_at hl 0 rfl) ?_
        refine va_get (D := D) (ci := 3) (v := .ref hTl) (C := RX3) (T := TX3) (N := 2) hx hb hts ku_X3_letterAt_X3 hown hK hP 0 rfl rfl 0 (by decide) (hts _ kw_X3_letterAt_2) (fun _ h9 => h9) rfl dX3_letterAt_19 ?_
        refine lv_iload_n hx hb dX3_letterAt_22 rfl (lv_at hl 1 rfl) ?_
        obtain ⟨k49, hf⟩ := fp_c hf
        refine va_iald hx hb hK hP 1 0 rfl rfl k49 dX3_letterAt_23 ?_
        refine lv_goto (tgt := 28) hx hb dX3_letterAt_24 (by decide) ?_
        cases hf
        exact hret _ _ dX3_letterAt_28 (vp_nar_int _)
set_option maxRecDepth 100000 in
theorem c_X3_letterAt {l : Launch} {D : va_G} {cI cJ cZ cQ : ClassId} {qs : Nat × Nat × Nat} {hTo hTl : Nat} {tn : Int32} {tl : Nat → Int32} {x1 : Int32} {out : Int32} (hf : f_X3_letterAt tn tl x1 = some out) : RoI l yX3_letterAt wsX3_letterAt { frames := 0, cells := 0, slots := 0, locals := 0 } D (ty4 cI cJ cZ cQ) qs [.ref hTo, .int x1] [(hTo, .inr (3, [.ref hTl, .int tn])), (hTl, .inl (cI, 60, .inl tl))] out :=
  RoI.of (own := RX3) (by decide +kernel) rfl rfl (Nat.le_of_ble_eq_true rfl) (fun F hG hP hret ls hl => b_X3_letterAt F hG hP hf hret hl)
-- method X3_endOfItem
theorem yd_X3_endOfItem : yX3_endOfItem.cls = RX3 ∧ yX3_endOfItem.cls ≠ "java/lang/invoke/MethodHandle" ∧ yX3_endOfItem.cls ≠ "java/lang/invoke/VarHandle" ∧ (parseMethodDescriptor yX3_endOfItem.desc).map (fun d => d.parameters.length) = some 1 := by decide +kernel
theorem ku_X3_endOfItem_X3 : ∀ w ∈ u_ws RX3 TX3 2, w ∈ wsX3_endOfItem := by decide +kernel
theorem kw_X3_endOfItem_1 : Cond.fieldLink RX3 15 "MirrorShares$Told" "length" "I" ∈ wsX3_endOfItem := List.mem_of_getElem? (i := 1) rfl
def f_X3_endOfItem_2 (tn : Int32) (tl : Nat → Int32) (y2 : Int32) : Option ((Int32) ⊕ ((Int32) ⊕ (Unit))) :=
  (if tn ≤ y2 then some (Sum.inr (Sum.inr ())) else Option.bind (f_X3_letterAt tn tl y2) (fun r51 => (if r51 = (59 : Int32) then some (Sum.inr (Sum.inl y2)) else some (Sum.inl (y2 + (1 : Int32))))))
set_option maxHeartbeats 4000000 in
set_option maxRecDepth 100000 in
theorem lp_X3_endOfItem_2 {p : Program} {l : Launch} {e : Env} {s : State} {m : MethodId} {args : Array Value} {below : List Frame} {meth : Method} {c : Code} {Q : State → Prop} {D : va_G} {cI cJ cZ cQ : ClassId} {qs : Nat × Nat × Nat} {hTo hTl : Nat} {tn : Int32} {tl : Nat → Int32}  (F : CallFix p m c cX3_endOfItem 3 s args wsX3_endOfItem RX3) (hG : kR D (ty4 cI cJ cZ cQ) qs s s.heap) (hP : va_P D vwCl [(hTo, .inr (3, [.ref hTl, .int tn])), (hTl, .inl (cI, 60, .inl tl))] s.heap) :
    ∀ (n : Nat) {y2 : Int32} (out : (Int32) ⊕ (Unit)), lpf (fun s => f_X3_endOfItem_2 tn tl s) n y2 = some out → ∀ {ls : Array Slot}, lv_has ls 3 [(0, .ref hTo), (2, .int y2)] → (∀ xx, out = Sum.inr xx → ∀ ls : Array Slot, lv_has ls 3 [(0, .ref hTo)] → W p l e { frames := 1, cells := 0, slots := 0, locals := 21 } s m args below meth c s.heap [] 0 0 Q (F0 m 28 ls [])) → (∀ r9, out = Sum.inl r9 → ∀ (pc : Nat) (ls : Array Slot), decode cX3_endOfItem pc = .ok (.ireturn, 1) → narrow .int (.int r9) = .int r9 → W p l e { frames := 1, cells := 0, slots := 0, locals := 21 } s m args below meth c s.heap [] 0 0 Q (F0 m pc ls [.int r9])) → W p l e { frames := 1, cells := 0, slots := 0, locals := 21 } s m args below meth c s.heap [] 0 0 Q (F0 m 2 ls []) := by
  have hx := F.1
  have hb := F.2.1
  have hown := F.2.2.2.1
  have hts := F.2.2.2.2
  have hK := hG.1.1
  intro n
  induction n with
  | zero =>
    intro y2 out ho
    exact (fp_l0 ho).elim
  | succ n ih =>
    intro y2 out ho ls hl hex hre
    obtain ⟨o, hf, ho⟩ := fp_l ho
    have hf : f_X3_endOfItem_2 tn tl y2 = some o := hf
    rw [f_X3_endOfItem_2] at hf
    refine lv_iload_n hx hb dX3_endOfItem_2 rfl (lv_at hl 1 rfl) ?_
    refine lv_aload_n hx hb dX3_endOfItem_3 rfl (lv_at hl 0 rfl) ?_
    refine va_get (D := D) (ci := 3) (v := .int tn) (C := RX3) (T := TX3) (N := 2) hx hb hts ku_X3_endOfItem_X3 hown hK hP 0 rfl rfl 1 (by decide) (hts _ kw_X3_endOfItem_1) (fun _ h9 => h9) rfl dX3_endOfItem_4 ?_
    refine lv_icmp_ge (tgt := 28) hx hb dX3_endOfItem_7 (by decide) (fun c50 => ?_) (fun c50 => ?_)
    · have hf := fp_t hf c50
      cases hf
      have ho := fp_inr ho
      cases ho
      exact hex _ rfl _ (lv_sub hl [0] rfl)
    · have hf := fp_f hf c50
      refine lv_aload_n hx hb dX3_endOfItem_10 rfl (lv_at hl 0 rfl) ?_
      refine lv_iload_n hx hb dX3_endOfItem_11 rfl (lv_at hl 1 rfl) ?_
      obtain ⟨r51, er51, hf⟩ := fp_b hf
      refine RoI.callV (c_X3_letterAt (l := l) (D := D) (cI := cI) (cJ := cJ) (cZ := cZ) (cQ := cQ) (qs := qs) er51) F (cwV 1 hts gX3_endOfItem_X3_letterAt rfl rfl rfl yd_X3_letterAt ⟨Nat.le_of_ble_eq_true rfl, Nat.le_of_ble_eq_true rfl⟩) hG hP [0, 1] rfl 3 rfl rfl rfl hl.1 rfl (Nat.le_of_ble_eq_true rfl) dX3_endOfItem_12 ⟨Nat.zero_le _, Nat.zero_le _⟩ ?_
      refine lv_bipush (v := (59 : Int32)) hx hb dX3_endOfItem_15 (by decide) ?_
      refine lv_icmp_ne (tgt := 22) hx hb dX3_endOfItem_17 (by decide) (fun c52 => ?_) (fun c52 => ?_)
      · have hf := fp_f hf c52
        refine lv_iinc (v := (y2 + (1 : Int32))) (lv' := [(2, .int (y2 + (1 : Int32))), (0, .ref hTo)]) hx hb dX3_endOfItem_22 hl (k := 1) rfl rfl (by decide) rfl (fun ls hl => ?_)
        refine lv_goto (tgt := 2) hx hb dX3_endOfItem_25 (by decide) ?_
        cases hf
        exact ih _ (fp_inl ho) (lv_sub hl [1, 0] rfl) hex hre
      · have hf := fp_t hf c52
        refine lv_iload_n hx hb dX3_endOfItem_20 rfl (lv_at hl 1 rfl) ?_
        cases hf
        have ho := fp_inr ho
        cases ho
        exact hre _ rfl _ _ dX3_endOfItem_21 (vp_nar_int _)
def f_X3_endOfItem (tn : Int32) (tl : Nat → Int32) (x1 : Int32) : Option (Int32) :=
  Option.bind (lpf (fun s => f_X3_endOfItem_2 tn tl s) 1000 x1) (fun o53 => Sum.elim (fun r9 => some r9) (fun z54 => some tn) o53)
set_option maxHeartbeats 4000000 in
set_option maxRecDepth 100000 in
theorem b_X3_endOfItem {p : Program} {l : Launch} {e : Env} {s : State} {m : MethodId} {args : Array Value} {below : List Frame} {meth : Method} {c : Code} {Q : State → Prop} {D : va_G} {cI cJ cZ cQ : ClassId} {qs : Nat × Nat × Nat} {hTo hTl : Nat} {tn : Int32} {tl : Nat → Int32} {x1 : Int32} {out : Int32} (F : CallFix p m c cX3_endOfItem 3 s args wsX3_endOfItem RX3) (hG : kR D (ty4 cI cJ cZ cQ) qs s s.heap) (hP : va_P D vwCl [(hTo, .inr (3, [.ref hTl, .int tn])), (hTl, .inl (cI, 60, .inl tl))] s.heap) (hf : f_X3_endOfItem tn tl x1 = some out) (hret : ∀ (pc : Nat) (ls : Array Slot), decode cX3_endOfItem pc = .ok (.ireturn, 1) → narrow .int (.int out) = .int out → W p l e { frames := 1, cells := 0, slots := 0, locals := 21 } s m args below meth c s.heap [] 0 0 Q (F0 m pc ls [.int out])) {ls : Array Slot} (hl : lv_has ls 3 [(0, .ref hTo), (1, .int x1)]) : W p l e { frames := 1, cells := 0, slots := 0, locals := 21 } s m args below meth c s.heap [] 0 0 Q (F0 m 0 ls []) := by
  have hx := F.1
  have hb := F.2.1
  have hown := F.2.2.2.1
  have hts := F.2.2.2.2
  have hK := hG.1.1
  rw [f_X3_endOfItem] at hf
  refine lv_iload_n hx hb dX3_endOfItem_0 rfl (lv_at hl 1 rfl) ?_
  refine lv_istore_n (lv' := [(2, .int x1), (0, .ref hTo), (1, .int x1)]) hx hb dX3_endOfItem_1 rfl hl (by decide) rfl (fun ls hl => ?_)
  obtain ⟨o53, eo53, hf⟩ := fp_b hf
  refine lp_X3_endOfItem_2 F hG hP _ _ eo53 (lv_sub hl [1, 0] rfl) (fun z54 hz54 ls hl => ?_) (fun r9 h9 => ?_)
  · subst hz54
    have hf := fp_inr hf
    refine lv_aload_n hx hb dX3_endOfItem_28 rfl (lv_at hl 0 rfl) ?_
    refine va_get (D := D) (ci := 3) (v := .int tn) (C := RX3) (T := TX3) (N := 2) hx hb hts ku_X3_endOfItem_X3 hown hK hP 0 rfl rfl 1 (by decide) (hts _ kw_X3_endOfItem_1) (fun _ h9 => h9) rfl dX3_endOfItem_29 ?_
    cases hf
    exact hret _ _ dX3_endOfItem_32 (vp_nar_int _)
  · subst h9
    have hf := fp_inl hf
    cases hf
    exact hret
set_option maxRecDepth 100000 in
theorem c_X3_endOfItem {l : Launch} {D : va_G} {cI cJ cZ cQ : ClassId} {qs : Nat × Nat × Nat} {hTo hTl : Nat} {tn : Int32} {tl : Nat → Int32} {x1 : Int32} {out : Int32} (hf : f_X3_endOfItem tn tl x1 = some out) : RoI l yX3_endOfItem wsX3_endOfItem { frames := 1, cells := 0, slots := 0, locals := 21 } D (ty4 cI cJ cZ cQ) qs [.ref hTo, .int x1] [(hTo, .inr (3, [.ref hTl, .int tn])), (hTl, .inl (cI, 60, .inl tl))] out :=
  RoI.of (own := RX3) (by decide +kernel) rfl rfl (Nat.le_of_ble_eq_true rfl) (fun F hG hP hret ls hl => b_X3_endOfItem F hG hP hf hret hl)
-- method X3_readRow
theorem yd_X3_readRow : yX3_readRow.cls = RX3 ∧ yX3_readRow.cls ≠ "java/lang/invoke/MethodHandle" ∧ yX3_readRow.cls ≠ "java/lang/invoke/VarHandle" ∧ (parseMethodDescriptor yX3_readRow.desc).map (fun d => d.parameters.length) = some 3 := by decide +kernel
theorem ku_X3_readRow_X3 : ∀ w ∈ u_ws RX3 TX3 2, w ∈ wsX3_readRow := by decide +kernel
theorem kw_X3_readRow_1 : Cond.fieldLink RX3 15 "MirrorShares$Told" "length" "I" ∈ wsX3_readRow := List.mem_of_getElem? (i := 1) rfl
def f_X3_readRow_48 (coO : Int32) (roO : Int32) (tn : Int32) (tl : Nat → Int32) (y1 : Int32) (y4 : Int32) (y5 : Int32) (y6 : Int32) (kdO : Nat → Int32) : Option ((Int32 × (Nat → Int32)) ⊕ ((Int32 × Int32 × Int32 × (Nat → Int32)) ⊕ ((Nat → Int32)))) :=
  (if y4 ≤ y6 then some (Sum.inr (Sum.inr kdO)) else Option.bind (f_X3_letterAt tn tl ((y1 + (1 : Int32)) + y6)) (fun r62 => Option.bind (f_J0_indexOf_0f7a4 ((Int32.toUInt32 r62 % 65536).toInt32)) (fun r63 => (if 0 ≤ r63 then Option.bind (f_X2_tell coO roO kdO (y5 + y6) r63) (fun r65 => some (Sum.inl ((y6 + (1 : Int32)), r65))) else some (Sum.inr (Sum.inl ((0 : Int32), coO, roO, kdO)))))))
set_option maxHeartbeats 4000000 in
set_option maxRecDepth 100000 in
theorem lp_X3_readRow_48 {p : Program} {l : Launch} {e : Env} {s : State} {m : MethodId} {args : Array Value} {below : List Frame} {meth : Method} {c : Code} {Q : State → Prop} {A : Nat → Prop} {D : va_G} {cI cJ cZ cQ : ClassId} {qs : Nat × Nat × Nat} {hTo hTl hRmO hKdO : Nat} {coO : Int32} {roO : Int32} {tn : Int32} {tl : Nat → Int32} {y1 : Int32} {y4 : Int32} {y5 : Int32} (F : CallFix p m c cX3_readRow 8 s args wsX3_readRow RX3) (hG : kW D (ty4 cI cJ cZ cQ) qs A s s.heap) (hA : ∀ q : Nat, s.heap.size ≤ q → A q) :
    ∀ (n : Nat) {y6 : Int32} {kdO : Nat → Int32} (out : (Int32 × Int32 × Int32 × (Nat → Int32)) ⊕ ((Nat → Int32))), lpf (fun s => f_X3_readRow_48 coO roO tn tl y1 y4 y5 s.1 s.2) n (y6, kdO) = some out → ∀ {H : Heap} {locs : List Loc} {ls : Array Slot}, va_P D vwCl [(hTo, .inr (3, [.ref hTl, .int tn])), (hRmO, .inr (2, [.ref hKdO, .int coO, .int roO])), (hKdO, .inl (cI, 20, .inl kdO)), (hTl, .inl (cI, 60, .inl tl))] H → va_D A [(hTo, .inr (3, [.ref hTl, .int tn])), (hRmO, .inr (2, [.ref hKdO, .int coO, .int roO])), (hKdO, .inl (cI, 20, .inl kdO)), (hTl, .inl (cI, 60, .inl tl))] → va_S A s.heap H locs → lv_has ls 8 [(0, .ref hTo), (1, .int y1), (3, .ref hRmO), (4, .int y4), (5, .int y5), (6, .int y6)] → (∀ xx, out = Sum.inr xx → ∀ (H : Heap) (locs : List Loc) (ls : Array Slot), va_P D vwCl [(hTo, .inr (3, [.ref hTl, .int tn])), (hRmO, .inr (2, [.ref hKdO, .int coO, .int roO])), (hKdO, .inl (cI, 20, .inl xx)), (hTl, .inl (cI, 60, .inl tl))] H → va_D A [(hTo, .inr (3, [.ref hTl, .int tn])), (hRmO, .inr (2, [.ref hKdO, .int coO, .int roO])), (hKdO, .inl (cI, 20, .inl xx)), (hTl, .inl (cI, 60, .inl tl))] → va_S A s.heap H locs → lv_has ls 8 [(0, .ref hTo), (1, .int y1), (3, .ref hRmO), (4, .int y4), (5, .int y5)] → W p l e { frames := 4, cells := 0, slots := 0, locals := 126 } s m args below meth c H locs 0 0 Q (F0 m 97 ls [])) → (∀ r9, out = Sum.inl r9 → ∀ (pc : Nat) (H : Heap) (locs : List Loc) (ls : Array Slot), decode cX3_readRow pc = .ok (.ireturn, 1) → narrow .boolean (.int r9.1) = .int r9.1 → va_P D vwCl [(hTo, .inr (3, [.ref hTl, .int tn])), (hRmO, .inr (2, [.ref hKdO, .int r9.2.1, .int r9.2.2.1])), (hKdO, .inl (cI, 20, .inl r9.2.2.2)), (hTl, .inl (cI, 60, .inl tl))] H → va_D A [(hTo, .inr (3, [.ref hTl, .int tn])), (hRmO, .inr (2, [.ref hKdO, .int r9.2.1, .int r9.2.2.1])), (hKdO, .inl (cI, 20, .inl r9.2.2.2)), (hTl, .inl (cI, 60, .inl tl))] → va_S A s.heap H locs → W p l e { frames := 4, cells := 0, slots := 0, locals := 126 } s m args below meth c H locs 0 0 Q (F0 m pc ls [.int r9.1])) → W p l e { frames := 4, cells := 0, slots := 0, locals := 126 } s m args below meth c H locs 0 0 Q (F0 m 48 ls []) := by
  have hx := F.1
  have hb := F.2.1
  have hown := F.2.2.2.1
  have hts := F.2.2.2.2
  have hK := hG.1.1
  intro n
  induction n with
  | zero =>
    intro y6 kdO out ho
    exact (fp_l0 ho).elim
  | succ n ih =>
    intro y6 kdO out ho H locs ls hP hD hS hl hex hre
    obtain ⟨o, hf, ho⟩ := fp_l ho
    have hf : f_X3_readRow_48 coO roO tn tl y1 y4 y5 y6 kdO = some o := hf
    rw [f_X3_readRow_48] at hf
    refine lv_iload hx hb dX3_readRow_48 (lv_at hl 5 rfl) ?_
    refine lv_iload hx hb dX3_readRow_50 (lv_at hl 3 rfl) ?_
    refine lv_icmp_ge (tgt := 97) hx hb dX3_readRow_52 (by decide) (fun c61 => ?_) (fun c61 => ?_)
    · have hf := fp_t hf c61
      cases hf
      have ho := fp_inr ho
      cases ho
      exact hex _ rfl _ _ _ hP hD hS (lv_sub hl [0, 1, 2, 3, 4] rfl)
    · have hf := fp_f hf c61
      refine va_ldcS hx hb hown hG.2.1 dX3_readRow_55 ?_
      refine lv_aload_n hx hb dX3_readRow_57 rfl (lv_at hl 0 rfl) ?_
      refine lv_iload_n hx hb dX3_readRow_58 rfl (lv_at hl 1 rfl) ?_
      refine lv_iconst (v := (1 : Int32)) hx hb dX3_readRow_59 (by decide) ?_
      refine lv_iadd hx hb dX3_readRow_60 ?_
      refine lv_iload hx hb dX3_readRow_61 (lv_at hl 5 rfl) ?_
      refine lv_iadd hx hb dX3_readRow_63 ?_
      obtain ⟨r62, er62, hf⟩ := fp_b hf
      refine RoI.callV (c_X3_letterAt (l := l) (D := D) (cI := cI) (cJ := cJ) (cZ := cZ) (cQ := cQ) (qs := qs) er62) F (cwV 1 hts gX3_readRow_X3_letterAt rfl rfl rfl yd_X3_letterAt ⟨Nat.le_of_ble_eq_true rfl, Nat.le_of_ble_eq_true rfl⟩) (hG.r hS) hP [0, 3] rfl 3 rfl rfl rfl hl.1 rfl (Nat.le_of_ble_eq_true rfl) dX3_readRow_64 ⟨Nat.zero_le _, Nat.zero_le _⟩ ?_
      refine lv_i2c (v := ((Int32.toUInt32 r62 % 65536).toInt32)) hx hb dX3_readRow_67 rfl ?_
      obtain ⟨r63, er63, hf⟩ := fp_b hf
      refine RoI.callK (c_J0_indexOf_0f7a4 (l := l) (D := D) (cI := cI) (cJ := cJ) (cZ := cZ) (cQ := cQ) (qs := qs) er63) F (cwV 1 hts gX3_readRow_J0_indexOf_0f7a4 rfl rfl rfl yd_J0_indexOf_0f7a4 ⟨Nat.le_of_ble_eq_true rfl, Nat.le_of_ble_eq_true rfl⟩) (hG.r hS) hP [] rfl rfl hl.1 rfl (Nat.le_of_ble_eq_true rfl) dX3_readRow_68 ⟨Nat.zero_le _, Nat.zero_le _⟩ ?_
      refine lv_istore (lv' := [(7, .int r63), (0, .ref hTo), (1, .int y1), (3, .ref hRmO), (4, .int y4), (5, .int y5), (6, .int y6)]) hx hb dX3_readRow_71 hl (by decide) rfl (fun ls hl => ?_)
      refine lv_iload hx hb dX3_readRow_73 (lv_at hl 0 rfl) ?_
      refine lv_if_ge (tgt := 80) hx hb dX3_readRow_75 (by decide) (fun c64 => ?_) (fun c64 => ?_)
      · have hf := fp_t hf c64
        refine lv_aload_n hx hb dX3_readRow_80 rfl (lv_at hl 3 rfl) ?_
        refine lv_iload hx hb dX3_readRow_81 (lv_at hl 5 rfl) ?_
        refine lv_iload hx hb dX3_readRow_83 (lv_at hl 6 rfl) ?_
        refine lv_iadd hx hb dX3_readRow_85 ?_
        refine lv_iload hx hb dX3_readRow_86 (lv_at hl 0 rfl) ?_
        obtain ⟨r65, er65, hf⟩ := fp_b hf
        refine kc_rwV (w2 := [(hTo, .inr (3, [.ref hTl, .int tn])), (hRmO, .inr (2, [.ref hKdO, .int coO, .int roO])), (hKdO, .inl (cI, 20, .inl r65)), (hTl, .inl (cI, 60, .inl tl))]) (RwV.runV (c_X2_tell (l := l) (D := D) (cI := cI) (cJ := cJ) (cZ := cZ) (cQ := cQ) (qs := qs) er65) F (cwV 2 hts gX3_readRow_X2_tell rfl rfl rfl yd_X2_tell ⟨Nat.le_of_ble_eq_true rfl, Nat.le_of_ble_eq_true rfl⟩) hG hP hD hS hA [1, 2] (by decide) rfl 2 rfl rfl rfl hl.1 rfl (Nat.le_of_ble_eq_true rfl) dX3_readRow_88 ⟨Nat.zero_le _, Nat.zero_le _⟩) hP hD hS hA [1, 2] [0, 3] [0, 2, 3, 1] rfl (wr := [(hTo, .inr (3, [.ref hTl, .int tn])), (hTl, .inl (cI, 60, .inl tl))]) rfl (by decide) (by decide) rfl (by decide) (fun H locs hP hD hS => ?_)
        refine lv_iinc (v := (y6 + (1 : Int32))) (lv' := [(6, .int (y6 + (1 : Int32))), (7, .int r63), (0, .ref hTo), (1, .int y1), (3, .ref hRmO), (4, .int y4), (5, .int y5)]) hx hb dX3_readRow_91 hl (k := 6) rfl rfl (by decide) rfl (fun ls hl => ?_)
        refine lv_goto (tgt := 48) hx hb dX3_readRow_94 (by decide) ?_
        cases hf
        exact ih _ (fp_inl ho) hP hD hS (lv_sub hl [2, 3, 4, 5, 6, 0] rfl) hex hre
      · have hf := fp_f hf c64
        refine lv_iconst (v := (0 : Int32)) hx hb dX3_readRow_78 (by decide) ?_
        cases hf
        have ho := fp_inr ho
        cases ho
        exact hre _ rfl _ _ _ _ dX3_readRow_79 nar_b0 hP hD hS
def f_X3_readRow (coO : Int32) (roO : Int32) (kdO : Nat → Int32) (tn : Int32) (tl : Nat → Int32) (x1 : Int32) (x2 : Int32) : Option (Int32 × Int32 × Int32 × (Nat → Int32)) :=
  (if tn ≤ x2 then some ((0 : Int32), coO, roO, kdO) else Option.bind (f_X3_letterAt tn tl x1) (fun r56 => (if r56 = (114 : Int32) then Option.bind (f_X2_addRow coO roO ((x2 - x1) - (1 : Int32))) (fun r58 => (if r58.1 = 0 then some ((0 : Int32), r58.2.1, r58.2.2, kdO) else Option.bind (f_X2_cells r58.2.1 r58.2.2) (fun r60 => Option.bind (lpf (fun s => f_X3_readRow_48 r58.2.1 r58.2.2 tn tl x1 ((x2 - x1) - (1 : Int32)) (r60 - ((x2 - x1) - (1 : Int32))) s.1 s.2) 1000 ((0 : Int32), kdO)) (fun o66 => Sum.elim (fun r9 => some r9) (fun z67 => Option.bind (f_X2_isOverfull r58.2.1 r58.2.2 z67) (fun r68 => (if r68 = 0 then some ((1 : Int32), r58.2.1, r58.2.2, z67) else some ((0 : Int32), r58.2.1, r58.2.2, z67)))) o66)))) else some ((0 : Int32), coO, roO, kdO))))
set_option maxHeartbeats 4000000 in
set_option maxRecDepth 100000 in
theorem b_X3_readRow {p : Program} {l : Launch} {e : Env} {s : State} {m : MethodId} {args : Array Value} {below : List Frame} {meth : Method} {c : Code} {Q : State → Prop} {A : Nat → Prop} {H : Heap} {locs : List Loc} {D : va_G} {cI cJ cZ cQ : ClassId} {qs : Nat × Nat × Nat} {hTo hTl hRmO hKdO : Nat} {coO : Int32} {roO : Int32} {kdO : Nat → Int32} {tn : Int32} {tl : Nat → Int32} {x1 : Int32} {x2 : Int32} {out : Int32 × Int32 × Int32 × (Nat → Int32)} (F : CallFix p m c cX3_readRow 8 s args wsX3_readRow RX3) (hG : kW D (ty4 cI cJ cZ cQ) qs A s s.heap) (hA : ∀ q : Nat, s.heap.size ≤ q → A q) (hP : va_P D vwCl [(hTo, .inr (3, [.ref hTl, .int tn])), (hRmO, .inr (2, [.ref hKdO, .int coO, .int roO])), (hKdO, .inl (cI, 20, .inl kdO)), (hTl, .inl (cI, 60, .inl tl))] H) (hD : va_D A [(hTo, .inr (3, [.ref hTl, .int tn])), (hRmO, .inr (2, [.ref hKdO, .int coO, .int roO])), (hKdO, .inl (cI, 20, .inl kdO)), (hTl, .inl (cI, 60, .inl tl))]) (hS : va_S A s.heap H locs) (hf : f_X3_readRow coO roO kdO tn tl x1 x2 = some out) (hret : ∀ (pc : Nat) (H : Heap) (locs : List Loc) (ls : Array Slot), decode cX3_readRow pc = .ok (.ireturn, 1) → narrow .boolean (.int out.1) = .int out.1 → va_P D vwCl [(hTo, .inr (3, [.ref hTl, .int tn])), (hRmO, .inr (2, [.ref hKdO, .int out.2.1, .int out.2.2.1])), (hKdO, .inl (cI, 20, .inl out.2.2.2)), (hTl, .inl (cI, 60, .inl tl))] H → va_D A [(hTo, .inr (3, [.ref hTl, .int tn])), (hRmO, .inr (2, [.ref hKdO, .int out.2.1, .int out.2.2.1])), (hKdO, .inl (cI, 20, .inl out.2.2.2)), (hTl, .inl (cI, 60, .inl tl))] → va_S A s.heap H locs → W p l e { frames := 4, cells := 0, slots := 0, locals := 126 } s m args below meth c H locs 0 0 Q (F0 m pc ls [.int out.1])) {ls : Array Slot} (hl : lv_has ls 8 [(0, .ref hTo), (1, .int x1), (2, .int x2), (3, .ref hRmO)]) : W p l e { frames := 4, cells := 0, slots := 0, locals := 126 } s m args below meth c H locs 0 0 Q (F0 m 0 ls []) := by
  have hx := F.1
  have hb := F.2.1
  have hown := F.2.2.2.1
  have hts := F.2.2.2.2
  have hK := hG.1.1
  rw [f_X3_readRow] at hf
  refine lv_iload_n hx hb dX3_readRow_0 rfl (lv_at hl 2 rfl) ?_
  refine lv_iload_n hx hb dX3_readRow_1 rfl (lv_at hl 1 rfl) ?_
  refine lv_isub hx hb dX3_readRow_2 ?_
  refine lv_iconst (v := (1 : Int32)) hx hb dX3_readRow_3 (by decide) ?_
  refine lv_isub hx hb dX3_readRow_4 ?_
  refine lv_istore (lv' := [(4, .int ((x2 - x1) - (1 : Int32))), (0, .ref hTo), (1, .int x1), (2, .int x2), (3, .ref hRmO)]) hx hb dX3_readRow_5 hl (by decide) rfl (fun ls hl => ?_)
  refine lv_iload_n hx hb dX3_readRow_7 rfl (lv_at hl 3 rfl) ?_
  refine lv_aload_n hx hb dX3_readRow_8 rfl (lv_at hl 1 rfl) ?_
  refine va_get (D := D) (ci := 3) (v := .int tn) (C := RX3) (T := TX3) (N := 2) hx hb hts ku_X3_readRow_X3 hown hK hP 0 rfl rfl 1 (by decide) (hts _ kw_X3_readRow_1) (fun _ h9 => h9) rfl dX3_readRow_9 ?_
  refine lv_icmp_ge (tgt := 34) hx hb dX3_readRow_12 (by decide) (fun c55 => ?_) (fun c55 => ?_)
  · have hf := fp_t hf c55
    refine lv_iconst (v := (0 : Int32)) hx hb dX3_readRow_34 (by decide) ?_
    cases hf
    exact hret _ _ _ _ dX3_readRow_35 nar_b0 hP hD hS
  · have hf := fp_f hf c55
    refine lv_aload_n hx hb dX3_readRow_15 rfl (lv_at hl 1 rfl) ?_
    refine lv_iload_n hx hb dX3_readRow_16 rfl (lv_at hl 2 rfl) ?_
    obtain ⟨r56, er56, hf⟩ := fp_b hf
    refine RoI.callV (c_X3_letterAt (l := l) (D := D) (cI := cI) (cJ := cJ) (cZ := cZ) (cQ := cQ) (qs := qs) er56) F (cwV 1 hts gX3_readRow_X3_letterAt rfl rfl rfl yd_X3_letterAt ⟨Nat.le_of_ble_eq_true rfl, Nat.le_of_ble_eq_true rfl⟩) (hG.r hS) hP [0, 3] rfl 3 rfl rfl rfl hl.1 rfl (Nat.le_of_ble_eq_true rfl) dX3_readRow_17 ⟨Nat.zero_le _, Nat.zero_le _⟩ ?_
    refine lv_bipush (v := (114 : Int32)) hx hb dX3_readRow_20 (by decide) ?_
    refine lv_icmp_ne (tgt := 34) hx hb dX3_readRow_22 (by decide) (fun c57 => ?_) (fun c57 => ?_)
    · have hf := fp_f hf c57
      refine lv_iconst (v := (0 : Int32)) hx hb dX3_readRow_34 (by decide) ?_
      cases hf
      exact hret _ _ _ _ dX3_readRow_35 nar_b0 hP hD hS
    · have hf := fp_t hf c57
      refine lv_aload_n hx hb dX3_readRow_25 rfl (lv_at hl 4 rfl) ?_
      refine lv_iload hx hb dX3_readRow_26 (lv_at hl 0 rfl) ?_
      obtain ⟨r58, er58, hf⟩ := fp_b hf
      refine kc_rwI (w2 := [(hTo, .inr (3, [.ref hTl, .int tn])), (hRmO, .inr (2, [.ref hKdO, .int r58.2.1, .int r58.2.2])), (hKdO, .inl (cI, 20, .inl kdO)), (hTl, .inl (cI, 60, .inl tl))]) (RwI.runV (c_X2_addRow (l := l) (D := D) (cI := cI) (cJ := cJ) (cZ := cZ) (cQ := cQ) (qs := qs) er58) F (cwV 1 hts gX3_readRow_X2_addRow rfl rfl rfl yd_X2_addRow ⟨Nat.le_of_ble_eq_true rfl, Nat.le_of_ble_eq_true rfl⟩) hG hP hD hS hA [1] (by decide) rfl 2 rfl rfl rfl hl.1 rfl (Nat.le_of_ble_eq_true rfl) dX3_readRow_28 ⟨Nat.zero_le _, Nat.zero_le _⟩) hP hD hS hA [1] [0, 2, 3] [0, 3, 1, 2] rfl (wr := [(hTo, .inr (3, [.ref hTl, .int tn])), (hKdO, .inl (cI, 20, .inl kdO)), (hTl, .inl (cI, 60, .inl tl))]) rfl (by decide) (by decide) rfl (by decide) (fun H locs hP hD hS => ?_)
      refine lv_if_ne (tgt := 36) hx hb dX3_readRow_31 (by decide) (fun c59 => ?_) (fun c59 => ?_)
      · have hf := fp_f hf c59
        refine lv_aload_n hx hb dX3_readRow_36 rfl (lv_at hl 4 rfl) ?_
        obtain ⟨r60, er60, hf⟩ := fp_b hf
        refine RoI.callV (c_X2_cells (l := l) (D := D) (cI := cI) (cJ := cJ) (cZ := cZ) (cQ := cQ) (qs := qs) er60) F (cwV 0 hts gX3_readRow_X2_cells rfl rfl rfl yd_X2_cells ⟨Nat.le_of_ble_eq_true rfl, Nat.le_of_ble_eq_true rfl⟩) (hG.r hS) hP [1] rfl 2 rfl rfl rfl hl.1 rfl (Nat.le_of_ble_eq_true rfl) dX3_readRow_37 ⟨Nat.zero_le _, Nat.zero_le _⟩ ?_
        refine lv_iload hx hb dX3_readRow_40 (lv_at hl 0 rfl) ?_
        refine lv_isub hx hb dX3_readRow_42 ?_
        refine lv_istore (lv' := [(5, .int (r60 - ((x2 - x1) - (1 : Int32)))), (4, .int ((x2 - x1) - (1 : Int32))), (0, .ref hTo), (1, .int x1), (2, .int x2), (3, .ref hRmO)]) hx hb dX3_readRow_43 hl (by decide) rfl (fun ls hl => ?_)
        refine lv_iconst (v := (0 : Int32)) hx hb dX3_readRow_45 (by decide) ?_
        refine lv_istore (lv' := [(6, .int (0 : Int32)), (5, .int (r60 - ((x2 - x1) - (1 : Int32)))), (4, .int ((x2 - x1) - (1 : Int32))), (0, .ref hTo), (1, .int x1), (2, .int x2), (3, .ref hRmO)]) hx hb dX3_readRow_46 hl (by decide) rfl (fun ls hl => ?_)
        obtain ⟨o66, eo66, hf⟩ := fp_b hf
        refine lp_X3_readRow_48 F hG hA _ _ eo66 hP hD hS (lv_sub hl [3, 4, 6, 2, 1, 0] rfl) (fun z67 hz67 H locs ls hP hD hS hl => ?_) (fun r9 h9 => ?_)
        · subst hz67
          have hf := fp_inr hf
          refine lv_aload_n hx hb dX3_readRow_97 rfl (lv_at hl 2 rfl) ?_
          obtain ⟨r68, er68, hf⟩ := fp_b hf
          refine RoI.callV (c_X2_isOverfull (l := l) (D := D) (cI := cI) (cJ := cJ) (cZ := cZ) (cQ := cQ) (qs := qs) er68) F (cwV 0 hts gX3_readRow_X2_isOverfull rfl rfl rfl yd_X2_isOverfull ⟨Nat.le_of_ble_eq_true rfl, Nat.le_of_ble_eq_true rfl⟩) (hG.r hS) hP [1, 2] rfl 2 rfl rfl rfl hl.1 rfl (Nat.le_of_ble_eq_true rfl) dX3_readRow_98 ⟨Nat.zero_le _, Nat.zero_le _⟩ ?_
          refine lv_if_ne (tgt := 108) hx hb dX3_readRow_101 (by decide) (fun c69 => ?_) (fun c69 => ?_)
          · have hf := fp_f hf c69
            refine lv_iconst (v := (0 : Int32)) hx hb dX3_readRow_108 (by decide) ?_
            cases hf
            exact hret _ _ _ _ dX3_readRow_109 nar_b0 hP hD hS
          · have hf := fp_t hf c69
            refine lv_iconst (v := (1 : Int32)) hx hb dX3_readRow_104 (by decide) ?_
            refine lv_goto (tgt := 109) hx hb dX3_readRow_105 (by decide) ?_
            cases hf
            exact hret _ _ _ _ dX3_readRow_109 nar_b1 hP hD hS
        · subst h9
          have hf := fp_inl hf
          cases hf
          exact hret
      · have hf := fp_t hf c59
        refine lv_iconst (v := (0 : Int32)) hx hb dX3_readRow_34 (by decide) ?_
        cases hf
        exact hret _ _ _ _ dX3_readRow_35 nar_b0 hP hD hS
set_option maxRecDepth 100000 in
theorem c_X3_readRow {l : Launch} {D : va_G} {cI cJ cZ cQ : ClassId} {qs : Nat × Nat × Nat} {hTo hTl hRmO hKdO : Nat} {coO : Int32} {roO : Int32} {kdO : Nat → Int32} {tn : Int32} {tl : Nat → Int32} {x1 : Int32} {x2 : Int32} {out : Int32 × Int32 × Int32 × (Nat → Int32)} (hf : f_X3_readRow coO roO kdO tn tl x1 x2 = some out) : RwI l yX3_readRow wsX3_readRow { frames := 4, cells := 0, slots := 0, locals := 126 } D (ty4 cI cJ cZ cQ) qs [.ref hTo, .int x1, .int x2, .ref hRmO] [(hTo, .inr (3, [.ref hTl, .int tn])), (hRmO, .inr (2, [.ref hKdO, .int coO, .int roO])), (hKdO, .inl (cI, 20, .inl kdO)), (hTl, .inl (cI, 60, .inl tl))] [(hTo, .inr (3, [.ref hTl, .int tn])), (hRmO, .inr (2, [.ref hKdO, .int out.2.1, .int out.2.2.1])), (hKdO, .inl (cI, 20, .inl out.2.2.2)), (hTl, .inl (cI, 60, .inl tl))] out.1 :=
  RwI.of (own := RX3) (by decide +kernel) rfl rfl (Nat.le_of_ble_eq_true rfl) (fun F hG hA hP hD hS hret ls hl => b_X3_readRow F hG hA hP hD hS hf hret hl)
-- method X3_readInto
theorem yd_X3_readInto : yX3_readInto.cls = RX3 ∧ yX3_readInto.cls ≠ "java/lang/invoke/MethodHandle" ∧ yX3_readInto.cls ≠ "java/lang/invoke/VarHandle" ∧ (parseMethodDescriptor yX3_readInto.desc).map (fun d => d.parameters.length) = some 1 := by decide +kernel
theorem ku_X3_readInto_X3 : ∀ w ∈ u_ws RX3 TX3 2, w ∈ wsX3_readInto := by decide +kernel
theorem kw_X3_readInto_1 : Cond.fieldLink RX3 15 "MirrorShares$Told" "length" "I" ∈ wsX3_readInto := List.mem_of_getElem? (i := 1) rfl
def f_X3_readInto_8 (tn : Int32) (tl : Nat → Int32) (y2 : Int32) (y3 : Int32) (coO : Int32) (roO : Int32) (kdO : Nat → Int32) : Option ((Int32 × Int32 × Int32 × Int32 × (Nat → Int32)) ⊕ ((Int32 × Int32 × Int32 × (Nat → Int32)) ⊕ (Int32 × Int32 × (Nat → Int32)))) :=
  (if (60 : Int32) ≤ y3 then some (Sum.inr (Sum.inr (coO, roO, kdO))) else (if tn ≤ y2 then some (Sum.inr (Sum.inr (coO, roO, kdO))) else Option.bind (f_X3_endOfItem tn tl y2) (fun r73 => Option.bind (f_X3_readRow coO roO kdO tn tl y2 r73) (fun r74 => (if r74.1 = 0 then some (Sum.inr (Sum.inl (y2, r74.2.1, r74.2.2.1, r74.2.2.2))) else some (Sum.inl ((r73 + (1 : Int32)), (y3 + (1 : Int32)), r74.2.1, r74.2.2.1, r74.2.2.2)))))))
set_option maxHeartbeats 4000000 in
set_option maxRecDepth 100000 in
theorem lp_X3_readInto_8 {p : Program} {l : Launch} {e : Env} {s : State} {m : MethodId} {args : Array Value} {below : List Frame} {meth : Method} {c : Code} {Q : State → Prop} {A : Nat → Prop} {D : va_G} {cI cJ cZ cQ : ClassId} {qs : Nat × Nat × Nat} {hTo hTl hRmO hKdO : Nat} {tn : Int32} {tl : Nat → Int32} (F : CallFix p m c cX3_readInto 5 s args wsX3_readInto RX3) (hG : kW D (ty4 cI cJ cZ cQ) qs A s s.heap) (hA : ∀ q : Nat, s.heap.size ≤ q → A q) :
    ∀ (n : Nat) {y2 : Int32} {y3 : Int32} {coO : Int32} {roO : Int32} {kdO : Nat → Int32} (out : (Int32 × Int32 × Int32 × (Nat → Int32)) ⊕ (Int32 × Int32 × (Nat → Int32))), lpf (fun s => f_X3_readInto_8 tn tl s.1 s.2.1 s.2.2.1 s.2.2.2.1 s.2.2.2.2) n (y2, y3, coO, roO, kdO) = some out → ∀ {H : Heap} {locs : List Loc} {ls : Array Slot}, va_P D vwCl [(hTo, .inr (3, [.ref hTl, .int tn])), (hRmO, .inr (2, [.ref hKdO, .int coO, .int roO])), (hKdO, .inl (cI, 20, .inl kdO)), (hTl, .inl (cI, 60, .inl tl))] H → va_D A [(hTo, .inr (3, [.ref hTl, .int tn])), (hRmO, .inr (2, [.ref hKdO, .int coO, .int roO])), (hKdO, .inl (cI, 20, .inl kdO)), (hTl, .inl (cI, 60, .inl tl))] → va_S A s.heap H locs → lv_has ls 5 [(0, .ref hTo), (1, .ref hRmO), (2, .int y2), (3, .int y3)] → (∀ xx, out = Sum.inr xx → ∀ (H : Heap) (locs : List Loc) (ls : Array Slot), va_P D vwCl [(hTo, .inr (3, [.ref hTl, .int tn])), (hRmO, .inr (2, [.ref hKdO, .int xx.1, .int xx.2.1])), (hKdO, .inl (cI, 20, .inl xx.2.2)), (hTl, .inl (cI, 60, .inl tl))] H → va_D A [(hTo, .inr (3, [.ref hTl, .int tn])), (hRmO, .inr (2, [.ref hKdO, .int xx.1, .int xx.2.1])), (hKdO, .inl (cI, 20, .inl xx.2.2)), (hTl, .inl (cI, 60, .inl tl))] → va_S A s.heap H locs → lv_has ls 5 [(0, .ref hTo), (1, .ref hRmO)] → W p l e { frames := 5, cells := 0, slots := 0, locals := 153 } s m args below meth c H locs 0 0 Q (F0 m 53 ls [])) → (∀ r9, out = Sum.inl r9 → ∀ (pc : Nat) (H : Heap) (locs : List Loc) (ls : Array Slot), decode cX3_readInto pc = .ok (.ireturn, 1) → narrow .int (.int r9.1) = .int r9.1 → va_P D vwCl [(hTo, .inr (3, [.ref hTl, .int tn])), (hRmO, .inr (2, [.ref hKdO, .int r9.2.1, .int r9.2.2.1])), (hKdO, .inl (cI, 20, .inl r9.2.2.2)), (hTl, .inl (cI, 60, .inl tl))] H → va_D A [(hTo, .inr (3, [.ref hTl, .int tn])), (hRmO, .inr (2, [.ref hKdO, .int r9.2.1, .int r9.2.2.1])), (hKdO, .inl (cI, 20, .inl r9.2.2.2)), (hTl, .inl (cI, 60, .inl tl))] → va_S A s.heap H locs → W p l e { frames := 5, cells := 0, slots := 0, locals := 153 } s m args below meth c H locs 0 0 Q (F0 m pc ls [.int r9.1])) → W p l e { frames := 5, cells := 0, slots := 0, locals := 153 } s m args below meth c H locs 0 0 Q (F0 m 8 ls []) := by
  have hx := F.1
  have hb := F.2.1
  have hown := F.2.2.2.1
  have hts := F.2.2.2.2
  have hK := hG.1.1
  intro n
  induction n with
  | zero =>
    intro y2 y3 coO roO kdO out ho
    exact (fp_l0 ho).elim
  | succ n ih =>
    intro y2 y3 coO roO kdO out ho H locs ls hP hD hS hl hex hre
    obtain ⟨o, hf, ho⟩ := fp_l ho
    have hf : f_X3_readInto_8 tn tl y2 y3 coO roO kdO = some o := hf
    rw [f_X3_readInto_8] at hf
    refine lv_iload_n hx hb dX3_readInto_8 rfl (lv_at hl 3 rfl) ?_
    refine lv_bipush (v := (60 : Int32)) hx hb dX3_readInto_9 (by decide) ?_
    refine lv_icmp_ge (tgt := 53) hx hb dX3_readInto_11 (by decide) (fun c71 => ?_) (fun c71 => ?_)
    · have hf := fp_t hf c71
      cases hf
      have ho := fp_inr ho
      cases ho
      exact hex _ rfl _ _ _ hP hD hS (lv_sub hl [0, 1] rfl)
    · have hf := fp_f hf c71
      refine lv_iload_n hx hb dX3_readInto_14 rfl (lv_at hl 2 rfl) ?_
      refine lv_aload_n hx hb dX3_readInto_15 rfl (lv_at hl 0 rfl) ?_
      refine va_get (D := D) (ci := 3) (v := .int tn) (C := RX3) (T := TX3) (N := 2) hx hb hts ku_X3_readInto_X3 hown hK hP 0 rfl rfl 1 (by decide) (hts _ kw_X3_readInto_1) (fun _ h9 => h9) rfl dX3_readInto_16 ?_
      refine lv_icmp_ge (tgt := 53) hx hb dX3_readInto_19 (by decide) (fun c72 => ?_) (fun c72 => ?_)
      · have hf := fp_t hf c72
        cases hf
        have ho := fp_inr ho
        cases ho
        exact hex _ rfl _ _ _ hP hD hS (lv_sub hl [0, 1] rfl)
      · have hf := fp_f hf c72
        refine lv_aload_n hx hb dX3_readInto_22 rfl (lv_at hl 0 rfl) ?_
        refine lv_iload_n hx hb dX3_readInto_23 rfl (lv_at hl 2 rfl) ?_
        obtain ⟨r73, er73, hf⟩ := fp_b hf
        refine RoI.callV (c_X3_endOfItem (l := l) (D := D) (cI := cI) (cJ := cJ) (cZ := cZ) (cQ := cQ) (qs := qs) er73) F (cwV 1 hts gX3_readInto_X3_endOfItem rfl rfl rfl yd_X3_endOfItem ⟨Nat.le_of_ble_eq_true rfl, Nat.le_of_ble_eq_true rfl⟩) (hG.r hS) hP [0, 3] rfl 3 rfl rfl rfl hl.1 rfl (Nat.le_of_ble_eq_true rfl) dX3_readInto_24 ⟨Nat.zero_le _, Nat.zero_le _⟩ ?_
        refine lv_istore (lv' := [(4, .int r73), (0, .ref hTo), (1, .ref hRmO), (2, .int y2), (3, .int y3)]) hx hb dX3_readInto_27 hl (by decide) rfl (fun ls hl => ?_)
        refine lv_aload_n hx hb dX3_readInto_29 rfl (lv_at hl 1 rfl) ?_
        refine lv_iload_n hx hb dX3_readInto_30 rfl (lv_at hl 3 rfl) ?_
        refine lv_iload hx hb dX3_readInto_31 (lv_at hl 0 rfl) ?_
        refine lv_aload_n hx hb dX3_readInto_33 rfl (lv_at hl 2 rfl) ?_
        obtain ⟨r74, er74, hf⟩ := fp_b hf
        refine kc_rwI (w2 := [(hTo, .inr (3, [.ref hTl, .int tn])), (hRmO, .inr (2, [.ref hKdO, .int r74.2.1, .int r74.2.2.1])), (hKdO, .inl (cI, 20, .inl r74.2.2.2)), (hTl, .inl (cI, 60, .inl tl))]) (RwI.runV (c_X3_readRow (l := l) (D := D) (cI := cI) (cJ := cJ) (cZ := cZ) (cQ := cQ) (qs := qs) er74) F (cwV 3 hts gX3_readInto_X3_readRow rfl rfl rfl yd_X3_readRow ⟨Nat.le_of_ble_eq_true rfl, Nat.le_of_ble_eq_true rfl⟩) hG hP hD hS hA [0, 1, 2, 3] (by decide) rfl 3 rfl rfl rfl hl.1 rfl (Nat.le_of_ble_eq_true rfl) dX3_readInto_34 ⟨Nat.zero_le _, Nat.zero_le _⟩) hP hD hS hA [0, 1, 2, 3] [] [0, 1, 2, 3] rfl (wr := []) rfl (by decide) (by decide) rfl (by decide) (fun H locs hP hD hS => ?_)
        refine lv_if_ne (tgt := 42) hx hb dX3_readInto_37 (by decide) (fun c75 => ?_) (fun c75 => ?_)
        · have hf := fp_f hf c75
          refine lv_iload hx hb dX3_readInto_42 (lv_at hl 0 rfl) ?_
          refine lv_iconst (v := (1 : Int32)) hx hb dX3_readInto_44 (by decide) ?_
          refine lv_iadd hx hb dX3_readInto_45 ?_
          refine lv_istore_n (lv' := [(2, .int (r73 + (1 : Int32))), (4, .int r73), (0, .ref hTo), (1, .ref hRmO), (3, .int y3)]) hx hb dX3_readInto_46 rfl hl (by decide) rfl (fun ls hl => ?_)
          refine lv_iinc (v := (y3 + (1 : Int32))) (lv' := [(3, .int (y3 + (1 : Int32))), (2, .int (r73 + (1 : Int32))), (4, .int r73), (0, .ref hTo), (1, .ref hRmO)]) hx hb dX3_readInto_47 hl (k := 4) rfl rfl (by decide) rfl (fun ls hl => ?_)
          refine lv_goto (tgt := 8) hx hb dX3_readInto_50 (by decide) ?_
          cases hf
          exact ih _ (fp_inl ho) hP hD hS (lv_sub hl [3, 4, 1, 0] rfl) hex hre
        · have hf := fp_t hf c75
          refine lv_iload_n hx hb dX3_readInto_40 rfl (lv_at hl 3 rfl) ?_
          cases hf
          have ho := fp_inr ho
          cases ho
          exact hre _ rfl _ _ _ _ dX3_readInto_41 (vp_nar_int _) hP hD hS
def f_X3_readInto (coO : Int32) (roO : Int32) (kdO : Nat → Int32) (tn : Int32) (tl : Nat → Int32) : Option (Int32 × Int32 × Int32 × (Nat → Int32)) :=
  Option.bind (f_X2_empty coO roO) (fun r70 => Option.bind (lpf (fun s => f_X3_readInto_8 tn tl s.1 s.2.1 s.2.2.1 s.2.2.2.1 s.2.2.2.2) 1000 ((0 : Int32), (0 : Int32), r70.1, r70.2, kdO)) (fun o76 => Sum.elim (fun r9 => some r9) (fun z77 => some ((-4 : Int32), z77.1, z77.2.1, z77.2.2)) o76))
set_option maxHeartbeats 4000000 in
set_option maxRecDepth 100000 in
theorem b_X3_readInto {p : Program} {l : Launch} {e : Env} {s : State} {m : MethodId} {args : Array Value} {below : List Frame} {meth : Method} {c : Code} {Q : State → Prop} {A : Nat → Prop} {H : Heap} {locs : List Loc} {D : va_G} {cI cJ cZ cQ : ClassId} {qs : Nat × Nat × Nat} {hTo hTl hRmO hKdO : Nat} {coO : Int32} {roO : Int32} {kdO : Nat → Int32} {tn : Int32} {tl : Nat → Int32} {out : Int32 × Int32 × Int32 × (Nat → Int32)} (F : CallFix p m c cX3_readInto 5 s args wsX3_readInto RX3) (hG : kW D (ty4 cI cJ cZ cQ) qs A s s.heap) (hA : ∀ q : Nat, s.heap.size ≤ q → A q) (hP : va_P D vwCl [(hTo, .inr (3, [.ref hTl, .int tn])), (hRmO, .inr (2, [.ref hKdO, .int coO, .int roO])), (hKdO, .inl (cI, 20, .inl kdO)), (hTl, .inl (cI, 60, .inl tl))] H) (hD : va_D A [(hTo, .inr (3, [.ref hTl, .int tn])), (hRmO, .inr (2, [.ref hKdO, .int coO, .int roO])), (hKdO, .inl (cI, 20, .inl kdO)), (hTl, .inl (cI, 60, .inl tl))]) (hS : va_S A s.heap H locs) (hf : f_X3_readInto coO roO kdO tn tl = some out) (hret : ∀ (pc : Nat) (H : Heap) (locs : List Loc) (ls : Array Slot), decode cX3_readInto pc = .ok (.ireturn, 1) → narrow .int (.int out.1) = .int out.1 → va_P D vwCl [(hTo, .inr (3, [.ref hTl, .int tn])), (hRmO, .inr (2, [.ref hKdO, .int out.2.1, .int out.2.2.1])), (hKdO, .inl (cI, 20, .inl out.2.2.2)), (hTl, .inl (cI, 60, .inl tl))] H → va_D A [(hTo, .inr (3, [.ref hTl, .int tn])), (hRmO, .inr (2, [.ref hKdO, .int out.2.1, .int out.2.2.1])), (hKdO, .inl (cI, 20, .inl out.2.2.2)), (hTl, .inl (cI, 60, .inl tl))] → va_S A s.heap H locs → W p l e { frames := 5, cells := 0, slots := 0, locals := 153 } s m args below meth c H locs 0 0 Q (F0 m pc ls [.int out.1])) {ls : Array Slot} (hl : lv_has ls 5 [(0, .ref hTo), (1, .ref hRmO)]) : W p l e { frames := 5, cells := 0, slots := 0, locals := 153 } s m args below meth c H locs 0 0 Q (F0 m 0 ls []) := by
  have hx := F.1
  have hb := F.2.1
  have hown := F.2.2.2.1
  have hts := F.2.2.2.2
  have hK := hG.1.1
  rw [f_X3_readInto] at hf
  refine lv_aload_n hx hb dX3_readInto_0 rfl (lv_at hl 1 rfl) ?_
  obtain ⟨r70, er70, hf⟩ := fp_b hf
  refine kc_rwV (w2 := [(hTo, .inr (3, [.ref hTl, .int tn])), (hRmO, .inr (2, [.ref hKdO, .int r70.1, .int r70.2])), (hKdO, .inl (cI, 20, .inl kdO)), (hTl, .inl (cI, 60, .inl tl))]) (RwV.runV (c_X2_empty (l := l) (D := D) (cI := cI) (cJ := cJ) (cZ := cZ) (cQ := cQ) (qs := qs) er70) F (cwV 0 hts gX3_readInto_X2_empty rfl rfl rfl yd_X2_empty ⟨Nat.le_of_ble_eq_true rfl, Nat.le_of_ble_eq_true rfl⟩) hG hP hD hS hA [1] (by decide) rfl 2 rfl rfl rfl hl.1 rfl (Nat.le_of_ble_eq_true rfl) dX3_readInto_1 ⟨Nat.zero_le _, Nat.zero_le _⟩) hP hD hS hA [1] [0, 2, 3] [0, 3, 1, 2] rfl (wr := [(hTo, .inr (3, [.ref hTl, .int tn])), (hKdO, .inl (cI, 20, .inl kdO)), (hTl, .inl (cI, 60, .inl tl))]) rfl (by decide) (by decide) rfl (by decide) (fun H locs hP hD hS => ?_)
  refine lv_iconst (v := (0 : Int32)) hx hb dX3_readInto_4 (by decide) ?_
  refine lv_istore_n (lv' := [(2, .int (0 : Int32)), (0, .ref hTo), (1, .ref hRmO)]) hx hb dX3_readInto_5 rfl hl (by decide) rfl (fun ls hl => ?_)
  refine lv_iconst (v := (0 : Int32)) hx hb dX3_readInto_6 (by decide) ?_
  refine lv_istore_n (lv' := [(3, .int (0 : Int32)), (2, .int (0 : Int32)), (0, .ref hTo), (1, .ref hRmO)]) hx hb dX3_readInto_7 rfl hl (by decide) rfl (fun ls hl => ?_)
  obtain ⟨o76, eo76, hf⟩ := fp_b hf
  refine lp_X3_readInto_8 F hG hA _ _ eo76 hP hD hS (lv_sub hl [2, 3, 1, 0] rfl) (fun z77 hz77 H locs ls hP hD hS hl => ?_) (fun r9 h9 => ?_)
  · subst hz77
    have hf := fp_inr hf
    refine lv_bipush (v := (-4 : Int32)) hx hb dX3_readInto_53 (by decide) ?_
    cases hf
    exact hret _ _ _ _ dX3_readInto_55 (vp_nar_int _) hP hD hS
  · subst h9
    have hf := fp_inl hf
    cases hf
    exact hret
set_option maxRecDepth 100000 in
theorem c_X3_readInto {l : Launch} {D : va_G} {cI cJ cZ cQ : ClassId} {qs : Nat × Nat × Nat} {hTo hTl hRmO hKdO : Nat} {coO : Int32} {roO : Int32} {kdO : Nat → Int32} {tn : Int32} {tl : Nat → Int32} {out : Int32 × Int32 × Int32 × (Nat → Int32)} (hf : f_X3_readInto coO roO kdO tn tl = some out) : RwI l yX3_readInto wsX3_readInto { frames := 5, cells := 0, slots := 0, locals := 153 } D (ty4 cI cJ cZ cQ) qs [.ref hTo, .ref hRmO] [(hTo, .inr (3, [.ref hTl, .int tn])), (hRmO, .inr (2, [.ref hKdO, .int coO, .int roO])), (hKdO, .inl (cI, 20, .inl kdO)), (hTl, .inl (cI, 60, .inl tl))] [(hTo, .inr (3, [.ref hTl, .int tn])), (hRmO, .inr (2, [.ref hKdO, .int out.2.1, .int out.2.2.1])), (hKdO, .inl (cI, 20, .inl out.2.2.2)), (hTl, .inl (cI, 60, .inl tl))] out.1 :=
  RwI.of (own := RX3) (by decide +kernel) rfl rfl (Nat.le_of_ble_eq_true rfl) (fun F hG hA hP hD hS hret ls hl => b_X3_readInto F hG hA hP hD hS hf hret hl)
