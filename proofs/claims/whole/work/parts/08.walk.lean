-- method X4_fewestTo
theorem yd_X4_fewestTo : yX4_fewestTo.cls = RX4 ∧ yX4_fewestTo.cls ≠ "java/lang/invoke/MethodHandle" ∧ yX4_fewestTo.cls ≠ "java/lang/invoke/VarHandle" ∧ (parseMethodDescriptor yX4_fewestTo.desc).map (fun d => d.parameters.length) = some 1 := by decide +kernel
theorem ku_X4_fewestTo_X4 : ∀ w ∈ u_ws RX4 TX4 5, w ∈ wsX4_fewestTo := by decide +kernel
theorem kw_X4_fewestTo_1 : Cond.fieldLink RX4 18 "MirrorShares$Walk" "cellsToPort" "[I" ∈ wsX4_fewestTo := List.mem_of_getElem? (i := 1) rfl
def f_X4_fewestTo (wp : Nat → Int32) (x1 : Int32) : Option (Int32) :=
  (if x1 < 0 then some (-4 : Int32) else (if (18 : Int32) ≤ x1 then some (-4 : Int32) else chk (aix x1 18) ((if (wp x1.toNatClampNeg) ≤ 0 then some (-4 : Int32) else some (wp x1.toNatClampNeg)))))
set_option maxHeartbeats 4000000 in
set_option maxRecDepth 100000 in
theorem b_X4_fewestTo {p : Program} {l : Launch} {e : Env} {s : State} {m : MethodId} {args : Array Value} {below : List Frame} {meth : Method} {c : Code} {Q : State → Prop} {D : va_G} {cI cJ cZ cQ : ClassId} {qs : Nat × Nat × Nat} {hWa hWq hWt hWp : Nat} {ww : Int32} {wl : Int32} {wp : Nat → Int32} {x1 : Int32} {out : Int32} (F : CallFix p m c cX4_fewestTo 2 s args wsX4_fewestTo RX4) (hG : kR D (ty4 cI cJ cZ cQ) qs s s.heap) (hP : va_P D vwCl [(hWa, .inr (4, [.ref hWq, .ref hWt, .ref hWp, .int ww, .int wl])), (hWp, .inl (cI, 18, .inl wp))] s.heap) (hf : f_X4_fewestTo wp x1 = some out) (hret : ∀ (pc : Nat) (ls : Array Slot), decode cX4_fewestTo pc = .ok (.ireturn, 1) → narrow .int (.int out) = .int out → W p l e { frames := 0, cells := 0, slots := 0, locals := 0 } s m args below meth c s.heap [] 0 0 Q (F0 m pc ls [.int out])) {ls : Array Slot} (hl : lv_has ls 2 [(0, .ref hWa), (1, .int x1)]) : W p l e { frames := 0, cells := 0, slots := 0, locals := 0 } s m args below meth c s.heap [] 0 0 Q (F0 m 0 ls []) := by
  have hx := F.1
  have hb := F.2.1
  have hown := F.2.2.2.1
  have hts := F.2.2.2.2
  have hK := hG.1.1
  rw [f_X4_fewestTo] at hf
  refine lv_iload_n hx hb dX4_fewestTo_0 rfl (lv_at hl 1 rfl) ?_
  refine lv_if_lt (tgt := 28) hx hb dX4_fewestTo_1 (by decide) (fun c1 => ?_) (fun c1 => ?_)
  · have hf := fp_t hf c1
    refine lv_bipush (v := (-4 : Int32)) hx hb dX4_fewestTo_28 (by decide) ?_
    cases hf
    exact hret _ _ dX4_fewestTo_30 (vp_nar_int _)
  · have hf := fp_f hf c1
    refine lv_iload_n hx hb dX4_fewestTo_4 rfl (lv_at hl 1 rfl) ?_
    refine lv_bipush (v := (18 : Int32)) hx hb dX4_fewestTo_5 (by decide) ?_
    refine lv_icmp_ge (tgt := 28) hx hb dX4_fewestTo_7 (by decide) (fun c2 => ?_) (fun c2 => ?_)
    · have hf := fp_t hf c2
      refine lv_bipush (v := (-4 : Int32)) hx hb dX4_fewestTo_28 (by decide) ?_
      cases hf
      exact hret _ _ dX4_fewestTo_30 (vp_nar_int _)
    · have hf := fp_f hf c2
      refine lv_aload_n hx hb dX4_fewestTo_10 rfl (lv_at hl 0 rfl) ?_
      refine va_get (D := D) (ci := 4) (v := .ref hWp) (C := RX4) (T := TX4) (N := 5) hx hb hts ku_X4_fewestTo_X4 hown hK hP 0 rfl rfl 2 (by decide) (hts _ kw_X4_fewestTo_1) (fun _ h9 => h9) rfl dX4_fewestTo_11 ?_
      refine lv_iload_n hx hb dX4_fewestTo_14 rfl (lv_at hl 1 rfl) ?_
      obtain ⟨k3, hf⟩ := fp_c hf
      refine va_iald hx hb hK hP 1 0 rfl rfl k3 dX4_fewestTo_15 ?_
      refine lv_if_le (tgt := 28) hx hb dX4_fewestTo_16 (by decide) (fun c4 => ?_) (fun c4 => ?_)
      · have hf := fp_t hf c4
        refine lv_bipush (v := (-4 : Int32)) hx hb dX4_fewestTo_28 (by decide) ?_
        cases hf
        exact hret _ _ dX4_fewestTo_30 (vp_nar_int _)
      · have hf := fp_f hf c4
        refine lv_aload_n hx hb dX4_fewestTo_19 rfl (lv_at hl 0 rfl) ?_
        refine va_get (D := D) (ci := 4) (v := .ref hWp) (C := RX4) (T := TX4) (N := 5) hx hb hts ku_X4_fewestTo_X4 hown hK hP 0 rfl rfl 2 (by decide) (hts _ kw_X4_fewestTo_1) (fun _ h9 => h9) rfl dX4_fewestTo_20 ?_
        refine lv_iload_n hx hb dX4_fewestTo_23 rfl (lv_at hl 1 rfl) ?_
        refine va_iald hx hb hK hP 1 0 rfl rfl k3 dX4_fewestTo_24 ?_
        refine lv_goto (tgt := 30) hx hb dX4_fewestTo_25 (by decide) ?_
        cases hf
        exact hret _ _ dX4_fewestTo_30 (vp_nar_int _)
set_option maxRecDepth 100000 in
theorem c_X4_fewestTo {l : Launch} {D : va_G} {cI cJ cZ cQ : ClassId} {qs : Nat × Nat × Nat} {hWa hWq hWt hWp : Nat} {ww : Int32} {wl : Int32} {wp : Nat → Int32} {x1 : Int32} {out : Int32} (hf : f_X4_fewestTo wp x1 = some out) : RoI l yX4_fewestTo wsX4_fewestTo { frames := 0, cells := 0, slots := 0, locals := 0 } D (ty4 cI cJ cZ cQ) qs [.ref hWa, .int x1] [(hWa, .inr (4, [.ref hWq, .ref hWt, .ref hWp, .int ww, .int wl])), (hWp, .inl (cI, 18, .inl wp))] out :=
  RoI.of (own := RX4) (by decide +kernel) rfl rfl (Nat.le_of_ble_eq_true rfl) (fun F hG hP hret ls hl => b_X4_fewestTo F hG hP hf hret hl)
-- method X4_enter
theorem yd_X4_enter : yX4_enter.cls = RX4 ∧ yX4_enter.cls ≠ "java/lang/invoke/MethodHandle" ∧ yX4_enter.cls ≠ "java/lang/invoke/VarHandle" ∧ (parseMethodDescriptor yX4_enter.desc).map (fun d => d.parameters.length) = some 3 := by decide +kernel
theorem ku_X4_enter_X4 : ∀ w ∈ u_ws RX4 TX4 5, w ∈ wsX4_enter := by decide +kernel
theorem kw_X4_enter_1 : Cond.fieldLink RX4 21 "MirrorShares$Walk" "waiting" "I" ∈ wsX4_enter := List.mem_of_getElem? (i := 1) rfl
theorem kw_X4_enter_2 : Cond.fieldLink RX4 15 "MirrorShares$Walk" "cellsTo" "[I" ∈ wsX4_enter := List.mem_of_getElem? (i := 2) rfl
theorem kw_X4_enter_3 : Cond.fieldLink RX4 11 "MirrorShares$Walk" "queue" "[I" ∈ wsX4_enter := List.mem_of_getElem? (i := 3) rfl
theorem kw_X4_enter_4 : Cond.fieldLink RX4 25 "MirrorShares$Walk" "litCells" "I" ∈ wsX4_enter := List.mem_of_getElem? (i := 4) rfl
def f_X4_enter (ww : Int32) (wl : Int32) (wq : Nat → Int32) (wt : Nat → Int32) (x1 : Int32) (x2 : Int32) (x3 : Int32) : Option (Int32 × Int32 × (Nat → Int32) × (Nat → Int32)) :=
  (if ((x1 * (4 : Int32)) + x2) < 0 then some (ww, wl, wq, wt) else (if (80 : Int32) ≤ ((x1 * (4 : Int32)) + x2) then some (ww, wl, wq, wt) else (if (80 : Int32) ≤ ww then some (ww, wl, wq, wt) else chk (aix ((x1 * (4 : Int32)) + x2) 80) ((if (wt (Int32.toNatClampNeg ((x1 * (4 : Int32)) + x2))) = 0 then chk (aix ww 80) (some ((ww + (1 : Int32)), (wl ||| ((1 : Int32) <<< (x1 &&& 31))), (upd wq ww.toNatClampNeg ((x1 * (4 : Int32)) + x2)), (upd wt (Int32.toNatClampNeg ((x1 * (4 : Int32)) + x2)) x3))) else some (ww, wl, wq, wt))))))
set_option maxHeartbeats 4000000 in
set_option maxRecDepth 100000 in
theorem b_X4_enter {p : Program} {l : Launch} {e : Env} {s : State} {m : MethodId} {args : Array Value} {below : List Frame} {meth : Method} {c : Code} {Q : State → Prop} {A : Nat → Prop} {H : Heap} {locs : List Loc} {D : va_G} {cI cJ cZ cQ : ClassId} {qs : Nat × Nat × Nat} {hWa hWq hWt hWp : Nat} {ww : Int32} {wl : Int32} {wq : Nat → Int32} {wt : Nat → Int32} {x1 : Int32} {x2 : Int32} {x3 : Int32} {out : Int32 × Int32 × (Nat → Int32) × (Nat → Int32)} (F : CallFix p m c cX4_enter 5 s args wsX4_enter RX4) (hG : kW D (ty4 cI cJ cZ cQ) qs A s s.heap) (hA : ∀ q : Nat, s.heap.size ≤ q → A q) (hP : va_P D vwCl [(hWa, .inr (4, [.ref hWq, .ref hWt, .ref hWp, .int ww, .int wl])), (hWq, .inl (cI, 80, .inl wq)), (hWt, .inl (cI, 80, .inl wt))] H) (hD : va_D A [(hWa, .inr (4, [.ref hWq, .ref hWt, .ref hWp, .int ww, .int wl])), (hWq, .inl (cI, 80, .inl wq)), (hWt, .inl (cI, 80, .inl wt))]) (hS : va_S A s.heap H locs) (hf : f_X4_enter ww wl wq wt x1 x2 x3 = some out) (hret : ∀ (pc : Nat) (H : Heap) (locs : List Loc) (ls : Array Slot), decode cX4_enter pc = .ok (.return_, 1) → va_P D vwCl [(hWa, .inr (4, [.ref hWq, .ref hWt, .ref hWp, .int out.1, .int out.2.1])), (hWq, .inl (cI, 80, .inl out.2.2.1)), (hWt, .inl (cI, 80, .inl out.2.2.2))] H → va_D A [(hWa, .inr (4, [.ref hWq, .ref hWt, .ref hWp, .int out.1, .int out.2.1])), (hWq, .inl (cI, 80, .inl out.2.2.1)), (hWt, .inl (cI, 80, .inl out.2.2.2))] → va_S A s.heap H locs → W p l e { frames := 0, cells := 0, slots := 0, locals := 0 } s m args below meth c H locs 0 0 Q (F0 m pc ls [])) {ls : Array Slot} (hl : lv_has ls 5 [(0, .ref hWa), (1, .int x1), (2, .int x2), (3, .int x3)]) : W p l e { frames := 0, cells := 0, slots := 0, locals := 0 } s m args below meth c H locs 0 0 Q (F0 m 0 ls []) := by
  have hx := F.1
  have hb := F.2.1
  have hown := F.2.2.2.1
  have hts := F.2.2.2.2
  have hK := hG.1.1
  rw [f_X4_enter] at hf
  refine lv_iload_n hx hb dX4_enter_0 rfl (lv_at hl 1 rfl) ?_
  refine lv_iconst (v := (4 : Int32)) hx hb dX4_enter_1 (by decide) ?_
  refine lv_imul hx hb dX4_enter_2 ?_
  refine lv_iload_n hx hb dX4_enter_3 rfl (lv_at hl 2 rfl) ?_
  refine lv_iadd hx hb dX4_enter_4 ?_
  refine lv_istore (lv' := [(4, .int ((x1 * (4 : Int32)) + x2)), (0, .ref hWa), (1, .int x1), (2, .int x2), (3, .int x3)]) hx hb dX4_enter_5 hl (by decide) rfl (fun ls hl => ?_)
  refine lv_iload hx hb dX4_enter_7 (lv_at hl 0 rfl) ?_
  refine lv_if_lt (tgt := 38) hx hb dX4_enter_9 (by decide) (fun c5 => ?_) (fun c5 => ?_)
  · have hf := fp_t hf c5
    cases hf
    exact hret _ _ _ _ dX4_enter_38 hP hD hS
  · have hf := fp_f hf c5
    refine lv_iload hx hb dX4_enter_12 (lv_at hl 0 rfl) ?_
    refine lv_bipush (v := (80 : Int32)) hx hb dX4_enter_14 (by decide) ?_
    refine lv_icmp_ge (tgt := 38) hx hb dX4_enter_16 (by decide) (fun c6 => ?_) (fun c6 => ?_)
    · have hf := fp_t hf c6
      cases hf
      exact hret _ _ _ _ dX4_enter_38 hP hD hS
    · have hf := fp_f hf c6
      refine lv_aload_n hx hb dX4_enter_19 rfl (lv_at hl 1 rfl) ?_
      refine va_get (D := D) (ci := 4) (v := .int ww) (C := RX4) (T := TX4) (N := 5) hx hb hts ku_X4_enter_X4 hown hK hP 0 rfl rfl 3 (by decide) (hts _ kw_X4_enter_1) (fun _ h9 => h9) rfl dX4_enter_20 ?_
      refine lv_bipush (v := (80 : Int32)) hx hb dX4_enter_23 (by decide) ?_
      refine lv_icmp_ge (tgt := 38) hx hb dX4_enter_25 (by decide) (fun c7 => ?_) (fun c7 => ?_)
      · have hf := fp_t hf c7
        cases hf
        exact hret _ _ _ _ dX4_enter_38 hP hD hS
      · have hf := fp_f hf c7
        refine lv_aload_n hx hb dX4_enter_28 rfl (lv_at hl 1 rfl) ?_
        refine va_get (D := D) (ci := 4) (v := .ref hWt) (C := RX4) (T := TX4) (N := 5) hx hb hts ku_X4_enter_X4 hown hK hP 0 rfl rfl 1 (by decide) (hts _ kw_X4_enter_2) (fun _ h9 => h9) rfl dX4_enter_29 ?_
        refine lv_iload hx hb dX4_enter_32 (lv_at hl 0 rfl) ?_
        obtain ⟨k8, hf⟩ := fp_c hf
        refine va_iald hx hb hK hP 2 0 rfl rfl k8 dX4_enter_34 ?_
        refine lv_if_eq (tgt := 39) hx hb dX4_enter_35 (by decide) (fun c9 => ?_) (fun c9 => ?_)
        · have hf := fp_t hf c9
          refine lv_aload_n hx hb dX4_enter_39 rfl (lv_at hl 1 rfl) ?_
          refine va_get (D := D) (ci := 4) (v := .ref hWt) (C := RX4) (T := TX4) (N := 5) hx hb hts ku_X4_enter_X4 hown hK hP 0 rfl rfl 1 (by decide) (hts _ kw_X4_enter_2) (fun _ h9 => h9) rfl dX4_enter_40 ?_
          refine lv_iload hx hb dX4_enter_43 (lv_at hl 0 rfl) ?_
          refine lv_iload_n hx hb dX4_enter_45 rfl (lv_at hl 4 rfl) ?_
          refine va_iast hx hb hK hP hD hS 2 0 rfl rfl k8 dX4_enter_46 (fun H locs hP hD hS => ?_)
          have hP : va_P D vwCl [(hWa, .inr (4, [.ref hWq, .ref hWt, .ref hWp, .int ww, .int wl])), (hWq, .inl (cI, 80, .inl wq)), (hWt, .inl (cI, 80, .inl (upd wt (Int32.toNatClampNeg ((x1 * (4 : Int32)) + x2)) x3)))] H := hP
          have hD : va_D A [(hWa, .inr (4, [.ref hWq, .ref hWt, .ref hWp, .int ww, .int wl])), (hWq, .inl (cI, 80, .inl wq)), (hWt, .inl (cI, 80, .inl (upd wt (Int32.toNatClampNeg ((x1 * (4 : Int32)) + x2)) x3)))] := hD
          refine lv_aload_n hx hb dX4_enter_47 rfl (lv_at hl 1 rfl) ?_
          refine va_get (D := D) (ci := 4) (v := .ref hWq) (C := RX4) (T := TX4) (N := 5) hx hb hts ku_X4_enter_X4 hown hK hP 0 rfl rfl 0 (by decide) (hts _ kw_X4_enter_3) (fun _ h9 => h9) rfl dX4_enter_48 ?_
          refine lv_aload_n hx hb dX4_enter_51 rfl (lv_at hl 1 rfl) ?_
          refine va_get (D := D) (ci := 4) (v := .int ww) (C := RX4) (T := TX4) (N := 5) hx hb hts ku_X4_enter_X4 hown hK hP 0 rfl rfl 3 (by decide) (hts _ kw_X4_enter_1) (fun _ h9 => h9) rfl dX4_enter_52 ?_
          refine lv_iload hx hb dX4_enter_55 (lv_at hl 0 rfl) ?_
          obtain ⟨k10, hf⟩ := fp_c hf
          refine va_iast hx hb hK hP hD hS 1 0 rfl rfl k10 dX4_enter_57 (fun H locs hP hD hS => ?_)
          have hP : va_P D vwCl [(hWa, .inr (4, [.ref hWq, .ref hWt, .ref hWp, .int ww, .int wl])), (hWq, .inl (cI, 80, .inl (upd wq ww.toNatClampNeg ((x1 * (4 : Int32)) + x2)))), (hWt, .inl (cI, 80, .inl (upd wt (Int32.toNatClampNeg ((x1 * (4 : Int32)) + x2)) x3)))] H := hP
          have hD : va_D A [(hWa, .inr (4, [.ref hWq, .ref hWt, .ref hWp, .int ww, .int wl])), (hWq, .inl (cI, 80, .inl (upd wq ww.toNatClampNeg ((x1 * (4 : Int32)) + x2)))), (hWt, .inl (cI, 80, .inl (upd wt (Int32.toNatClampNeg ((x1 * (4 : Int32)) + x2)) x3)))] := hD
          refine lv_aload_n hx hb dX4_enter_58 rfl (lv_at hl 1 rfl) ?_
          refine lv_dup hx hb dX4_enter_59 rfl ?_
          refine va_get (D := D) (ci := 4) (v := .int ww) (C := RX4) (T := TX4) (N := 5) hx hb hts ku_X4_enter_X4 hown hK hP 0 rfl rfl 3 (by decide) (hts _ kw_X4_enter_1) (fun _ h9 => h9) rfl dX4_enter_60 ?_
          refine lv_iconst (v := (1 : Int32)) hx hb dX4_enter_63 (by decide) ?_
          refine lv_iadd hx hb dX4_enter_64 ?_
          refine va_put (D := D) (ci := 4) (v := .int (ww + (1 : Int32))) (ty := .int) (C := RX4) (T := TX4) (N := 5) hx hb hts ku_X4_enter_X4 tyX4 tyX4_ok nmX4 hown hK hP hD hS 0 rfl rfl 3 (by decide) (hts _ kw_X4_enter_1) (fun _ h9 => h9) rfl (by decide +kernel) rfl rfl (Nat.le_of_ble_eq_true rfl) dX4_enter_65 (fun H locs hP hD hS => ?_)
          have hP : va_P D vwCl [(hWa, .inr (4, [.ref hWq, .ref hWt, .ref hWp, .int (ww + (1 : Int32)), .int wl])), (hWq, .inl (cI, 80, .inl (upd wq ww.toNatClampNeg ((x1 * (4 : Int32)) + x2)))), (hWt, .inl (cI, 80, .inl (upd wt (Int32.toNatClampNeg ((x1 * (4 : Int32)) + x2)) x3)))] H := hP
          have hD : va_D A [(hWa, .inr (4, [.ref hWq, .ref hWt, .ref hWp, .int (ww + (1 : Int32)), .int wl])), (hWq, .inl (cI, 80, .inl (upd wq ww.toNatClampNeg ((x1 * (4 : Int32)) + x2)))), (hWt, .inl (cI, 80, .inl (upd wt (Int32.toNatClampNeg ((x1 * (4 : Int32)) + x2)) x3)))] := hD
          refine lv_aload_n hx hb dX4_enter_68 rfl (lv_at hl 1 rfl) ?_
          refine lv_dup hx hb dX4_enter_69 rfl ?_
          refine va_get (D := D) (ci := 4) (v := .int wl) (C := RX4) (T := TX4) (N := 5) hx hb hts ku_X4_enter_X4 hown hK hP 0 rfl rfl 4 (by decide) (hts _ kw_X4_enter_4) (fun _ h9 => h9) rfl dX4_enter_70 ?_
          refine lv_iconst (v := (1 : Int32)) hx hb dX4_enter_73 (by decide) ?_
          refine lv_iload_n hx hb dX4_enter_74 rfl (lv_at hl 2 rfl) ?_
          refine lv_ishl hx hb dX4_enter_75 ?_
          refine lv_ior hx hb dX4_enter_76 ?_
          refine va_put (D := D) (ci := 4) (v := .int (wl ||| ((1 : Int32) <<< (x1 &&& 31)))) (ty := .int) (C := RX4) (T := TX4) (N := 5) hx hb hts ku_X4_enter_X4 tyX4 tyX4_ok nmX4 hown hK hP hD hS 0 rfl rfl 4 (by decide) (hts _ kw_X4_enter_4) (fun _ h9 => h9) rfl (by decide +kernel) rfl rfl (Nat.le_of_ble_eq_true rfl) dX4_enter_77 (fun H locs hP hD hS => ?_)
          have hP : va_P D vwCl [(hWa, .inr (4, [.ref hWq, .ref hWt, .ref hWp, .int (ww + (1 : Int32)), .int (wl ||| ((1 : Int32) <<< (x1 &&& 31)))])), (hWq, .inl (cI, 80, .inl (upd wq ww.toNatClampNeg ((x1 * (4 : Int32)) + x2)))), (hWt, .inl (cI, 80, .inl (upd wt (Int32.toNatClampNeg ((x1 * (4 : Int32)) + x2)) x3)))] H := hP
          have hD : va_D A [(hWa, .inr (4, [.ref hWq, .ref hWt, .ref hWp, .int (ww + (1 : Int32)), .int (wl ||| ((1 : Int32) <<< (x1 &&& 31)))])), (hWq, .inl (cI, 80, .inl (upd wq ww.toNatClampNeg ((x1 * (4 : Int32)) + x2)))), (hWt, .inl (cI, 80, .inl (upd wt (Int32.toNatClampNeg ((x1 * (4 : Int32)) + x2)) x3)))] := hD
          cases hf
          exact hret _ _ _ _ dX4_enter_80 hP hD hS
        · have hf := fp_f hf c9
          cases hf
          exact hret _ _ _ _ dX4_enter_38 hP hD hS
set_option maxRecDepth 100000 in
theorem c_X4_enter {l : Launch} {D : va_G} {cI cJ cZ cQ : ClassId} {qs : Nat × Nat × Nat} {hWa hWq hWt hWp : Nat} {ww : Int32} {wl : Int32} {wq : Nat → Int32} {wt : Nat → Int32} {x1 : Int32} {x2 : Int32} {x3 : Int32} {out : Int32 × Int32 × (Nat → Int32) × (Nat → Int32)} (hf : f_X4_enter ww wl wq wt x1 x2 x3 = some out) : RwV l yX4_enter wsX4_enter { frames := 0, cells := 0, slots := 0, locals := 0 } D (ty4 cI cJ cZ cQ) qs [.ref hWa, .int x1, .int x2, .int x3] [(hWa, .inr (4, [.ref hWq, .ref hWt, .ref hWp, .int ww, .int wl])), (hWq, .inl (cI, 80, .inl wq)), (hWt, .inl (cI, 80, .inl wt))] [(hWa, .inr (4, [.ref hWq, .ref hWt, .ref hWp, .int out.1, .int out.2.1])), (hWq, .inl (cI, 80, .inl out.2.2.1)), (hWt, .inl (cI, 80, .inl out.2.2.2))] :=
  RwV.of (own := RX4) (by decide +kernel) rfl rfl (Nat.le_of_ble_eq_true rfl) (fun F hG hA hP hD hS hret ls hl => b_X4_enter F hG hA hP hD hS hf hret hl)
-- method X4_reach
theorem yd_X4_reach : yX4_reach.cls = RX4 ∧ yX4_reach.cls ≠ "java/lang/invoke/MethodHandle" ∧ yX4_reach.cls ≠ "java/lang/invoke/VarHandle" ∧ (parseMethodDescriptor yX4_reach.desc).map (fun d => d.parameters.length) = some 2 := by decide +kernel
theorem ku_X4_reach_X4 : ∀ w ∈ u_ws RX4 TX4 5, w ∈ wsX4_reach := by decide +kernel
theorem kw_X4_reach_1 : Cond.fieldLink RX4 18 "MirrorShares$Walk" "cellsToPort" "[I" ∈ wsX4_reach := List.mem_of_getElem? (i := 1) rfl
def f_X4_reach (wp : Nat → Int32) (x1 : Int32) (x2 : Int32) : Option ((Nat → Int32)) :=
  (if x1 < 0 then some wp else (if (18 : Int32) ≤ x1 then some wp else chk (aix x1 18) ((if (wp x1.toNatClampNeg) = 0 then some (upd wp x1.toNatClampNeg x2) else some wp))))
set_option maxHeartbeats 4000000 in
set_option maxRecDepth 100000 in
theorem b_X4_reach {p : Program} {l : Launch} {e : Env} {s : State} {m : MethodId} {args : Array Value} {below : List Frame} {meth : Method} {c : Code} {Q : State → Prop} {A : Nat → Prop} {H : Heap} {locs : List Loc} {D : va_G} {cI cJ cZ cQ : ClassId} {qs : Nat × Nat × Nat} {hWa hWq hWt hWp : Nat} {ww : Int32} {wl : Int32} {wp : Nat → Int32} {x1 : Int32} {x2 : Int32} {out : (Nat → Int32)} (F : CallFix p m c cX4_reach 3 s args wsX4_reach RX4) (hG : kW D (ty4 cI cJ cZ cQ) qs A s s.heap) (hA : ∀ q : Nat, s.heap.size ≤ q → A q) (hP : va_P D vwCl [(hWa, .inr (4, [.ref hWq, .ref hWt, .ref hWp, .int ww, .int wl])), (hWp, .inl (cI, 18, .inl wp))] H) (hD : va_D A [(hWa, .inr (4, [.ref hWq, .ref hWt, .ref hWp, .int ww, .int wl])), (hWp, .inl (cI, 18, .inl wp))]) (hS : va_S A s.heap H locs) (hf : f_X4_reach wp x1 x2 = some out) (hret : ∀ (pc : Nat) (H : Heap) (locs : List Loc) (ls : Array Slot), decode cX4_reach pc = .ok (.return_, 1) → va_P D vwCl [(hWa, .inr (4, [.ref hWq, .ref hWt, .ref hWp, .int ww, .int wl])), (hWp, .inl (cI, 18, .inl out))] H → va_D A [(hWa, .inr (4, [.ref hWq, .ref hWt, .ref hWp, .int ww, .int wl])), (hWp, .inl (cI, 18, .inl out))] → va_S A s.heap H locs → W p l e { frames := 0, cells := 0, slots := 0, locals := 0 } s m args below meth c H locs 0 0 Q (F0 m pc ls [])) {ls : Array Slot} (hl : lv_has ls 3 [(0, .ref hWa), (1, .int x1), (2, .int x2)]) : W p l e { frames := 0, cells := 0, slots := 0, locals := 0 } s m args below meth c H locs 0 0 Q (F0 m 0 ls []) := by
  have hx := F.1
  have hb := F.2.1
  have hown := F.2.2.2.1
  have hts := F.2.2.2.2
  have hK := hG.1.1
  rw [f_X4_reach] at hf
  refine lv_iload_n hx hb dX4_reach_0 rfl (lv_at hl 1 rfl) ?_
  refine lv_if_lt (tgt := 26) hx hb dX4_reach_1 (by decide) (fun c11 => ?_) (fun c11 => ?_)
  · have hf := fp_t hf c11
    cases hf
    exact hret _ _ _ _ dX4_reach_26 hP hD hS
  · have hf := fp_f hf c11
    refine lv_iload_n hx hb dX4_reach_4 rfl (lv_at hl 1 rfl) ?_
    refine lv_bipush (v := (18 : Int32)) hx hb dX4_reach_5 (by decide) ?_
    refine lv_icmp_ge (tgt := 26) hx hb dX4_reach_7 (by decide) (fun c12 => ?_) (fun c12 => ?_)
    · have hf := fp_t hf c12
      cases hf
      exact hret _ _ _ _ dX4_reach_26 hP hD hS
    · have hf := fp_f hf c12
      refine lv_aload_n hx hb dX4_reach_10 rfl (lv_at hl 0 rfl) ?_
      refine va_get (D := D) (ci := 4) (v := .ref hWp) (C := RX4) (T := TX4) (N := 5) hx hb hts ku_X4_reach_X4 hown hK hP 0 rfl rfl 2 (by decide) (hts _ kw_X4_reach_1) (fun _ h9 => h9) rfl dX4_reach_11 ?_
      refine lv_iload_n hx hb dX4_reach_14 rfl (lv_at hl 1 rfl) ?_
      obtain ⟨k13, hf⟩ := fp_c hf
      refine va_iald hx hb hK hP 1 0 rfl rfl k13 dX4_reach_15 ?_
      refine lv_if_ne (tgt := 26) hx hb dX4_reach_16 (by decide) (fun c14 => ?_) (fun c14 => ?_)
      · have hf := fp_f hf c14
        cases hf
        exact hret _ _ _ _ dX4_reach_26 hP hD hS
      · have hf := fp_t hf c14
        refine lv_aload_n hx hb dX4_reach_19 rfl (lv_at hl 0 rfl) ?_
        refine va_get (D := D) (ci := 4) (v := .ref hWp) (C := RX4) (T := TX4) (N := 5) hx hb hts ku_X4_reach_X4 hown hK hP 0 rfl rfl 2 (by decide) (hts _ kw_X4_reach_1) (fun _ h9 => h9) rfl dX4_reach_20 ?_
        refine lv_iload_n hx hb dX4_reach_23 rfl (lv_at hl 1 rfl) ?_
        refine lv_iload_n hx hb dX4_reach_24 rfl (lv_at hl 2 rfl) ?_
        refine va_iast hx hb hK hP hD hS 1 0 rfl rfl k13 dX4_reach_25 (fun H locs hP hD hS => ?_)
        have hP : va_P D vwCl [(hWa, .inr (4, [.ref hWq, .ref hWt, .ref hWp, .int ww, .int wl])), (hWp, .inl (cI, 18, .inl (upd wp x1.toNatClampNeg x2)))] H := hP
        have hD : va_D A [(hWa, .inr (4, [.ref hWq, .ref hWt, .ref hWp, .int ww, .int wl])), (hWp, .inl (cI, 18, .inl (upd wp x1.toNatClampNeg x2)))] := hD
        cases hf
        exact hret _ _ _ _ dX4_reach_26 hP hD hS
set_option maxRecDepth 100000 in
theorem c_X4_reach {l : Launch} {D : va_G} {cI cJ cZ cQ : ClassId} {qs : Nat × Nat × Nat} {hWa hWq hWt hWp : Nat} {ww : Int32} {wl : Int32} {wp : Nat → Int32} {x1 : Int32} {x2 : Int32} {out : (Nat → Int32)} (hf : f_X4_reach wp x1 x2 = some out) : RwV l yX4_reach wsX4_reach { frames := 0, cells := 0, slots := 0, locals := 0 } D (ty4 cI cJ cZ cQ) qs [.ref hWa, .int x1, .int x2] [(hWa, .inr (4, [.ref hWq, .ref hWt, .ref hWp, .int ww, .int wl])), (hWp, .inl (cI, 18, .inl wp))] [(hWa, .inr (4, [.ref hWq, .ref hWt, .ref hWp, .int ww, .int wl])), (hWp, .inl (cI, 18, .inl out))] :=
  RwV.of (own := RX4) (by decide +kernel) rfl rfl (Nat.le_of_ble_eq_true rfl) (fun F hG hA hP hD hS hret ls hl => b_X4_reach F hG hA hP hD hS hf hret hl)
-- method X4_leave
theorem yd_X4_leave : yX4_leave.cls = RX4 ∧ yX4_leave.cls ≠ "java/lang/invoke/MethodHandle" ∧ yX4_leave.cls ≠ "java/lang/invoke/VarHandle" ∧ (parseMethodDescriptor yX4_leave.desc).map (fun d => d.parameters.length) = some 4 := by decide +kernel
def f_X4_leave (coO : Int32) (roO : Int32) (ww : Int32) (wl : Int32) (wq : Nat → Int32) (wt : Nat → Int32) (wp : Nat → Int32) (x2 : Int32) (x3 : Int32) (x4 : Int32) : Option (Int32 × Int32 × (Nat → Int32) × (Nat → Int32) × (Nat → Int32)) :=
  Option.bind (f_X2_beyond coO roO x2 x3) (fun r15 => (if r15 < 0 then Option.bind (f_X4_reach wp (r15 ^^^ (-1 : Int32)) x4) (fun r17 => some (ww, wl, wq, wt, r17)) else Option.bind (f_X4_enter ww wl wq wt r15 x3 (x4 + (1 : Int32))) (fun r18 => some (r18.1, r18.2.1, r18.2.2.1, r18.2.2.2, wp))))
set_option maxHeartbeats 4000000 in
set_option maxRecDepth 100000 in
theorem b_X4_leave {p : Program} {l : Launch} {e : Env} {s : State} {m : MethodId} {args : Array Value} {below : List Frame} {meth : Method} {c : Code} {Q : State → Prop} {A : Nat → Prop} {H : Heap} {locs : List Loc} {D : va_G} {cI cJ cZ cQ : ClassId} {qs : Nat × Nat × Nat} {hWa hWq hWt hWp hRmO hKdO : Nat} {coO : Int32} {roO : Int32} {ww : Int32} {wl : Int32} {wq : Nat → Int32} {wt : Nat → Int32} {wp : Nat → Int32} {x2 : Int32} {x3 : Int32} {x4 : Int32} {out : Int32 × Int32 × (Nat → Int32) × (Nat → Int32) × (Nat → Int32)} (F : CallFix p m c cX4_leave 6 s args wsX4_leave RX4) (hG : kW D (ty4 cI cJ cZ cQ) qs A s s.heap) (hA : ∀ q : Nat, s.heap.size ≤ q → A q) (hP : va_P D vwCl [(hWa, .inr (4, [.ref hWq, .ref hWt, .ref hWp, .int ww, .int wl])), (hRmO, .inr (2, [.ref hKdO, .int coO, .int roO])), (hWq, .inl (cI, 80, .inl wq)), (hWt, .inl (cI, 80, .inl wt)), (hWp, .inl (cI, 18, .inl wp))] H) (hD : va_D A [(hWa, .inr (4, [.ref hWq, .ref hWt, .ref hWp, .int ww, .int wl])), (hRmO, .inr (2, [.ref hKdO, .int coO, .int roO])), (hWq, .inl (cI, 80, .inl wq)), (hWt, .inl (cI, 80, .inl wt)), (hWp, .inl (cI, 18, .inl wp))]) (hS : va_S A s.heap H locs) (hf : f_X4_leave coO roO ww wl wq wt wp x2 x3 x4 = some out) (hret : ∀ (pc : Nat) (H : Heap) (locs : List Loc) (ls : Array Slot), decode cX4_leave pc = .ok (.return_, 1) → va_P D vwCl [(hWa, .inr (4, [.ref hWq, .ref hWt, .ref hWp, .int out.1, .int out.2.1])), (hRmO, .inr (2, [.ref hKdO, .int coO, .int roO])), (hWq, .inl (cI, 80, .inl out.2.2.1)), (hWt, .inl (cI, 80, .inl out.2.2.2.1)), (hWp, .inl (cI, 18, .inl out.2.2.2.2))] H → va_D A [(hWa, .inr (4, [.ref hWq, .ref hWt, .ref hWp, .int out.1, .int out.2.1])), (hRmO, .inr (2, [.ref hKdO, .int coO, .int roO])), (hWq, .inl (cI, 80, .inl out.2.2.1)), (hWt, .inl (cI, 80, .inl out.2.2.2.1)), (hWp, .inl (cI, 18, .inl out.2.2.2.2))] → va_S A s.heap H locs → W p l e { frames := 1, cells := 0, slots := 0, locals := 24 } s m args below meth c H locs 0 0 Q (F0 m pc ls [])) {ls : Array Slot} (hl : lv_has ls 6 [(0, .ref hWa), (1, .ref hRmO), (2, .int x2), (3, .int x3), (4, .int x4)]) : W p l e { frames := 1, cells := 0, slots := 0, locals := 24 } s m args below meth c H locs 0 0 Q (F0 m 0 ls []) := by
  have hx := F.1
  have hb := F.2.1
  have hown := F.2.2.2.1
  have hts := F.2.2.2.2
  have hK := hG.1.1
  rw [f_X4_leave] at hf
  refine lv_aload_n hx hb dX4_leave_0 rfl (lv_at hl 1 rfl) ?_
  refine lv_iload_n hx hb dX4_leave_1 rfl (lv_at hl 2 rfl) ?_
  refine lv_iload_n hx hb dX4_leave_2 rfl (lv_at hl 3 rfl) ?_
  obtain ⟨r15, er15, hf⟩ := fp_b hf
  refine RoI.callV (c_X2_beyond (l := l) (D := D) (cI := cI) (cJ := cJ) (cZ := cZ) (cQ := cQ) (qs := qs) er15) F (cwV 2 hts gX4_leave_X2_beyond rfl rfl rfl yd_X2_beyond ⟨Nat.le_of_ble_eq_true rfl, Nat.le_of_ble_eq_true rfl⟩) (hG.r hS) hP [1] rfl 2 rfl rfl rfl hl.1 rfl (Nat.le_of_ble_eq_true rfl) dX4_leave_3 ⟨Nat.zero_le _, Nat.zero_le _⟩ ?_
  refine lv_istore (lv' := [(5, .int r15), (0, .ref hWa), (1, .ref hRmO), (2, .int x2), (3, .int x3), (4, .int x4)]) hx hb dX4_leave_6 hl (by decide) rfl (fun ls hl => ?_)
  refine lv_iload hx hb dX4_leave_8 (lv_at hl 0 rfl) ?_
  refine lv_if_lt (tgt := 27) hx hb dX4_leave_10 (by decide) (fun c16 => ?_) (fun c16 => ?_)
  · have hf := fp_t hf c16
    refine lv_aload_n hx hb dX4_leave_27 rfl (lv_at hl 1 rfl) ?_
    refine lv_iload hx hb dX4_leave_28 (lv_at hl 0 rfl) ?_
    refine lv_iconst (v := (-1 : Int32)) hx hb dX4_leave_30 (by decide) ?_
    refine lv_ixor hx hb dX4_leave_31 ?_
    refine lv_iload hx hb dX4_leave_32 (lv_at hl 5 rfl) ?_
    obtain ⟨r17, er17, hf⟩ := fp_b hf
    refine kc_rwV (w2 := [(hWa, .inr (4, [.ref hWq, .ref hWt, .ref hWp, .int ww, .int wl])), (hRmO, .inr (2, [.ref hKdO, .int coO, .int roO])), (hWq, .inl (cI, 80, .inl wq)), (hWt, .inl (cI, 80, .inl wt)), (hWp, .inl (cI, 18, .inl r17))]) (RwV.runV (c_X4_reach (l := l) (D := D) (cI := cI) (cJ := cJ) (cZ := cZ) (cQ := cQ) (qs := qs) er17) F (cwV 2 hts gX4_leave_X4_reach rfl rfl rfl yd_X4_reach ⟨Nat.le_of_ble_eq_true rfl, Nat.le_of_ble_eq_true rfl⟩) hG hP hD hS hA [0, 4] (by decide) rfl 4 rfl rfl rfl hl.1 rfl (Nat.le_of_ble_eq_true rfl) dX4_leave_34 ⟨Nat.zero_le _, Nat.zero_le _⟩) hP hD hS hA [0, 4] [1, 2, 3] [3, 0, 1, 2, 4] rfl (wr := [(hRmO, .inr (2, [.ref hKdO, .int coO, .int roO])), (hWq, .inl (cI, 80, .inl wq)), (hWt, .inl (cI, 80, .inl wt))]) rfl (by decide) (by decide) rfl (by decide) (fun H locs hP hD hS => ?_)
    cases hf
    exact hret _ _ _ _ dX4_leave_37 hP hD hS
  · have hf := fp_f hf c16
    refine lv_aload_n hx hb dX4_leave_13 rfl (lv_at hl 1 rfl) ?_
    refine lv_iload hx hb dX4_leave_14 (lv_at hl 0 rfl) ?_
    refine lv_iload_n hx hb dX4_leave_16 rfl (lv_at hl 4 rfl) ?_
    refine lv_iload hx hb dX4_leave_17 (lv_at hl 5 rfl) ?_
    refine lv_iconst (v := (1 : Int32)) hx hb dX4_leave_19 (by decide) ?_
    refine lv_iadd hx hb dX4_leave_20 ?_
    obtain ⟨r18, er18, hf⟩ := fp_b hf
    refine kc_rwV (w2 := [(hWa, .inr (4, [.ref hWq, .ref hWt, .ref hWp, .int r18.1, .int r18.2.1])), (hRmO, .inr (2, [.ref hKdO, .int coO, .int roO])), (hWq, .inl (cI, 80, .inl r18.2.2.1)), (hWt, .inl (cI, 80, .inl r18.2.2.2)), (hWp, .inl (cI, 18, .inl wp))]) (RwV.runV (c_X4_enter (l := l) (D := D) (cI := cI) (cJ := cJ) (cZ := cZ) (cQ := cQ) (qs := qs) er18) F (cwV 3 hts gX4_leave_X4_enter rfl rfl rfl yd_X4_enter ⟨Nat.le_of_ble_eq_true rfl, Nat.le_of_ble_eq_true rfl⟩) hG hP hD hS hA [0, 2, 3] (by decide) rfl 4 rfl rfl rfl hl.1 rfl (Nat.le_of_ble_eq_true rfl) dX4_leave_21 ⟨Nat.zero_le _, Nat.zero_le _⟩) hP hD hS hA [0, 2, 3] [1, 4] [2, 0, 3, 4, 1] rfl (wr := [(hRmO, .inr (2, [.ref hKdO, .int coO, .int roO])), (hWp, .inl (cI, 18, .inl wp))]) rfl (by decide) (by decide) rfl (by decide) (fun H locs hP hD hS => ?_)
    refine lv_goto (tgt := 37) hx hb dX4_leave_24 (by decide) ?_
    cases hf
    exact hret _ _ _ _ dX4_leave_37 hP hD hS
set_option maxRecDepth 100000 in
theorem c_X4_leave {l : Launch} {D : va_G} {cI cJ cZ cQ : ClassId} {qs : Nat × Nat × Nat} {hWa hWq hWt hWp hRmO hKdO : Nat} {coO : Int32} {roO : Int32} {ww : Int32} {wl : Int32} {wq : Nat → Int32} {wt : Nat → Int32} {wp : Nat → Int32} {x2 : Int32} {x3 : Int32} {x4 : Int32} {out : Int32 × Int32 × (Nat → Int32) × (Nat → Int32) × (Nat → Int32)} (hf : f_X4_leave coO roO ww wl wq wt wp x2 x3 x4 = some out) : RwV l yX4_leave wsX4_leave { frames := 1, cells := 0, slots := 0, locals := 24 } D (ty4 cI cJ cZ cQ) qs [.ref hWa, .ref hRmO, .int x2, .int x3, .int x4] [(hWa, .inr (4, [.ref hWq, .ref hWt, .ref hWp, .int ww, .int wl])), (hRmO, .inr (2, [.ref hKdO, .int coO, .int roO])), (hWq, .inl (cI, 80, .inl wq)), (hWt, .inl (cI, 80, .inl wt)), (hWp, .inl (cI, 18, .inl wp))] [(hWa, .inr (4, [.ref hWq, .ref hWt, .ref hWp, .int out.1, .int out.2.1])), (hRmO, .inr (2, [.ref hKdO, .int coO, .int roO])), (hWq, .inl (cI, 80, .inl out.2.2.1)), (hWt, .inl (cI, 80, .inl out.2.2.2.1)), (hWp, .inl (cI, 18, .inl out.2.2.2.2))] :=
  RwV.of (own := RX4) (by decide +kernel) rfl rfl (Nat.le_of_ble_eq_true rfl) (fun F hG hA hP hD hS hret ls hl => b_X4_leave F hG hA hP hD hS hf hret hl)
-- method X4_spread
theorem yd_X4_spread : yX4_spread.cls = RX4 ∧ yX4_spread.cls ≠ "java/lang/invoke/MethodHandle" ∧ yX4_spread.cls ≠ "java/lang/invoke/VarHandle" ∧ (parseMethodDescriptor yX4_spread.desc).map (fun d => d.parameters.length) = some 3 := by decide +kernel
theorem kw_X4_spread_15 : Cond.initialized RX5 ∈ wsX4_spread := List.mem_of_getElem? (i := 15) rfl
theorem kw_X4_spread_14 : Cond.static yX5_letsOn ∈ wsX4_spread := List.mem_of_getElem? (i := 14) rfl
theorem kw_X4_spread_41 : Cond.static yX5_turnsBeam ∈ wsX4_spread := List.mem_of_getElem? (i := 41) rfl
theorem kw_X4_spread_43 : Cond.static yX5_turnedBy ∈ wsX4_spread := List.mem_of_getElem? (i := 43) rfl
theorem ku_X4_spread_X4 : ∀ w ∈ u_ws RX4 TX4 5, w ∈ wsX4_spread := by decide +kernel
theorem kw_X4_spread_1 : Cond.fieldLink RX4 15 "MirrorShares$Walk" "cellsTo" "[I" ∈ wsX4_spread := List.mem_of_getElem? (i := 1) rfl
def f_X4_spread (coO : Int32) (roO : Int32) (kdO : Nat → Int32) (ww : Int32) (wl : Int32) (wq : Nat → Int32) (wt : Nat → Int32) (wp : Nat → Int32) (x2 : Int32) (x3 : Int32) : Option (Int32 × Int32 × (Nat → Int32) × (Nat → Int32) × (Nat → Int32)) :=
  Option.bind (f_X2_kindAt coO roO kdO x2) (fun r19 => Option.bind (if ((x2 * (4 : Int32)) + x3) < 0 then some (0 : Int32) else (if (80 : Int32) ≤ ((x2 * (4 : Int32)) + x3) then some (0 : Int32) else chk (aix ((x2 * (4 : Int32)) + x3) 80) (some (wt (Int32.toNatClampNeg ((x2 * (4 : Int32)) + x3)))))) (fun j20 => Option.bind (f_X5_letsOn r19) (fun r22 => Option.bind (if r22 = 0 then some (ww, wl, wq, wt, wp) else Option.bind (f_X4_leave coO roO ww wl wq wt wp x2 x3 j20) (fun r30 => some (r30.1, r30.2.1, r30.2.2.1, r30.2.2.2.1, r30.2.2.2.2))) (fun j23 => Option.bind (f_X5_turnsBeam r19) (fun r25 => (if r25 = 0 then some (j23.1, j23.2.1, j23.2.2.1, j23.2.2.2.1, j23.2.2.2.2) else Option.bind (f_X5_turnedBy r19 x3) (fun r27 => Option.bind (f_X4_leave coO roO j23.1 j23.2.1 j23.2.2.1 j23.2.2.2.1 j23.2.2.2.2 x2 r27 j20) (fun r28 => some (r28.1, r28.2.1, r28.2.2.1, r28.2.2.2.1, r28.2.2.2.2)))))))))
set_option maxHeartbeats 4000000 in
set_option maxRecDepth 100000 in
theorem b_X4_spread {p : Program} {l : Launch} {e : Env} {s : State} {m : MethodId} {args : Array Value} {below : List Frame} {meth : Method} {c : Code} {Q : State → Prop} {A : Nat → Prop} {H : Heap} {locs : List Loc} {D : va_G} {cI cJ cZ cQ : ClassId} {qs : Nat × Nat × Nat} {hWa hWq hWt hWp hRmO hKdO : Nat} {coO : Int32} {roO : Int32} {kdO : Nat → Int32} {ww : Int32} {wl : Int32} {wq : Nat → Int32} {wt : Nat → Int32} {wp : Nat → Int32} {x2 : Int32} {x3 : Int32} {out : Int32 × Int32 × (Nat → Int32) × (Nat → Int32) × (Nat → Int32)} (F : CallFix p m c cX4_spread 7 s args wsX4_spread RX4) (hG : kW D (ty4 cI cJ cZ cQ) qs A s s.heap) (hA : ∀ q : Nat, s.heap.size ≤ q → A q) (hP : va_P D vwCl [(hWa, .inr (4, [.ref hWq, .ref hWt, .ref hWp, .int ww, .int wl])), (hRmO, .inr (2, [.ref hKdO, .int coO, .int roO])), (hKdO, .inl (cI, 20, .inl kdO)), (hWq, .inl (cI, 80, .inl wq)), (hWt, .inl (cI, 80, .inl wt)), (hWp, .inl (cI, 18, .inl wp))] H) (hD : va_D A [(hWa, .inr (4, [.ref hWq, .ref hWt, .ref hWp, .int ww, .int wl])), (hRmO, .inr (2, [.ref hKdO, .int coO, .int roO])), (hKdO, .inl (cI, 20, .inl kdO)), (hWq, .inl (cI, 80, .inl wq)), (hWt, .inl (cI, 80, .inl wt)), (hWp, .inl (cI, 18, .inl wp))]) (hS : va_S A s.heap H locs) (hf : f_X4_spread coO roO kdO ww wl wq wt wp x2 x3 = some out) (hret : ∀ (pc : Nat) (H : Heap) (locs : List Loc) (ls : Array Slot), decode cX4_spread pc = .ok (.return_, 1) → va_P D vwCl [(hWa, .inr (4, [.ref hWq, .ref hWt, .ref hWp, .int out.1, .int out.2.1])), (hRmO, .inr (2, [.ref hKdO, .int coO, .int roO])), (hKdO, .inl (cI, 20, .inl kdO)), (hWq, .inl (cI, 80, .inl out.2.2.1)), (hWt, .inl (cI, 80, .inl out.2.2.2.1)), (hWp, .inl (cI, 18, .inl out.2.2.2.2))] H → va_D A [(hWa, .inr (4, [.ref hWq, .ref hWt, .ref hWp, .int out.1, .int out.2.1])), (hRmO, .inr (2, [.ref hKdO, .int coO, .int roO])), (hKdO, .inl (cI, 20, .inl kdO)), (hWq, .inl (cI, 80, .inl out.2.2.1)), (hWt, .inl (cI, 80, .inl out.2.2.2.1)), (hWp, .inl (cI, 18, .inl out.2.2.2.2))] → va_S A s.heap H locs → W p l e { frames := 2, cells := 0, slots := 0, locals := 49 } s m args below meth c H locs 0 0 Q (F0 m pc ls [])) {ls : Array Slot} (hl : lv_has ls 7 [(0, .ref hWa), (1, .ref hRmO), (2, .int x2), (3, .int x3)]) : W p l e { frames := 2, cells := 0, slots := 0, locals := 49 } s m args below meth c H locs 0 0 Q (F0 m 0 ls []) := by
  have hx := F.1
  have hb := F.2.1
  have hown := F.2.2.2.1
  have hts := F.2.2.2.2
  have hK := hG.1.1
  rw [f_X4_spread] at hf
  refine lv_aload_n hx hb dX4_spread_0 rfl (lv_at hl 1 rfl) ?_
  refine lv_iload_n hx hb dX4_spread_1 rfl (lv_at hl 2 rfl) ?_
  obtain ⟨r19, er19, hf⟩ := fp_b hf
  refine RoI.callV (c_X2_kindAt (l := l) (D := D) (cI := cI) (cJ := cJ) (cZ := cZ) (cQ := cQ) (qs := qs) er19) F (cwV 1 hts gX4_spread_X2_kindAt rfl rfl rfl yd_X2_kindAt ⟨Nat.le_of_ble_eq_true rfl, Nat.le_of_ble_eq_true rfl⟩) (hG.r hS) hP [1, 2] rfl 2 rfl rfl rfl hl.1 rfl (Nat.le_of_ble_eq_true rfl) dX4_spread_2 ⟨Nat.zero_le _, Nat.zero_le _⟩ ?_
  refine lv_istore (lv' := [(4, .int r19), (0, .ref hWa), (1, .ref hRmO), (2, .int x2), (3, .int x3)]) hx hb dX4_spread_5 hl (by decide) rfl (fun ls hl => ?_)
  refine lv_iload_n hx hb dX4_spread_7 rfl (lv_at hl 3 rfl) ?_
  refine lv_iconst (v := (4 : Int32)) hx hb dX4_spread_8 (by decide) ?_
  refine lv_imul hx hb dX4_spread_9 ?_
  refine lv_iload_n hx hb dX4_spread_10 rfl (lv_at hl 4 rfl) ?_
  refine lv_iadd hx hb dX4_spread_11 ?_
  refine lv_istore (lv' := [(5, .int ((x2 * (4 : Int32)) + x3)), (4, .int r19), (0, .ref hWa), (1, .ref hRmO), (2, .int x2), (3, .int x3)]) hx hb dX4_spread_12 hl (by decide) rfl (fun ls hl => ?_)
  refine lv_iload hx hb dX4_spread_14 (lv_at hl 0 rfl) ?_
  obtain ⟨j20, ej20, hf⟩ := fp_b hf
  have hj21 : ∀ (H : Heap) (locs : List Loc) (ls : Array Slot), va_P D vwCl [(hWa, .inr (4, [.ref hWq, .ref hWt, .ref hWp, .int ww, .int wl])), (hRmO, .inr (2, [.ref hKdO, .int coO, .int roO])), (hKdO, .inl (cI, 20, .inl kdO)), (hWq, .inl (cI, 80, .inl wq)), (hWt, .inl (cI, 80, .inl wt)), (hWp, .inl (cI, 18, .inl wp))] H → va_D A [(hWa, .inr (4, [.ref hWq, .ref hWt, .ref hWp, .int ww, .int wl])), (hRmO, .inr (2, [.ref hKdO, .int coO, .int roO])), (hKdO, .inl (cI, 20, .inl kdO)), (hWq, .inl (cI, 80, .inl wq)), (hWt, .inl (cI, 80, .inl wt)), (hWp, .inl (cI, 18, .inl wp))] → va_S A s.heap H locs → lv_has ls 7 [(0, .ref hWa), (1, .ref hRmO), (2, .int x2), (3, .int x3), (4, .int r19)] → W p l e { frames := 2, cells := 0, slots := 0, locals := 49 } s m args below meth c H locs 0 0 Q (F0 m 37 ls [.int j20]) := by
    intro H locs ls hP hD hS hl
    refine lv_istore (lv' := [(6, .int j20), (0, .ref hWa), (1, .ref hRmO), (2, .int x2), (3, .int x3), (4, .int r19)]) hx hb dX4_spread_37 hl (by decide) rfl (fun ls hl => ?_)
    refine lv_iload hx hb dX4_spread_39 (lv_at hl 5 rfl) ?_
    obtain ⟨r22, er22, hf⟩ := fp_b hf
    refine RoI.callN (c_X5_letsOn (l := l) (D := D) (cI := cI) (cJ := cJ) (cZ := cZ) (cQ := cQ) (qs := qs) er22) F ⟨va_cnB 1 hts gX4_spread_X5_letsOn_n54 rfl rfl rfl (nwm_8 hG.1) (hts _ kw_X4_spread_15) yd_X5_letsOn ⟨Nat.le_of_ble_eq_true rfl, Nat.le_of_ble_eq_true rfl⟩, hts _ kw_X4_spread_14, trivial⟩ (hG.r hS) hP [] rfl rfl hl.1 rfl (Nat.le_of_ble_eq_true rfl) dX4_spread_41 ⟨Nat.zero_le _, Nat.zero_le _⟩ ?_
    obtain ⟨j23, ej23, hf⟩ := fp_b hf
    have hj24 : ∀ (H : Heap) (locs : List Loc) (ls : Array Slot), va_P D vwCl [(hWa, .inr (4, [.ref hWq, .ref hWt, .ref hWp, .int j23.1, .int j23.2.1])), (hRmO, .inr (2, [.ref hKdO, .int coO, .int roO])), (hKdO, .inl (cI, 20, .inl kdO)), (hWq, .inl (cI, 80, .inl j23.2.2.1)), (hWt, .inl (cI, 80, .inl j23.2.2.2.1)), (hWp, .inl (cI, 18, .inl j23.2.2.2.2))] H → va_D A [(hWa, .inr (4, [.ref hWq, .ref hWt, .ref hWp, .int j23.1, .int j23.2.1])), (hRmO, .inr (2, [.ref hKdO, .int coO, .int roO])), (hKdO, .inl (cI, 20, .inl kdO)), (hWq, .inl (cI, 80, .inl j23.2.2.1)), (hWt, .inl (cI, 80, .inl j23.2.2.2.1)), (hWp, .inl (cI, 18, .inl j23.2.2.2.2))] → va_S A s.heap H locs → lv_has ls 7 [(0, .ref hWa), (1, .ref hRmO), (2, .int x2), (3, .int x3), (4, .int r19), (6, .int j20)] → W p l e { frames := 2, cells := 0, slots := 0, locals := 49 } s m args below meth c H locs 0 0 Q (F0 m 56 ls []) := by
      intro H locs ls hP hD hS hl
      refine lv_iload hx hb dX4_spread_56 (lv_at hl 4 rfl) ?_
      obtain ⟨r25, er25, hf⟩ := fp_b hf
      refine RoI.callN (c_X5_turnsBeam (l := l) (D := D) (cI := cI) (cJ := cJ) (cZ := cZ) (cQ := cQ) (qs := qs) er25) F ⟨va_cnB 1 hts gX4_spread_X5_turnsBeam_n62 rfl rfl rfl (nwm_9 hG.1) (hts _ kw_X4_spread_15) yd_X5_turnsBeam ⟨Nat.le_of_ble_eq_true rfl, Nat.le_of_ble_eq_true rfl⟩, hts _ kw_X4_spread_41, trivial⟩ (hG.r hS) hP [] rfl rfl hl.1 rfl (Nat.le_of_ble_eq_true rfl) dX4_spread_58 ⟨Nat.zero_le _, Nat.zero_le _⟩ ?_
      refine lv_if_eq (tgt := 78) hx hb dX4_spread_61 (by decide) (fun c26 => ?_) (fun c26 => ?_)
      · have hf := fp_t hf c26
        cases hf
        exact hret _ _ _ _ dX4_spread_78 hP hD hS
      · have hf := fp_f hf c26
        refine lv_aload_n hx hb dX4_spread_64 rfl (lv_at hl 0 rfl) ?_
        refine lv_aload_n hx hb dX4_spread_65 rfl (lv_at hl 1 rfl) ?_
        refine lv_iload_n hx hb dX4_spread_66 rfl (lv_at hl 2 rfl) ?_
        refine lv_iload hx hb dX4_spread_67 (lv_at hl 4 rfl) ?_
        refine lv_iload_n hx hb dX4_spread_69 rfl (lv_at hl 3 rfl) ?_
        obtain ⟨r27, er27, hf⟩ := fp_b hf
        refine RoI.callN (c_X5_turnedBy (l := l) (D := D) (cI := cI) (cJ := cJ) (cZ := cZ) (cQ := cQ) (qs := qs) er27) F ⟨va_cnB 2 hts gX4_spread_X5_turnedBy_n65 rfl rfl rfl (nwm_10 hG.1) (hts _ kw_X4_spread_15) yd_X5_turnedBy ⟨Nat.le_of_ble_eq_true rfl, Nat.le_of_ble_eq_true rfl⟩, hts _ kw_X4_spread_43, trivial⟩ (hG.r hS) hP [] rfl rfl hl.1 rfl (Nat.le_of_ble_eq_true rfl) dX4_spread_70 ⟨Nat.zero_le _, Nat.zero_le _⟩ ?_
        refine lv_iload hx hb dX4_spread_73 (lv_at hl 5 rfl) ?_
        obtain ⟨r28, er28, hf⟩ := fp_b hf
        refine kc_rwV (w2 := [(hWa, .inr (4, [.ref hWq, .ref hWt, .ref hWp, .int r28.1, .int r28.2.1])), (hRmO, .inr (2, [.ref hKdO, .int coO, .int roO])), (hKdO, .inl (cI, 20, .inl kdO)), (hWq, .inl (cI, 80, .inl r28.2.2.1)), (hWt, .inl (cI, 80, .inl r28.2.2.2.1)), (hWp, .inl (cI, 18, .inl r28.2.2.2.2))]) (RwV.runV (c_X4_leave (l := l) (D := D) (cI := cI) (cJ := cJ) (cZ := cZ) (cQ := cQ) (qs := qs) er28) F (cwV 4 hts gX4_spread_X4_leave rfl rfl rfl yd_X4_leave ⟨Nat.le_of_ble_eq_true rfl, Nat.le_of_ble_eq_true rfl⟩) hG hP hD hS hA [0, 1, 3, 4, 5] (by decide) rfl 4 rfl rfl rfl hl.1 rfl (Nat.le_of_ble_eq_true rfl) dX4_spread_75 ⟨Nat.zero_le _, Nat.zero_le _⟩) hP hD hS hA [0, 1, 3, 4, 5] [2] [1, 2, 0, 3, 4, 5] rfl (wr := [(hKdO, .inl (cI, 20, .inl kdO))]) rfl (by decide) (by decide) rfl (by decide) (fun H locs hP hD hS => ?_)
        cases hf
        exact hret _ _ _ _ dX4_spread_78 hP hD hS
    replace hf := ej23
    refine lv_if_eq (tgt := 56) hx hb dX4_spread_44 (by decide) (fun c29 => ?_) (fun c29 => ?_)
    · have hf := fp_t hf c29
      cases hf
      exact hj24 _ _ _ hP hD hS (lv_sub hl [1, 2, 3, 4, 5, 0] rfl)
    · have hf := fp_f hf c29
      refine lv_aload_n hx hb dX4_spread_47 rfl (lv_at hl 1 rfl) ?_
      refine lv_aload_n hx hb dX4_spread_48 rfl (lv_at hl 2 rfl) ?_
      refine lv_iload_n hx hb dX4_spread_49 rfl (lv_at hl 3 rfl) ?_
      refine lv_iload_n hx hb dX4_spread_50 rfl (lv_at hl 4 rfl) ?_
      refine lv_iload hx hb dX4_spread_51 (lv_at hl 0 rfl) ?_
      obtain ⟨r30, er30, hf⟩ := fp_b hf
      refine kc_rwV (w2 := [(hWa, .inr (4, [.ref hWq, .ref hWt, .ref hWp, .int r30.1, .int r30.2.1])), (hRmO, .inr (2, [.ref hKdO, .int coO, .int roO])), (hKdO, .inl (cI, 20, .inl kdO)), (hWq, .inl (cI, 80, .inl r30.2.2.1)), (hWt, .inl (cI, 80, .inl r30.2.2.2.1)), (hWp, .inl (cI, 18, .inl r30.2.2.2.2))]) (RwV.runV (c_X4_leave (l := l) (D := D) (cI := cI) (cJ := cJ) (cZ := cZ) (cQ := cQ) (qs := qs) er30) F (cwV 4 hts gX4_spread_X4_leave rfl rfl rfl yd_X4_leave ⟨Nat.le_of_ble_eq_true rfl, Nat.le_of_ble_eq_true rfl⟩) hG hP hD hS hA [0, 1, 3, 4, 5] (by decide) rfl 4 rfl rfl rfl hl.1 rfl (Nat.le_of_ble_eq_true rfl) dX4_spread_53 ⟨Nat.zero_le _, Nat.zero_le _⟩) hP hD hS hA [0, 1, 3, 4, 5] [2] [1, 2, 0, 3, 4, 5] rfl (wr := [(hKdO, .inl (cI, 20, .inl kdO))]) rfl (by decide) (by decide) rfl (by decide) (fun H locs hP hD hS => ?_)
      cases hf
      exact hj24 _ _ _ hP hD hS (lv_sub hl [1, 2, 3, 4, 5, 0] rfl)
  replace hf := ej20
  refine lv_if_lt (tgt := 36) hx hb dX4_spread_16 (by decide) (fun c31 => ?_) (fun c31 => ?_)
  · have hf := fp_t hf c31
    refine lv_iconst (v := (0 : Int32)) hx hb dX4_spread_36 (by decide) ?_
    cases hf
    exact hj21 _ _ _ hP hD hS (lv_sub hl [2, 3, 4, 5, 1] rfl)
  · have hf := fp_f hf c31
    refine lv_iload hx hb dX4_spread_19 (lv_at hl 0 rfl) ?_
    refine lv_bipush (v := (80 : Int32)) hx hb dX4_spread_21 (by decide) ?_
    refine lv_icmp_ge (tgt := 36) hx hb dX4_spread_23 (by decide) (fun c32 => ?_) (fun c32 => ?_)
    · have hf := fp_t hf c32
      refine lv_iconst (v := (0 : Int32)) hx hb dX4_spread_36 (by decide) ?_
      cases hf
      exact hj21 _ _ _ hP hD hS (lv_sub hl [2, 3, 4, 5, 1] rfl)
    · have hf := fp_f hf c32
      refine lv_aload_n hx hb dX4_spread_26 rfl (lv_at hl 2 rfl) ?_
      refine va_get (D := D) (ci := 4) (v := .ref hWt) (C := RX4) (T := TX4) (N := 5) hx hb hts ku_X4_spread_X4 hown hK hP 0 rfl rfl 1 (by decide) (hts _ kw_X4_spread_1) (fun _ h9 => h9) rfl dX4_spread_27 ?_
      refine lv_iload hx hb dX4_spread_30 (lv_at hl 0 rfl) ?_
      obtain ⟨k33, hf⟩ := fp_c hf
      refine va_iald hx hb hK hP 4 0 rfl rfl k33 dX4_spread_32 ?_
      refine lv_goto (tgt := 37) hx hb dX4_spread_33 (by decide) ?_
      cases hf
      exact hj21 _ _ _ hP hD hS (lv_sub hl [2, 3, 4, 5, 1] rfl)
set_option maxRecDepth 100000 in
theorem c_X4_spread {l : Launch} {D : va_G} {cI cJ cZ cQ : ClassId} {qs : Nat × Nat × Nat} {hWa hWq hWt hWp hRmO hKdO : Nat} {coO : Int32} {roO : Int32} {kdO : Nat → Int32} {ww : Int32} {wl : Int32} {wq : Nat → Int32} {wt : Nat → Int32} {wp : Nat → Int32} {x2 : Int32} {x3 : Int32} {out : Int32 × Int32 × (Nat → Int32) × (Nat → Int32) × (Nat → Int32)} (hf : f_X4_spread coO roO kdO ww wl wq wt wp x2 x3 = some out) : RwV l yX4_spread wsX4_spread { frames := 2, cells := 0, slots := 0, locals := 49 } D (ty4 cI cJ cZ cQ) qs [.ref hWa, .ref hRmO, .int x2, .int x3] [(hWa, .inr (4, [.ref hWq, .ref hWt, .ref hWp, .int ww, .int wl])), (hRmO, .inr (2, [.ref hKdO, .int coO, .int roO])), (hKdO, .inl (cI, 20, .inl kdO)), (hWq, .inl (cI, 80, .inl wq)), (hWt, .inl (cI, 80, .inl wt)), (hWp, .inl (cI, 18, .inl wp))] [(hWa, .inr (4, [.ref hWq, .ref hWt, .ref hWp, .int out.1, .int out.2.1])), (hRmO, .inr (2, [.ref hKdO, .int coO, .int roO])), (hKdO, .inl (cI, 20, .inl kdO)), (hWq, .inl (cI, 80, .inl out.2.2.1)), (hWt, .inl (cI, 80, .inl out.2.2.2.1)), (hWp, .inl (cI, 18, .inl out.2.2.2.2))] :=
  RwV.of (own := RX4) (by decide +kernel) rfl rfl (Nat.le_of_ble_eq_true rfl) (fun F hG hA hP hD hS hret ls hl => b_X4_spread F hG hA hP hD hS hf hret hl)
-- method X4_goFrom
theorem yd_X4_goFrom : yX4_goFrom.cls = RX4 ∧ yX4_goFrom.cls ≠ "java/lang/invoke/MethodHandle" ∧ yX4_goFrom.cls ≠ "java/lang/invoke/VarHandle" ∧ (parseMethodDescriptor yX4_goFrom.desc).map (fun d => d.parameters.length) = some 2 := by decide +kernel
theorem ku_X4_goFrom_X4 : ∀ w ∈ u_ws RX4 TX4 5, w ∈ wsX4_goFrom := by decide +kernel
theorem kw_X4_goFrom_1 : Cond.fieldLink RX4 15 "MirrorShares$Walk" "cellsTo" "[I" ∈ wsX4_goFrom := List.mem_of_getElem? (i := 1) rfl
theorem kw_X4_goFrom_2 : Cond.fieldLink RX4 18 "MirrorShares$Walk" "cellsToPort" "[I" ∈ wsX4_goFrom := List.mem_of_getElem? (i := 2) rfl
theorem kw_X4_goFrom_3 : Cond.fieldLink RX4 21 "MirrorShares$Walk" "waiting" "I" ∈ wsX4_goFrom := List.mem_of_getElem? (i := 3) rfl
theorem kw_X4_goFrom_4 : Cond.fieldLink RX4 25 "MirrorShares$Walk" "litCells" "I" ∈ wsX4_goFrom := List.mem_of_getElem? (i := 4) rfl
theorem kw_X4_goFrom_5 : Cond.fieldLink RX4 11 "MirrorShares$Walk" "queue" "[I" ∈ wsX4_goFrom := List.mem_of_getElem? (i := 5) rfl
def f_X4_goFrom_43 (coO : Int32) (roO : Int32) (kdO : Nat → Int32) (y3 : Int32) (ww : Int32) (wl : Int32) (wq : Nat → Int32) (wt : Nat → Int32) (wp : Nat → Int32) : Option ((Int32 × Int32 × Int32 × (Nat → Int32) × (Nat → Int32) × (Nat → Int32)) ⊕ (Int32 × Int32 × (Nat → Int32) × (Nat → Int32) × (Nat → Int32))) :=
  (if (80 : Int32) ≤ y3 then some (Sum.inr (ww, wl, wq, wt, wp)) else (if ww ≤ y3 then some (Sum.inr (ww, wl, wq, wt, wp)) else chk (aix y3 80) (Option.bind (f_X4_spread coO roO kdO ww wl wq wt wp ((wq y3.toNatClampNeg) / (4 : Int32)) ((wq y3.toNatClampNeg) - (((wq y3.toNatClampNeg) / (4 : Int32)) * (4 : Int32)))) (fun r42 => some (Sum.inl ((y3 + (1 : Int32)), r42.1, r42.2.1, r42.2.2.1, r42.2.2.2.1, r42.2.2.2.2))))))
set_option maxHeartbeats 4000000 in
set_option maxRecDepth 100000 in
theorem lp_X4_goFrom_43 {p : Program} {l : Launch} {e : Env} {s : State} {m : MethodId} {args : Array Value} {below : List Frame} {meth : Method} {c : Code} {Q : State → Prop} {A : Nat → Prop} {D : va_G} {cI cJ cZ cQ : ClassId} {qs : Nat × Nat × Nat} {hWa hWq hWt hWp hRmO hKdO : Nat} {coO : Int32} {roO : Int32} {kdO : Nat → Int32} (F : CallFix p m c cX4_goFrom 4 s args wsX4_goFrom RX4) (hG : kW D (ty4 cI cJ cZ cQ) qs A s s.heap) (hA : ∀ q : Nat, s.heap.size ≤ q → A q) :
    ∀ (n : Nat) {y3 : Int32} {ww : Int32} {wl : Int32} {wq : Nat → Int32} {wt : Nat → Int32} {wp : Nat → Int32} (out : Int32 × Int32 × (Nat → Int32) × (Nat → Int32) × (Nat → Int32)), lpf (fun s => f_X4_goFrom_43 coO roO kdO s.1 s.2.1 s.2.2.1 s.2.2.2.1 s.2.2.2.2.1 s.2.2.2.2.2) n (y3, ww, wl, wq, wt, wp) = some out → ∀ {H : Heap} {locs : List Loc} {ls : Array Slot}, va_P D vwCl [(hWa, .inr (4, [.ref hWq, .ref hWt, .ref hWp, .int ww, .int wl])), (hRmO, .inr (2, [.ref hKdO, .int coO, .int roO])), (hKdO, .inl (cI, 20, .inl kdO)), (hWq, .inl (cI, 80, .inl wq)), (hWt, .inl (cI, 80, .inl wt)), (hWp, .inl (cI, 18, .inl wp))] H → va_D A [(hWa, .inr (4, [.ref hWq, .ref hWt, .ref hWp, .int ww, .int wl])), (hRmO, .inr (2, [.ref hKdO, .int coO, .int roO])), (hKdO, .inl (cI, 20, .inl kdO)), (hWq, .inl (cI, 80, .inl wq)), (hWt, .inl (cI, 80, .inl wt)), (hWp, .inl (cI, 18, .inl wp))] → va_S A s.heap H locs → lv_has ls 4 [(0, .ref hWa), (1, .ref hRmO), (3, .int y3)] → (∀ (H : Heap) (locs : List Loc) (ls : Array Slot), va_P D vwCl [(hWa, .inr (4, [.ref hWq, .ref hWt, .ref hWp, .int out.1, .int out.2.1])), (hRmO, .inr (2, [.ref hKdO, .int coO, .int roO])), (hKdO, .inl (cI, 20, .inl kdO)), (hWq, .inl (cI, 80, .inl out.2.2.1)), (hWt, .inl (cI, 80, .inl out.2.2.2.1)), (hWp, .inl (cI, 18, .inl out.2.2.2.2))] H → va_D A [(hWa, .inr (4, [.ref hWq, .ref hWt, .ref hWp, .int out.1, .int out.2.1])), (hRmO, .inr (2, [.ref hKdO, .int coO, .int roO])), (hKdO, .inl (cI, 20, .inl kdO)), (hWq, .inl (cI, 80, .inl out.2.2.1)), (hWt, .inl (cI, 80, .inl out.2.2.2.1)), (hWp, .inl (cI, 18, .inl out.2.2.2.2))] → va_S A s.heap H locs → lv_has ls 4 [(0, .ref hWa), (1, .ref hRmO)] → W p l e { frames := 3, cells := 0, slots := 0, locals := 75 } s m args below meth c H locs 0 0 Q (F0 m 84 ls [])) → W p l e { frames := 3, cells := 0, slots := 0, locals := 75 } s m args below meth c H locs 0 0 Q (F0 m 43 ls []) := by
  have hx := F.1
  have hb := F.2.1
  have hown := F.2.2.2.1
  have hts := F.2.2.2.2
  have hK := hG.1.1
  intro n
  induction n with
  | zero =>
    intro y3 ww wl wq wt wp out ho
    exact (fp_l0 ho).elim
  | succ n ih =>
    intro y3 ww wl wq wt wp out ho H locs ls hP hD hS hl hex
    obtain ⟨o, hf, ho⟩ := fp_l ho
    have hf : f_X4_goFrom_43 coO roO kdO y3 ww wl wq wt wp = some o := hf
    rw [f_X4_goFrom_43] at hf
    refine lv_iload_n hx hb dX4_goFrom_43 rfl (lv_at hl 2 rfl) ?_
    refine lv_bipush (v := (80 : Int32)) hx hb dX4_goFrom_44 (by decide) ?_
    refine lv_icmp_ge (tgt := 84) hx hb dX4_goFrom_46 (by decide) (fun c39 => ?_) (fun c39 => ?_)
    · have hf := fp_t hf c39
      cases hf
      have ho := fp_inr ho
      cases ho
      exact hex _ _ _ hP hD hS (lv_sub hl [0, 1] rfl)
    · have hf := fp_f hf c39
      refine lv_iload_n hx hb dX4_goFrom_49 rfl (lv_at hl 2 rfl) ?_
      refine lv_aload_n hx hb dX4_goFrom_50 rfl (lv_at hl 0 rfl) ?_
      refine va_get (D := D) (ci := 4) (v := .int ww) (C := RX4) (T := TX4) (N := 5) hx hb hts ku_X4_goFrom_X4 hown hK hP 0 rfl rfl 3 (by decide) (hts _ kw_X4_goFrom_3) (fun _ h9 => h9) rfl dX4_goFrom_51 ?_
      refine lv_icmp_ge (tgt := 84) hx hb dX4_goFrom_54 (by decide) (fun c40 => ?_) (fun c40 => ?_)
      · have hf := fp_t hf c40
        cases hf
        have ho := fp_inr ho
        cases ho
        exact hex _ _ _ hP hD hS (lv_sub hl [0, 1] rfl)
      · have hf := fp_f hf c40
        refine lv_aload_n hx hb dX4_goFrom_57 rfl (lv_at hl 0 rfl) ?_
        refine lv_aload_n hx hb dX4_goFrom_58 rfl (lv_at hl 1 rfl) ?_
        refine lv_aload_n hx hb dX4_goFrom_59 rfl (lv_at hl 0 rfl) ?_
        refine va_get (D := D) (ci := 4) (v := .ref hWq) (C := RX4) (T := TX4) (N := 5) hx hb hts ku_X4_goFrom_X4 hown hK hP 0 rfl rfl 0 (by decide) (hts _ kw_X4_goFrom_5) (fun _ h9 => h9) rfl dX4_goFrom_60 ?_
        refine lv_iload_n hx hb dX4_goFrom_63 rfl (lv_at hl 2 rfl) ?_
        obtain ⟨k41, hf⟩ := fp_c hf
        refine va_iald hx hb hK hP 3 0 rfl rfl k41 dX4_goFrom_64 ?_
        refine lv_iconst (v := (4 : Int32)) hx hb dX4_goFrom_65 (by decide) ?_
        refine lv_idiv hx hb dX4_goFrom_66 (by decide) ?_
        refine lv_aload_n hx hb dX4_goFrom_67 rfl (lv_at hl 0 rfl) ?_
        refine va_get (D := D) (ci := 4) (v := .ref hWq) (C := RX4) (T := TX4) (N := 5) hx hb hts ku_X4_goFrom_X4 hown hK hP 0 rfl rfl 0 (by decide) (hts _ kw_X4_goFrom_5) (fun _ h9 => h9) rfl dX4_goFrom_68 ?_
        refine lv_iload_n hx hb dX4_goFrom_71 rfl (lv_at hl 2 rfl) ?_
        refine va_iald hx hb hK hP 3 0 rfl rfl k41 dX4_goFrom_72 ?_
        refine lv_iconst (v := (4 : Int32)) hx hb dX4_goFrom_73 (by decide) ?_
        refine lv_irem hx hb dX4_goFrom_74 (by decide) ?_
        obtain ⟨r42, er42, hf⟩ := fp_b hf
        refine kc_rwV (w2 := [(hWa, .inr (4, [.ref hWq, .ref hWt, .ref hWp, .int r42.1, .int r42.2.1])), (hRmO, .inr (2, [.ref hKdO, .int coO, .int roO])), (hKdO, .inl (cI, 20, .inl kdO)), (hWq, .inl (cI, 80, .inl r42.2.2.1)), (hWt, .inl (cI, 80, .inl r42.2.2.2.1)), (hWp, .inl (cI, 18, .inl r42.2.2.2.2))]) (RwV.runV (c_X4_spread (l := l) (D := D) (cI := cI) (cJ := cJ) (cZ := cZ) (cQ := cQ) (qs := qs) er42) F (cwV 3 hts gX4_goFrom_X4_spread rfl rfl rfl yd_X4_spread ⟨Nat.le_of_ble_eq_true rfl, Nat.le_of_ble_eq_true rfl⟩) hG hP hD hS hA [0, 1, 2, 3, 4, 5] (by decide) rfl 4 rfl rfl rfl hl.1 rfl (Nat.le_of_ble_eq_true rfl) dX4_goFrom_75 ⟨Nat.zero_le _, Nat.zero_le _⟩) hP hD hS hA [0, 1, 2, 3, 4, 5] [] [0, 1, 2, 3, 4, 5] rfl (wr := []) rfl (by decide) (by decide) rfl (by decide) (fun H locs hP hD hS => ?_)
        refine lv_iinc (v := (y3 + (1 : Int32))) (lv' := [(3, .int (y3 + (1 : Int32))), (0, .ref hWa), (1, .ref hRmO)]) hx hb dX4_goFrom_78 hl (k := 2) rfl rfl (by decide) rfl (fun ls hl => ?_)
        refine lv_goto (tgt := 43) hx hb dX4_goFrom_81 (by decide) ?_
        cases hf
        exact ih _ (fp_inl ho) hP hD hS (lv_sub hl [1, 2, 0] rfl) hex
def f_X4_goFrom (coO : Int32) (roO : Int32) (kdO : Nat → Int32) (ww : Int32) (wl : Int32) (wq : Nat → Int32) (wt : Nat → Int32) (wp : Nat → Int32) (x2 : Int32) : Option (Int32 × Int32 × (Nat → Int32) × (Nat → Int32) × (Nat → Int32)) :=
  Option.bind (f_J7_fill_53178 80 wt (0 : Int32)) (fun r34 => Option.bind (f_J7_fill_53178 18 wp (0 : Int32)) (fun r35 => Option.bind (f_X2_portCell coO roO x2) (fun r36 => Option.bind (f_X2_portDirection coO roO x2) (fun r37 => Option.bind (f_X4_enter (0 : Int32) (0 : Int32) wq r34 r36 r37 (1 : Int32)) (fun r38 => Option.bind (lpf (fun s => f_X4_goFrom_43 coO roO kdO s.1 s.2.1 s.2.2.1 s.2.2.2.1 s.2.2.2.2.1 s.2.2.2.2.2) 1000 ((0 : Int32), r38.1, r38.2.1, r38.2.2.1, r38.2.2.2, r35)) (fun o43 => some (o43.1, o43.2.1, o43.2.2.1, o43.2.2.2.1, o43.2.2.2.2)))))))
set_option maxHeartbeats 4000000 in
set_option maxRecDepth 100000 in
theorem b_X4_goFrom {p : Program} {l : Launch} {e : Env} {s : State} {m : MethodId} {args : Array Value} {below : List Frame} {meth : Method} {c : Code} {Q : State → Prop} {A : Nat → Prop} {H : Heap} {locs : List Loc} {D : va_G} {cI cJ cZ cQ : ClassId} {qs : Nat × Nat × Nat} {hWa hWq hWt hWp hRmO hKdO : Nat} {coO : Int32} {roO : Int32} {kdO : Nat → Int32} {ww : Int32} {wl : Int32} {wq : Nat → Int32} {wt : Nat → Int32} {wp : Nat → Int32} {x2 : Int32} {out : Int32 × Int32 × (Nat → Int32) × (Nat → Int32) × (Nat → Int32)} (F : CallFix p m c cX4_goFrom 4 s args wsX4_goFrom RX4) (hG : kW D (ty4 cI cJ cZ cQ) qs A s s.heap) (hA : ∀ q : Nat, s.heap.size ≤ q → A q) (hP : va_P D vwCl [(hWa, .inr (4, [.ref hWq, .ref hWt, .ref hWp, .int ww, .int wl])), (hRmO, .inr (2, [.ref hKdO, .int coO, .int roO])), (hKdO, .inl (cI, 20, .inl kdO)), (hWq, .inl (cI, 80, .inl wq)), (hWt, .inl (cI, 80, .inl wt)), (hWp, .inl (cI, 18, .inl wp))] H) (hD : va_D A [(hWa, .inr (4, [.ref hWq, .ref hWt, .ref hWp, .int ww, .int wl])), (hRmO, .inr (2, [.ref hKdO, .int coO, .int roO])), (hKdO, .inl (cI, 20, .inl kdO)), (hWq, .inl (cI, 80, .inl wq)), (hWt, .inl (cI, 80, .inl wt)), (hWp, .inl (cI, 18, .inl wp))]) (hS : va_S A s.heap H locs) (hf : f_X4_goFrom coO roO kdO ww wl wq wt wp x2 = some out) (hret : ∀ (pc : Nat) (H : Heap) (locs : List Loc) (ls : Array Slot), decode cX4_goFrom pc = .ok (.return_, 1) → va_P D vwCl [(hWa, .inr (4, [.ref hWq, .ref hWt, .ref hWp, .int out.1, .int out.2.1])), (hRmO, .inr (2, [.ref hKdO, .int coO, .int roO])), (hKdO, .inl (cI, 20, .inl kdO)), (hWq, .inl (cI, 80, .inl out.2.2.1)), (hWt, .inl (cI, 80, .inl out.2.2.2.1)), (hWp, .inl (cI, 18, .inl out.2.2.2.2))] H → va_D A [(hWa, .inr (4, [.ref hWq, .ref hWt, .ref hWp, .int out.1, .int out.2.1])), (hRmO, .inr (2, [.ref hKdO, .int coO, .int roO])), (hKdO, .inl (cI, 20, .inl kdO)), (hWq, .inl (cI, 80, .inl out.2.2.1)), (hWt, .inl (cI, 80, .inl out.2.2.2.1)), (hWp, .inl (cI, 18, .inl out.2.2.2.2))] → va_S A s.heap H locs → W p l e { frames := 3, cells := 0, slots := 0, locals := 75 } s m args below meth c H locs 0 0 Q (F0 m pc ls [])) {ls : Array Slot} (hl : lv_has ls 4 [(0, .ref hWa), (1, .ref hRmO), (2, .int x2)]) : W p l e { frames := 3, cells := 0, slots := 0, locals := 75 } s m args below meth c H locs 0 0 Q (F0 m 0 ls []) := by
  have hx := F.1
  have hb := F.2.1
  have hown := F.2.2.2.1
  have hts := F.2.2.2.2
  have hK := hG.1.1
  rw [f_X4_goFrom] at hf
  refine lv_aload_n hx hb dX4_goFrom_0 rfl (lv_at hl 0 rfl) ?_
  refine va_get (D := D) (ci := 4) (v := .ref hWt) (C := RX4) (T := TX4) (N := 5) hx hb hts ku_X4_goFrom_X4 hown hK hP 0 rfl rfl 1 (by decide) (hts _ kw_X4_goFrom_1) (fun _ h9 => h9) rfl dX4_goFrom_1 ?_
  refine lv_iconst (v := (0 : Int32)) hx hb dX4_goFrom_4 (by decide) ?_
  obtain ⟨r34, er34, hf⟩ := fp_b hf
  refine kc_rwV (w2 := [(hWa, .inr (4, [.ref hWq, .ref hWt, .ref hWp, .int ww, .int wl])), (hRmO, .inr (2, [.ref hKdO, .int coO, .int roO])), (hKdO, .inl (cI, 20, .inl kdO)), (hWq, .inl (cI, 80, .inl wq)), (hWt, .inl (cI, 80, .inl r34)), (hWp, .inl (cI, 18, .inl wp))]) (RwV.runS (c_J7_fill_53178 (l := l) (D := D) (cI := cI) (cJ := cJ) (cZ := cZ) (cQ := cQ) (qs := qs) er34) F (va_cwS 2 hts gX4_goFrom_J7_fill_53178 rfl rfl rfl yd_J7_fill_53178 ⟨Nat.le_of_ble_eq_true rfl, Nat.le_of_ble_eq_true rfl⟩) hG hP hD hS hA [4] (by decide) rfl rfl hl.1 rfl (Nat.le_of_ble_eq_true rfl) dX4_goFrom_5 ⟨Nat.zero_le _, Nat.zero_le _⟩) hP hD hS hA [4] [0, 1, 2, 3, 5] [0, 1, 2, 3, 5, 4] rfl (wr := [(hWa, .inr (4, [.ref hWq, .ref hWt, .ref hWp, .int ww, .int wl])), (hRmO, .inr (2, [.ref hKdO, .int coO, .int roO])), (hKdO, .inl (cI, 20, .inl kdO)), (hWq, .inl (cI, 80, .inl wq)), (hWp, .inl (cI, 18, .inl wp))]) rfl (by decide) (by decide) rfl (by decide) (fun H locs hP hD hS => ?_)
  refine lv_aload_n hx hb dX4_goFrom_8 rfl (lv_at hl 0 rfl) ?_
  refine va_get (D := D) (ci := 4) (v := .ref hWp) (C := RX4) (T := TX4) (N := 5) hx hb hts ku_X4_goFrom_X4 hown hK hP 0 rfl rfl 2 (by decide) (hts _ kw_X4_goFrom_2) (fun _ h9 => h9) rfl dX4_goFrom_9 ?_
  refine lv_iconst (v := (0 : Int32)) hx hb dX4_goFrom_12 (by decide) ?_
  obtain ⟨r35, er35, hf⟩ := fp_b hf
  refine kc_rwV (w2 := [(hWa, .inr (4, [.ref hWq, .ref hWt, .ref hWp, .int ww, .int wl])), (hRmO, .inr (2, [.ref hKdO, .int coO, .int roO])), (hKdO, .inl (cI, 20, .inl kdO)), (hWq, .inl (cI, 80, .inl wq)), (hWt, .inl (cI, 80, .inl r34)), (hWp, .inl (cI, 18, .inl r35))]) (RwV.runS (c_J7_fill_53178 (l := l) (D := D) (cI := cI) (cJ := cJ) (cZ := cZ) (cQ := cQ) (qs := qs) er35) F (va_cwS 2 hts gX4_goFrom_J7_fill_53178 rfl rfl rfl yd_J7_fill_53178 ⟨Nat.le_of_ble_eq_true rfl, Nat.le_of_ble_eq_true rfl⟩) hG hP hD hS hA [5] (by decide) rfl rfl hl.1 rfl (Nat.le_of_ble_eq_true rfl) dX4_goFrom_13 ⟨Nat.zero_le _, Nat.zero_le _⟩) hP hD hS hA [5] [0, 1, 2, 3, 4] [0, 1, 2, 3, 4, 5] rfl (wr := [(hWa, .inr (4, [.ref hWq, .ref hWt, .ref hWp, .int ww, .int wl])), (hRmO, .inr (2, [.ref hKdO, .int coO, .int roO])), (hKdO, .inl (cI, 20, .inl kdO)), (hWq, .inl (cI, 80, .inl wq)), (hWt, .inl (cI, 80, .inl r34))]) rfl (by decide) (by decide) rfl (by decide) (fun H locs hP hD hS => ?_)
  refine lv_aload_n hx hb dX4_goFrom_16 rfl (lv_at hl 0 rfl) ?_
  refine lv_iconst (v := (0 : Int32)) hx hb dX4_goFrom_17 (by decide) ?_
  refine va_put (D := D) (ci := 4) (v := .int (0 : Int32)) (ty := .int) (C := RX4) (T := TX4) (N := 5) hx hb hts ku_X4_goFrom_X4 tyX4 tyX4_ok nmX4 hown hK hP hD hS 0 rfl rfl 3 (by decide) (hts _ kw_X4_goFrom_3) (fun _ h9 => h9) rfl (by decide +kernel) rfl rfl (Nat.le_of_ble_eq_true rfl) dX4_goFrom_18 (fun H locs hP hD hS => ?_)
  have hP : va_P D vwCl [(hWa, .inr (4, [.ref hWq, .ref hWt, .ref hWp, .int (0 : Int32), .int wl])), (hRmO, .inr (2, [.ref hKdO, .int coO, .int roO])), (hKdO, .inl (cI, 20, .inl kdO)), (hWq, .inl (cI, 80, .inl wq)), (hWt, .inl (cI, 80, .inl r34)), (hWp, .inl (cI, 18, .inl r35))] H := hP
  have hD : va_D A [(hWa, .inr (4, [.ref hWq, .ref hWt, .ref hWp, .int (0 : Int32), .int wl])), (hRmO, .inr (2, [.ref hKdO, .int coO, .int roO])), (hKdO, .inl (cI, 20, .inl kdO)), (hWq, .inl (cI, 80, .inl wq)), (hWt, .inl (cI, 80, .inl r34)), (hWp, .inl (cI, 18, .inl r35))] := hD
  refine lv_aload_n hx hb dX4_goFrom_21 rfl (lv_at hl 0 rfl) ?_
  refine lv_iconst (v := (0 : Int32)) hx hb dX4_goFrom_22 (by decide) ?_
  refine va_put (D := D) (ci := 4) (v := .int (0 : Int32)) (ty := .int) (C := RX4) (T := TX4) (N := 5) hx hb hts ku_X4_goFrom_X4 tyX4 tyX4_ok nmX4 hown hK hP hD hS 0 rfl rfl 4 (by decide) (hts _ kw_X4_goFrom_4) (fun _ h9 => h9) rfl (by decide +kernel) rfl rfl (Nat.le_of_ble_eq_true rfl) dX4_goFrom_23 (fun H locs hP hD hS => ?_)
  have hP : va_P D vwCl [(hWa, .inr (4, [.ref hWq, .ref hWt, .ref hWp, .int (0 : Int32), .int (0 : Int32)])), (hRmO, .inr (2, [.ref hKdO, .int coO, .int roO])), (hKdO, .inl (cI, 20, .inl kdO)), (hWq, .inl (cI, 80, .inl wq)), (hWt, .inl (cI, 80, .inl r34)), (hWp, .inl (cI, 18, .inl r35))] H := hP
  have hD : va_D A [(hWa, .inr (4, [.ref hWq, .ref hWt, .ref hWp, .int (0 : Int32), .int (0 : Int32)])), (hRmO, .inr (2, [.ref hKdO, .int coO, .int roO])), (hKdO, .inl (cI, 20, .inl kdO)), (hWq, .inl (cI, 80, .inl wq)), (hWt, .inl (cI, 80, .inl r34)), (hWp, .inl (cI, 18, .inl r35))] := hD
  refine lv_aload_n hx hb dX4_goFrom_26 rfl (lv_at hl 0 rfl) ?_
  refine lv_aload_n hx hb dX4_goFrom_27 rfl (lv_at hl 1 rfl) ?_
  refine lv_iload_n hx hb dX4_goFrom_28 rfl (lv_at hl 2 rfl) ?_
  obtain ⟨r36, er36, hf⟩ := fp_b hf
  refine RoI.callV (c_X2_portCell (l := l) (D := D) (cI := cI) (cJ := cJ) (cZ := cZ) (cQ := cQ) (qs := qs) er36) F (cwV 1 hts gX4_goFrom_X2_portCell rfl rfl rfl yd_X2_portCell ⟨Nat.le_of_ble_eq_true rfl, Nat.le_of_ble_eq_true rfl⟩) (hG.r hS) hP [1] rfl 2 rfl rfl rfl hl.1 rfl (Nat.le_of_ble_eq_true rfl) dX4_goFrom_29 ⟨Nat.zero_le _, Nat.zero_le _⟩ ?_
  refine lv_aload_n hx hb dX4_goFrom_32 rfl (lv_at hl 1 rfl) ?_
  refine lv_iload_n hx hb dX4_goFrom_33 rfl (lv_at hl 2 rfl) ?_
  obtain ⟨r37, er37, hf⟩ := fp_b hf
  refine RoI.callV (c_X2_portDirection (l := l) (D := D) (cI := cI) (cJ := cJ) (cZ := cZ) (cQ := cQ) (qs := qs) er37) F (cwV 1 hts gX4_goFrom_X2_portDirection rfl rfl rfl yd_X2_portDirection ⟨Nat.le_of_ble_eq_true rfl, Nat.le_of_ble_eq_true rfl⟩) (hG.r hS) hP [1] rfl 2 rfl rfl rfl hl.1 rfl (Nat.le_of_ble_eq_true rfl) dX4_goFrom_34 ⟨Nat.zero_le _, Nat.zero_le _⟩ ?_
  refine lv_iconst (v := (1 : Int32)) hx hb dX4_goFrom_37 (by decide) ?_
  obtain ⟨r38, er38, hf⟩ := fp_b hf
  refine kc_rwV (w2 := [(hWa, .inr (4, [.ref hWq, .ref hWt, .ref hWp, .int r38.1, .int r38.2.1])), (hRmO, .inr (2, [.ref hKdO, .int coO, .int roO])), (hKdO, .inl (cI, 20, .inl kdO)), (hWq, .inl (cI, 80, .inl r38.2.2.1)), (hWt, .inl (cI, 80, .inl r38.2.2.2)), (hWp, .inl (cI, 18, .inl r35))]) (RwV.runV (c_X4_enter (l := l) (D := D) (cI := cI) (cJ := cJ) (cZ := cZ) (cQ := cQ) (qs := qs) er38) F (cwV 3 hts gX4_goFrom_X4_enter rfl rfl rfl yd_X4_enter ⟨Nat.le_of_ble_eq_true rfl, Nat.le_of_ble_eq_true rfl⟩) hG hP hD hS hA [0, 3, 4] (by decide) rfl 4 rfl rfl rfl hl.1 rfl (Nat.le_of_ble_eq_true rfl) dX4_goFrom_38 ⟨Nat.zero_le _, Nat.zero_le _⟩) hP hD hS hA [0, 3, 4] [1, 2, 5] [3, 0, 1, 4, 5, 2] rfl (wr := [(hRmO, .inr (2, [.ref hKdO, .int coO, .int roO])), (hKdO, .inl (cI, 20, .inl kdO)), (hWp, .inl (cI, 18, .inl r35))]) rfl (by decide) (by decide) rfl (by decide) (fun H locs hP hD hS => ?_)
  refine lv_iconst (v := (0 : Int32)) hx hb dX4_goFrom_41 (by decide) ?_
  refine lv_istore_n (lv' := [(3, .int (0 : Int32)), (0, .ref hWa), (1, .ref hRmO), (2, .int x2)]) hx hb dX4_goFrom_42 rfl hl (by decide) rfl (fun ls hl => ?_)
  obtain ⟨o43, eo43, hf⟩ := fp_b hf
  refine lp_X4_goFrom_43 F hG hA _ _ eo43 hP hD hS (lv_sub hl [1, 2, 0] rfl) (fun H locs ls hP hD hS hl => ?_)
  cases hf
  exact hret _ _ _ _ dX4_goFrom_84 hP hD hS
set_option maxRecDepth 100000 in
theorem c_X4_goFrom {l : Launch} {D : va_G} {cI cJ cZ cQ : ClassId} {qs : Nat × Nat × Nat} {hWa hWq hWt hWp hRmO hKdO : Nat} {coO : Int32} {roO : Int32} {kdO : Nat → Int32} {ww : Int32} {wl : Int32} {wq : Nat → Int32} {wt : Nat → Int32} {wp : Nat → Int32} {x2 : Int32} {out : Int32 × Int32 × (Nat → Int32) × (Nat → Int32) × (Nat → Int32)} (hf : f_X4_goFrom coO roO kdO ww wl wq wt wp x2 = some out) : RwV l yX4_goFrom wsX4_goFrom { frames := 3, cells := 0, slots := 0, locals := 75 } D (ty4 cI cJ cZ cQ) qs [.ref hWa, .ref hRmO, .int x2] [(hWa, .inr (4, [.ref hWq, .ref hWt, .ref hWp, .int ww, .int wl])), (hRmO, .inr (2, [.ref hKdO, .int coO, .int roO])), (hKdO, .inl (cI, 20, .inl kdO)), (hWq, .inl (cI, 80, .inl wq)), (hWt, .inl (cI, 80, .inl wt)), (hWp, .inl (cI, 18, .inl wp))] [(hWa, .inr (4, [.ref hWq, .ref hWt, .ref hWp, .int out.1, .int out.2.1])), (hRmO, .inr (2, [.ref hKdO, .int coO, .int roO])), (hKdO, .inl (cI, 20, .inl kdO)), (hWq, .inl (cI, 80, .inl out.2.2.1)), (hWt, .inl (cI, 80, .inl out.2.2.2.1)), (hWp, .inl (cI, 18, .inl out.2.2.2.2))] :=
  RwV.of (own := RX4) (by decide +kernel) rfl rfl (Nat.le_of_ble_eq_true rfl) (fun F hG hA hP hD hS hret ls hl => b_X4_goFrom F hG hA hP hD hS hf hret hl)
