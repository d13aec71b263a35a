-- method X6_onward
theorem yd_X6_onward : yX6_onward.cls ≠ "java/lang/invoke/MethodHandle" ∧ yX6_onward.cls ≠ "java/lang/invoke/VarHandle" ∧ (parseMethodDescriptor yX6_onward.desc).map (fun d => d.parameters.length) = some 3 := by decide +kernel
def f_X6_onward (fr0 : Nat → Int32) (x1 : Int32) (x2 : Int32) : Option (Int32) :=
  chk (¬ (fr0 (Int32.toNatClampNeg (0 : Int32))) = 0) (Option.bind (if x2 = (1 : Int32) then some (1 : Int32) else (if x2 = (3 : Int32) then some (-1 : Int32) else some (0 : Int32))) (fun j2 => Option.bind (if x2 = (2 : Int32) then some (1 : Int32) else (if x2 = 0 then some (-1 : Int32) else some (0 : Int32))) (fun j4 => (if 0 ≤ ((x1 / (fr0 (Int32.toNatClampNeg (0 : Int32)))) + j4) then (if ((x1 - ((x1 / (fr0 (Int32.toNatClampNeg (0 : Int32)))) * (fr0 (Int32.toNatClampNeg (0 : Int32))))) + j2) = (fr0 (Int32.toNatClampNeg (0 : Int32))) then some (((-2 : Int32) - (fr0 (Int32.toNatClampNeg (0 : Int32)))) - ((x1 / (fr0 (Int32.toNatClampNeg (0 : Int32)))) + j4)) else (if ((x1 / (fr0 (Int32.toNatClampNeg (0 : Int32)))) + j4) = (fr0 (Int32.toNatClampNeg (1 : Int32))) then some ((((-2 : Int32) - (fr0 (Int32.toNatClampNeg (0 : Int32)))) - (fr0 (Int32.toNatClampNeg (1 : Int32)))) - ((x1 - ((x1 / (fr0 (Int32.toNatClampNeg (0 : Int32)))) * (fr0 (Int32.toNatClampNeg (0 : Int32))))) + j2)) else (if 0 ≤ ((x1 - ((x1 / (fr0 (Int32.toNatClampNeg (0 : Int32)))) * (fr0 (Int32.toNatClampNeg (0 : Int32))))) + j2) then some (((4 : Int32) * (((fr0 (Int32.toNatClampNeg (0 : Int32))) * ((x1 / (fr0 (Int32.toNatClampNeg (0 : Int32)))) + j4)) + ((x1 - ((x1 / (fr0 (Int32.toNatClampNeg (0 : Int32)))) * (fr0 (Int32.toNatClampNeg (0 : Int32))))) + j2))) + x2) else some ((((-2 : Int32) - ((2 : Int32) * (fr0 (Int32.toNatClampNeg (0 : Int32))))) - (fr0 (Int32.toNatClampNeg (1 : Int32)))) - ((x1 / (fr0 (Int32.toNatClampNeg (0 : Int32)))) + j4))))) else some ((-2 : Int32) - ((x1 - ((x1 / (fr0 (Int32.toNatClampNeg (0 : Int32)))) * (fr0 (Int32.toNatClampNeg (0 : Int32))))) + j2))))))
set_option maxHeartbeats 4000000 in
set_option maxRecDepth 100000 in
theorem b_X6_onward {p : Program} {l : Launch} {e : Env} {s : State} {m : MethodId} {args : Array Value} {below : List Frame} {meth : Method} {c : Code} {Q : State → Prop} {D : va_G} {cI cJ cZ cQ : ClassId} {qs : Nat × Nat × Nat} {hAR0 : Nat} {fr0 : Nat → Int32} {x1 : Int32} {x2 : Int32} {out : Int32} (F : CallFix p m c cX6_onward 7 s args wsX6_onward RX6) (hG : kR D (ty4 cI cJ cZ cQ) qs s s.heap) (hP : va_P D vwCl [(hAR0, .inl (cI, 22, .inl fr0))] s.heap) (hf : f_X6_onward fr0 x1 x2 = some out) (hret : ∀ (pc : Nat) (ls : Array Slot), decode cX6_onward pc = .ok (.ireturn, 1) → narrow .int (.int out) = .int out → W p l e { frames := 0, cells := 0, slots := 0, locals := 0 } s m args below meth c s.heap [] 0 0 Q (F0 m pc ls [.int out])) {ls : Array Slot} (hl : lv_has ls 7 [(0, .ref hAR0), (1, .int x1), (2, .int x2)]) : W p l e { frames := 0, cells := 0, slots := 0, locals := 0 } s m args below meth c s.heap [] 0 0 Q (F0 m 0 ls []) := by
  have hx := F.1
  have hb := F.2.1
  have hown := F.2.2.2.1
  have hts := F.2.2.2.2
  have hK := hG.1.1
  rw [f_X6_onward] at hf
  refine lv_aload_n hx hb dX6_onward_0 rfl (lv_at hl 0 rfl) ?_
  refine lv_iconst (v := (0 : Int32)) hx hb dX6_onward_1 (by decide) ?_
  refine va_iald hx hb hK hP 0 0 rfl rfl (show aix (0 : Int32) 22 by decide) dX6_onward_2 ?_
  refine lv_istore_n (lv' := [(3, .int (fr0 (Int32.toNatClampNeg (0 : Int32)))), (0, .ref hAR0), (1, .int x1), (2, .int x2)]) hx hb dX6_onward_3 rfl hl (by decide) rfl (fun ls hl => ?_)
  refine lv_aload_n hx hb dX6_onward_4 rfl (lv_at hl 1 rfl) ?_
  refine lv_iconst (v := (1 : Int32)) hx hb dX6_onward_5 (by decide) ?_
  refine va_iald hx hb hK hP 0 0 rfl rfl (show aix (1 : Int32) 22 by decide) dX6_onward_6 ?_
  refine lv_istore (lv' := [(4, .int (fr0 (Int32.toNatClampNeg (1 : Int32)))), (3, .int (fr0 (Int32.toNatClampNeg (0 : Int32)))), (0, .ref hAR0), (1, .int x1), (2, .int x2)]) hx hb dX6_onward_7 hl (by decide) rfl (fun ls hl => ?_)
  refine lv_iload_n hx hb dX6_onward_9 rfl (lv_at hl 3 rfl) ?_
  refine lv_iload_n hx hb dX6_onward_10 rfl (lv_at hl 1 rfl) ?_
  obtain ⟨k1, hf⟩ := fp_c hf
  refine lv_irem hx hb dX6_onward_11 k1 ?_
  refine lv_iload_n hx hb dX6_onward_12 rfl (lv_at hl 4 rfl) ?_
  refine lv_iconst (v := (1 : Int32)) hx hb dX6_onward_13 (by decide) ?_
  obtain ⟨j2, ej2, hf⟩ := fp_b hf
  have hj3 : ∀ ls : Array Slot, lv_has ls 7 [(1, .int x1), (2, .int x2), (3, .int (fr0 (Int32.toNatClampNeg (0 : Int32)))), (4, .int (fr0 (Int32.toNatClampNeg (1 : Int32))))] → W p l e { frames := 0, cells := 0, slots := 0, locals := 0 } s m args below meth c s.heap [] 0 0 Q (F0 m 31 ls [.int j2, .int (x1 - ((x1 / (fr0 (Int32.toNatClampNeg (0 : Int32)))) * (fr0 (Int32.toNatClampNeg (0 : Int32)))))]) := by
    intro ls hl
    refine lv_iadd hx hb dX6_onward_31 ?_
    refine lv_istore (lv' := [(5, .int ((x1 - ((x1 / (fr0 (Int32.toNatClampNeg (0 : Int32)))) * (fr0 (Int32.toNatClampNeg (0 : Int32))))) + j2)), (1, .int x1), (2, .int x2), (3, .int (fr0 (Int32.toNatClampNeg (0 : Int32)))), (4, .int (fr0 (Int32.toNatClampNeg (1 : Int32))))]) hx hb dX6_onward_32 hl (by decide) rfl (fun ls hl => ?_)
    refine lv_iload_n hx hb dX6_onward_34 rfl (lv_at hl 1 rfl) ?_
    refine lv_iload_n hx hb dX6_onward_35 rfl (lv_at hl 3 rfl) ?_
    refine lv_idiv hx hb dX6_onward_36 k1 ?_
    refine lv_iload_n hx hb dX6_onward_37 rfl (lv_at hl 2 rfl) ?_
    refine lv_iconst (v := (2 : Int32)) hx hb dX6_onward_38 (by decide) ?_
    obtain ⟨j4, ej4, hf⟩ := fp_b hf
    have hj5 : ∀ ls : Array Slot, lv_has ls 7 [(2, .int x2), (3, .int (fr0 (Int32.toNatClampNeg (0 : Int32)))), (4, .int (fr0 (Int32.toNatClampNeg (1 : Int32)))), (5, .int ((x1 - ((x1 / (fr0 (Int32.toNatClampNeg (0 : Int32)))) * (fr0 (Int32.toNatClampNeg (0 : Int32))))) + j2))] → W p l e { frames := 0, cells := 0, slots := 0, locals := 0 } s m args below meth c s.heap [] 0 0 Q (F0 m 55 ls [.int j4, .int (x1 / (fr0 (Int32.toNatClampNeg (0 : Int32))))]) := by
      intro ls hl
      refine lv_iadd hx hb dX6_onward_55 ?_
      refine lv_istore (lv' := [(6, .int ((x1 / (fr0 (Int32.toNatClampNeg (0 : Int32)))) + j4)), (2, .int x2), (3, .int (fr0 (Int32.toNatClampNeg (0 : Int32)))), (4, .int (fr0 (Int32.toNatClampNeg (1 : Int32)))), (5, .int ((x1 - ((x1 / (fr0 (Int32.toNatClampNeg (0 : Int32)))) * (fr0 (Int32.toNatClampNeg (0 : Int32))))) + j2))]) hx hb dX6_onward_56 hl (by decide) rfl (fun ls hl => ?_)
      refine lv_iload hx hb dX6_onward_58 (lv_at hl 0 rfl) ?_
      refine lv_if_ge (tgt := 69) hx hb dX6_onward_60 (by decide) (fun c6 => ?_) (fun c6 => ?_)
      · have hf := fp_t hf c6
        refine lv_iload hx hb dX6_onward_69 (lv_at hl 4 rfl) ?_
        refine lv_iload_n hx hb dX6_onward_71 rfl (lv_at hl 2 rfl) ?_
        refine lv_icmp_ne (tgt := 83) hx hb dX6_onward_72 (by decide) (fun c7 => ?_) (fun c7 => ?_)
        · have hf := fp_f hf c7
          refine lv_iload hx hb dX6_onward_83 (lv_at hl 0 rfl) ?_
          refine lv_iload hx hb dX6_onward_85 (lv_at hl 3 rfl) ?_
          refine lv_icmp_ne (tgt := 101) hx hb dX6_onward_87 (by decide) (fun c8 => ?_) (fun c8 => ?_)
          · have hf := fp_f hf c8
            refine lv_iload hx hb dX6_onward_101 (lv_at hl 4 rfl) ?_
            refine lv_if_ge (tgt := 121) hx hb dX6_onward_103 (by decide) (fun c9 => ?_) (fun c9 => ?_)
            · have hf := fp_t hf c9
              refine lv_iconst (v := (4 : Int32)) hx hb dX6_onward_121 (by decide) ?_
              refine lv_iload_n hx hb dX6_onward_122 rfl (lv_at hl 2 rfl) ?_
              refine lv_iload hx hb dX6_onward_123 (lv_at hl 0 rfl) ?_
              refine lv_imul hx hb dX6_onward_125 ?_
              refine lv_iload hx hb dX6_onward_126 (lv_at hl 4 rfl) ?_
              refine lv_iadd hx hb dX6_onward_128 ?_
              refine lv_imul hx hb dX6_onward_129 ?_
              refine lv_iload_n hx hb dX6_onward_130 rfl (lv_at hl 1 rfl) ?_
              refine lv_iadd hx hb dX6_onward_131 ?_
              obtain rfl := Option.some.inj hf
              exact hret _ _ dX6_onward_132 (vp_nar_int _)
            · have hf := fp_f hf c9
              refine lv_bipush (v := (-2 : Int32)) hx hb dX6_onward_106 (by decide) ?_
              refine lv_iconst (v := (2 : Int32)) hx hb dX6_onward_108 (by decide) ?_
              refine lv_iload_n hx hb dX6_onward_109 rfl (lv_at hl 2 rfl) ?_
              refine lv_imul hx hb dX6_onward_110 ?_
              refine lv_isub hx hb dX6_onward_111 ?_
              refine lv_iload hx hb dX6_onward_112 (lv_at hl 3 rfl) ?_
              refine lv_isub hx hb dX6_onward_114 ?_
              refine lv_iload hx hb dX6_onward_115 (lv_at hl 0 rfl) ?_
              refine lv_isub hx hb dX6_onward_117 ?_
              refine lv_goto (tgt := 132) hx hb dX6_onward_118 (by decide) ?_
              obtain rfl := Option.some.inj hf
              exact hret _ _ dX6_onward_132 (vp_nar_int _)
          · have hf := fp_t hf c8
            refine lv_bipush (v := (-2 : Int32)) hx hb dX6_onward_90 (by decide) ?_
            refine lv_iload_n hx hb dX6_onward_92 rfl (lv_at hl 2 rfl) ?_
            refine lv_isub hx hb dX6_onward_93 ?_
            refine lv_iload hx hb dX6_onward_94 (lv_at hl 3 rfl) ?_
            refine lv_isub hx hb dX6_onward_96 ?_
            refine lv_iload hx hb dX6_onward_97 (lv_at hl 4 rfl) ?_
            refine lv_isub hx hb dX6_onward_99 ?_
            obtain rfl := Option.some.inj hf
            exact hret _ _ dX6_onward_100 (vp_nar_int _)
        · have hf := fp_t hf c7
          refine lv_bipush (v := (-2 : Int32)) hx hb dX6_onward_75 (by decide) ?_
          refine lv_iload_n hx hb dX6_onward_77 rfl (lv_at hl 2 rfl) ?_
          refine lv_isub hx hb dX6_onward_78 ?_
          refine lv_iload hx hb dX6_onward_79 (lv_at hl 0 rfl) ?_
          refine lv_isub hx hb dX6_onward_81 ?_
          obtain rfl := Option.some.inj hf
          exact hret _ _ dX6_onward_82 (vp_nar_int _)
      · have hf := fp_f hf c6
        refine lv_bipush (v := (-2 : Int32)) hx hb dX6_onward_63 (by decide) ?_
        refine lv_iload hx hb dX6_onward_65 (lv_at hl 4 rfl) ?_
        refine lv_isub hx hb dX6_onward_67 ?_
        obtain rfl := Option.some.inj hf
        exact hret _ _ dX6_onward_68 (vp_nar_int _)
    replace hf := ej4
    refine lv_icmp_ne (tgt := 46) hx hb dX6_onward_39 (by decide) (fun c10 => ?_) (fun c10 => ?_)
    · have hf := fp_f hf c10
      refine lv_iload_n hx hb dX6_onward_46 rfl (lv_at hl 2 rfl) ?_
      refine lv_if_ne (tgt := 54) hx hb dX6_onward_47 (by decide) (fun c11 => ?_) (fun c11 => ?_)
      · have hf := fp_f hf c11
        refine lv_iconst (v := (0 : Int32)) hx hb dX6_onward_54 (by decide) ?_
        obtain rfl := Option.some.inj hf
        exact hj5 _ (lv_sub hl [2, 3, 4, 0] rfl)
      · have hf := fp_t hf c11
        refine lv_iconst (v := (-1 : Int32)) hx hb dX6_onward_50 (by decide) ?_
        refine lv_goto (tgt := 55) hx hb dX6_onward_51 (by decide) ?_
        obtain rfl := Option.some.inj hf
        exact hj5 _ (lv_sub hl [2, 3, 4, 0] rfl)
    · have hf := fp_t hf c10
      refine lv_iconst (v := (1 : Int32)) hx hb dX6_onward_42 (by decide) ?_
      refine lv_goto (tgt := 55) hx hb dX6_onward_43 (by decide) ?_
      obtain rfl := Option.some.inj hf
      exact hj5 _ (lv_sub hl [2, 3, 4, 0] rfl)
  replace hf := ej2
  refine lv_icmp_ne (tgt := 21) hx hb dX6_onward_14 (by decide) (fun c12 => ?_) (fun c12 => ?_)
  · have hf := fp_f hf c12
    refine lv_iload_n hx hb dX6_onward_21 rfl (lv_at hl 4 rfl) ?_
    refine lv_iconst (v := (3 : Int32)) hx hb dX6_onward_22 (by decide) ?_
    refine lv_icmp_ne (tgt := 30) hx hb dX6_onward_23 (by decide) (fun c13 => ?_) (fun c13 => ?_)
    · have hf := fp_f hf c13
      refine lv_iconst (v := (0 : Int32)) hx hb dX6_onward_30 (by decide) ?_
      obtain rfl := Option.some.inj hf
      exact hj3 _ (lv_sub hl [3, 4, 1, 0] rfl)
    · have hf := fp_t hf c13
      refine lv_iconst (v := (-1 : Int32)) hx hb dX6_onward_26 (by decide) ?_
      refine lv_goto (tgt := 31) hx hb dX6_onward_27 (by decide) ?_
      obtain rfl := Option.some.inj hf
      exact hj3 _ (lv_sub hl [3, 4, 1, 0] rfl)
  · have hf := fp_t hf c12
    refine lv_iconst (v := (1 : Int32)) hx hb dX6_onward_17 (by decide) ?_
    refine lv_goto (tgt := 31) hx hb dX6_onward_18 (by decide) ?_
    obtain rfl := Option.some.inj hf
    exact hj3 _ (lv_sub hl [3, 4, 1, 0] rfl)
set_option maxRecDepth 100000 in
theorem c_X6_onward {l : Launch} {D : va_G} {cI cJ cZ cQ : ClassId} {qs : Nat × Nat × Nat} {hAR0 : Nat} {fr0 : Nat → Int32} {x1 : Int32} {x2 : Int32} {out : Int32} (hf : f_X6_onward fr0 x1 x2 = some out) : RoI l yX6_onward wsX6_onward { frames := 0, cells := 0, slots := 0, locals := 0 } D (ty4 cI cJ cZ cQ) qs [.ref hAR0, .int x1, .int x2] [(hAR0, .inl (cI, 22, .inl fr0))] out :=
  RoI.of (own := RX6) (by decide +kernel) rfl rfl (Nat.le_of_ble_eq_true rfl) (fun F hG hP hret ls hl => b_X6_onward F hG hP hf hret hl)
-- method X6_turned
theorem yd_X6_turned : yX6_turned.cls ≠ "java/lang/invoke/MethodHandle" ∧ yX6_turned.cls ≠ "java/lang/invoke/VarHandle" ∧ (parseMethodDescriptor yX6_turned.desc).map (fun d => d.parameters.length) = some 2 := by decide +kernel
def f_X6_turned (x0 : Int32) (x1 : Int32) : Option (Int32) :=
  (if x0 = (1 : Int32) then some (x1 ^^^ (1 : Int32)) else (if x0 = (3 : Int32) then some (x1 ^^^ (1 : Int32)) else some ((3 : Int32) - x1)))
set_option maxHeartbeats 4000000 in
set_option maxRecDepth 100000 in
theorem b_X6_turned {p : Program} {l : Launch} {e : Env} {s : State} {m : MethodId} {args : Array Value} {below : List Frame} {meth : Method} {c : Code} {Q : State → Prop} {D : va_G} {cI cJ cZ cQ : ClassId} {qs : Nat × Nat × Nat}  {x0 : Int32} {x1 : Int32} {out : Int32} (F : CallFix p m c cX6_turned 2 s args wsX6_turned RX6) (hG : kR D (ty4 cI cJ cZ cQ) qs s s.heap) (hP : va_P D vwCl [] s.heap) (hf : f_X6_turned x0 x1 = some out) (hret : ∀ (pc : Nat) (ls : Array Slot), decode cX6_turned pc = .ok (.ireturn, 1) → narrow .int (.int out) = .int out → W p l e { frames := 0, cells := 0, slots := 0, locals := 0 } s m args below meth c s.heap [] 0 0 Q (F0 m pc ls [.int out])) {ls : Array Slot} (hl : lv_has ls 2 [(0, .int x0), (1, .int x1)]) : W p l e { frames := 0, cells := 0, slots := 0, locals := 0 } s m args below meth c s.heap [] 0 0 Q (F0 m 0 ls []) := by
  have hx := F.1
  have hb := F.2.1
  have hown := F.2.2.2.1
  have hts := F.2.2.2.2
  have hK := hG.1.1
  rw [f_X6_turned] at hf
  refine lv_iload_n hx hb dX6_turned_0 rfl (lv_at hl 0 rfl) ?_
  refine lv_iconst (v := (1 : Int32)) hx hb dX6_turned_1 (by decide) ?_
  refine lv_icmp_eq (tgt := 10) hx hb dX6_turned_2 (by decide) (fun c14 => ?_) (fun c14 => ?_)
  · have hf := fp_t hf c14
    refine lv_iload_n hx hb dX6_turned_10 rfl (lv_at hl 1 rfl) ?_
    refine lv_iconst (v := (1 : Int32)) hx hb dX6_turned_11 (by decide) ?_
    refine lv_ixor hx hb dX6_turned_12 ?_
    refine lv_goto (tgt := 19) hx hb dX6_turned_13 (by decide) ?_
    obtain rfl := Option.some.inj hf
    exact hret _ _ dX6_turned_19 (vp_nar_int _)
  · have hf := fp_f hf c14
    refine lv_iload_n hx hb dX6_turned_5 rfl (lv_at hl 0 rfl) ?_
    refine lv_iconst (v := (3 : Int32)) hx hb dX6_turned_6 (by decide) ?_
    refine lv_icmp_ne (tgt := 16) hx hb dX6_turned_7 (by decide) (fun c15 => ?_) (fun c15 => ?_)
    · have hf := fp_f hf c15
      refine lv_iconst (v := (3 : Int32)) hx hb dX6_turned_16 (by decide) ?_
      refine lv_iload_n hx hb dX6_turned_17 rfl (lv_at hl 1 rfl) ?_
      refine lv_isub hx hb dX6_turned_18 ?_
      obtain rfl := Option.some.inj hf
      exact hret _ _ dX6_turned_19 (vp_nar_int _)
    · have hf := fp_t hf c15
      refine lv_iload_n hx hb dX6_turned_10 rfl (lv_at hl 1 rfl) ?_
      refine lv_iconst (v := (1 : Int32)) hx hb dX6_turned_11 (by decide) ?_
      refine lv_ixor hx hb dX6_turned_12 ?_
      refine lv_goto (tgt := 19) hx hb dX6_turned_13 (by decide) ?_
      obtain rfl := Option.some.inj hf
      exact hret _ _ dX6_turned_19 (vp_nar_int _)
set_option maxRecDepth 100000 in
theorem c_X6_turned {l : Launch} {D : va_G} {cI cJ cZ cQ : ClassId} {qs : Nat × Nat × Nat}  {x0 : Int32} {x1 : Int32} {out : Int32} (hf : f_X6_turned x0 x1 = some out) : RoI l yX6_turned wsX6_turned { frames := 0, cells := 0, slots := 0, locals := 0 } D (ty4 cI cJ cZ cQ) qs [.int x0, .int x1] [] out :=
  RoI.of (own := RX6) (by decide +kernel) rfl rfl (Nat.le_of_ble_eq_true rfl) (fun F hG hP hret ls hl => b_X6_turned F hG hP hf hret hl)
-- method X6_waysOf
theorem yd_X6_waysOf : yX6_waysOf.cls ≠ "java/lang/invoke/MethodHandle" ∧ yX6_waysOf.cls ≠ "java/lang/invoke/VarHandle" ∧ (parseMethodDescriptor yX6_waysOf.desc).map (fun d => d.parameters.length) = some 2 := by decide +kernel
def f_X6_waysOf (fr0 : Nat → Int32) (x1 : Int32) : Option (Int32) :=
  chk (aix ((2 : Int32) + (x1 / (4 : Int32))) 22) (Option.bind (f_X6_isHalf (fr0 (Int32.toNatClampNeg ((2 : Int32) + (x1 / (4 : Int32)))))) (fun r17 => (if r17 = 0 then (if (fr0 (Int32.toNatClampNeg ((2 : Int32) + (x1 / (4 : Int32))))) = (5 : Int32) then some (0 : Int32) else (if (fr0 (Int32.toNatClampNeg ((2 : Int32) + (x1 / (4 : Int32))))) = (7 : Int32) then some (0 : Int32) else some (1 : Int32))) else some (2 : Int32))))
set_option maxHeartbeats 4000000 in
set_option maxRecDepth 100000 in
theorem b_X6_waysOf {p : Program} {l : Launch} {e : Env} {s : State} {m : MethodId} {args : Array Value} {below : List Frame} {meth : Method} {c : Code} {Q : State → Prop} {D : va_G} {cI cJ cZ cQ : ClassId} {qs : Nat × Nat × Nat} {hAR0 : Nat} {fr0 : Nat → Int32} {x1 : Int32} {out : Int32} (F : CallFix p m c cX6_waysOf 3 s args wsX6_waysOf RX6) (hG : kR D (ty4 cI cJ cZ cQ) qs s s.heap) (hP : va_P D vwCl [(hAR0, .inl (cI, 22, .inl fr0))] s.heap) (hf : f_X6_waysOf fr0 x1 = some out) (hret : ∀ (pc : Nat) (ls : Array Slot), decode cX6_waysOf pc = .ok (.ireturn, 1) → narrow .int (.int out) = .int out → W p l e { frames := 2, cells := 0, slots := 0, locals := 42 } s m args below meth c s.heap [] 0 0 Q (F0 m pc ls [.int out])) {ls : Array Slot} (hl : lv_has ls 3 [(0, .ref hAR0), (1, .int x1)]) : W p l e { frames := 2, cells := 0, slots := 0, locals := 42 } s m args below meth c s.heap [] 0 0 Q (F0 m 0 ls []) := by
  have hx := F.1
  have hb := F.2.1
  have hown := F.2.2.2.1
  have hts := F.2.2.2.2
  have hK := hG.1.1
  rw [f_X6_waysOf] at hf
  refine lv_aload_n hx hb dX6_waysOf_0 rfl (lv_at hl 0 rfl) ?_
  refine lv_iconst (v := (2 : Int32)) hx hb dX6_waysOf_1 (by decide) ?_
  refine lv_iload_n hx hb dX6_waysOf_2 rfl (lv_at hl 1 rfl) ?_
  refine lv_iconst (v := (4 : Int32)) hx hb dX6_waysOf_3 (by decide) ?_
  refine lv_idiv hx hb dX6_waysOf_4 (by decide) ?_
  refine lv_iadd hx hb dX6_waysOf_5 ?_
  obtain ⟨k16, hf⟩ := fp_c hf
  refine va_iald hx hb hK hP 0 0 rfl rfl k16 dX6_waysOf_6 ?_
  refine lv_istore_n (lv' := [(2, .int (fr0 (Int32.toNatClampNeg ((2 : Int32) + (x1 / (4 : Int32)))))), (0, .ref hAR0), (1, .int x1)]) hx hb dX6_waysOf_7 rfl hl (by decide) rfl (fun ls hl => ?_)
  refine lv_iload_n hx hb dX6_waysOf_8 rfl (lv_at hl 0 rfl) ?_
  obtain ⟨r17, er17, hf⟩ := fp_b hf
  refine RoI.callS (c_X6_isHalf (l := l) (D := D) (cI := cI) (cJ := cJ) (cZ := cZ) (cQ := cQ) (qs := qs) er17) F (va_cwS 1 hts gX6_waysOf_X6_isHalf rfl rfl rfl yd_X6_isHalf ⟨Nat.le_of_ble_eq_true rfl, Nat.le_of_ble_eq_true rfl⟩) hG hP [] rfl rfl hl.1 rfl (Nat.le_of_ble_eq_true rfl) dX6_waysOf_9 ⟨Nat.zero_le _, Nat.zero_le _⟩ ?_
  refine lv_if_eq (tgt := 19) hx hb dX6_waysOf_12 (by decide) (fun c18 => ?_) (fun c18 => ?_)
  · have hf := fp_t hf c18
    refine lv_iload_n hx hb dX6_waysOf_19 rfl (lv_at hl 0 rfl) ?_
    refine lv_iconst (v := (5 : Int32)) hx hb dX6_waysOf_20 (by decide) ?_
    refine lv_icmp_eq (tgt := 30) hx hb dX6_waysOf_21 (by decide) (fun c19 => ?_) (fun c19 => ?_)
    · have hf := fp_t hf c19
      refine lv_iconst (v := (0 : Int32)) hx hb dX6_waysOf_30 (by decide) ?_
      refine lv_goto (tgt := 35) hx hb dX6_waysOf_31 (by decide) ?_
      obtain rfl := Option.some.inj hf
      exact hret _ _ dX6_waysOf_35 (vp_nar_int _)
    · have hf := fp_f hf c19
      refine lv_iload_n hx hb dX6_waysOf_24 rfl (lv_at hl 0 rfl) ?_
      refine lv_bipush (v := (7 : Int32)) hx hb dX6_waysOf_25 (by decide) ?_
      refine lv_icmp_ne (tgt := 34) hx hb dX6_waysOf_27 (by decide) (fun c20 => ?_) (fun c20 => ?_)
      · have hf := fp_f hf c20
        refine lv_iconst (v := (1 : Int32)) hx hb dX6_waysOf_34 (by decide) ?_
        obtain rfl := Option.some.inj hf
        exact hret _ _ dX6_waysOf_35 (vp_nar_int _)
      · have hf := fp_t hf c20
        refine lv_iconst (v := (0 : Int32)) hx hb dX6_waysOf_30 (by decide) ?_
        refine lv_goto (tgt := 35) hx hb dX6_waysOf_31 (by decide) ?_
        obtain rfl := Option.some.inj hf
        exact hret _ _ dX6_waysOf_35 (vp_nar_int _)
  · have hf := fp_f hf c18
    refine lv_iconst (v := (2 : Int32)) hx hb dX6_waysOf_15 (by decide) ?_
    refine lv_goto (tgt := 35) hx hb dX6_waysOf_16 (by decide) ?_
    obtain rfl := Option.some.inj hf
    exact hret _ _ dX6_waysOf_35 (vp_nar_int _)
set_option maxRecDepth 100000 in
theorem c_X6_waysOf {l : Launch} {D : va_G} {cI cJ cZ cQ : ClassId} {qs : Nat × Nat × Nat} {hAR0 : Nat} {fr0 : Nat → Int32} {x1 : Int32} {out : Int32} (hf : f_X6_waysOf fr0 x1 = some out) : RoI l yX6_waysOf wsX6_waysOf { frames := 2, cells := 0, slots := 0, locals := 42 } D (ty4 cI cJ cZ cQ) qs [.ref hAR0, .int x1] [(hAR0, .inl (cI, 22, .inl fr0))] out :=
  RoI.of (own := RX6) (by decide +kernel) rfl rfl (Nat.le_of_ble_eq_true rfl) (fun F hG hP hret ls hl => b_X6_waysOf F hG hP hf hret hl)
-- method X6_goes
theorem yd_X6_goes : yX6_goes.cls ≠ "java/lang/invoke/MethodHandle" ∧ yX6_goes.cls ≠ "java/lang/invoke/VarHandle" ∧ (parseMethodDescriptor yX6_goes.desc).map (fun d => d.parameters.length) = some 3 := by decide +kernel
def f_X6_goes (fr0 : Nat → Int32) (x1 : Int32) (x2 : Int32) : Option (Int32) :=
  chk (aix ((2 : Int32) + (x1 / (4 : Int32))) 22) (Option.bind (f_X6_in (fr0 (Int32.toNatClampNeg ((2 : Int32) + (x1 / (4 : Int32))))) (1 : Int32) (2 : Int32)) (fun r22 => Option.bind (if r22 = 0 then Option.bind (f_X6_isHalf (fr0 (Int32.toNatClampNeg ((2 : Int32) + (x1 / (4 : Int32)))))) (fun r31 => (if r31 = 0 then some (0 : Int32) else (if x2 = (1 : Int32) then some (1 : Int32) else some (0 : Int32)))) else some (1 : Int32)) (fun j23 => Option.bind (if j23 = 0 then some (x1 - ((x1 / (4 : Int32)) * (4 : Int32))) else Option.bind (f_X6_turned (fr0 (Int32.toNatClampNeg ((2 : Int32) + (x1 / (4 : Int32))))) (x1 - ((x1 / (4 : Int32)) * (4 : Int32)))) (fun r29 => some r29)) (fun j25 => Option.bind (f_X6_onward fr0 (x1 / (4 : Int32)) j25) (fun r27 => some r27)))))
set_option maxHeartbeats 4000000 in
set_option maxRecDepth 100000 in
theorem b_X6_goes {p : Program} {l : Launch} {e : Env} {s : State} {m : MethodId} {args : Array Value} {below : List Frame} {meth : Method} {c : Code} {Q : State → Prop} {D : va_G} {cI cJ cZ cQ : ClassId} {qs : Nat × Nat × Nat} {hAR0 : Nat} {fr0 : Nat → Int32} {x1 : Int32} {x2 : Int32} {out : Int32} (F : CallFix p m c cX6_goes 7 s args wsX6_goes RX6) (hG : kR D (ty4 cI cJ cZ cQ) qs s s.heap) (hP : va_P D vwCl [(hAR0, .inl (cI, 22, .inl fr0))] s.heap) (hf : f_X6_goes fr0 x1 x2 = some out) (hret : ∀ (pc : Nat) (ls : Array Slot), decode cX6_goes pc = .ok (.ireturn, 1) → narrow .int (.int out) = .int out → W p l e { frames := 2, cells := 0, slots := 0, locals := 42 } s m args below meth c s.heap [] 0 0 Q (F0 m pc ls [.int out])) {ls : Array Slot} (hl : lv_has ls 7 [(0, .ref hAR0), (1, .int x1), (2, .int x2)]) : W p l e { frames := 2, cells := 0, slots := 0, locals := 42 } s m args below meth c s.heap [] 0 0 Q (F0 m 0 ls []) := by
  have hx := F.1
  have hb := F.2.1
  have hown := F.2.2.2.1
  have hts := F.2.2.2.2
  have hK := hG.1.1
  rw [f_X6_goes] at hf
  refine lv_iload_n hx hb dX6_goes_0 rfl (lv_at hl 1 rfl) ?_
  refine lv_iconst (v := (4 : Int32)) hx hb dX6_goes_1 (by decide) ?_
  refine lv_idiv hx hb dX6_goes_2 (by decide) ?_
  refine lv_istore_n (lv' := [(3, .int (x1 / (4 : Int32))), (0, .ref hAR0), (1, .int x1), (2, .int x2)]) hx hb dX6_goes_3 rfl hl (by decide) rfl (fun ls hl => ?_)
  refine lv_iload_n hx hb dX6_goes_4 rfl (lv_at hl 2 rfl) ?_
  refine lv_iconst (v := (4 : Int32)) hx hb dX6_goes_5 (by decide) ?_
  refine lv_irem hx hb dX6_goes_6 (by decide) ?_
  refine lv_istore (lv' := [(4, .int (x1 - ((x1 / (4 : Int32)) * (4 : Int32)))), (3, .int (x1 / (4 : Int32))), (0, .ref hAR0), (1, .int x1), (2, .int x2)]) hx hb dX6_goes_7 hl (by decide) rfl (fun ls hl => ?_)
  refine lv_aload_n hx hb dX6_goes_9 rfl (lv_at hl 2 rfl) ?_
  refine lv_iconst (v := (2 : Int32)) hx hb dX6_goes_10 (by decide) ?_
  refine lv_iload_n hx hb dX6_goes_11 rfl (lv_at hl 1 rfl) ?_
  refine lv_iadd hx hb dX6_goes_12 ?_
  obtain ⟨k21, hf⟩ := fp_c hf
  refine va_iald hx hb hK hP 0 0 rfl rfl k21 dX6_goes_13 ?_
  refine lv_istore (lv' := [(5, .int (fr0 (Int32.toNatClampNeg ((2 : Int32) + (x1 / (4 : Int32)))))), (4, .int (x1 - ((x1 / (4 : Int32)) * (4 : Int32)))), (3, .int (x1 / (4 : Int32))), (0, .ref hAR0), (1, .int x1), (2, .int x2)]) hx hb dX6_goes_14 hl (by decide) rfl (fun ls hl => ?_)
  refine lv_iload hx hb dX6_goes_16 (lv_at hl 0 rfl) ?_
  refine lv_iconst (v := (1 : Int32)) hx hb dX6_goes_18 (by decide) ?_
  refine lv_iconst (v := (2 : Int32)) hx hb dX6_goes_19 (by decide) ?_
  obtain ⟨r22, er22, hf⟩ := fp_b hf
  refine RoI.callS (c_X6_in (l := l) (D := D) (cI := cI) (cJ := cJ) (cZ := cZ) (cQ := cQ) (qs := qs) er22) F (va_cwS 3 hts gX6_goes_X6_in rfl rfl rfl yd_X6_in ⟨Nat.le_of_ble_eq_true rfl, Nat.le_of_ble_eq_true rfl⟩) hG hP [] rfl rfl hl.1 rfl (Nat.le_of_ble_eq_true rfl) dX6_goes_20 ⟨Nat.zero_le _, Nat.zero_le _⟩ ?_
  obtain ⟨j23, ej23, hf⟩ := fp_b hf
  have hj24 : ∀ ls : Array Slot, lv_has ls 7 [(0, .ref hAR0), (3, .int (x1 / (4 : Int32))), (4, .int (x1 - ((x1 / (4 : Int32)) * (4 : Int32)))), (5, .int (fr0 (Int32.toNatClampNeg ((2 : Int32) + (x1 / (4 : Int32))))))] → W p l e { frames := 2, cells := 0, slots := 0, locals := 42 } s m args below meth c s.heap [] 0 0 Q (F0 m 44 ls [.int j23]) := by
    intro ls hl
    refine lv_istore (lv' := [(6, .int j23), (0, .ref hAR0), (3, .int (x1 / (4 : Int32))), (4, .int (x1 - ((x1 / (4 : Int32)) * (4 : Int32)))), (5, .int (fr0 (Int32.toNatClampNeg ((2 : Int32) + (x1 / (4 : Int32))))))]) hx hb dX6_goes_44 hl (by decide) rfl (fun ls hl => ?_)
    refine lv_aload_n hx hb dX6_goes_46 rfl (lv_at hl 1 rfl) ?_
    refine lv_iload_n hx hb dX6_goes_47 rfl (lv_at hl 2 rfl) ?_
    refine lv_iload hx hb dX6_goes_48 (lv_at hl 0 rfl) ?_
    obtain ⟨j25, ej25, hf⟩ := fp_b hf
    have hj26 : ∀ ls : Array Slot, lv_has ls 7 [] → W p l e { frames := 2, cells := 0, slots := 0, locals := 42 } s m args below meth c s.heap [] 0 0 Q (F0 m 65 ls [.int j25, .int (x1 / (4 : Int32)), .ref hAR0]) := by
      intro ls hl
      obtain ⟨r27, er27, hf⟩ := fp_b hf
      refine RoI.callS (c_X6_onward (l := l) (D := D) (cI := cI) (cJ := cJ) (cZ := cZ) (cQ := cQ) (qs := qs) er27) F (va_cwS 3 hts gX6_goes_X6_onward rfl rfl rfl yd_X6_onward ⟨Nat.le_of_ble_eq_true rfl, Nat.le_of_ble_eq_true rfl⟩) hG hP [0] rfl rfl hl.1 rfl (Nat.le_of_ble_eq_true rfl) dX6_goes_65 ⟨Nat.zero_le _, Nat.zero_le _⟩ ?_
      obtain rfl := Option.some.inj hf
      exact hret _ _ dX6_goes_68 (vp_nar_int _)
    replace hf := ej25
    refine lv_if_eq (tgt := 63) hx hb dX6_goes_50 (by decide) (fun c28 => ?_) (fun c28 => ?_)
    · have hf := fp_t hf c28
      refine lv_iload hx hb dX6_goes_63 (lv_at hl 3 rfl) ?_
      obtain rfl := Option.some.inj hf
      exact hj26 _ (lv_sub hl [] rfl)
    · have hf := fp_f hf c28
      refine lv_iload hx hb dX6_goes_53 (lv_at hl 4 rfl) ?_
      refine lv_iload hx hb dX6_goes_55 (lv_at hl 3 rfl) ?_
      obtain ⟨r29, er29, hf⟩ := fp_b hf
      refine RoI.callS (c_X6_turned (l := l) (D := D) (cI := cI) (cJ := cJ) (cZ := cZ) (cQ := cQ) (qs := qs) er29) F (va_cwS 2 hts gX6_goes_X6_turned rfl rfl rfl yd_X6_turned ⟨Nat.le_of_ble_eq_true rfl, Nat.le_of_ble_eq_true rfl⟩) hG hP [] rfl rfl hl.1 rfl (Nat.le_of_ble_eq_true rfl) dX6_goes_57 ⟨Nat.zero_le _, Nat.zero_le _⟩ ?_
      refine lv_goto (tgt := 65) hx hb dX6_goes_60 (by decide) ?_
      obtain rfl := Option.some.inj hf
      exact hj26 _ (lv_sub hl [] rfl)
  replace hf := ej23
  refine lv_if_ne (tgt := 39) hx hb dX6_goes_23 (by decide) (fun c30 => ?_) (fun c30 => ?_)
  · have hf := fp_f hf c30
    refine lv_iconst (v := (1 : Int32)) hx hb dX6_goes_39 (by decide) ?_
    refine lv_goto (tgt := 44) hx hb dX6_goes_40 (by decide) ?_
    obtain rfl := Option.some.inj hf
    exact hj24 _ (lv_sub hl [3, 2, 1, 0] rfl)
  · have hf := fp_t hf c30
    refine lv_iload hx hb dX6_goes_26 (lv_at hl 0 rfl) ?_
    obtain ⟨r31, er31, hf⟩ := fp_b hf
    refine RoI.callS (c_X6_isHalf (l := l) (D := D) (cI := cI) (cJ := cJ) (cZ := cZ) (cQ := cQ) (qs := qs) er31) F (va_cwS 1 hts gX6_goes_X6_isHalf rfl rfl rfl yd_X6_isHalf ⟨Nat.le_of_ble_eq_true rfl, Nat.le_of_ble_eq_true rfl⟩) hG hP [] rfl rfl hl.1 rfl (Nat.le_of_ble_eq_true rfl) dX6_goes_28 ⟨Nat.zero_le _, Nat.zero_le _⟩ ?_
    refine lv_if_eq (tgt := 43) hx hb dX6_goes_31 (by decide) (fun c32 => ?_) (fun c32 => ?_)
    · have hf := fp_t hf c32
      refine lv_iconst (v := (0 : Int32)) hx hb dX6_goes_43 (by decide) ?_
      obtain rfl := Option.some.inj hf
      exact hj24 _ (lv_sub hl [3, 2, 1, 0] rfl)
    · have hf := fp_f hf c32
      refine lv_iload_n hx hb dX6_goes_34 rfl (lv_at hl 5 rfl) ?_
      refine lv_iconst (v := (1 : Int32)) hx hb dX6_goes_35 (by decide) ?_
      refine lv_icmp_ne (tgt := 43) hx hb dX6_goes_36 (by decide) (fun c33 => ?_) (fun c33 => ?_)
      · have hf := fp_f hf c33
        refine lv_iconst (v := (0 : Int32)) hx hb dX6_goes_43 (by decide) ?_
        obtain rfl := Option.some.inj hf
        exact hj24 _ (lv_sub hl [3, 2, 1, 0] rfl)
      · have hf := fp_t hf c33
        refine lv_iconst (v := (1 : Int32)) hx hb dX6_goes_39 (by decide) ?_
        refine lv_goto (tgt := 44) hx hb dX6_goes_40 (by decide) ?_
        obtain rfl := Option.some.inj hf
        exact hj24 _ (lv_sub hl [3, 2, 1, 0] rfl)
set_option maxRecDepth 100000 in
theorem c_X6_goes {l : Launch} {D : va_G} {cI cJ cZ cQ : ClassId} {qs : Nat × Nat × Nat} {hAR0 : Nat} {fr0 : Nat → Int32} {x1 : Int32} {x2 : Int32} {out : Int32} (hf : f_X6_goes fr0 x1 x2 = some out) : RoI l yX6_goes wsX6_goes { frames := 2, cells := 0, slots := 0, locals := 42 } D (ty4 cI cJ cZ cQ) qs [.ref hAR0, .int x1, .int x2] [(hAR0, .inl (cI, 22, .inl fr0))] out :=
  RoI.of (own := RX6) (by decide +kernel) rfl rfl (Nat.le_of_ble_eq_true rfl) (fun F hG hP hret ls hl => b_X6_goes F hG hP hf hret hl)
-- method X6_follows
theorem yd_X6_follows : yX6_follows.cls ≠ "java/lang/invoke/MethodHandle" ∧ yX6_follows.cls ≠ "java/lang/invoke/VarHandle" ∧ (parseMethodDescriptor yX6_follows.desc).map (fun d => d.parameters.length) = some 2 := by decide +kernel
def f_X6_follows_4 (fr0 : Nat → Int32) (y2 : Int32) (y3 : Int32) : Option ((Int32 × Int32) ⊕ ((Int32) ⊕ (Unit))) :=
  (if (100 : Int32) ≤ y3 then some (Sum.inr (Sum.inr ())) else (if y2 < 0 then some (Sum.inr (Sum.inl y2)) else Option.bind (f_X6_waysOf fr0 y2) (fun r36 => (if r36 = (2 : Int32) then some (Sum.inr (Sum.inl y2)) else Option.bind (f_X6_waysOf fr0 y2) (fun r38 => (if r38 = 0 then some (Sum.inr (Sum.inl (-1 : Int32))) else Option.bind (f_X6_goes fr0 y2 (0 : Int32)) (fun r40 => some (Sum.inl (r40, (y3 + (1 : Int32)))))))))))
set_option maxHeartbeats 4000000 in
set_option maxRecDepth 100000 in
theorem lp_X6_follows_4 {p : Program} {l : Launch} {e : Env} {s : State} {m : MethodId} {args : Array Value} {below : List Frame} {meth : Method} {c : Code} {Q : State → Prop} {D : va_G} {cI cJ cZ cQ : ClassId} {qs : Nat × Nat × Nat} {hAR0 : Nat} {fr0 : Nat → Int32}  (F : CallFix p m c cX6_follows 4 s args wsX6_follows RX6) (hG : kR D (ty4 cI cJ cZ cQ) qs s s.heap) (hP : va_P D vwCl [(hAR0, .inl (cI, 22, .inl fr0))] s.heap) :
    ∀ (n : Nat) {y2 : Int32} {y3 : Int32} (out : (Int32) ⊕ (Unit)), lpf (fun s => f_X6_follows_4 fr0 s.1 s.2) n (y2, y3) = some out → ∀ {ls : Array Slot}, lv_has ls 4 [(0, .ref hAR0), (2, .int y2), (3, .int y3)] → (∀ xx, out = Sum.inr xx → ∀ ls : Array Slot, lv_has ls 4 [(0, .ref hAR0)] → W p l e { frames := 3, cells := 0, slots := 0, locals := 68 } s m args below meth c s.heap [] 0 0 Q (F0 m 48 ls [])) → (∀ r9, out = Sum.inl r9 → ∀ (pc : Nat) (ls : Array Slot), decode cX6_follows pc = .ok (.ireturn, 1) → narrow .int (.int r9) = .int r9 → W p l e { frames := 3, cells := 0, slots := 0, locals := 68 } s m args below meth c s.heap [] 0 0 Q (F0 m pc ls [.int r9])) → W p l e { frames := 3, cells := 0, slots := 0, locals := 68 } s m args below meth c s.heap [] 0 0 Q (F0 m 4 ls []) := by
  have hx := F.1
  have hb := F.2.1
  have hown := F.2.2.2.1
  have hts := F.2.2.2.2
  have hK := hG.1.1
  intro n
  induction n with
  | zero =>
    intro y2 y3 out ho
    exact (fp_l0 ho).elim
  | succ n ih =>
    intro y2 y3 out ho ls hl hex hre
    obtain ⟨o, hf, ho⟩ := fp_l ho
    have hf : f_X6_follows_4 fr0 y2 y3 = some o := hf
    rw [f_X6_follows_4] at hf
    refine lv_iload_n hx hb dX6_follows_4 rfl (lv_at hl 2 rfl) ?_
    refine lv_bipush (v := (100 : Int32)) hx hb dX6_follows_5 (by decide) ?_
    refine lv_icmp_ge (tgt := 48) hx hb dX6_follows_7 (by decide) (fun c34 => ?_) (fun c34 => ?_)
    · have hf := fp_t hf c34
      obtain rfl := Option.some.inj hf
      have ho := fp_inr ho
      obtain rfl := Option.some.inj ho
      exact hex _ rfl _ (lv_sub hl [0] rfl)
    · have hf := fp_f hf c34
      refine lv_iload_n hx hb dX6_follows_10 rfl (lv_at hl 1 rfl) ?_
      refine lv_if_lt (tgt := 23) hx hb dX6_follows_11 (by decide) (fun c35 => ?_) (fun c35 => ?_)
      · have hf := fp_t hf c35
        refine lv_iload_n hx hb dX6_follows_23 rfl (lv_at hl 1 rfl) ?_
        obtain rfl := Option.some.inj hf
        have ho := fp_inr ho
        obtain rfl := Option.some.inj ho
        exact hre _ rfl _ _ dX6_follows_24 (vp_nar_int _)
      · have hf := fp_f hf c35
        refine lv_aload_n hx hb dX6_follows_14 rfl (lv_at hl 0 rfl) ?_
        refine lv_iload_n hx hb dX6_follows_15 rfl (lv_at hl 1 rfl) ?_
        obtain ⟨r36, er36, hf⟩ := fp_b hf
        refine RoI.callS (c_X6_waysOf (l := l) (D := D) (cI := cI) (cJ := cJ) (cZ := cZ) (cQ := cQ) (qs := qs) er36) F (va_cwS 2 hts gX6_follows_X6_waysOf rfl rfl rfl yd_X6_waysOf ⟨Nat.le_of_ble_eq_true rfl, Nat.le_of_ble_eq_true rfl⟩) hG hP [0] rfl rfl hl.1 rfl (Nat.le_of_ble_eq_true rfl) dX6_follows_16 ⟨Nat.zero_le _, Nat.zero_le _⟩ ?_
        refine lv_iconst (v := (2 : Int32)) hx hb dX6_follows_19 (by decide) ?_
        refine lv_icmp_ne (tgt := 25) hx hb dX6_follows_20 (by decide) (fun c37 => ?_) (fun c37 => ?_)
        · have hf := fp_f hf c37
          refine lv_aload_n hx hb dX6_follows_25 rfl (lv_at hl 0 rfl) ?_
          refine lv_iload_n hx hb dX6_follows_26 rfl (lv_at hl 1 rfl) ?_
          obtain ⟨r38, er38, hf⟩ := fp_b hf
          refine RoI.callS (c_X6_waysOf (l := l) (D := D) (cI := cI) (cJ := cJ) (cZ := cZ) (cQ := cQ) (qs := qs) er38) F (va_cwS 2 hts gX6_follows_X6_waysOf rfl rfl rfl yd_X6_waysOf ⟨Nat.le_of_ble_eq_true rfl, Nat.le_of_ble_eq_true rfl⟩) hG hP [0] rfl rfl hl.1 rfl (Nat.le_of_ble_eq_true rfl) dX6_follows_27 ⟨Nat.zero_le _, Nat.zero_le _⟩ ?_
          refine lv_if_ne (tgt := 35) hx hb dX6_follows_30 (by decide) (fun c39 => ?_) (fun c39 => ?_)
          · have hf := fp_f hf c39
            refine lv_aload_n hx hb dX6_follows_35 rfl (lv_at hl 0 rfl) ?_
            refine lv_iload_n hx hb dX6_follows_36 rfl (lv_at hl 1 rfl) ?_
            refine lv_iconst (v := (0 : Int32)) hx hb dX6_follows_37 (by decide) ?_
            obtain ⟨r40, er40, hf⟩ := fp_b hf
            refine RoI.callS (c_X6_goes (l := l) (D := D) (cI := cI) (cJ := cJ) (cZ := cZ) (cQ := cQ) (qs := qs) er40) F (va_cwS 3 hts gX6_follows_X6_goes rfl rfl rfl yd_X6_goes ⟨Nat.le_of_ble_eq_true rfl, Nat.le_of_ble_eq_true rfl⟩) hG hP [0] rfl rfl hl.1 rfl (Nat.le_of_ble_eq_true rfl) dX6_follows_38 ⟨Nat.zero_le _, Nat.zero_le _⟩ ?_
            refine lv_istore_n (lv' := [(2, .int r40), (0, .ref hAR0), (3, .int y3)]) hx hb dX6_follows_41 rfl hl (by decide) rfl (fun ls hl => ?_)
            refine lv_iinc (v := (y3 + (1 : Int32))) (lv' := [(3, .int (y3 + (1 : Int32))), (2, .int r40), (0, .ref hAR0)]) hx hb dX6_follows_42 hl (k := 2) rfl rfl (by decide) rfl (fun ls hl => ?_)
            refine lv_goto (tgt := 4) hx hb dX6_follows_45 (by decide) ?_
            obtain rfl := Option.some.inj hf
            exact ih _ (fp_inl ho) (lv_sub hl [2, 1, 0] rfl) hex hre
          · have hf := fp_t hf c39
            refine lv_iconst (v := (-1 : Int32)) hx hb dX6_follows_33 (by decide) ?_
            obtain rfl := Option.some.inj hf
            have ho := fp_inr ho
            obtain rfl := Option.some.inj ho
            exact hre _ rfl _ _ dX6_follows_34 (vp_nar_int _)
        · have hf := fp_t hf c37
          refine lv_iload_n hx hb dX6_follows_23 rfl (lv_at hl 1 rfl) ?_
          obtain rfl := Option.some.inj hf
          have ho := fp_inr ho
          obtain rfl := Option.some.inj ho
          exact hre _ rfl _ _ dX6_follows_24 (vp_nar_int _)
def f_X6_follows (fr0 : Nat → Int32) (x1 : Int32) : Option (Int32) :=
  Option.bind (lpf (fun s => f_X6_follows_4 fr0 s.1 s.2) 1000 (x1, (0 : Int32))) (fun o41 => Sum.elim (fun r9 => some r9) (fun z42 => some (-100 : Int32)) o41)
set_option maxHeartbeats 4000000 in
set_option maxRecDepth 100000 in
theorem b_X6_follows {p : Program} {l : Launch} {e : Env} {s : State} {m : MethodId} {args : Array Value} {below : List Frame} {meth : Method} {c : Code} {Q : State → Prop} {D : va_G} {cI cJ cZ cQ : ClassId} {qs : Nat × Nat × Nat} {hAR0 : Nat} {fr0 : Nat → Int32} {x1 : Int32} {out : Int32} (F : CallFix p m c cX6_follows 4 s args wsX6_follows RX6) (hG : kR D (ty4 cI cJ cZ cQ) qs s s.heap) (hP : va_P D vwCl [(hAR0, .inl (cI, 22, .inl fr0))] s.heap) (hf : f_X6_follows fr0 x1 = some out) (hret : ∀ (pc : Nat) (ls : Array Slot), decode cX6_follows pc = .ok (.ireturn, 1) → narrow .int (.int out) = .int out → W p l e { frames := 3, cells := 0, slots := 0, locals := 68 } s m args below meth c s.heap [] 0 0 Q (F0 m pc ls [.int out])) {ls : Array Slot} (hl : lv_has ls 4 [(0, .ref hAR0), (1, .int x1)]) : W p l e { frames := 3, cells := 0, slots := 0, locals := 68 } s m args below meth c s.heap [] 0 0 Q (F0 m 0 ls []) := by
  have hx := F.1
  have hb := F.2.1
  have hown := F.2.2.2.1
  have hts := F.2.2.2.2
  have hK := hG.1.1
  rw [f_X6_follows] at hf
  refine lv_iload_n hx hb dX6_follows_0 rfl (lv_at hl 1 rfl) ?_
  refine lv_istore_n (lv' := [(2, .int x1), (0, .ref hAR0), (1, .int x1)]) hx hb dX6_follows_1 rfl hl (by decide) rfl (fun ls hl => ?_)
  refine lv_iconst (v := (0 : Int32)) hx hb dX6_follows_2 (by decide) ?_
  refine lv_istore_n (lv' := [(3, .int (0 : Int32)), (2, .int x1), (0, .ref hAR0), (1, .int x1)]) hx hb dX6_follows_3 rfl hl (by decide) rfl (fun ls hl => ?_)
  obtain ⟨o41, eo41, hf⟩ := fp_b hf
  refine lp_X6_follows_4 F hG hP _ _ eo41 (lv_sub hl [2, 1, 0] rfl) (fun z42 hz42 ls hl => ?_) (fun r9 h9 => ?_)
  · subst hz42
    have hf := fp_inr hf
    refine lv_bipush (v := (-100 : Int32)) hx hb dX6_follows_48 (by decide) ?_
    obtain rfl := Option.some.inj hf
    exact hret _ _ dX6_follows_50 (vp_nar_int _)
  · subst h9
    have hf := fp_inl hf
    obtain rfl := Option.some.inj hf
    exact hret
set_option maxRecDepth 100000 in
theorem c_X6_follows {l : Launch} {D : va_G} {cI cJ cZ cQ : ClassId} {qs : Nat × Nat × Nat} {hAR0 : Nat} {fr0 : Nat → Int32} {x1 : Int32} {out : Int32} (hf : f_X6_follows fr0 x1 = some out) : RoI l yX6_follows wsX6_follows { frames := 3, cells := 0, slots := 0, locals := 68 } D (ty4 cI cJ cZ cQ) qs [.ref hAR0, .int x1] [(hAR0, .inl (cI, 22, .inl fr0))] out :=
  RoI.of (own := RX6) (by decide +kernel) rfl rfl (Nat.le_of_ble_eq_true rfl) (fun F hG hP hret ls hl => b_X6_follows F hG hP hf hret hl)
-- method X6_isAsked
theorem yd_X6_isAsked : yX6_isAsked.cls ≠ "java/lang/invoke/MethodHandle" ∧ yX6_isAsked.cls ≠ "java/lang/invoke/VarHandle" ∧ (parseMethodDescriptor yX6_isAsked.desc).map (fun d => d.parameters.length) = some 2 := by decide +kernel
def f_X6_isAsked (x0 : Int32) (x1 : Int32) : Option (Int32) :=
  (if 0 ≤ x0 then some (0 : Int32) else (if x0 = (-100 : Int32) then some (0 : Int32) else (if x1 = (-2 : Int32) then some (1 : Int32) else (if x1 = (-1 : Int32) then (if x0 = (-1 : Int32) then some (1 : Int32) else some (0 : Int32)) else (if x0 = ((-2 : Int32) - x1) then some (1 : Int32) else some (0 : Int32))))))
set_option maxHeartbeats 4000000 in
set_option maxRecDepth 100000 in
theorem b_X6_isAsked {p : Program} {l : Launch} {e : Env} {s : State} {m : MethodId} {args : Array Value} {below : List Frame} {meth : Method} {c : Code} {Q : State → Prop} {D : va_G} {cI cJ cZ cQ : ClassId} {qs : Nat × Nat × Nat}  {x0 : Int32} {x1 : Int32} {out : Int32} (F : CallFix p m c cX6_isAsked 2 s args wsX6_isAsked RX6) (hG : kR D (ty4 cI cJ cZ cQ) qs s s.heap) (hP : va_P D vwCl [] s.heap) (hf : f_X6_isAsked x0 x1 = some out) (hret : ∀ (pc : Nat) (ls : Array Slot), decode cX6_isAsked pc = .ok (.ireturn, 1) → narrow .boolean (.int out) = .int out → W p l e { frames := 0, cells := 0, slots := 0, locals := 0 } s m args below meth c s.heap [] 0 0 Q (F0 m pc ls [.int out])) {ls : Array Slot} (hl : lv_has ls 2 [(0, .int x0), (1, .int x1)]) : W p l e { frames := 0, cells := 0, slots := 0, locals := 0 } s m args below meth c s.heap [] 0 0 Q (F0 m 0 ls []) := by
  have hx := F.1
  have hb := F.2.1
  have hown := F.2.2.2.1
  have hts := F.2.2.2.2
  have hK := hG.1.1
  rw [f_X6_isAsked] at hf
  refine lv_iload_n hx hb dX6_isAsked_0 rfl (lv_at hl 0 rfl) ?_
  refine lv_if_ge (tgt := 10) hx hb dX6_isAsked_1 (by decide) (fun c43 => ?_) (fun c43 => ?_)
  · have hf := fp_t hf c43
    refine lv_iconst (v := (0 : Int32)) hx hb dX6_isAsked_10 (by decide) ?_
    obtain rfl := Option.some.inj hf
    exact hret _ _ dX6_isAsked_11 nar_b0
  · have hf := fp_f hf c43
    refine lv_iload_n hx hb dX6_isAsked_4 rfl (lv_at hl 0 rfl) ?_
    refine lv_bipush (v := (-100 : Int32)) hx hb dX6_isAsked_5 (by decide) ?_
    refine lv_icmp_ne (tgt := 12) hx hb dX6_isAsked_7 (by decide) (fun c44 => ?_) (fun c44 => ?_)
    · have hf := fp_f hf c44
      refine lv_iload_n hx hb dX6_isAsked_12 rfl (lv_at hl 1 rfl) ?_
      refine lv_bipush (v := (-2 : Int32)) hx hb dX6_isAsked_13 (by decide) ?_
      refine lv_icmp_eq (tgt := 39) hx hb dX6_isAsked_15 (by decide) (fun c45 => ?_) (fun c45 => ?_)
      · have hf := fp_t hf c45
        refine lv_iconst (v := (1 : Int32)) hx hb dX6_isAsked_39 (by decide) ?_
        refine lv_goto (tgt := 44) hx hb dX6_isAsked_40 (by decide) ?_
        obtain rfl := Option.some.inj hf
        exact hret _ _ dX6_isAsked_44 nar_b1
      · have hf := fp_f hf c45
        refine lv_iload_n hx hb dX6_isAsked_18 rfl (lv_at hl 1 rfl) ?_
        refine lv_iconst (v := (-1 : Int32)) hx hb dX6_isAsked_19 (by decide) ?_
        refine lv_icmp_ne (tgt := 31) hx hb dX6_isAsked_20 (by decide) (fun c46 => ?_) (fun c46 => ?_)
        · have hf := fp_f hf c46
          refine lv_iload_n hx hb dX6_isAsked_31 rfl (lv_at hl 0 rfl) ?_
          refine lv_bipush (v := (-2 : Int32)) hx hb dX6_isAsked_32 (by decide) ?_
          refine lv_iload_n hx hb dX6_isAsked_34 rfl (lv_at hl 1 rfl) ?_
          refine lv_isub hx hb dX6_isAsked_35 ?_
          refine lv_icmp_ne (tgt := 43) hx hb dX6_isAsked_36 (by decide) (fun c47 => ?_) (fun c47 => ?_)
          · have hf := fp_f hf c47
            refine lv_iconst (v := (0 : Int32)) hx hb dX6_isAsked_43 (by decide) ?_
            obtain rfl := Option.some.inj hf
            exact hret _ _ dX6_isAsked_44 nar_b0
          · have hf := fp_t hf c47
            refine lv_iconst (v := (1 : Int32)) hx hb dX6_isAsked_39 (by decide) ?_
            refine lv_goto (tgt := 44) hx hb dX6_isAsked_40 (by decide) ?_
            obtain rfl := Option.some.inj hf
            exact hret _ _ dX6_isAsked_44 nar_b1
        · have hf := fp_t hf c46
          refine lv_iload_n hx hb dX6_isAsked_23 rfl (lv_at hl 0 rfl) ?_
          refine lv_iconst (v := (-1 : Int32)) hx hb dX6_isAsked_24 (by decide) ?_
          refine lv_icmp_ne (tgt := 43) hx hb dX6_isAsked_25 (by decide) (fun c48 => ?_) (fun c48 => ?_)
          · have hf := fp_f hf c48
            refine lv_iconst (v := (0 : Int32)) hx hb dX6_isAsked_43 (by decide) ?_
            obtain rfl := Option.some.inj hf
            exact hret _ _ dX6_isAsked_44 nar_b0
          · have hf := fp_t hf c48
            refine lv_goto (tgt := 39) hx hb dX6_isAsked_28 (by decide) ?_
            refine lv_iconst (v := (1 : Int32)) hx hb dX6_isAsked_39 (by decide) ?_
            refine lv_goto (tgt := 44) hx hb dX6_isAsked_40 (by decide) ?_
            obtain rfl := Option.some.inj hf
            exact hret _ _ dX6_isAsked_44 nar_b1
    · have hf := fp_t hf c44
      refine lv_iconst (v := (0 : Int32)) hx hb dX6_isAsked_10 (by decide) ?_
      obtain rfl := Option.some.inj hf
      exact hret _ _ dX6_isAsked_11 nar_b0
set_option maxRecDepth 100000 in
theorem c_X6_isAsked {l : Launch} {D : va_G} {cI cJ cZ cQ : ClassId} {qs : Nat × Nat × Nat}  {x0 : Int32} {x1 : Int32} {out : Int32} (hf : f_X6_isAsked x0 x1 = some out) : RoI l yX6_isAsked wsX6_isAsked { frames := 0, cells := 0, slots := 0, locals := 0 } D (ty4 cI cJ cZ cQ) qs [.int x0, .int x1] [] out :=
  RoI.of (own := RX6) (by decide +kernel) rfl rfl (Nat.le_of_ble_eq_true rfl) (fun F hG hP hret ls hl => b_X6_isAsked F hG hP hf hret hl)
-- method X6_gathers
theorem yd_X6_gathers : yX6_gathers.cls = RX6 ∧ yX6_gathers.cls ≠ "java/lang/invoke/MethodHandle" ∧ yX6_gathers.cls ≠ "java/lang/invoke/VarHandle" ∧ (parseMethodDescriptor yX6_gathers.desc).map (fun d => d.parameters.length) = some 2 := by decide +kernel
theorem ku_X6_gathers_X6 : ∀ w ∈ u_ws RX6 TX6 19, w ∈ wsX6_gathers := by decide +kernel
theorem kw_X6_gathers_1 : Cond.fieldLink RX6 134 "MirrorSharesModel" "nodeMany" "I" ∈ wsX6_gathers := List.mem_of_getElem? (i := 1) rfl
theorem kw_X6_gathers_2 : Cond.fieldLink RX6 25 "MirrorSharesModel" "nodes" "[I" ∈ wsX6_gathers := List.mem_of_getElem? (i := 2) rfl
theorem kw_X6_gathers_3 : Cond.fieldLink RX6 28 "MirrorSharesModel" "comes" "[I" ∈ wsX6_gathers := List.mem_of_getElem? (i := 3) rfl
def f_X6_gathers_77 (mm : Int32) (md : Nat → Int32) (mk : Nat → Int32) (fr1 : Nat → Int32) (y3 : Int32) (y4 : Int32) (y5 : Int32) (y6 : Int32) (y7 : Int32) : Option ((Int32 × Int32) ⊕ (Int32)) :=
  (if mm ≤ y7 then some (Sum.inr y6) else (if y6 = 0 then chk (aix y7 20) ((if (md y7.toNatClampNeg) = y5 then some (Sum.inl ((1 : Int32), (y7 + (1 : Int32)))) else some (Sum.inl ((0 : Int32), (y7 + (1 : Int32)))))) else some (Sum.inl ((1 : Int32), (y7 + (1 : Int32))))))
set_option maxHeartbeats 4000000 in
set_option maxRecDepth 100000 in
theorem lp_X6_gathers_77 {p : Program} {l : Launch} {e : Env} {s : State} {m : MethodId} {args : Array Value} {below : List Frame} {meth : Method} {c : Code} {Q : State → Prop} {A : Nat → Prop} {D : va_G} {cI cJ cZ cQ : ClassId} {qs : Nat × Nat × Nat} {hMo hMn hMr hMa hMp hMt hMd hMk hMy hMl hMw hMi hMx hAR1 : Nat} {mm : Int32} {md : Nat → Int32} {mk : Nat → Int32} {fr1 : Nat → Int32} {y3 : Int32} {y4 : Int32} {y5 : Int32} {mc : Int32} {ml : Int32} {ms : Int32} {mu : Int64} {mv : Int64} {me : Int32} (F : CallFix p m c cX6_gathers 8 s args wsX6_gathers RX6) (hG : kW D (ty4 cI cJ cZ cQ) qs A s s.heap) (hA : ∀ q : Nat, s.heap.size ≤ q → A q) :
    ∀ (n : Nat) {y6 : Int32} {y7 : Int32} (out : Int32), lpf (fun s => f_X6_gathers_77 mm md mk fr1 y3 y4 y5 s.1 s.2) n (y6, y7) = some out → ∀ {H : Heap} {locs : List Loc} {ls : Array Slot}, va_P D vwCl [(hMo, .inr (6, [.ref hMn, .ref hMr, .ref hMa, .ref hMp, .int mc, .ref hMt, .int ml, .int ms, .ref hMd, .ref hMk, .ref hMy, .int mm, .ref hMl, .ref hMw, .long mu, .long mv, .ref hMi, .ref hMx, .int me])), (hMd, .inl (cI, 20, .inl md)), (hMk, .inl (cI, 40, .inl mk)), (hAR1, .inl (cI, 22, .inl fr1))] H → va_D A [(hMo, .inr (6, [.ref hMn, .ref hMr, .ref hMa, .ref hMp, .int mc, .ref hMt, .int ml, .int ms, .ref hMd, .ref hMk, .ref hMy, .int mm, .ref hMl, .ref hMw, .long mu, .long mv, .ref hMi, .ref hMx, .int me])), (hMd, .inl (cI, 20, .inl md)), (hMk, .inl (cI, 40, .inl mk)), (hAR1, .inl (cI, 22, .inl fr1))] → va_S A s.heap H locs → lv_has ls 8 [(0, .ref hMo), (1, .ref hAR1), (3, .int y3), (4, .int y4), (5, .int y5), (6, .int y6), (7, .int y7)] → (∀ (H : Heap) (locs : List Loc) (ls : Array Slot), va_P D vwCl [(hMo, .inr (6, [.ref hMn, .ref hMr, .ref hMa, .ref hMp, .int mc, .ref hMt, .int ml, .int ms, .ref hMd, .ref hMk, .ref hMy, .int mm, .ref hMl, .ref hMw, .long mu, .long mv, .ref hMi, .ref hMx, .int me])), (hMd, .inl (cI, 20, .inl md)), (hMk, .inl (cI, 40, .inl mk)), (hAR1, .inl (cI, 22, .inl fr1))] H → va_D A [(hMo, .inr (6, [.ref hMn, .ref hMr, .ref hMa, .ref hMp, .int mc, .ref hMt, .int ml, .int ms, .ref hMd, .ref hMk, .ref hMy, .int mm, .ref hMl, .ref hMw, .long mu, .long mv, .ref hMi, .ref hMx, .int me])), (hMd, .inl (cI, 20, .inl md)), (hMk, .inl (cI, 40, .inl mk)), (hAR1, .inl (cI, 22, .inl fr1))] → va_S A s.heap H locs → lv_has ls 8 [(0, .ref hMo), (1, .ref hAR1), (3, .int y3), (4, .int y4), (5, .int y5), (6, .int out)] → W p l e { frames := 4, cells := 0, slots := 0, locals := 91 } s m args below meth c H locs 0 0 Q (F0 m 116 ls [])) → W p l e { frames := 4, cells := 0, slots := 0, locals := 91 } s m args below meth c H locs 0 0 Q (F0 m 77 ls []) := by
  have hx := F.1
  have hb := F.2.1
  have hown := F.2.2.2.1
  have hts := F.2.2.2.2
  have hK := hG.1.1
  intro n
  induction n with
  | zero =>
    intro y6 y7 out ho
    exact (fp_l0 ho).elim
  | succ n ih =>
    intro y6 y7 out ho H locs ls hP hD hS hl hex
    obtain ⟨o, hf, ho⟩ := fp_l ho
    have hf : f_X6_gathers_77 mm md mk fr1 y3 y4 y5 y6 y7 = some o := hf
    rw [f_X6_gathers_77] at hf
    refine lv_iload hx hb dX6_gathers_77 (lv_at hl 6 rfl) ?_
    refine lv_aload_n hx hb dX6_gathers_79 rfl (lv_at hl 0 rfl) ?_
    refine va_get (D := D) (ci := 6) (v := .int mm) (C := RX6) (T := TX6) (N := 19) hx hb hts ku_X6_gathers_X6 hown hK hP 0 rfl rfl 11 (by decide) (hts _ kw_X6_gathers_1) (fun _ h9 => h9) rfl dX6_gathers_80 ?_
    refine lv_icmp_ge (tgt := 116) hx hb dX6_gathers_83 (by decide) (fun c57 => ?_) (fun c57 => ?_)
    · have hf := fp_t hf c57
      obtain rfl := Option.some.inj hf
      have ho := fp_inr ho
      obtain rfl := Option.some.inj ho
      exact hex _ _ _ hP hD hS (lv_sub hl [0, 1, 2, 3, 4, 5] rfl)
    · have hf := fp_f hf c57
      refine lv_iload hx hb dX6_gathers_86 (lv_at hl 5 rfl) ?_
      refine lv_if_ne (tgt := 103) hx hb dX6_gathers_88 (by decide) (fun c58 => ?_) (fun c58 => ?_)
      · have hf := fp_f hf c58
        refine lv_iconst (v := (1 : Int32)) hx hb dX6_gathers_103 (by decide) ?_
        refine lv_goto (tgt := 108) hx hb dX6_gathers_104 (by decide) ?_
        refine lv_istore (lv' := [(6, .int (1 : Int32)), (0, .ref hMo), (1, .ref hAR1), (3, .int y3), (4, .int y4), (5, .int y5), (7, .int y7)]) hx hb dX6_gathers_108 hl (by decide) rfl (fun ls hl => ?_)
        refine lv_iinc (v := (y7 + (1 : Int32))) (lv' := [(7, .int (y7 + (1 : Int32))), (6, .int (1 : Int32)), (0, .ref hMo), (1, .ref hAR1), (3, .int y3), (4, .int y4), (5, .int y5)]) hx hb dX6_gathers_110 hl (k := 6) rfl rfl (by decide) rfl (fun ls hl => ?_)
        refine lv_goto (tgt := 77) hx hb dX6_gathers_113 (by decide) ?_
        obtain rfl := Option.some.inj hf
        exact ih _ (fp_inl ho) hP hD hS (lv_sub hl [2, 3, 4, 5, 6, 1, 0] rfl) hex
      · have hf := fp_t hf c58
        refine lv_aload_n hx hb dX6_gathers_91 rfl (lv_at hl 0 rfl) ?_
        refine va_get (D := D) (ci := 6) (v := .ref hMd) (C := RX6) (T := TX6) (N := 19) hx hb hts ku_X6_gathers_X6 hown hK hP 0 rfl rfl 8 (by decide) (hts _ kw_X6_gathers_2) (fun _ h9 => h9) rfl dX6_gathers_92 ?_
        refine lv_iload hx hb dX6_gathers_95 (lv_at hl 6 rfl) ?_
        obtain ⟨k59, hf⟩ := fp_c hf
        refine va_iald hx hb hK hP 1 0 rfl rfl k59 dX6_gathers_97 ?_
        refine lv_iload hx hb dX6_gathers_98 (lv_at hl 4 rfl) ?_
        refine lv_icmp_ne (tgt := 107) hx hb dX6_gathers_100 (by decide) (fun c60 => ?_) (fun c60 => ?_)
        · have hf := fp_f hf c60
          refine lv_iconst (v := (0 : Int32)) hx hb dX6_gathers_107 (by decide) ?_
          refine lv_istore (lv' := [(6, .int (0 : Int32)), (0, .ref hMo), (1, .ref hAR1), (3, .int y3), (4, .int y4), (5, .int y5), (7, .int y7)]) hx hb dX6_gathers_108 hl (by decide) rfl (fun ls hl => ?_)
          refine lv_iinc (v := (y7 + (1 : Int32))) (lv' := [(7, .int (y7 + (1 : Int32))), (6, .int (0 : Int32)), (0, .ref hMo), (1, .ref hAR1), (3, .int y3), (4, .int y4), (5, .int y5)]) hx hb dX6_gathers_110 hl (k := 6) rfl rfl (by decide) rfl (fun ls hl => ?_)
          refine lv_goto (tgt := 77) hx hb dX6_gathers_113 (by decide) ?_
          obtain rfl := Option.some.inj hf
          exact ih _ (fp_inl ho) hP hD hS (lv_sub hl [2, 3, 4, 5, 6, 1, 0] rfl) hex
        · have hf := fp_t hf c60
          refine lv_iconst (v := (1 : Int32)) hx hb dX6_gathers_103 (by decide) ?_
          refine lv_goto (tgt := 108) hx hb dX6_gathers_104 (by decide) ?_
          refine lv_istore (lv' := [(6, .int (1 : Int32)), (0, .ref hMo), (1, .ref hAR1), (3, .int y3), (4, .int y4), (5, .int y5), (7, .int y7)]) hx hb dX6_gathers_108 hl (by decide) rfl (fun ls hl => ?_)
          refine lv_iinc (v := (y7 + (1 : Int32))) (lv' := [(7, .int (y7 + (1 : Int32))), (6, .int (1 : Int32)), (0, .ref hMo), (1, .ref hAR1), (3, .int y3), (4, .int y4), (5, .int y5)]) hx hb dX6_gathers_110 hl (k := 6) rfl rfl (by decide) rfl (fun ls hl => ?_)
          refine lv_goto (tgt := 77) hx hb dX6_gathers_113 (by decide) ?_
          obtain rfl := Option.some.inj hf
          exact ih _ (fp_inl ho) hP hD hS (lv_sub hl [2, 3, 4, 5, 6, 1, 0] rfl) hex
def f_X6_gathers_25 (fr1 : Nat → Int32) (y3 : Int32) (y4 : Int32) (mm : Int32) (md : Nat → Int32) (mk : Nat → Int32) : Option ((Int32 × Int32 × (Nat → Int32) × (Nat → Int32)) ⊕ (Int32 × (Nat → Int32) × (Nat → Int32))) :=
  (if (2 : Int32) ≤ y4 then some (Sum.inr (mm, md, mk)) else chk (aix y3 20) (Option.bind (f_X6_goes fr1 (md y3.toNatClampNeg) y4) (fun r52 => Option.bind (f_X6_follows fr1 r52) (fun r53 => chk (aix (((2 : Int32) * y3) + y4) 40) (Option.bind (if 0 ≤ r53 then some (0 : Int32) else some (1 : Int32)) (fun j55 => Option.bind (lpf (fun s => f_X6_gathers_77 mm md (upd mk (Int32.toNatClampNeg (((2 : Int32) * y3) + y4)) r53) fr1 y3 y4 r53 s.1 s.2) 1000 (j55, (0 : Int32))) (fun o61 => (if o61 = 0 then chk (aix mm 20) (some (Sum.inl ((y4 + (1 : Int32)), (mm + (1 : Int32)), (upd md mm.toNatClampNeg r53), (upd mk (Int32.toNatClampNeg (((2 : Int32) * y3) + y4)) r53)))) else some (Sum.inl ((y4 + (1 : Int32)), mm, md, (upd mk (Int32.toNatClampNeg (((2 : Int32) * y3) + y4)) r53)))))))))))
set_option maxHeartbeats 4000000 in
set_option maxRecDepth 100000 in
theorem lp_X6_gathers_25 {p : Program} {l : Launch} {e : Env} {s : State} {m : MethodId} {args : Array Value} {below : List Frame} {meth : Method} {c : Code} {Q : State → Prop} {A : Nat → Prop} {D : va_G} {cI cJ cZ cQ : ClassId} {qs : Nat × Nat × Nat} {hMo hMn hMr hMa hMp hMt hMd hMk hMy hMl hMw hMi hMx hAR1 : Nat} {fr1 : Nat → Int32} {y3 : Int32} {mc : Int32} {ml : Int32} {ms : Int32} {mu : Int64} {mv : Int64} {me : Int32} (F : CallFix p m c cX6_gathers 8 s args wsX6_gathers RX6) (hG : kW D (ty4 cI cJ cZ cQ) qs A s s.heap) (hA : ∀ q : Nat, s.heap.size ≤ q → A q) :
    ∀ (n : Nat) {y4 : Int32} {mm : Int32} {md : Nat → Int32} {mk : Nat → Int32} (out : Int32 × (Nat → Int32) × (Nat → Int32)), lpf (fun s => f_X6_gathers_25 fr1 y3 s.1 s.2.1 s.2.2.1 s.2.2.2) n (y4, mm, md, mk) = some out → ∀ {H : Heap} {locs : List Loc} {ls : Array Slot}, va_P D vwCl [(hMo, .inr (6, [.ref hMn, .ref hMr, .ref hMa, .ref hMp, .int mc, .ref hMt, .int ml, .int ms, .ref hMd, .ref hMk, .ref hMy, .int mm, .ref hMl, .ref hMw, .long mu, .long mv, .ref hMi, .ref hMx, .int me])), (hMd, .inl (cI, 20, .inl md)), (hMk, .inl (cI, 40, .inl mk)), (hAR1, .inl (cI, 22, .inl fr1))] H → va_D A [(hMo, .inr (6, [.ref hMn, .ref hMr, .ref hMa, .ref hMp, .int mc, .ref hMt, .int ml, .int ms, .ref hMd, .ref hMk, .ref hMy, .int mm, .ref hMl, .ref hMw, .long mu, .long mv, .ref hMi, .ref hMx, .int me])), (hMd, .inl (cI, 20, .inl md)), (hMk, .inl (cI, 40, .inl mk)), (hAR1, .inl (cI, 22, .inl fr1))] → va_S A s.heap H locs → lv_has ls 8 [(0, .ref hMo), (1, .ref hAR1), (3, .int y3), (4, .int y4)] → (∀ (H : Heap) (locs : List Loc) (ls : Array Slot), va_P D vwCl [(hMo, .inr (6, [.ref hMn, .ref hMr, .ref hMa, .ref hMp, .int mc, .ref hMt, .int ml, .int ms, .ref hMd, .ref hMk, .ref hMy, .int out.1, .ref hMl, .ref hMw, .long mu, .long mv, .ref hMi, .ref hMx, .int me])), (hMd, .inl (cI, 20, .inl out.2.1)), (hMk, .inl (cI, 40, .inl out.2.2)), (hAR1, .inl (cI, 22, .inl fr1))] H → va_D A [(hMo, .inr (6, [.ref hMn, .ref hMr, .ref hMa, .ref hMp, .int mc, .ref hMt, .int ml, .int ms, .ref hMd, .ref hMk, .ref hMy, .int out.1, .ref hMl, .ref hMw, .long mu, .long mv, .ref hMi, .ref hMx, .int me])), (hMd, .inl (cI, 20, .inl out.2.1)), (hMk, .inl (cI, 40, .inl out.2.2)), (hAR1, .inl (cI, 22, .inl fr1))] → va_S A s.heap H locs → lv_has ls 8 [(0, .ref hMo), (1, .ref hAR1), (3, .int y3)] → W p l e { frames := 4, cells := 0, slots := 0, locals := 91 } s m args below meth c H locs 0 0 Q (F0 m 148 ls [])) → W p l e { frames := 4, cells := 0, slots := 0, locals := 91 } s m args below meth c H locs 0 0 Q (F0 m 25 ls []) := by
  have hx := F.1
  have hb := F.2.1
  have hown := F.2.2.2.1
  have hts := F.2.2.2.2
  have hK := hG.1.1
  intro n
  induction n with
  | zero =>
    intro y4 mm md mk out ho
    exact (fp_l0 ho).elim
  | succ n ih =>
    intro y4 mm md mk out ho H locs ls hP hD hS hl hex
    obtain ⟨o, hf, ho⟩ := fp_l ho
    have hf : f_X6_gathers_25 fr1 y3 y4 mm md mk = some o := hf
    rw [f_X6_gathers_25] at hf
    refine lv_iload hx hb dX6_gathers_25 (lv_at hl 3 rfl) ?_
    refine lv_iconst (v := (2 : Int32)) hx hb dX6_gathers_27 (by decide) ?_
    refine lv_icmp_ge (tgt := 148) hx hb dX6_gathers_28 (by decide) (fun c50 => ?_) (fun c50 => ?_)
    · have hf := fp_t hf c50
      obtain rfl := Option.some.inj hf
      have ho := fp_inr ho
      obtain rfl := Option.some.inj ho
      exact hex _ _ _ hP hD hS (lv_sub hl [0, 1, 2] rfl)
    · have hf := fp_f hf c50
      refine lv_aload_n hx hb dX6_gathers_31 rfl (lv_at hl 1 rfl) ?_
      refine lv_aload_n hx hb dX6_gathers_32 rfl (lv_at hl 1 rfl) ?_
      refine lv_aload_n hx hb dX6_gathers_33 rfl (lv_at hl 0 rfl) ?_
      refine va_get (D := D) (ci := 6) (v := .ref hMd) (C := RX6) (T := TX6) (N := 19) hx hb hts ku_X6_gathers_X6 hown hK hP 0 rfl rfl 8 (by decide) (hts _ kw_X6_gathers_2) (fun _ h9 => h9) rfl dX6_gathers_34 ?_
      refine lv_iload_n hx hb dX6_gathers_37 rfl (lv_at hl 2 rfl) ?_
      obtain ⟨k51, hf⟩ := fp_c hf
      refine va_iald hx hb hK hP 1 0 rfl rfl k51 dX6_gathers_38 ?_
      refine lv_iload hx hb dX6_gathers_39 (lv_at hl 3 rfl) ?_
      obtain ⟨r52, er52, hf⟩ := fp_b hf
      refine RoI.callS (c_X6_goes (l := l) (D := D) (cI := cI) (cJ := cJ) (cZ := cZ) (cQ := cQ) (qs := qs) er52) F (va_cwS 3 hts gX6_gathers_X6_goes rfl rfl rfl yd_X6_goes ⟨Nat.le_of_ble_eq_true rfl, Nat.le_of_ble_eq_true rfl⟩) (hG.r hS) hP [3] rfl rfl hl.1 rfl (Nat.le_of_ble_eq_true rfl) dX6_gathers_41 ⟨Nat.zero_le _, Nat.zero_le _⟩ ?_
      obtain ⟨r53, er53, hf⟩ := fp_b hf
      refine RoI.callS (c_X6_follows (l := l) (D := D) (cI := cI) (cJ := cJ) (cZ := cZ) (cQ := cQ) (qs := qs) er53) F (va_cwS 2 hts gX6_gathers_X6_follows rfl rfl rfl yd_X6_follows ⟨Nat.le_of_ble_eq_true rfl, Nat.le_of_ble_eq_true rfl⟩) (hG.r hS) hP [3] rfl rfl hl.1 rfl (Nat.le_of_ble_eq_true rfl) dX6_gathers_44 ⟨Nat.zero_le _, Nat.zero_le _⟩ ?_
      refine lv_istore (lv' := [(5, .int r53), (0, .ref hMo), (1, .ref hAR1), (3, .int y3), (4, .int y4)]) hx hb dX6_gathers_47 hl (by decide) rfl (fun ls hl => ?_)
      refine lv_aload_n hx hb dX6_gathers_49 rfl (lv_at hl 1 rfl) ?_
      refine va_get (D := D) (ci := 6) (v := .ref hMk) (C := RX6) (T := TX6) (N := 19) hx hb hts ku_X6_gathers_X6 hown hK hP 0 rfl rfl 9 (by decide) (hts _ kw_X6_gathers_3) (fun _ h9 => h9) rfl dX6_gathers_50 ?_
      refine lv_iconst (v := (2 : Int32)) hx hb dX6_gathers_53 (by decide) ?_
      refine lv_iload_n hx hb dX6_gathers_54 rfl (lv_at hl 3 rfl) ?_
      refine lv_imul hx hb dX6_gathers_55 ?_
      refine lv_iload hx hb dX6_gathers_56 (lv_at hl 4 rfl) ?_
      refine lv_iadd hx hb dX6_gathers_58 ?_
      refine lv_iload hx hb dX6_gathers_59 (lv_at hl 0 rfl) ?_
      obtain ⟨k54, hf⟩ := fp_c hf
      refine va_iast hx hb hK hP hD hS 2 0 rfl rfl k54 dX6_gathers_61 (fun H locs hP hD hS => ?_)
      have hP : va_P D vwCl [(hMo, .inr (6, [.ref hMn, .ref hMr, .ref hMa, .ref hMp, .int mc, .ref hMt, .int ml, .int ms, .ref hMd, .ref hMk, .ref hMy, .int mm, .ref hMl, .ref hMw, .long mu, .long mv, .ref hMi, .ref hMx, .int me])), (hMd, .inl (cI, 20, .inl md)), (hMk, .inl (cI, 40, .inl (upd mk (Int32.toNatClampNeg (((2 : Int32) * y3) + y4)) r53))), (hAR1, .inl (cI, 22, .inl fr1))] H := hP
      have hD : va_D A [(hMo, .inr (6, [.ref hMn, .ref hMr, .ref hMa, .ref hMp, .int mc, .ref hMt, .int ml, .int ms, .ref hMd, .ref hMk, .ref hMy, .int mm, .ref hMl, .ref hMw, .long mu, .long mv, .ref hMi, .ref hMx, .int me])), (hMd, .inl (cI, 20, .inl md)), (hMk, .inl (cI, 40, .inl (upd mk (Int32.toNatClampNeg (((2 : Int32) * y3) + y4)) r53))), (hAR1, .inl (cI, 22, .inl fr1))] := hD
      refine lv_iload hx hb dX6_gathers_62 (lv_at hl 0 rfl) ?_
      obtain ⟨j55, ej55, hf⟩ := fp_b hf
      have hj56 : ∀ (H : Heap) (locs : List Loc) (ls : Array Slot), va_P D vwCl [(hMo, .inr (6, [.ref hMn, .ref hMr, .ref hMa, .ref hMp, .int mc, .ref hMt, .int ml, .int ms, .ref hMd, .ref hMk, .ref hMy, .int mm, .ref hMl, .ref hMw, .long mu, .long mv, .ref hMi, .ref hMx, .int me])), (hMd, .inl (cI, 20, .inl md)), (hMk, .inl (cI, 40, .inl (upd mk (Int32.toNatClampNeg (((2 : Int32) * y3) + y4)) r53))), (hAR1, .inl (cI, 22, .inl fr1))] H → va_D A [(hMo, .inr (6, [.ref hMn, .ref hMr, .ref hMa, .ref hMp, .int mc, .ref hMt, .int ml, .int ms, .ref hMd, .ref hMk, .ref hMy, .int mm, .ref hMl, .ref hMw, .long mu, .long mv, .ref hMi, .ref hMx, .int me])), (hMd, .inl (cI, 20, .inl md)), (hMk, .inl (cI, 40, .inl (upd mk (Int32.toNatClampNeg (((2 : Int32) * y3) + y4)) r53))), (hAR1, .inl (cI, 22, .inl fr1))] → va_S A s.heap H locs → lv_has ls 8 [(0, .ref hMo), (1, .ref hAR1), (3, .int y3), (4, .int y4), (5, .int r53)] → W p l e { frames := 4, cells := 0, slots := 0, locals := 91 } s m args below meth c H locs 0 0 Q (F0 m 72 ls [.int j55]) := by
        intro H locs ls hP hD hS hl
        refine lv_istore (lv' := [(6, .int j55), (0, .ref hMo), (1, .ref hAR1), (3, .int y3), (4, .int y4), (5, .int r53)]) hx hb dX6_gathers_72 hl (by decide) rfl (fun ls hl => ?_)
        refine lv_iconst (v := (0 : Int32)) hx hb dX6_gathers_74 (by decide) ?_
        refine lv_istore (lv' := [(7, .int (0 : Int32)), (6, .int j55), (0, .ref hMo), (1, .ref hAR1), (3, .int y3), (4, .int y4), (5, .int r53)]) hx hb dX6_gathers_75 hl (by decide) rfl (fun ls hl => ?_)
        obtain ⟨o61, eo61, hf⟩ := fp_b hf
        refine lp_X6_gathers_77 F hG hA _ _ eo61 hP hD hS (lv_sub hl [2, 3, 4, 5, 6, 1, 0] rfl) (fun H locs ls hP hD hS hl => ?_)
        refine lv_iload hx hb dX6_gathers_116 (lv_at hl 5 rfl) ?_
        refine lv_if_ne (tgt := 142) hx hb dX6_gathers_118 (by decide) (fun c62 => ?_) (fun c62 => ?_)
        · have hf := fp_f hf c62
          refine lv_iinc (v := (y4 + (1 : Int32))) (lv' := [(4, .int (y4 + (1 : Int32))), (0, .ref hMo), (1, .ref hAR1), (3, .int y3), (5, .int r53), (6, .int o61)]) hx hb dX6_gathers_142 hl (k := 3) rfl rfl (by decide) rfl (fun ls hl => ?_)
          refine lv_goto (tgt := 25) hx hb dX6_gathers_145 (by decide) ?_
          obtain rfl := Option.some.inj hf
          exact ih _ (fp_inl ho) hP hD hS (lv_sub hl [1, 2, 3, 0] rfl) hex
        · have hf := fp_t hf c62
          refine lv_aload_n hx hb dX6_gathers_121 rfl (lv_at hl 0 rfl) ?_
          refine va_get (D := D) (ci := 6) (v := .ref hMd) (C := RX6) (T := TX6) (N := 19) hx hb hts ku_X6_gathers_X6 hown hK hP 0 rfl rfl 8 (by decide) (hts _ kw_X6_gathers_2) (fun _ h9 => h9) rfl dX6_gathers_122 ?_
          refine lv_aload_n hx hb dX6_gathers_125 rfl (lv_at hl 0 rfl) ?_
          refine va_get (D := D) (ci := 6) (v := .int mm) (C := RX6) (T := TX6) (N := 19) hx hb hts ku_X6_gathers_X6 hown hK hP 0 rfl rfl 11 (by decide) (hts _ kw_X6_gathers_1) (fun _ h9 => h9) rfl dX6_gathers_126 ?_
          refine lv_iload hx hb dX6_gathers_129 (lv_at hl 4 rfl) ?_
          obtain ⟨k63, hf⟩ := fp_c hf
          refine va_iast hx hb hK hP hD hS 1 0 rfl rfl k63 dX6_gathers_131 (fun H locs hP hD hS => ?_)
          have hP : va_P D vwCl [(hMo, .inr (6, [.ref hMn, .ref hMr, .ref hMa, .ref hMp, .int mc, .ref hMt, .int ml, .int ms, .ref hMd, .ref hMk, .ref hMy, .int mm, .ref hMl, .ref hMw, .long mu, .long mv, .ref hMi, .ref hMx, .int me])), (hMd, .inl (cI, 20, .inl (upd md mm.toNatClampNeg r53))), (hMk, .inl (cI, 40, .inl (upd mk (Int32.toNatClampNeg (((2 : Int32) * y3) + y4)) r53))), (hAR1, .inl (cI, 22, .inl fr1))] H := hP
          have hD : va_D A [(hMo, .inr (6, [.ref hMn, .ref hMr, .ref hMa, .ref hMp, .int mc, .ref hMt, .int ml, .int ms, .ref hMd, .ref hMk, .ref hMy, .int mm, .ref hMl, .ref hMw, .long mu, .long mv, .ref hMi, .ref hMx, .int me])), (hMd, .inl (cI, 20, .inl (upd md mm.toNatClampNeg r53))), (hMk, .inl (cI, 40, .inl (upd mk (Int32.toNatClampNeg (((2 : Int32) * y3) + y4)) r53))), (hAR1, .inl (cI, 22, .inl fr1))] := hD
          refine lv_aload_n hx hb dX6_gathers_132 rfl (lv_at hl 0 rfl) ?_
          refine lv_dup hx hb dX6_gathers_133 rfl ?_
          refine va_get (D := D) (ci := 6) (v := .int mm) (C := RX6) (T := TX6) (N := 19) hx hb hts ku_X6_gathers_X6 hown hK hP 0 rfl rfl 11 (by decide) (hts _ kw_X6_gathers_1) (fun _ h9 => h9) rfl dX6_gathers_134 ?_
          refine lv_iconst (v := (1 : Int32)) hx hb dX6_gathers_137 (by decide) ?_
          refine lv_iadd hx hb dX6_gathers_138 ?_
          refine va_put (D := D) (ci := 6) (v := .int (mm + (1 : Int32))) (ty := .int) (C := RX6) (T := TX6) (N := 19) hx hb hts ku_X6_gathers_X6 tyX6 tyX6_ok nmX6 hown hK hP hD hS 0 rfl rfl 11 (by decide) (hts _ kw_X6_gathers_1) (fun _ h9 => h9) rfl (by decide +kernel) rfl rfl (Nat.le_of_ble_eq_true rfl) dX6_gathers_139 (fun H locs hP hD hS => ?_)
          have hP : va_P D vwCl [(hMo, .inr (6, [.ref hMn, .ref hMr, .ref hMa, .ref hMp, .int mc, .ref hMt, .int ml, .int ms, .ref hMd, .ref hMk, .ref hMy, .int (mm + (1 : Int32)), .ref hMl, .ref hMw, .long mu, .long mv, .ref hMi, .ref hMx, .int me])), (hMd, .inl (cI, 20, .inl (upd md mm.toNatClampNeg r53))), (hMk, .inl (cI, 40, .inl (upd mk (Int32.toNatClampNeg (((2 : Int32) * y3) + y4)) r53))), (hAR1, .inl (cI, 22, .inl fr1))] H := hP
          have hD : va_D A [(hMo, .inr (6, [.ref hMn, .ref hMr, .ref hMa, .ref hMp, .int mc, .ref hMt, .int ml, .int ms, .ref hMd, .ref hMk, .ref hMy, .int (mm + (1 : Int32)), .ref hMl, .ref hMw, .long mu, .long mv, .ref hMi, .ref hMx, .int me])), (hMd, .inl (cI, 20, .inl (upd md mm.toNatClampNeg r53))), (hMk, .inl (cI, 40, .inl (upd mk (Int32.toNatClampNeg (((2 : Int32) * y3) + y4)) r53))), (hAR1, .inl (cI, 22, .inl fr1))] := hD
          refine lv_iinc (v := (y4 + (1 : Int32))) (lv' := [(4, .int (y4 + (1 : Int32))), (0, .ref hMo), (1, .ref hAR1), (3, .int y3), (5, .int r53), (6, .int o61)]) hx hb dX6_gathers_142 hl (k := 3) rfl rfl (by decide) rfl (fun ls hl => ?_)
          refine lv_goto (tgt := 25) hx hb dX6_gathers_145 (by decide) ?_
          obtain rfl := Option.some.inj hf
          exact ih _ (fp_inl ho) hP hD hS (lv_sub hl [1, 2, 3, 0] rfl) hex
      replace hf := ej55
      refine lv_if_ge (tgt := 71) hx hb dX6_gathers_64 (by decide) (fun c64 => ?_) (fun c64 => ?_)
      · have hf := fp_t hf c64
        refine lv_iconst (v := (0 : Int32)) hx hb dX6_gathers_71 (by decide) ?_
        obtain rfl := Option.some.inj hf
        exact hj56 _ _ _ hP hD hS (lv_sub hl [1, 2, 3, 4, 0] rfl)
      · have hf := fp_f hf c64
        refine lv_iconst (v := (1 : Int32)) hx hb dX6_gathers_67 (by decide) ?_
        refine lv_goto (tgt := 72) hx hb dX6_gathers_68 (by decide) ?_
        obtain rfl := Option.some.inj hf
        exact hj56 _ _ _ hP hD hS (lv_sub hl [1, 2, 3, 4, 0] rfl)
def f_X6_gathers_14 (fr1 : Nat → Int32) (y3 : Int32) (mm : Int32) (md : Nat → Int32) (mk : Nat → Int32) : Option ((Int32 × Int32 × (Nat → Int32) × (Nat → Int32)) ⊕ (Int32 × (Nat → Int32) × (Nat → Int32))) :=
  (if mm ≤ y3 then some (Sum.inr (mm, md, mk)) else Option.bind (lpf (fun s => f_X6_gathers_25 fr1 y3 s.1 s.2.1 s.2.2.1 s.2.2.2) 1000 ((0 : Int32), mm, md, mk)) (fun o65 => some (Sum.inl ((y3 + (1 : Int32)), o65.1, o65.2.1, o65.2.2))))
set_option maxHeartbeats 4000000 in
set_option maxRecDepth 100000 in
theorem lp_X6_gathers_14 {p : Program} {l : Launch} {e : Env} {s : State} {m : MethodId} {args : Array Value} {below : List Frame} {meth : Method} {c : Code} {Q : State → Prop} {A : Nat → Prop} {D : va_G} {cI cJ cZ cQ : ClassId} {qs : Nat × Nat × Nat} {hMo hMn hMr hMa hMp hMt hMd hMk hMy hMl hMw hMi hMx hAR1 : Nat} {fr1 : Nat → Int32} {mc : Int32} {ml : Int32} {ms : Int32} {mu : Int64} {mv : Int64} {me : Int32} (F : CallFix p m c cX6_gathers 8 s args wsX6_gathers RX6) (hG : kW D (ty4 cI cJ cZ cQ) qs A s s.heap) (hA : ∀ q : Nat, s.heap.size ≤ q → A q) :
    ∀ (n : Nat) {y3 : Int32} {mm : Int32} {md : Nat → Int32} {mk : Nat → Int32} (out : Int32 × (Nat → Int32) × (Nat → Int32)), lpf (fun s => f_X6_gathers_14 fr1 s.1 s.2.1 s.2.2.1 s.2.2.2) n (y3, mm, md, mk) = some out → ∀ {H : Heap} {locs : List Loc} {ls : Array Slot}, va_P D vwCl [(hMo, .inr (6, [.ref hMn, .ref hMr, .ref hMa, .ref hMp, .int mc, .ref hMt, .int ml, .int ms, .ref hMd, .ref hMk, .ref hMy, .int mm, .ref hMl, .ref hMw, .long mu, .long mv, .ref hMi, .ref hMx, .int me])), (hMd, .inl (cI, 20, .inl md)), (hMk, .inl (cI, 40, .inl mk)), (hAR1, .inl (cI, 22, .inl fr1))] H → va_D A [(hMo, .inr (6, [.ref hMn, .ref hMr, .ref hMa, .ref hMp, .int mc, .ref hMt, .int ml, .int ms, .ref hMd, .ref hMk, .ref hMy, .int mm, .ref hMl, .ref hMw, .long mu, .long mv, .ref hMi, .ref hMx, .int me])), (hMd, .inl (cI, 20, .inl md)), (hMk, .inl (cI, 40, .inl mk)), (hAR1, .inl (cI, 22, .inl fr1))] → va_S A s.heap H locs → lv_has ls 8 [(0, .ref hMo), (1, .ref hAR1), (3, .int y3)] → (∀ (H : Heap) (locs : List Loc) (ls : Array Slot), va_P D vwCl [(hMo, .inr (6, [.ref hMn, .ref hMr, .ref hMa, .ref hMp, .int mc, .ref hMt, .int ml, .int ms, .ref hMd, .ref hMk, .ref hMy, .int out.1, .ref hMl, .ref hMw, .long mu, .long mv, .ref hMi, .ref hMx, .int me])), (hMd, .inl (cI, 20, .inl out.2.1)), (hMk, .inl (cI, 40, .inl out.2.2)), (hAR1, .inl (cI, 22, .inl fr1))] H → va_D A [(hMo, .inr (6, [.ref hMn, .ref hMr, .ref hMa, .ref hMp, .int mc, .ref hMt, .int ml, .int ms, .ref hMd, .ref hMk, .ref hMy, .int out.1, .ref hMl, .ref hMw, .long mu, .long mv, .ref hMi, .ref hMx, .int me])), (hMd, .inl (cI, 20, .inl out.2.1)), (hMk, .inl (cI, 40, .inl out.2.2)), (hAR1, .inl (cI, 22, .inl fr1))] → va_S A s.heap H locs → lv_has ls 8 [(0, .ref hMo), (1, .ref hAR1)] → W p l e { frames := 4, cells := 0, slots := 0, locals := 91 } s m args below meth c H locs 0 0 Q (F0 m 154 ls [])) → W p l e { frames := 4, cells := 0, slots := 0, locals := 91 } s m args below meth c H locs 0 0 Q (F0 m 14 ls []) := by
  have hx := F.1
  have hb := F.2.1
  have hown := F.2.2.2.1
  have hts := F.2.2.2.2
  have hK := hG.1.1
  intro n
  induction n with
  | zero =>
    intro y3 mm md mk out ho
    exact (fp_l0 ho).elim
  | succ n ih =>
    intro y3 mm md mk out ho H locs ls hP hD hS hl hex
    obtain ⟨o, hf, ho⟩ := fp_l ho
    have hf : f_X6_gathers_14 fr1 y3 mm md mk = some o := hf
    rw [f_X6_gathers_14] at hf
    refine lv_iload_n hx hb dX6_gathers_14 rfl (lv_at hl 2 rfl) ?_
    refine lv_aload_n hx hb dX6_gathers_15 rfl (lv_at hl 0 rfl) ?_
    refine va_get (D := D) (ci := 6) (v := .int mm) (C := RX6) (T := TX6) (N := 19) hx hb hts ku_X6_gathers_X6 hown hK hP 0 rfl rfl 11 (by decide) (hts _ kw_X6_gathers_1) (fun _ h9 => h9) rfl dX6_gathers_16 ?_
    refine lv_icmp_ge (tgt := 154) hx hb dX6_gathers_19 (by decide) (fun c49 => ?_) (fun c49 => ?_)
    · have hf := fp_t hf c49
      obtain rfl := Option.some.inj hf
      have ho := fp_inr ho
      obtain rfl := Option.some.inj ho
      exact hex _ _ _ hP hD hS (lv_sub hl [0, 1] rfl)
    · have hf := fp_f hf c49
      refine lv_iconst (v := (0 : Int32)) hx hb dX6_gathers_22 (by decide) ?_
      refine lv_istore (lv' := [(4, .int (0 : Int32)), (0, .ref hMo), (1, .ref hAR1), (3, .int y3)]) hx hb dX6_gathers_23 hl (by decide) rfl (fun ls hl => ?_)
      obtain ⟨o65, eo65, hf⟩ := fp_b hf
      refine lp_X6_gathers_25 F hG hA _ _ eo65 hP hD hS (lv_sub hl [1, 2, 3, 0] rfl) (fun H locs ls hP hD hS hl => ?_)
      refine lv_iinc (v := (y3 + (1 : Int32))) (lv' := [(3, .int (y3 + (1 : Int32))), (0, .ref hMo), (1, .ref hAR1)]) hx hb dX6_gathers_148 hl (k := 2) rfl rfl (by decide) rfl (fun ls hl => ?_)
      refine lv_goto (tgt := 14) hx hb dX6_gathers_151 (by decide) ?_
      obtain rfl := Option.some.inj hf
      exact ih _ (fp_inl ho) hP hD hS (lv_sub hl [1, 2, 0] rfl) hex
def f_X6_gathers (mm : Int32) (md : Nat → Int32) (mk : Nat → Int32) (fr1 : Nat → Int32) (x2 : Int32) : Option (Int32 × (Nat → Int32) × (Nat → Int32)) :=
  Option.bind (lpf (fun s => f_X6_gathers_14 fr1 s.1 s.2.1 s.2.2.1 s.2.2.2) 1000 ((0 : Int32), (1 : Int32), (upd md (Int32.toNatClampNeg (0 : Int32)) x2), mk)) (fun o66 => some (o66.1, o66.2.1, o66.2.2))
set_option maxHeartbeats 4000000 in
set_option maxRecDepth 100000 in
theorem b_X6_gathers {p : Program} {l : Launch} {e : Env} {s : State} {m : MethodId} {args : Array Value} {below : List Frame} {meth : Method} {c : Code} {Q : State → Prop} {A : Nat → Prop} {H : Heap} {locs : List Loc} {D : va_G} {cI cJ cZ cQ : ClassId} {qs : Nat × Nat × Nat} {hMo hMn hMr hMa hMp hMt hMd hMk hMy hMl hMw hMi hMx hAR1 : Nat} {mc : Int32} {ml : Int32} {ms : Int32} {mm : Int32} {mu : Int64} {mv : Int64} {me : Int32} {md : Nat → Int32} {mk : Nat → Int32} {fr1 : Nat → Int32} {x2 : Int32} {out : Int32 × (Nat → Int32) × (Nat → Int32)} (F : CallFix p m c cX6_gathers 8 s args wsX6_gathers RX6) (hG : kW D (ty4 cI cJ cZ cQ) qs A s s.heap) (hA : ∀ q : Nat, s.heap.size ≤ q → A q) (hP : va_P D vwCl [(hMo, .inr (6, [.ref hMn, .ref hMr, .ref hMa, .ref hMp, .int mc, .ref hMt, .int ml, .int ms, .ref hMd, .ref hMk, .ref hMy, .int mm, .ref hMl, .ref hMw, .long mu, .long mv, .ref hMi, .ref hMx, .int me])), (hMd, .inl (cI, 20, .inl md)), (hMk, .inl (cI, 40, .inl mk)), (hAR1, .inl (cI, 22, .inl fr1))] H) (hD : va_D A [(hMo, .inr (6, [.ref hMn, .ref hMr, .ref hMa, .ref hMp, .int mc, .ref hMt, .int ml, .int ms, .ref hMd, .ref hMk, .ref hMy, .int mm, .ref hMl, .ref hMw, .long mu, .long mv, .ref hMi, .ref hMx, .int me])), (hMd, .inl (cI, 20, .inl md)), (hMk, .inl (cI, 40, .inl mk)), (hAR1, .inl (cI, 22, .inl fr1))]) (hS : va_S A s.heap H locs) (hf : f_X6_gathers mm md mk fr1 x2 = some out) (hret : ∀ (pc : Nat) (H : Heap) (locs : List Loc) (ls : Array Slot), decode cX6_gathers pc = .ok (.return_, 1) → va_P D vwCl [(hMo, .inr (6, [.ref hMn, .ref hMr, .ref hMa, .ref hMp, .int mc, .ref hMt, .int ml, .int ms, .ref hMd, .ref hMk, .ref hMy, .int out.1, .ref hMl, .ref hMw, .long mu, .long mv, .ref hMi, .ref hMx, .int me])), (hMd, .inl (cI, 20, .inl out.2.1)), (hMk, .inl (cI, 40, .inl out.2.2)), (hAR1, .inl (cI, 22, .inl fr1))] H → va_D A [(hMo, .inr (6, [.ref hMn, .ref hMr, .ref hMa, .ref hMp, .int mc, .ref hMt, .int ml, .int ms, .ref hMd, .ref hMk, .ref hMy, .int out.1, .ref hMl, .ref hMw, .long mu, .long mv, .ref hMi, .ref hMx, .int me])), (hMd, .inl (cI, 20, .inl out.2.1)), (hMk, .inl (cI, 40, .inl out.2.2)), (hAR1, .inl (cI, 22, .inl fr1))] → va_S A s.heap H locs → W p l e { frames := 4, cells := 0, slots := 0, locals := 91 } s m args below meth c H locs 0 0 Q (F0 m pc ls [])) {ls : Array Slot} (hl : lv_has ls 8 [(0, .ref hMo), (1, .ref hAR1), (2, .int x2)]) : W p l e { frames := 4, cells := 0, slots := 0, locals := 91 } s m args below meth c H locs 0 0 Q (F0 m 0 ls []) := by
  have hx := F.1
  have hb := F.2.1
  have hown := F.2.2.2.1
  have hts := F.2.2.2.2
  have hK := hG.1.1
  rw [f_X6_gathers] at hf
  refine lv_aload_n hx hb dX6_gathers_0 rfl (lv_at hl 0 rfl) ?_
  refine lv_iconst (v := (1 : Int32)) hx hb dX6_gathers_1 (by decide) ?_
  refine va_put (D := D) (ci := 6) (v := .int (1 : Int32)) (ty := .int) (C := RX6) (T := TX6) (N := 19) hx hb hts ku_X6_gathers_X6 tyX6 tyX6_ok nmX6 hown hK hP hD hS 0 rfl rfl 11 (by decide) (hts _ kw_X6_gathers_1) (fun _ h9 => h9) rfl (by decide +kernel) rfl rfl (Nat.le_of_ble_eq_true rfl) dX6_gathers_2 (fun H locs hP hD hS => ?_)
  have hP : va_P D vwCl [(hMo, .inr (6, [.ref hMn, .ref hMr, .ref hMa, .ref hMp, .int mc, .ref hMt, .int ml, .int ms, .ref hMd, .ref hMk, .ref hMy, .int (1 : Int32), .ref hMl, .ref hMw, .long mu, .long mv, .ref hMi, .ref hMx, .int me])), (hMd, .inl (cI, 20, .inl md)), (hMk, .inl (cI, 40, .inl mk)), (hAR1, .inl (cI, 22, .inl fr1))] H := hP
  have hD : va_D A [(hMo, .inr (6, [.ref hMn, .ref hMr, .ref hMa, .ref hMp, .int mc, .ref hMt, .int ml, .int ms, .ref hMd, .ref hMk, .ref hMy, .int (1 : Int32), .ref hMl, .ref hMw, .long mu, .long mv, .ref hMi, .ref hMx, .int me])), (hMd, .inl (cI, 20, .inl md)), (hMk, .inl (cI, 40, .inl mk)), (hAR1, .inl (cI, 22, .inl fr1))] := hD
  refine lv_aload_n hx hb dX6_gathers_5 rfl (lv_at hl 0 rfl) ?_
  refine va_get (D := D) (ci := 6) (v := .ref hMd) (C := RX6) (T := TX6) (N := 19) hx hb hts ku_X6_gathers_X6 hown hK hP 0 rfl rfl 8 (by decide) (hts _ kw_X6_gathers_2) (fun _ h9 => h9) rfl dX6_gathers_6 ?_
  refine lv_iconst (v := (0 : Int32)) hx hb dX6_gathers_9 (by decide) ?_
  refine lv_iload_n hx hb dX6_gathers_10 rfl (lv_at hl 2 rfl) ?_
  refine va_iast hx hb hK hP hD hS 1 0 rfl rfl (show aix (0 : Int32) 20 by decide) dX6_gathers_11 (fun H locs hP hD hS => ?_)
  have hP : va_P D vwCl [(hMo, .inr (6, [.ref hMn, .ref hMr, .ref hMa, .ref hMp, .int mc, .ref hMt, .int ml, .int ms, .ref hMd, .ref hMk, .ref hMy, .int (1 : Int32), .ref hMl, .ref hMw, .long mu, .long mv, .ref hMi, .ref hMx, .int me])), (hMd, .inl (cI, 20, .inl (upd md (Int32.toNatClampNeg (0 : Int32)) x2))), (hMk, .inl (cI, 40, .inl mk)), (hAR1, .inl (cI, 22, .inl fr1))] H := hP
  have hD : va_D A [(hMo, .inr (6, [.ref hMn, .ref hMr, .ref hMa, .ref hMp, .int mc, .ref hMt, .int ml, .int ms, .ref hMd, .ref hMk, .ref hMy, .int (1 : Int32), .ref hMl, .ref hMw, .long mu, .long mv, .ref hMi, .ref hMx, .int me])), (hMd, .inl (cI, 20, .inl (upd md (Int32.toNatClampNeg (0 : Int32)) x2))), (hMk, .inl (cI, 40, .inl mk)), (hAR1, .inl (cI, 22, .inl fr1))] := hD
  refine lv_iconst (v := (0 : Int32)) hx hb dX6_gathers_12 (by decide) ?_
  refine lv_istore_n (lv' := [(3, .int (0 : Int32)), (0, .ref hMo), (1, .ref hAR1), (2, .int x2)]) hx hb dX6_gathers_13 rfl hl (by decide) rfl (fun ls hl => ?_)
  obtain ⟨o66, eo66, hf⟩ := fp_b hf
  refine lp_X6_gathers_14 F hG hA _ _ eo66 hP hD hS (lv_sub hl [1, 2, 0] rfl) (fun H locs ls hP hD hS hl => ?_)
  obtain rfl := Option.some.inj hf
  exact hret _ _ _ _ dX6_gathers_154 hP hD hS
set_option maxRecDepth 100000 in
theorem c_X6_gathers {l : Launch} {D : va_G} {cI cJ cZ cQ : ClassId} {qs : Nat × Nat × Nat} {hMo hMn hMr hMa hMp hMt hMd hMk hMy hMl hMw hMi hMx hAR1 : Nat} {mc : Int32} {ml : Int32} {ms : Int32} {mm : Int32} {mu : Int64} {mv : Int64} {me : Int32} {md : Nat → Int32} {mk : Nat → Int32} {fr1 : Nat → Int32} {x2 : Int32} {out : Int32 × (Nat → Int32) × (Nat → Int32)} (hf : f_X6_gathers mm md mk fr1 x2 = some out) : RwV l yX6_gathers wsX6_gathers { frames := 4, cells := 0, slots := 0, locals := 91 } D (ty4 cI cJ cZ cQ) qs [.ref hMo, .ref hAR1, .int x2] [(hMo, .inr (6, [.ref hMn, .ref hMr, .ref hMa, .ref hMp, .int mc, .ref hMt, .int ml, .int ms, .ref hMd, .ref hMk, .ref hMy, .int mm, .ref hMl, .ref hMw, .long mu, .long mv, .ref hMi, .ref hMx, .int me])), (hMd, .inl (cI, 20, .inl md)), (hMk, .inl (cI, 40, .inl mk)), (hAR1, .inl (cI, 22, .inl fr1))] [(hMo, .inr (6, [.ref hMn, .ref hMr, .ref hMa, .ref hMp, .int mc, .ref hMt, .int ml, .int ms, .ref hMd, .ref hMk, .ref hMy, .int out.1, .ref hMl, .ref hMw, .long mu, .long mv, .ref hMi, .ref hMx, .int me])), (hMd, .inl (cI, 20, .inl out.2.1)), (hMk, .inl (cI, 40, .inl out.2.2)), (hAR1, .inl (cI, 22, .inl fr1))] :=
  RwV.of (own := RX6) (by decide +kernel) rfl rfl (Nat.le_of_ble_eq_true rfl) (fun F hG hA hP hD hS hret ls hl => b_X6_gathers F hG hA hP hD hS hf hret hl)
-- method X6_findsMay
theorem yd_X6_findsMay : yX6_findsMay.cls = RX6 ∧ yX6_findsMay.cls ≠ "java/lang/invoke/MethodHandle" ∧ yX6_findsMay.cls ≠ "java/lang/invoke/VarHandle" ∧ (parseMethodDescriptor yX6_findsMay.desc).map (fun d => d.parameters.length) = some 1 := by decide +kernel
theorem ku_X6_findsMay_X6 : ∀ w ∈ u_ws RX6 TX6 19, w ∈ wsX6_findsMay := by decide +kernel
theorem kw_X6_findsMay_1 : Cond.fieldLink RX6 35 "MirrorSharesModel" "place" "[I" ∈ wsX6_findsMay := List.mem_of_getElem? (i := 1) rfl
theorem kw_X6_findsMay_2 : Cond.fieldLink RX6 134 "MirrorSharesModel" "nodeMany" "I" ∈ wsX6_findsMay := List.mem_of_getElem? (i := 2) rfl
theorem kw_X6_findsMay_3 : Cond.fieldLink RX6 31 "MirrorSharesModel" "may" "[Z" ∈ wsX6_findsMay := List.mem_of_getElem? (i := 3) rfl
theorem kw_X6_findsMay_4 : Cond.fieldLink RX6 25 "MirrorSharesModel" "nodes" "[I" ∈ wsX6_findsMay := List.mem_of_getElem? (i := 4) rfl
theorem kw_X6_findsMay_5 : Cond.fieldLink RX6 28 "MirrorSharesModel" "comes" "[I" ∈ wsX6_findsMay := List.mem_of_getElem? (i := 5) rfl
def f_X6_findsMay_2 (mm : Int32) (md : Nat → Int32) (mk : Nat → Int32) (my : Nat → Int32) (y1 : Int32) (y2 : Int32) (mq : Nat → Int32) : Option ((Int32 × (Nat → Int32)) ⊕ ((Nat → Int32))) :=
  (if (80 : Int32) ≤ y2 then some (Sum.inr mq) else chk (aix y2 80) (some (Sum.inl ((y2 + (1 : Int32)), (upd mq y2.toNatClampNeg (-4 : Int32))))))
set_option maxHeartbeats 4000000 in
set_option maxRecDepth 100000 in
theorem lp_X6_findsMay_2 {p : Program} {l : Launch} {e : Env} {s : State} {m : MethodId} {args : Array Value} {below : List Frame} {meth : Method} {c : Code} {Q : State → Prop} {A : Nat → Prop} {D : va_G} {cI cJ cZ cQ : ClassId} {qs : Nat × Nat × Nat} {hMo hMn hMr hMa hMp hMt hMd hMk hMy hMl hMw hMi hMx : Nat} {mm : Int32} {md : Nat → Int32} {mk : Nat → Int32} {my : Nat → Int32} {y1 : Int32} {mc : Int32} {ml : Int32} {ms : Int32} {mu : Int64} {mv : Int64} {me : Int32} (F : CallFix p m c cX6_findsMay 6 s args wsX6_findsMay RX6) (hG : kW D (ty4 cI cJ cZ cQ) qs A s s.heap) (hA : ∀ q : Nat, s.heap.size ≤ q → A q) :
    ∀ (n : Nat) {y2 : Int32} {mq : Nat → Int32} (out : (Nat → Int32)), lpf (fun s => f_X6_findsMay_2 mm md mk my y1 s.1 s.2) n (y2, mq) = some out → ∀ {H : Heap} {locs : List Loc} {ls : Array Slot}, va_P D vwCl [(hMo, .inr (6, [.ref hMn, .ref hMr, .ref hMa, .ref hMp, .int mc, .ref hMt, .int ml, .int ms, .ref hMd, .ref hMk, .ref hMy, .int mm, .ref hMl, .ref hMw, .long mu, .long mv, .ref hMi, .ref hMx, .int me])), (hMd, .inl (cI, 20, .inl md)), (hMk, .inl (cI, 40, .inl mk)), (hMy, .inl (cZ, 20, .inl my)), (hMl, .inl (cI, 80, .inl mq))] H → va_D A [(hMo, .inr (6, [.ref hMn, .ref hMr, .ref hMa, .ref hMp, .int mc, .ref hMt, .int ml, .int ms, .ref hMd, .ref hMk, .ref hMy, .int mm, .ref hMl, .ref hMw, .long mu, .long mv, .ref hMi, .ref hMx, .int me])), (hMd, .inl (cI, 20, .inl md)), (hMk, .inl (cI, 40, .inl mk)), (hMy, .inl (cZ, 20, .inl my)), (hMl, .inl (cI, 80, .inl mq))] → va_S A s.heap H locs → lv_has ls 6 [(0, .ref hMo), (1, .int y1), (2, .int y2)] → (∀ (H : Heap) (locs : List Loc) (ls : Array Slot), va_P D vwCl [(hMo, .inr (6, [.ref hMn, .ref hMr, .ref hMa, .ref hMp, .int mc, .ref hMt, .int ml, .int ms, .ref hMd, .ref hMk, .ref hMy, .int mm, .ref hMl, .ref hMw, .long mu, .long mv, .ref hMi, .ref hMx, .int me])), (hMd, .inl (cI, 20, .inl md)), (hMk, .inl (cI, 40, .inl mk)), (hMy, .inl (cZ, 20, .inl my)), (hMl, .inl (cI, 80, .inl out))] H → va_D A [(hMo, .inr (6, [.ref hMn, .ref hMr, .ref hMa, .ref hMp, .int mc, .ref hMt, .int ml, .int ms, .ref hMd, .ref hMk, .ref hMy, .int mm, .ref hMl, .ref hMw, .long mu, .long mv, .ref hMi, .ref hMx, .int me])), (hMd, .inl (cI, 20, .inl md)), (hMk, .inl (cI, 40, .inl mk)), (hMy, .inl (cZ, 20, .inl my)), (hMl, .inl (cI, 80, .inl out))] → va_S A s.heap H locs → lv_has ls 6 [(0, .ref hMo), (1, .int y1)] → W p l e { frames := 1, cells := 0, slots := 0, locals := 21 } s m args below meth c H locs 0 0 Q (F0 m 22 ls [])) → W p l e { frames := 1, cells := 0, slots := 0, locals := 21 } s m args below meth c H locs 0 0 Q (F0 m 2 ls []) := by
  have hx := F.1
  have hb := F.2.1
  have hown := F.2.2.2.1
  have hts := F.2.2.2.2
  have hK := hG.1.1
  intro n
  induction n with
  | zero =>
    intro y2 mq out ho
    exact (fp_l0 ho).elim
  | succ n ih =>
    intro y2 mq out ho H locs ls hP hD hS hl hex
    obtain ⟨o, hf, ho⟩ := fp_l ho
    have hf : f_X6_findsMay_2 mm md mk my y1 y2 mq = some o := hf
    rw [f_X6_findsMay_2] at hf
    refine lv_iload_n hx hb dX6_findsMay_2 rfl (lv_at hl 2 rfl) ?_
    refine lv_bipush (v := (80 : Int32)) hx hb dX6_findsMay_3 (by decide) ?_
    refine lv_icmp_ge (tgt := 22) hx hb dX6_findsMay_5 (by decide) (fun c67 => ?_) (fun c67 => ?_)
    · have hf := fp_t hf c67
      obtain rfl := Option.some.inj hf
      have ho := fp_inr ho
      obtain rfl := Option.some.inj ho
      exact hex _ _ _ hP hD hS (lv_sub hl [0, 1] rfl)
    · have hf := fp_f hf c67
      refine lv_aload_n hx hb dX6_findsMay_8 rfl (lv_at hl 0 rfl) ?_
      refine va_get (D := D) (ci := 6) (v := .ref hMl) (C := RX6) (T := TX6) (N := 19) hx hb hts ku_X6_findsMay_X6 hown hK hP 0 rfl rfl 12 (by decide) (hts _ kw_X6_findsMay_1) (fun _ h9 => h9) rfl dX6_findsMay_9 ?_
      refine lv_iload_n hx hb dX6_findsMay_12 rfl (lv_at hl 2 rfl) ?_
      refine lv_bipush (v := (-4 : Int32)) hx hb dX6_findsMay_13 (by decide) ?_
      obtain ⟨k68, hf⟩ := fp_c hf
      refine va_iast hx hb hK hP hD hS 4 0 rfl rfl k68 dX6_findsMay_15 (fun H locs hP hD hS => ?_)
      have hP : va_P D vwCl [(hMo, .inr (6, [.ref hMn, .ref hMr, .ref hMa, .ref hMp, .int mc, .ref hMt, .int ml, .int ms, .ref hMd, .ref hMk, .ref hMy, .int mm, .ref hMl, .ref hMw, .long mu, .long mv, .ref hMi, .ref hMx, .int me])), (hMd, .inl (cI, 20, .inl md)), (hMk, .inl (cI, 40, .inl mk)), (hMy, .inl (cZ, 20, .inl my)), (hMl, .inl (cI, 80, .inl (upd mq y2.toNatClampNeg (-4 : Int32))))] H := hP
      have hD : va_D A [(hMo, .inr (6, [.ref hMn, .ref hMr, .ref hMa, .ref hMp, .int mc, .ref hMt, .int ml, .int ms, .ref hMd, .ref hMk, .ref hMy, .int mm, .ref hMl, .ref hMw, .long mu, .long mv, .ref hMi, .ref hMx, .int me])), (hMd, .inl (cI, 20, .inl md)), (hMk, .inl (cI, 40, .inl mk)), (hMy, .inl (cZ, 20, .inl my)), (hMl, .inl (cI, 80, .inl (upd mq y2.toNatClampNeg (-4 : Int32))))] := hD
      refine lv_iinc (v := (y2 + (1 : Int32))) (lv' := [(2, .int (y2 + (1 : Int32))), (0, .ref hMo), (1, .int y1)]) hx hb dX6_findsMay_16 hl (k := 2) rfl rfl (by decide) rfl (fun ls hl => ?_)
      refine lv_goto (tgt := 2) hx hb dX6_findsMay_19 (by decide) ?_
      obtain rfl := Option.some.inj hf
      exact ih _ (fp_inl ho) hP hD hS (lv_sub hl [1, 2, 0] rfl) hex
def f_X6_findsMay_24 (mm : Int32) (md : Nat → Int32) (mk : Nat → Int32) (y1 : Int32) (y2 : Int32) (my : Nat → Int32) (mq : Nat → Int32) : Option ((Int32 × (Nat → Int32) × (Nat → Int32)) ⊕ ((Nat → Int32) × (Nat → Int32))) :=
  (if mm ≤ y2 then some (Sum.inr (my, mq)) else chk (aix y2 20) (chk (aix (md y2.toNatClampNeg) 80) (some (Sum.inl ((y2 + (1 : Int32)), (upd my y2.toNatClampNeg (vp_nar .boolean (0 : Int32))), (upd mq (Int32.toNatClampNeg (md y2.toNatClampNeg)) y2))))))
set_option maxHeartbeats 4000000 in
set_option maxRecDepth 100000 in
theorem lp_X6_findsMay_24 {p : Program} {l : Launch} {e : Env} {s : State} {m : MethodId} {args : Array Value} {below : List Frame} {meth : Method} {c : Code} {Q : State → Prop} {A : Nat → Prop} {D : va_G} {cI cJ cZ cQ : ClassId} {qs : Nat × Nat × Nat} {hMo hMn hMr hMa hMp hMt hMd hMk hMy hMl hMw hMi hMx : Nat} {mm : Int32} {md : Nat → Int32} {mk : Nat → Int32} {y1 : Int32} {mc : Int32} {ml : Int32} {ms : Int32} {mu : Int64} {mv : Int64} {me : Int32} (F : CallFix p m c cX6_findsMay 6 s args wsX6_findsMay RX6) (hG : kW D (ty4 cI cJ cZ cQ) qs A s s.heap) (hA : ∀ q : Nat, s.heap.size ≤ q → A q) :
    ∀ (n : Nat) {y2 : Int32} {my : Nat → Int32} {mq : Nat → Int32} (out : (Nat → Int32) × (Nat → Int32)), lpf (fun s => f_X6_findsMay_24 mm md mk y1 s.1 s.2.1 s.2.2) n (y2, my, mq) = some out → ∀ {H : Heap} {locs : List Loc} {ls : Array Slot}, va_P D vwCl [(hMo, .inr (6, [.ref hMn, .ref hMr, .ref hMa, .ref hMp, .int mc, .ref hMt, .int ml, .int ms, .ref hMd, .ref hMk, .ref hMy, .int mm, .ref hMl, .ref hMw, .long mu, .long mv, .ref hMi, .ref hMx, .int me])), (hMd, .inl (cI, 20, .inl md)), (hMk, .inl (cI, 40, .inl mk)), (hMy, .inl (cZ, 20, .inl my)), (hMl, .inl (cI, 80, .inl mq))] H → va_D A [(hMo, .inr (6, [.ref hMn, .ref hMr, .ref hMa, .ref hMp, .int mc, .ref hMt, .int ml, .int ms, .ref hMd, .ref hMk, .ref hMy, .int mm, .ref hMl, .ref hMw, .long mu, .long mv, .ref hMi, .ref hMx, .int me])), (hMd, .inl (cI, 20, .inl md)), (hMk, .inl (cI, 40, .inl mk)), (hMy, .inl (cZ, 20, .inl my)), (hMl, .inl (cI, 80, .inl mq))] → va_S A s.heap H locs → lv_has ls 6 [(0, .ref hMo), (1, .int y1), (2, .int y2)] → (∀ (H : Heap) (locs : List Loc) (ls : Array Slot), va_P D vwCl [(hMo, .inr (6, [.ref hMn, .ref hMr, .ref hMa, .ref hMp, .int mc, .ref hMt, .int ml, .int ms, .ref hMd, .ref hMk, .ref hMy, .int mm, .ref hMl, .ref hMw, .long mu, .long mv, .ref hMi, .ref hMx, .int me])), (hMd, .inl (cI, 20, .inl md)), (hMk, .inl (cI, 40, .inl mk)), (hMy, .inl (cZ, 20, .inl out.1)), (hMl, .inl (cI, 80, .inl out.2))] H → va_D A [(hMo, .inr (6, [.ref hMn, .ref hMr, .ref hMa, .ref hMp, .int mc, .ref hMt, .int ml, .int ms, .ref hMd, .ref hMk, .ref hMy, .int mm, .ref hMl, .ref hMw, .long mu, .long mv, .ref hMi, .ref hMx, .int me])), (hMd, .inl (cI, 20, .inl md)), (hMk, .inl (cI, 40, .inl mk)), (hMy, .inl (cZ, 20, .inl out.1)), (hMl, .inl (cI, 80, .inl out.2))] → va_S A s.heap H locs → lv_has ls 6 [(0, .ref hMo), (1, .int y1)] → W p l e { frames := 1, cells := 0, slots := 0, locals := 21 } s m args below meth c H locs 0 0 Q (F0 m 57 ls [])) → W p l e { frames := 1, cells := 0, slots := 0, locals := 21 } s m args below meth c H locs 0 0 Q (F0 m 24 ls []) := by
  have hx := F.1
  have hb := F.2.1
  have hown := F.2.2.2.1
  have hts := F.2.2.2.2
  have hK := hG.1.1
  intro n
  induction n with
  | zero =>
    intro y2 my mq out ho
    exact (fp_l0 ho).elim
  | succ n ih =>
    intro y2 my mq out ho H locs ls hP hD hS hl hex
    obtain ⟨o, hf, ho⟩ := fp_l ho
    have hf : f_X6_findsMay_24 mm md mk y1 y2 my mq = some o := hf
    rw [f_X6_findsMay_24] at hf
    refine lv_iload_n hx hb dX6_findsMay_24 rfl (lv_at hl 2 rfl) ?_
    refine lv_aload_n hx hb dX6_findsMay_25 rfl (lv_at hl 0 rfl) ?_
    refine va_get (D := D) (ci := 6) (v := .int mm) (C := RX6) (T := TX6) (N := 19) hx hb hts ku_X6_findsMay_X6 hown hK hP 0 rfl rfl 11 (by decide) (hts _ kw_X6_findsMay_2) (fun _ h9 => h9) rfl dX6_findsMay_26 ?_
    refine lv_icmp_ge (tgt := 57) hx hb dX6_findsMay_29 (by decide) (fun c70 => ?_) (fun c70 => ?_)
    · have hf := fp_t hf c70
      obtain rfl := Option.some.inj hf
      have ho := fp_inr ho
      obtain rfl := Option.some.inj ho
      exact hex _ _ _ hP hD hS (lv_sub hl [0, 1] rfl)
    · have hf := fp_f hf c70
      refine lv_aload_n hx hb dX6_findsMay_32 rfl (lv_at hl 0 rfl) ?_
      refine va_get (D := D) (ci := 6) (v := .ref hMy) (C := RX6) (T := TX6) (N := 19) hx hb hts ku_X6_findsMay_X6 hown hK hP 0 rfl rfl 10 (by decide) (hts _ kw_X6_findsMay_3) (fun _ h9 => h9) rfl dX6_findsMay_33 ?_
      refine lv_iload_n hx hb dX6_findsMay_36 rfl (lv_at hl 2 rfl) ?_
      refine lv_iconst (v := (0 : Int32)) hx hb dX6_findsMay_37 (by decide) ?_
      obtain ⟨k71, hf⟩ := fp_c hf
      refine va_zast hx hb hK hP hD hS 3 2 rfl rfl k71 dX6_findsMay_38 (fun H locs hP hD hS => ?_)
      have hP : va_P D vwCl [(hMo, .inr (6, [.ref hMn, .ref hMr, .ref hMa, .ref hMp, .int mc, .ref hMt, .int ml, .int ms, .ref hMd, .ref hMk, .ref hMy, .int mm, .ref hMl, .ref hMw, .long mu, .long mv, .ref hMi, .ref hMx, .int me])), (hMd, .inl (cI, 20, .inl md)), (hMk, .inl (cI, 40, .inl mk)), (hMy, .inl (cZ, 20, .inl (upd my y2.toNatClampNeg (vp_nar .boolean (0 : Int32))))), (hMl, .inl (cI, 80, .inl mq))] H := hP
      have hD : va_D A [(hMo, .inr (6, [.ref hMn, .ref hMr, .ref hMa, .ref hMp, .int mc, .ref hMt, .int ml, .int ms, .ref hMd, .ref hMk, .ref hMy, .int mm, .ref hMl, .ref hMw, .long mu, .long mv, .ref hMi, .ref hMx, .int me])), (hMd, .inl (cI, 20, .inl md)), (hMk, .inl (cI, 40, .inl mk)), (hMy, .inl (cZ, 20, .inl (upd my y2.toNatClampNeg (vp_nar .boolean (0 : Int32))))), (hMl, .inl (cI, 80, .inl mq))] := hD
      refine lv_aload_n hx hb dX6_findsMay_39 rfl (lv_at hl 0 rfl) ?_
      refine va_get (D := D) (ci := 6) (v := .ref hMl) (C := RX6) (T := TX6) (N := 19) hx hb hts ku_X6_findsMay_X6 hown hK hP 0 rfl rfl 12 (by decide) (hts _ kw_X6_findsMay_1) (fun _ h9 => h9) rfl dX6_findsMay_40 ?_
      refine lv_aload_n hx hb dX6_findsMay_43 rfl (lv_at hl 0 rfl) ?_
      refine va_get (D := D) (ci := 6) (v := .ref hMd) (C := RX6) (T := TX6) (N := 19) hx hb hts ku_X6_findsMay_X6 hown hK hP 0 rfl rfl 8 (by decide) (hts _ kw_X6_findsMay_4) (fun _ h9 => h9) rfl dX6_findsMay_44 ?_
      refine lv_iload_n hx hb dX6_findsMay_47 rfl (lv_at hl 2 rfl) ?_
      refine va_iald hx hb hK hP 1 0 rfl rfl k71 dX6_findsMay_48 ?_
      refine lv_iload_n hx hb dX6_findsMay_49 rfl (lv_at hl 2 rfl) ?_
      obtain ⟨k72, hf⟩ := fp_c hf
      refine va_iast hx hb hK hP hD hS 4 0 rfl rfl k72 dX6_findsMay_50 (fun H locs hP hD hS => ?_)
      have hP : va_P D vwCl [(hMo, .inr (6, [.ref hMn, .ref hMr, .ref hMa, .ref hMp, .int mc, .ref hMt, .int ml, .int ms, .ref hMd, .ref hMk, .ref hMy, .int mm, .ref hMl, .ref hMw, .long mu, .long mv, .ref hMi, .ref hMx, .int me])), (hMd, .inl (cI, 20, .inl md)), (hMk, .inl (cI, 40, .inl mk)), (hMy, .inl (cZ, 20, .inl (upd my y2.toNatClampNeg (vp_nar .boolean (0 : Int32))))), (hMl, .inl (cI, 80, .inl (upd mq (Int32.toNatClampNeg (md y2.toNatClampNeg)) y2)))] H := hP
      have hD : va_D A [(hMo, .inr (6, [.ref hMn, .ref hMr, .ref hMa, .ref hMp, .int mc, .ref hMt, .int ml, .int ms, .ref hMd, .ref hMk, .ref hMy, .int mm, .ref hMl, .ref hMw, .long mu, .long mv, .ref hMi, .ref hMx, .int me])), (hMd, .inl (cI, 20, .inl md)), (hMk, .inl (cI, 40, .inl mk)), (hMy, .inl (cZ, 20, .inl (upd my y2.toNatClampNeg (vp_nar .boolean (0 : Int32))))), (hMl, .inl (cI, 80, .inl (upd mq (Int32.toNatClampNeg (md y2.toNatClampNeg)) y2)))] := hD
      refine lv_iinc (v := (y2 + (1 : Int32))) (lv' := [(2, .int (y2 + (1 : Int32))), (0, .ref hMo), (1, .int y1)]) hx hb dX6_findsMay_51 hl (k := 2) rfl rfl (by decide) rfl (fun ls hl => ?_)
      refine lv_goto (tgt := 24) hx hb dX6_findsMay_54 (by decide) ?_
      obtain rfl := Option.some.inj hf
      exact ih _ (fp_inl ho) hP hD hS (lv_sub hl [1, 2, 0] rfl) hex
def f_X6_findsMay_80 (mm : Int32) (md : Nat → Int32) (mk : Nat → Int32) (mq : Nat → Int32) (y1 : Int32) (y2 : Int32) (y3 : Int32) (y4 : Int32) (my : Nat → Int32) : Option ((Int32 × (Nat → Int32)) ⊕ ((Nat → Int32))) :=
  (if (2 : Int32) ≤ y4 then some (Sum.inr my) else chk (aix (((2 : Int32) * y3) + y4) 40) (chk (aix y3 20) ((if (my y3.toNatClampNeg) = 0 then Option.bind (f_X6_isAsked (mk (Int32.toNatClampNeg (((2 : Int32) * y3) + y4))) y1) (fun r80 => (if r80 = 0 then (if (mk (Int32.toNatClampNeg (((2 : Int32) * y3) + y4))) < 0 then some (Sum.inl ((y4 + (1 : Int32)), (upd my y3.toNatClampNeg (vp_nar .boolean (0 : Int32))))) else chk (aix (mk (Int32.toNatClampNeg (((2 : Int32) * y3) + y4))) 80) (chk (aix (mq (Int32.toNatClampNeg (mk (Int32.toNatClampNeg (((2 : Int32) * y3) + y4))))) 20) ((if (my (Int32.toNatClampNeg (mq (Int32.toNatClampNeg (mk (Int32.toNatClampNeg (((2 : Int32) * y3) + y4))))))) = 0 then some (Sum.inl ((y4 + (1 : Int32)), (upd my y3.toNatClampNeg (vp_nar .boolean (0 : Int32))))) else some (Sum.inl ((y4 + (1 : Int32)), (upd my y3.toNatClampNeg (vp_nar .boolean (1 : Int32))))))))) else some (Sum.inl ((y4 + (1 : Int32)), (upd my y3.toNatClampNeg (vp_nar .boolean (1 : Int32))))))) else some (Sum.inl ((y4 + (1 : Int32)), (upd my y3.toNatClampNeg (vp_nar .boolean (1 : Int32)))))))))
set_option maxHeartbeats 4000000 in
set_option maxRecDepth 100000 in
theorem lp_X6_findsMay_80 {p : Program} {l : Launch} {e : Env} {s : State} {m : MethodId} {args : Array Value} {below : List Frame} {meth : Method} {c : Code} {Q : State → Prop} {A : Nat → Prop} {D : va_G} {cI cJ cZ cQ : ClassId} {qs : Nat × Nat × Nat} {hMo hMn hMr hMa hMp hMt hMd hMk hMy hMl hMw hMi hMx : Nat} {mm : Int32} {md : Nat → Int32} {mk : Nat → Int32} {mq : Nat → Int32} {y1 : Int32} {y2 : Int32} {y3 : Int32} {mc : Int32} {ml : Int32} {ms : Int32} {mu : Int64} {mv : Int64} {me : Int32} (F : CallFix p m c cX6_findsMay 6 s args wsX6_findsMay RX6) (hG : kW D (ty4 cI cJ cZ cQ) qs A s s.heap) (hA : ∀ q : Nat, s.heap.size ≤ q → A q) :
    ∀ (n : Nat) {y4 : Int32} {my : Nat → Int32} (out : (Nat → Int32)), lpf (fun s => f_X6_findsMay_80 mm md mk mq y1 y2 y3 s.1 s.2) n (y4, my) = some out → ∀ {H : Heap} {locs : List Loc} {ls : Array Slot}, va_P D vwCl [(hMo, .inr (6, [.ref hMn, .ref hMr, .ref hMa, .ref hMp, .int mc, .ref hMt, .int ml, .int ms, .ref hMd, .ref hMk, .ref hMy, .int mm, .ref hMl, .ref hMw, .long mu, .long mv, .ref hMi, .ref hMx, .int me])), (hMd, .inl (cI, 20, .inl md)), (hMk, .inl (cI, 40, .inl mk)), (hMy, .inl (cZ, 20, .inl my)), (hMl, .inl (cI, 80, .inl mq))] H → va_D A [(hMo, .inr (6, [.ref hMn, .ref hMr, .ref hMa, .ref hMp, .int mc, .ref hMt, .int ml, .int ms, .ref hMd, .ref hMk, .ref hMy, .int mm, .ref hMl, .ref hMw, .long mu, .long mv, .ref hMi, .ref hMx, .int me])), (hMd, .inl (cI, 20, .inl md)), (hMk, .inl (cI, 40, .inl mk)), (hMy, .inl (cZ, 20, .inl my)), (hMl, .inl (cI, 80, .inl mq))] → va_S A s.heap H locs → lv_has ls 6 [(0, .ref hMo), (1, .int y1), (2, .int y2), (3, .int y3), (4, .int y4)] → (∀ (H : Heap) (locs : List Loc) (ls : Array Slot), va_P D vwCl [(hMo, .inr (6, [.ref hMn, .ref hMr, .ref hMa, .ref hMp, .int mc, .ref hMt, .int ml, .int ms, .ref hMd, .ref hMk, .ref hMy, .int mm, .ref hMl, .ref hMw, .long mu, .long mv, .ref hMi, .ref hMx, .int me])), (hMd, .inl (cI, 20, .inl md)), (hMk, .inl (cI, 40, .inl mk)), (hMy, .inl (cZ, 20, .inl out)), (hMl, .inl (cI, 80, .inl mq))] H → va_D A [(hMo, .inr (6, [.ref hMn, .ref hMr, .ref hMa, .ref hMp, .int mc, .ref hMt, .int ml, .int ms, .ref hMd, .ref hMk, .ref hMy, .int mm, .ref hMl, .ref hMw, .long mu, .long mv, .ref hMi, .ref hMx, .int me])), (hMd, .inl (cI, 20, .inl md)), (hMk, .inl (cI, 40, .inl mk)), (hMy, .inl (cZ, 20, .inl out)), (hMl, .inl (cI, 80, .inl mq))] → va_S A s.heap H locs → lv_has ls 6 [(0, .ref hMo), (1, .int y1), (2, .int y2), (3, .int y3)] → W p l e { frames := 1, cells := 0, slots := 0, locals := 21 } s m args below meth c H locs 0 0 Q (F0 m 154 ls [])) → W p l e { frames := 1, cells := 0, slots := 0, locals := 21 } s m args below meth c H locs 0 0 Q (F0 m 80 ls []) := by
  have hx := F.1
  have hb := F.2.1
  have hown := F.2.2.2.1
  have hts := F.2.2.2.2
  have hK := hG.1.1
  intro n
  induction n with
  | zero =>
    intro y4 my out ho
    exact (fp_l0 ho).elim
  | succ n ih =>
    intro y4 my out ho H locs ls hP hD hS hl hex
    obtain ⟨o, hf, ho⟩ := fp_l ho
    have hf : f_X6_findsMay_80 mm md mk mq y1 y2 y3 y4 my = some o := hf
    rw [f_X6_findsMay_80] at hf
    refine lv_iload hx hb dX6_findsMay_80 (lv_at hl 4 rfl) ?_
    refine lv_iconst (v := (2 : Int32)) hx hb dX6_findsMay_82 (by decide) ?_
    refine lv_icmp_ge (tgt := 154) hx hb dX6_findsMay_83 (by decide) (fun c76 => ?_) (fun c76 => ?_)
    · have hf := fp_t hf c76
      obtain rfl := Option.some.inj hf
      have ho := fp_inr ho
      obtain rfl := Option.some.inj ho
      exact hex _ _ _ hP hD hS (lv_sub hl [0, 1, 2, 3] rfl)
    · have hf := fp_f hf c76
      refine lv_aload_n hx hb dX6_findsMay_86 rfl (lv_at hl 0 rfl) ?_
      refine va_get (D := D) (ci := 6) (v := .ref hMk) (C := RX6) (T := TX6) (N := 19) hx hb hts ku_X6_findsMay_X6 hown hK hP 0 rfl rfl 9 (by decide) (hts _ kw_X6_findsMay_5) (fun _ h9 => h9) rfl dX6_findsMay_87 ?_
      refine lv_iconst (v := (2 : Int32)) hx hb dX6_findsMay_90 (by decide) ?_
      refine lv_iload_n hx hb dX6_findsMay_91 rfl (lv_at hl 3 rfl) ?_
      refine lv_imul hx hb dX6_findsMay_92 ?_
      refine lv_iload hx hb dX6_findsMay_93 (lv_at hl 4 rfl) ?_
      refine lv_iadd hx hb dX6_findsMay_95 ?_
      obtain ⟨k77, hf⟩ := fp_c hf
      refine va_iald hx hb hK hP 2 0 rfl rfl k77 dX6_findsMay_96 ?_
      refine lv_istore (lv' := [(5, .int (mk (Int32.toNatClampNeg (((2 : Int32) * y3) + y4)))), (0, .ref hMo), (1, .int y1), (2, .int y2), (3, .int y3), (4, .int y4)]) hx hb dX6_findsMay_97 hl (by decide) rfl (fun ls hl => ?_)
      refine lv_aload_n hx hb dX6_findsMay_99 rfl (lv_at hl 1 rfl) ?_
      refine va_get (D := D) (ci := 6) (v := .ref hMy) (C := RX6) (T := TX6) (N := 19) hx hb hts ku_X6_findsMay_X6 hown hK hP 0 rfl rfl 10 (by decide) (hts _ kw_X6_findsMay_3) (fun _ h9 => h9) rfl dX6_findsMay_100 ?_
      refine lv_iload_n hx hb dX6_findsMay_103 rfl (lv_at hl 4 rfl) ?_
      refine lv_aload_n hx hb dX6_findsMay_104 rfl (lv_at hl 1 rfl) ?_
      refine va_get (D := D) (ci := 6) (v := .ref hMy) (C := RX6) (T := TX6) (N := 19) hx hb hts ku_X6_findsMay_X6 hown hK hP 0 rfl rfl 10 (by decide) (hts _ kw_X6_findsMay_3) (fun _ h9 => h9) rfl dX6_findsMay_105 ?_
      refine lv_iload_n hx hb dX6_findsMay_108 rfl (lv_at hl 4 rfl) ?_
      obtain ⟨k78, hf⟩ := fp_c hf
      refine va_zald hx hb hK hP 3 2 rfl rfl k78 dX6_findsMay_109 ?_
      refine lv_if_ne (tgt := 142) hx hb dX6_findsMay_110 (by decide) (fun c79 => ?_) (fun c79 => ?_)
      · have hf := fp_f hf c79
        refine lv_iconst (v := (1 : Int32)) hx hb dX6_findsMay_142 (by decide) ?_
        refine lv_goto (tgt := 147) hx hb dX6_findsMay_143 (by decide) ?_
        refine va_zast hx hb hK hP hD hS 3 2 rfl rfl k78 dX6_findsMay_147 (fun H locs hP hD hS => ?_)
        have hP : va_P D vwCl [(hMo, .inr (6, [.ref hMn, .ref hMr, .ref hMa, .ref hMp, .int mc, .ref hMt, .int ml, .int ms, .ref hMd, .ref hMk, .ref hMy, .int mm, .ref hMl, .ref hMw, .long mu, .long mv, .ref hMi, .ref hMx, .int me])), (hMd, .inl (cI, 20, .inl md)), (hMk, .inl (cI, 40, .inl mk)), (hMy, .inl (cZ, 20, .inl (upd my y3.toNatClampNeg (vp_nar .boolean (1 : Int32))))), (hMl, .inl (cI, 80, .inl mq))] H := hP
        have hD : va_D A [(hMo, .inr (6, [.ref hMn, .ref hMr, .ref hMa, .ref hMp, .int mc, .ref hMt, .int ml, .int ms, .ref hMd, .ref hMk, .ref hMy, .int mm, .ref hMl, .ref hMw, .long mu, .long mv, .ref hMi, .ref hMx, .int me])), (hMd, .inl (cI, 20, .inl md)), (hMk, .inl (cI, 40, .inl mk)), (hMy, .inl (cZ, 20, .inl (upd my y3.toNatClampNeg (vp_nar .boolean (1 : Int32))))), (hMl, .inl (cI, 80, .inl mq))] := hD
        refine lv_iinc (v := (y4 + (1 : Int32))) (lv' := [(4, .int (y4 + (1 : Int32))), (5, .int (mk (Int32.toNatClampNeg (((2 : Int32) * y3) + y4)))), (0, .ref hMo), (1, .int y1), (2, .int y2), (3, .int y3)]) hx hb dX6_findsMay_148 hl (k := 5) rfl rfl (by decide) rfl (fun ls hl => ?_)
        refine lv_goto (tgt := 80) hx hb dX6_findsMay_151 (by decide) ?_
        obtain rfl := Option.some.inj hf
        exact ih _ (fp_inl ho) hP hD hS (lv_sub hl [2, 3, 4, 5, 0] rfl) hex
      · have hf := fp_t hf c79
        refine lv_iload hx hb dX6_findsMay_113 (lv_at hl 0 rfl) ?_
        refine lv_iload_n hx hb dX6_findsMay_115 rfl (lv_at hl 2 rfl) ?_
        obtain ⟨r80, er80, hf⟩ := fp_b hf
        refine RoI.callS (c_X6_isAsked (l := l) (D := D) (cI := cI) (cJ := cJ) (cZ := cZ) (cQ := cQ) (qs := qs) er80) F (va_cwS 2 hts gX6_findsMay_X6_isAsked rfl rfl rfl yd_X6_isAsked ⟨Nat.le_of_ble_eq_true rfl, Nat.le_of_ble_eq_true rfl⟩) (hG.r hS) hP [] rfl rfl hl.1 rfl (Nat.le_of_ble_eq_true rfl) dX6_findsMay_116 ⟨Nat.zero_le _, Nat.zero_le _⟩ ?_
        refine lv_if_ne (tgt := 142) hx hb dX6_findsMay_119 (by decide) (fun c81 => ?_) (fun c81 => ?_)
        · have hf := fp_f hf c81
          refine lv_iconst (v := (1 : Int32)) hx hb dX6_findsMay_142 (by decide) ?_
          refine lv_goto (tgt := 147) hx hb dX6_findsMay_143 (by decide) ?_
          refine va_zast hx hb hK hP hD hS 3 2 rfl rfl k78 dX6_findsMay_147 (fun H locs hP hD hS => ?_)
          have hP : va_P D vwCl [(hMo, .inr (6, [.ref hMn, .ref hMr, .ref hMa, .ref hMp, .int mc, .ref hMt, .int ml, .int ms, .ref hMd, .ref hMk, .ref hMy, .int mm, .ref hMl, .ref hMw, .long mu, .long mv, .ref hMi, .ref hMx, .int me])), (hMd, .inl (cI, 20, .inl md)), (hMk, .inl (cI, 40, .inl mk)), (hMy, .inl (cZ, 20, .inl (upd my y3.toNatClampNeg (vp_nar .boolean (1 : Int32))))), (hMl, .inl (cI, 80, .inl mq))] H := hP
          have hD : va_D A [(hMo, .inr (6, [.ref hMn, .ref hMr, .ref hMa, .ref hMp, .int mc, .ref hMt, .int ml, .int ms, .ref hMd, .ref hMk, .ref hMy, .int mm, .ref hMl, .ref hMw, .long mu, .long mv, .ref hMi, .ref hMx, .int me])), (hMd, .inl (cI, 20, .inl md)), (hMk, .inl (cI, 40, .inl mk)), (hMy, .inl (cZ, 20, .inl (upd my y3.toNatClampNeg (vp_nar .boolean (1 : Int32))))), (hMl, .inl (cI, 80, .inl mq))] := hD
          refine lv_iinc (v := (y4 + (1 : Int32))) (lv' := [(4, .int (y4 + (1 : Int32))), (5, .int (mk (Int32.toNatClampNeg (((2 : Int32) * y3) + y4)))), (0, .ref hMo), (1, .int y1), (2, .int y2), (3, .int y3)]) hx hb dX6_findsMay_148 hl (k := 5) rfl rfl (by decide) rfl (fun ls hl => ?_)
          refine lv_goto (tgt := 80) hx hb dX6_findsMay_151 (by decide) ?_
          obtain rfl := Option.some.inj hf
          exact ih _ (fp_inl ho) hP hD hS (lv_sub hl [2, 3, 4, 5, 0] rfl) hex
        · have hf := fp_t hf c81
          refine lv_iload hx hb dX6_findsMay_122 (lv_at hl 0 rfl) ?_
          refine lv_if_lt (tgt := 146) hx hb dX6_findsMay_124 (by decide) (fun c82 => ?_) (fun c82 => ?_)
          · have hf := fp_t hf c82
            refine lv_iconst (v := (0 : Int32)) hx hb dX6_findsMay_146 (by decide) ?_
            refine va_zast hx hb hK hP hD hS 3 2 rfl rfl k78 dX6_findsMay_147 (fun H locs hP hD hS => ?_)
            have hP : va_P D vwCl [(hMo, .inr (6, [.ref hMn, .ref hMr, .ref hMa, .ref hMp, .int mc, .ref hMt, .int ml, .int ms, .ref hMd, .ref hMk, .ref hMy, .int mm, .ref hMl, .ref hMw, .long mu, .long mv, .ref hMi, .ref hMx, .int me])), (hMd, .inl (cI, 20, .inl md)), (hMk, .inl (cI, 40, .inl mk)), (hMy, .inl (cZ, 20, .inl (upd my y3.toNatClampNeg (vp_nar .boolean (0 : Int32))))), (hMl, .inl (cI, 80, .inl mq))] H := hP
            have hD : va_D A [(hMo, .inr (6, [.ref hMn, .ref hMr, .ref hMa, .ref hMp, .int mc, .ref hMt, .int ml, .int ms, .ref hMd, .ref hMk, .ref hMy, .int mm, .ref hMl, .ref hMw, .long mu, .long mv, .ref hMi, .ref hMx, .int me])), (hMd, .inl (cI, 20, .inl md)), (hMk, .inl (cI, 40, .inl mk)), (hMy, .inl (cZ, 20, .inl (upd my y3.toNatClampNeg (vp_nar .boolean (0 : Int32))))), (hMl, .inl (cI, 80, .inl mq))] := hD
            refine lv_iinc (v := (y4 + (1 : Int32))) (lv' := [(4, .int (y4 + (1 : Int32))), (5, .int (mk (Int32.toNatClampNeg (((2 : Int32) * y3) + y4)))), (0, .ref hMo), (1, .int y1), (2, .int y2), (3, .int y3)]) hx hb dX6_findsMay_148 hl (k := 5) rfl rfl (by decide) rfl (fun ls hl => ?_)
            refine lv_goto (tgt := 80) hx hb dX6_findsMay_151 (by decide) ?_
            obtain rfl := Option.some.inj hf
            exact ih _ (fp_inl ho) hP hD hS (lv_sub hl [2, 3, 4, 5, 0] rfl) hex
          · have hf := fp_f hf c82
            refine lv_aload_n hx hb dX6_findsMay_127 rfl (lv_at hl 1 rfl) ?_
            refine va_get (D := D) (ci := 6) (v := .ref hMy) (C := RX6) (T := TX6) (N := 19) hx hb hts ku_X6_findsMay_X6 hown hK hP 0 rfl rfl 10 (by decide) (hts _ kw_X6_findsMay_3) (fun _ h9 => h9) rfl dX6_findsMay_128 ?_
            refine lv_aload_n hx hb dX6_findsMay_131 rfl (lv_at hl 1 rfl) ?_
            refine va_get (D := D) (ci := 6) (v := .ref hMl) (C := RX6) (T := TX6) (N := 19) hx hb hts ku_X6_findsMay_X6 hown hK hP 0 rfl rfl 12 (by decide) (hts _ kw_X6_findsMay_1) (fun _ h9 => h9) rfl dX6_findsMay_132 ?_
            refine lv_iload hx hb dX6_findsMay_135 (lv_at hl 0 rfl) ?_
            obtain ⟨k83, hf⟩ := fp_c hf
            refine va_iald hx hb hK hP 4 0 rfl rfl k83 dX6_findsMay_137 ?_
            obtain ⟨k84, hf⟩ := fp_c hf
            refine va_zald hx hb hK hP 3 2 rfl rfl k84 dX6_findsMay_138 ?_
            refine lv_if_eq (tgt := 146) hx hb dX6_findsMay_139 (by decide) (fun c85 => ?_) (fun c85 => ?_)
            · have hf := fp_t hf c85
              refine lv_iconst (v := (0 : Int32)) hx hb dX6_findsMay_146 (by decide) ?_
              refine va_zast hx hb hK hP hD hS 3 2 rfl rfl k78 dX6_findsMay_147 (fun H locs hP hD hS => ?_)
              have hP : va_P D vwCl [(hMo, .inr (6, [.ref hMn, .ref hMr, .ref hMa, .ref hMp, .int mc, .ref hMt, .int ml, .int ms, .ref hMd, .ref hMk, .ref hMy, .int mm, .ref hMl, .ref hMw, .long mu, .long mv, .ref hMi, .ref hMx, .int me])), (hMd, .inl (cI, 20, .inl md)), (hMk, .inl (cI, 40, .inl mk)), (hMy, .inl (cZ, 20, .inl (upd my y3.toNatClampNeg (vp_nar .boolean (0 : Int32))))), (hMl, .inl (cI, 80, .inl mq))] H := hP
              have hD : va_D A [(hMo, .inr (6, [.ref hMn, .ref hMr, .ref hMa, .ref hMp, .int mc, .ref hMt, .int ml, .int ms, .ref hMd, .ref hMk, .ref hMy, .int mm, .ref hMl, .ref hMw, .long mu, .long mv, .ref hMi, .ref hMx, .int me])), (hMd, .inl (cI, 20, .inl md)), (hMk, .inl (cI, 40, .inl mk)), (hMy, .inl (cZ, 20, .inl (upd my y3.toNatClampNeg (vp_nar .boolean (0 : Int32))))), (hMl, .inl (cI, 80, .inl mq))] := hD
              refine lv_iinc (v := (y4 + (1 : Int32))) (lv' := [(4, .int (y4 + (1 : Int32))), (5, .int (mk (Int32.toNatClampNeg (((2 : Int32) * y3) + y4)))), (0, .ref hMo), (1, .int y1), (2, .int y2), (3, .int y3)]) hx hb dX6_findsMay_148 hl (k := 5) rfl rfl (by decide) rfl (fun ls hl => ?_)
              refine lv_goto (tgt := 80) hx hb dX6_findsMay_151 (by decide) ?_
              obtain rfl := Option.some.inj hf
              exact ih _ (fp_inl ho) hP hD hS (lv_sub hl [2, 3, 4, 5, 0] rfl) hex
            · have hf := fp_f hf c85
              refine lv_iconst (v := (1 : Int32)) hx hb dX6_findsMay_142 (by decide) ?_
              refine lv_goto (tgt := 147) hx hb dX6_findsMay_143 (by decide) ?_
              refine va_zast hx hb hK hP hD hS 3 2 rfl rfl k78 dX6_findsMay_147 (fun H locs hP hD hS => ?_)
              have hP : va_P D vwCl [(hMo, .inr (6, [.ref hMn, .ref hMr, .ref hMa, .ref hMp, .int mc, .ref hMt, .int ml, .int ms, .ref hMd, .ref hMk, .ref hMy, .int mm, .ref hMl, .ref hMw, .long mu, .long mv, .ref hMi, .ref hMx, .int me])), (hMd, .inl (cI, 20, .inl md)), (hMk, .inl (cI, 40, .inl mk)), (hMy, .inl (cZ, 20, .inl (upd my y3.toNatClampNeg (vp_nar .boolean (1 : Int32))))), (hMl, .inl (cI, 80, .inl mq))] H := hP
              have hD : va_D A [(hMo, .inr (6, [.ref hMn, .ref hMr, .ref hMa, .ref hMp, .int mc, .ref hMt, .int ml, .int ms, .ref hMd, .ref hMk, .ref hMy, .int mm, .ref hMl, .ref hMw, .long mu, .long mv, .ref hMi, .ref hMx, .int me])), (hMd, .inl (cI, 20, .inl md)), (hMk, .inl (cI, 40, .inl mk)), (hMy, .inl (cZ, 20, .inl (upd my y3.toNatClampNeg (vp_nar .boolean (1 : Int32))))), (hMl, .inl (cI, 80, .inl mq))] := hD
              refine lv_iinc (v := (y4 + (1 : Int32))) (lv' := [(4, .int (y4 + (1 : Int32))), (5, .int (mk (Int32.toNatClampNeg (((2 : Int32) * y3) + y4)))), (0, .ref hMo), (1, .int y1), (2, .int y2), (3, .int y3)]) hx hb dX6_findsMay_148 hl (k := 5) rfl rfl (by decide) rfl (fun ls hl => ?_)
              refine lv_goto (tgt := 80) hx hb dX6_findsMay_151 (by decide) ?_
              obtain rfl := Option.some.inj hf
              exact ih _ (fp_inl ho) hP hD hS (lv_sub hl [2, 3, 4, 5, 0] rfl) hex
def f_X6_findsMay_69 (mm : Int32) (md : Nat → Int32) (mk : Nat → Int32) (mq : Nat → Int32) (y1 : Int32) (y2 : Int32) (y3 : Int32) (my : Nat → Int32) : Option ((Int32 × (Nat → Int32)) ⊕ ((Nat → Int32))) :=
  (if mm ≤ y3 then some (Sum.inr my) else Option.bind (lpf (fun s => f_X6_findsMay_80 mm md mk mq y1 y2 y3 s.1 s.2) 1000 ((0 : Int32), my)) (fun o86 => some (Sum.inl ((y3 + (1 : Int32)), o86))))
set_option maxHeartbeats 4000000 in
set_option maxRecDepth 100000 in
theorem lp_X6_findsMay_69 {p : Program} {l : Launch} {e : Env} {s : State} {m : MethodId} {args : Array Value} {below : List Frame} {meth : Method} {c : Code} {Q : State → Prop} {A : Nat → Prop} {D : va_G} {cI cJ cZ cQ : ClassId} {qs : Nat × Nat × Nat} {hMo hMn hMr hMa hMp hMt hMd hMk hMy hMl hMw hMi hMx : Nat} {mm : Int32} {md : Nat → Int32} {mk : Nat → Int32} {mq : Nat → Int32} {y1 : Int32} {y2 : Int32} {mc : Int32} {ml : Int32} {ms : Int32} {mu : Int64} {mv : Int64} {me : Int32} (F : CallFix p m c cX6_findsMay 6 s args wsX6_findsMay RX6) (hG : kW D (ty4 cI cJ cZ cQ) qs A s s.heap) (hA : ∀ q : Nat, s.heap.size ≤ q → A q) :
    ∀ (n : Nat) {y3 : Int32} {my : Nat → Int32} (out : (Nat → Int32)), lpf (fun s => f_X6_findsMay_69 mm md mk mq y1 y2 s.1 s.2) n (y3, my) = some out → ∀ {H : Heap} {locs : List Loc} {ls : Array Slot}, va_P D vwCl [(hMo, .inr (6, [.ref hMn, .ref hMr, .ref hMa, .ref hMp, .int mc, .ref hMt, .int ml, .int ms, .ref hMd, .ref hMk, .ref hMy, .int mm, .ref hMl, .ref hMw, .long mu, .long mv, .ref hMi, .ref hMx, .int me])), (hMd, .inl (cI, 20, .inl md)), (hMk, .inl (cI, 40, .inl mk)), (hMy, .inl (cZ, 20, .inl my)), (hMl, .inl (cI, 80, .inl mq))] H → va_D A [(hMo, .inr (6, [.ref hMn, .ref hMr, .ref hMa, .ref hMp, .int mc, .ref hMt, .int ml, .int ms, .ref hMd, .ref hMk, .ref hMy, .int mm, .ref hMl, .ref hMw, .long mu, .long mv, .ref hMi, .ref hMx, .int me])), (hMd, .inl (cI, 20, .inl md)), (hMk, .inl (cI, 40, .inl mk)), (hMy, .inl (cZ, 20, .inl my)), (hMl, .inl (cI, 80, .inl mq))] → va_S A s.heap H locs → lv_has ls 6 [(0, .ref hMo), (1, .int y1), (2, .int y2), (3, .int y3)] → (∀ (H : Heap) (locs : List Loc) (ls : Array Slot), va_P D vwCl [(hMo, .inr (6, [.ref hMn, .ref hMr, .ref hMa, .ref hMp, .int mc, .ref hMt, .int ml, .int ms, .ref hMd, .ref hMk, .ref hMy, .int mm, .ref hMl, .ref hMw, .long mu, .long mv, .ref hMi, .ref hMx, .int me])), (hMd, .inl (cI, 20, .inl md)), (hMk, .inl (cI, 40, .inl mk)), (hMy, .inl (cZ, 20, .inl out)), (hMl, .inl (cI, 80, .inl mq))] H → va_D A [(hMo, .inr (6, [.ref hMn, .ref hMr, .ref hMa, .ref hMp, .int mc, .ref hMt, .int ml, .int ms, .ref hMd, .ref hMk, .ref hMy, .int mm, .ref hMl, .ref hMw, .long mu, .long mv, .ref hMi, .ref hMx, .int me])), (hMd, .inl (cI, 20, .inl md)), (hMk, .inl (cI, 40, .inl mk)), (hMy, .inl (cZ, 20, .inl out)), (hMl, .inl (cI, 80, .inl mq))] → va_S A s.heap H locs → lv_has ls 6 [(0, .ref hMo), (1, .int y1), (2, .int y2)] → W p l e { frames := 1, cells := 0, slots := 0, locals := 21 } s m args below meth c H locs 0 0 Q (F0 m 160 ls [])) → W p l e { frames := 1, cells := 0, slots := 0, locals := 21 } s m args below meth c H locs 0 0 Q (F0 m 69 ls []) := by
  have hx := F.1
  have hb := F.2.1
  have hown := F.2.2.2.1
  have hts := F.2.2.2.2
  have hK := hG.1.1
  intro n
  induction n with
  | zero =>
    intro y3 my out ho
    exact (fp_l0 ho).elim
  | succ n ih =>
    intro y3 my out ho H locs ls hP hD hS hl hex
    obtain ⟨o, hf, ho⟩ := fp_l ho
    have hf : f_X6_findsMay_69 mm md mk mq y1 y2 y3 my = some o := hf
    rw [f_X6_findsMay_69] at hf
    refine lv_iload_n hx hb dX6_findsMay_69 rfl (lv_at hl 3 rfl) ?_
    refine lv_aload_n hx hb dX6_findsMay_70 rfl (lv_at hl 0 rfl) ?_
    refine va_get (D := D) (ci := 6) (v := .int mm) (C := RX6) (T := TX6) (N := 19) hx hb hts ku_X6_findsMay_X6 hown hK hP 0 rfl rfl 11 (by decide) (hts _ kw_X6_findsMay_2) (fun _ h9 => h9) rfl dX6_findsMay_71 ?_
    refine lv_icmp_ge (tgt := 160) hx hb dX6_findsMay_74 (by decide) (fun c75 => ?_) (fun c75 => ?_)
    · have hf := fp_t hf c75
      obtain rfl := Option.some.inj hf
      have ho := fp_inr ho
      obtain rfl := Option.some.inj ho
      exact hex _ _ _ hP hD hS (lv_sub hl [0, 1, 2] rfl)
    · have hf := fp_f hf c75
      refine lv_iconst (v := (0 : Int32)) hx hb dX6_findsMay_77 (by decide) ?_
      refine lv_istore (lv' := [(4, .int (0 : Int32)), (0, .ref hMo), (1, .int y1), (2, .int y2), (3, .int y3)]) hx hb dX6_findsMay_78 hl (by decide) rfl (fun ls hl => ?_)
      obtain ⟨o86, eo86, hf⟩ := fp_b hf
      refine lp_X6_findsMay_80 F hG hA _ _ eo86 hP hD hS (lv_sub hl [1, 2, 3, 4, 0] rfl) (fun H locs ls hP hD hS hl => ?_)
      refine lv_iinc (v := (y3 + (1 : Int32))) (lv' := [(3, .int (y3 + (1 : Int32))), (0, .ref hMo), (1, .int y1), (2, .int y2)]) hx hb dX6_findsMay_154 hl (k := 3) rfl rfl (by decide) rfl (fun ls hl => ?_)
      refine lv_goto (tgt := 69) hx hb dX6_findsMay_157 (by decide) ?_
      obtain rfl := Option.some.inj hf
      exact ih _ (fp_inl ho) hP hD hS (lv_sub hl [1, 2, 3, 0] rfl) hex
def f_X6_findsMay_59 (mm : Int32) (md : Nat → Int32) (mk : Nat → Int32) (mq : Nat → Int32) (y1 : Int32) (y2 : Int32) (my : Nat → Int32) : Option ((Int32 × (Nat → Int32)) ⊕ ((Nat → Int32))) :=
  (if mm ≤ y2 then some (Sum.inr my) else Option.bind (lpf (fun s => f_X6_findsMay_69 mm md mk mq y1 y2 s.1 s.2) 1000 ((0 : Int32), my)) (fun o87 => some (Sum.inl ((y2 + (1 : Int32)), o87))))
set_option maxHeartbeats 4000000 in
set_option maxRecDepth 100000 in
theorem lp_X6_findsMay_59 {p : Program} {l : Launch} {e : Env} {s : State} {m : MethodId} {args : Array Value} {below : List Frame} {meth : Method} {c : Code} {Q : State → Prop} {A : Nat → Prop} {D : va_G} {cI cJ cZ cQ : ClassId} {qs : Nat × Nat × Nat} {hMo hMn hMr hMa hMp hMt hMd hMk hMy hMl hMw hMi hMx : Nat} {mm : Int32} {md : Nat → Int32} {mk : Nat → Int32} {mq : Nat → Int32} {y1 : Int32} {mc : Int32} {ml : Int32} {ms : Int32} {mu : Int64} {mv : Int64} {me : Int32} (F : CallFix p m c cX6_findsMay 6 s args wsX6_findsMay RX6) (hG : kW D (ty4 cI cJ cZ cQ) qs A s s.heap) (hA : ∀ q : Nat, s.heap.size ≤ q → A q) :
    ∀ (n : Nat) {y2 : Int32} {my : Nat → Int32} (out : (Nat → Int32)), lpf (fun s => f_X6_findsMay_59 mm md mk mq y1 s.1 s.2) n (y2, my) = some out → ∀ {H : Heap} {locs : List Loc} {ls : Array Slot}, va_P D vwCl [(hMo, .inr (6, [.ref hMn, .ref hMr, .ref hMa, .ref hMp, .int mc, .ref hMt, .int ml, .int ms, .ref hMd, .ref hMk, .ref hMy, .int mm, .ref hMl, .ref hMw, .long mu, .long mv, .ref hMi, .ref hMx, .int me])), (hMd, .inl (cI, 20, .inl md)), (hMk, .inl (cI, 40, .inl mk)), (hMy, .inl (cZ, 20, .inl my)), (hMl, .inl (cI, 80, .inl mq))] H → va_D A [(hMo, .inr (6, [.ref hMn, .ref hMr, .ref hMa, .ref hMp, .int mc, .ref hMt, .int ml, .int ms, .ref hMd, .ref hMk, .ref hMy, .int mm, .ref hMl, .ref hMw, .long mu, .long mv, .ref hMi, .ref hMx, .int me])), (hMd, .inl (cI, 20, .inl md)), (hMk, .inl (cI, 40, .inl mk)), (hMy, .inl (cZ, 20, .inl my)), (hMl, .inl (cI, 80, .inl mq))] → va_S A s.heap H locs → lv_has ls 6 [(0, .ref hMo), (1, .int y1), (2, .int y2)] → (∀ (H : Heap) (locs : List Loc) (ls : Array Slot), va_P D vwCl [(hMo, .inr (6, [.ref hMn, .ref hMr, .ref hMa, .ref hMp, .int mc, .ref hMt, .int ml, .int ms, .ref hMd, .ref hMk, .ref hMy, .int mm, .ref hMl, .ref hMw, .long mu, .long mv, .ref hMi, .ref hMx, .int me])), (hMd, .inl (cI, 20, .inl md)), (hMk, .inl (cI, 40, .inl mk)), (hMy, .inl (cZ, 20, .inl out)), (hMl, .inl (cI, 80, .inl mq))] H → va_D A [(hMo, .inr (6, [.ref hMn, .ref hMr, .ref hMa, .ref hMp, .int mc, .ref hMt, .int ml, .int ms, .ref hMd, .ref hMk, .ref hMy, .int mm, .ref hMl, .ref hMw, .long mu, .long mv, .ref hMi, .ref hMx, .int me])), (hMd, .inl (cI, 20, .inl md)), (hMk, .inl (cI, 40, .inl mk)), (hMy, .inl (cZ, 20, .inl out)), (hMl, .inl (cI, 80, .inl mq))] → va_S A s.heap H locs → lv_has ls 6 [(0, .ref hMo), (1, .int y1)] → W p l e { frames := 1, cells := 0, slots := 0, locals := 21 } s m args below meth c H locs 0 0 Q (F0 m 166 ls [])) → W p l e { frames := 1, cells := 0, slots := 0, locals := 21 } s m args below meth c H locs 0 0 Q (F0 m 59 ls []) := by
  have hx := F.1
  have hb := F.2.1
  have hown := F.2.2.2.1
  have hts := F.2.2.2.2
  have hK := hG.1.1
  intro n
  induction n with
  | zero =>
    intro y2 my out ho
    exact (fp_l0 ho).elim
  | succ n ih =>
    intro y2 my out ho H locs ls hP hD hS hl hex
    obtain ⟨o, hf, ho⟩ := fp_l ho
    have hf : f_X6_findsMay_59 mm md mk mq y1 y2 my = some o := hf
    rw [f_X6_findsMay_59] at hf
    refine lv_iload_n hx hb dX6_findsMay_59 rfl (lv_at hl 2 rfl) ?_
    refine lv_aload_n hx hb dX6_findsMay_60 rfl (lv_at hl 0 rfl) ?_
    refine va_get (D := D) (ci := 6) (v := .int mm) (C := RX6) (T := TX6) (N := 19) hx hb hts ku_X6_findsMay_X6 hown hK hP 0 rfl rfl 11 (by decide) (hts _ kw_X6_findsMay_2) (fun _ h9 => h9) rfl dX6_findsMay_61 ?_
    refine lv_icmp_ge (tgt := 166) hx hb dX6_findsMay_64 (by decide) (fun c74 => ?_) (fun c74 => ?_)
    · have hf := fp_t hf c74
      obtain rfl := Option.some.inj hf
      have ho := fp_inr ho
      obtain rfl := Option.some.inj ho
      exact hex _ _ _ hP hD hS (lv_sub hl [0, 1] rfl)
    · have hf := fp_f hf c74
      refine lv_iconst (v := (0 : Int32)) hx hb dX6_findsMay_67 (by decide) ?_
      refine lv_istore_n (lv' := [(3, .int (0 : Int32)), (0, .ref hMo), (1, .int y1), (2, .int y2)]) hx hb dX6_findsMay_68 rfl hl (by decide) rfl (fun ls hl => ?_)
      obtain ⟨o87, eo87, hf⟩ := fp_b hf
      refine lp_X6_findsMay_69 F hG hA _ _ eo87 hP hD hS (lv_sub hl [1, 2, 3, 0] rfl) (fun H locs ls hP hD hS hl => ?_)
      refine lv_iinc (v := (y2 + (1 : Int32))) (lv' := [(2, .int (y2 + (1 : Int32))), (0, .ref hMo), (1, .int y1)]) hx hb dX6_findsMay_160 hl (k := 2) rfl rfl (by decide) rfl (fun ls hl => ?_)
      refine lv_goto (tgt := 59) hx hb dX6_findsMay_163 (by decide) ?_
      obtain rfl := Option.some.inj hf
      exact ih _ (fp_inl ho) hP hD hS (lv_sub hl [1, 2, 0] rfl) hex
def f_X6_findsMay (mm : Int32) (md : Nat → Int32) (mk : Nat → Int32) (my : Nat → Int32) (mq : Nat → Int32) (x1 : Int32) : Option ((Nat → Int32) × (Nat → Int32)) :=
  Option.bind (lpf (fun s => f_X6_findsMay_2 mm md mk my x1 s.1 s.2) 1000 ((0 : Int32), mq)) (fun o69 => Option.bind (lpf (fun s => f_X6_findsMay_24 mm md mk x1 s.1 s.2.1 s.2.2) 1000 ((0 : Int32), my, o69)) (fun o73 => Option.bind (lpf (fun s => f_X6_findsMay_59 mm md mk o73.2 x1 s.1 s.2) 1000 ((0 : Int32), o73.1)) (fun o88 => some (o88, o73.2))))
set_option maxHeartbeats 4000000 in
set_option maxRecDepth 100000 in
theorem b_X6_findsMay {p : Program} {l : Launch} {e : Env} {s : State} {m : MethodId} {args : Array Value} {below : List Frame} {meth : Method} {c : Code} {Q : State → Prop} {A : Nat → Prop} {H : Heap} {locs : List Loc} {D : va_G} {cI cJ cZ cQ : ClassId} {qs : Nat × Nat × Nat} {hMo hMn hMr hMa hMp hMt hMd hMk hMy hMl hMw hMi hMx : Nat} {mc : Int32} {ml : Int32} {ms : Int32} {mm : Int32} {mu : Int64} {mv : Int64} {me : Int32} {md : Nat → Int32} {mk : Nat → Int32} {my : Nat → Int32} {mq : Nat → Int32} {x1 : Int32} {out : (Nat → Int32) × (Nat → Int32)} (F : CallFix p m c cX6_findsMay 6 s args wsX6_findsMay RX6) (hG : kW D (ty4 cI cJ cZ cQ) qs A s s.heap) (hA : ∀ q : Nat, s.heap.size ≤ q → A q) (hP : va_P D vwCl [(hMo, .inr (6, [.ref hMn, .ref hMr, .ref hMa, .ref hMp, .int mc, .ref hMt, .int ml, .int ms, .ref hMd, .ref hMk, .ref hMy, .int mm, .ref hMl, .ref hMw, .long mu, .long mv, .ref hMi, .ref hMx, .int me])), (hMd, .inl (cI, 20, .inl md)), (hMk, .inl (cI, 40, .inl mk)), (hMy, .inl (cZ, 20, .inl my)), (hMl, .inl (cI, 80, .inl mq))] H) (hD : va_D A [(hMo, .inr (6, [.ref hMn, .ref hMr, .ref hMa, .ref hMp, .int mc, .ref hMt, .int ml, .int ms, .ref hMd, .ref hMk, .ref hMy, .int mm, .ref hMl, .ref hMw, .long mu, .long mv, .ref hMi, .ref hMx, .int me])), (hMd, .inl (cI, 20, .inl md)), (hMk, .inl (cI, 40, .inl mk)), (hMy, .inl (cZ, 20, .inl my)), (hMl, .inl (cI, 80, .inl mq))]) (hS : va_S A s.heap H locs) (hf : f_X6_findsMay mm md mk my mq x1 = some out) (hret : ∀ (pc : Nat) (H : Heap) (locs : List Loc) (ls : Array Slot), decode cX6_findsMay pc = .ok (.return_, 1) → va_P D vwCl [(hMo, .inr (6, [.ref hMn, .ref hMr, .ref hMa, .ref hMp, .int mc, .ref hMt, .int ml, .int ms, .ref hMd, .ref hMk, .ref hMy, .int mm, .ref hMl, .ref hMw, .long mu, .long mv, .ref hMi, .ref hMx, .int me])), (hMd, .inl (cI, 20, .inl md)), (hMk, .inl (cI, 40, .inl mk)), (hMy, .inl (cZ, 20, .inl out.1)), (hMl, .inl (cI, 80, .inl out.2))] H → va_D A [(hMo, .inr (6, [.ref hMn, .ref hMr, .ref hMa, .ref hMp, .int mc, .ref hMt, .int ml, .int ms, .ref hMd, .ref hMk, .ref hMy, .int mm, .ref hMl, .ref hMw, .long mu, .long mv, .ref hMi, .ref hMx, .int me])), (hMd, .inl (cI, 20, .inl md)), (hMk, .inl (cI, 40, .inl mk)), (hMy, .inl (cZ, 20, .inl out.1)), (hMl, .inl (cI, 80, .inl out.2))] → va_S A s.heap H locs → W p l e { frames := 1, cells := 0, slots := 0, locals := 21 } s m args below meth c H locs 0 0 Q (F0 m pc ls [])) {ls : Array Slot} (hl : lv_has ls 6 [(0, .ref hMo), (1, .int x1)]) : W p l e { frames := 1, cells := 0, slots := 0, locals := 21 } s m args below meth c H locs 0 0 Q (F0 m 0 ls []) := by
  have hx := F.1
  have hb := F.2.1
  have hown := F.2.2.2.1
  have hts := F.2.2.2.2
  have hK := hG.1.1
  rw [f_X6_findsMay] at hf
  refine lv_iconst (v := (0 : Int32)) hx hb dX6_findsMay_0 (by decide) ?_
  refine lv_istore_n (lv' := [(2, .int (0 : Int32)), (0, .ref hMo), (1, .int x1)]) hx hb dX6_findsMay_1 rfl hl (by decide) rfl (fun ls hl => ?_)
  obtain ⟨o69, eo69, hf⟩ := fp_b hf
  refine lp_X6_findsMay_2 F hG hA _ _ eo69 hP hD hS (lv_sub hl [1, 2, 0] rfl) (fun H locs ls hP hD hS hl => ?_)
  refine lv_iconst (v := (0 : Int32)) hx hb dX6_findsMay_22 (by decide) ?_
  refine lv_istore_n (lv' := [(2, .int (0 : Int32)), (0, .ref hMo), (1, .int x1)]) hx hb dX6_findsMay_23 rfl hl (by decide) rfl (fun ls hl => ?_)
  obtain ⟨o73, eo73, hf⟩ := fp_b hf
  refine lp_X6_findsMay_24 F hG hA _ _ eo73 hP hD hS (lv_sub hl [1, 2, 0] rfl) (fun H locs ls hP hD hS hl => ?_)
  refine lv_iconst (v := (0 : Int32)) hx hb dX6_findsMay_57 (by decide) ?_
  refine lv_istore_n (lv' := [(2, .int (0 : Int32)), (0, .ref hMo), (1, .int x1)]) hx hb dX6_findsMay_58 rfl hl (by decide) rfl (fun ls hl => ?_)
  obtain ⟨o88, eo88, hf⟩ := fp_b hf
  refine lp_X6_findsMay_59 F hG hA _ _ eo88 hP hD hS (lv_sub hl [1, 2, 0] rfl) (fun H locs ls hP hD hS hl => ?_)
  obtain rfl := Option.some.inj hf
  exact hret _ _ _ _ dX6_findsMay_166 hP hD hS
set_option maxRecDepth 100000 in
theorem c_X6_findsMay {l : Launch} {D : va_G} {cI cJ cZ cQ : ClassId} {qs : Nat × Nat × Nat} {hMo hMn hMr hMa hMp hMt hMd hMk hMy hMl hMw hMi hMx : Nat} {mc : Int32} {ml : Int32} {ms : Int32} {mm : Int32} {mu : Int64} {mv : Int64} {me : Int32} {md : Nat → Int32} {mk : Nat → Int32} {my : Nat → Int32} {mq : Nat → Int32} {x1 : Int32} {out : (Nat → Int32) × (Nat → Int32)} (hf : f_X6_findsMay mm md mk my mq x1 = some out) : RwV l yX6_findsMay wsX6_findsMay { frames := 1, cells := 0, slots := 0, locals := 21 } D (ty4 cI cJ cZ cQ) qs [.ref hMo, .int x1] [(hMo, .inr (6, [.ref hMn, .ref hMr, .ref hMa, .ref hMp, .int mc, .ref hMt, .int ml, .int ms, .ref hMd, .ref hMk, .ref hMy, .int mm, .ref hMl, .ref hMw, .long mu, .long mv, .ref hMi, .ref hMx, .int me])), (hMd, .inl (cI, 20, .inl md)), (hMk, .inl (cI, 40, .inl mk)), (hMy, .inl (cZ, 20, .inl my)), (hMl, .inl (cI, 80, .inl mq))] [(hMo, .inr (6, [.ref hMn, .ref hMr, .ref hMa, .ref hMp, .int mc, .ref hMt, .int ml, .int ms, .ref hMd, .ref hMk, .ref hMy, .int mm, .ref hMl, .ref hMw, .long mu, .long mv, .ref hMi, .ref hMx, .int me])), (hMd, .inl (cI, 20, .inl md)), (hMk, .inl (cI, 40, .inl mk)), (hMy, .inl (cZ, 20, .inl out.1)), (hMl, .inl (cI, 80, .inl out.2))] :=
  RwV.of (own := RX6) (by decide +kernel) rfl rfl (Nat.le_of_ble_eq_true rfl) (fun F hG hA hP hD hS hret ls hl => b_X6_findsMay F hG hA hP hD hS hf hret hl)
-- method X6_laysRows
theorem yd_X6_laysRows : yX6_laysRows.cls = RX6 ∧ yX6_laysRows.cls ≠ "java/lang/invoke/MethodHandle" ∧ yX6_laysRows.cls ≠ "java/lang/invoke/VarHandle" ∧ (parseMethodDescriptor yX6_laysRows.desc).map (fun d => d.parameters.length) = some 1 := by decide +kernel
theorem ku_X6_laysRows_X6 : ∀ w ∈ u_ws RX6 TX6 19, w ∈ wsX6_laysRows := by decide +kernel
theorem kw_X6_laysRows_1 : Cond.fieldLink RX6 134 "MirrorSharesModel" "nodeMany" "I" ∈ wsX6_laysRows := List.mem_of_getElem? (i := 1) rfl
theorem kw_X6_laysRows_2 : Cond.fieldLink RX6 35 "MirrorSharesModel" "place" "[I" ∈ wsX6_laysRows := List.mem_of_getElem? (i := 2) rfl
theorem kw_X6_laysRows_3 : Cond.fieldLink RX6 25 "MirrorSharesModel" "nodes" "[I" ∈ wsX6_laysRows := List.mem_of_getElem? (i := 3) rfl
theorem kw_X6_laysRows_4 : Cond.fieldLink RX6 31 "MirrorSharesModel" "may" "[Z" ∈ wsX6_laysRows := List.mem_of_getElem? (i := 4) rfl
theorem kw_X6_laysRows_5 : Cond.fieldLink RX6 38 "MirrorSharesModel" "rows" "[J" ∈ wsX6_laysRows := List.mem_of_getElem? (i := 5) rfl
theorem kw_X6_laysRows_6 : Cond.constantLong RX6 144 (2) ∈ wsX6_laysRows := List.mem_of_getElem? (i := 6) rfl
theorem kw_X6_laysRows_7 : Cond.fieldLink RX6 28 "MirrorSharesModel" "comes" "[I" ∈ wsX6_laysRows := List.mem_of_getElem? (i := 7) rfl
def f_X6_laysRows_9 (mm : Int32) (md : Nat → Int32) (mk : Nat → Int32) (my : Nat → Int32) (mw : Nat → Int64) (y1 : Int32) (y2 : Int32) (y3 : Int32) (mq : Nat → Int32) : Option ((Int32 × Int32 × (Nat → Int32)) ⊕ (Int32 × (Nat → Int32))) :=
  (if y3 < 0 then some (Sum.inr (y2, mq)) else chk (aix y3 20) (Option.bind (if (my y3.toNatClampNeg) = 0 then some (-4 : Int32) else some y2) (fun j91 => chk (aix (md y3.toNatClampNeg) 80) ((if (my y3.toNatClampNeg) = 0 then some (Sum.inl ((y2 + (0 : Int32)), (y3 + (-1 : Int32)), (upd mq (Int32.toNatClampNeg (md y3.toNatClampNeg)) j91))) else some (Sum.inl ((y2 + (1 : Int32)), (y3 + (-1 : Int32)), (upd mq (Int32.toNatClampNeg (md y3.toNatClampNeg)) j91))))))))
set_option maxHeartbeats 4000000 in
set_option maxRecDepth 100000 in
theorem lp_X6_laysRows_9 {p : Program} {l : Launch} {e : Env} {s : State} {m : MethodId} {args : Array Value} {below : List Frame} {meth : Method} {c : Code} {Q : State → Prop} {A : Nat → Prop} {D : va_G} {cI cJ cZ cQ : ClassId} {qs : Nat × Nat × Nat} {hMo hMn hMr hMa hMp hMt hMd hMk hMy hMl hMw hMi hMx : Nat} {mm : Int32} {md : Nat → Int32} {mk : Nat → Int32} {my : Nat → Int32} {mw : Nat → Int64} {y1 : Int32} {mc : Int32} {ml : Int32} {ms : Int32} {mu : Int64} {mv : Int64} {me : Int32} (F : CallFix p m c cX6_laysRows 7 s args wsX6_laysRows RX6) (hG : kW D (ty4 cI cJ cZ cQ) qs A s s.heap) (hA : ∀ q : Nat, s.heap.size ≤ q → A q) :
    ∀ (n : Nat) {y2 : Int32} {y3 : Int32} {mq : Nat → Int32} (out : Int32 × (Nat → Int32)), lpf (fun s => f_X6_laysRows_9 mm md mk my mw y1 s.1 s.2.1 s.2.2) n (y2, y3, mq) = some out → ∀ {H : Heap} {locs : List Loc} {ls : Array Slot}, va_P D vwCl [(hMo, .inr (6, [.ref hMn, .ref hMr, .ref hMa, .ref hMp, .int mc, .ref hMt, .int ml, .int ms, .ref hMd, .ref hMk, .ref hMy, .int mm, .ref hMl, .ref hMw, .long mu, .long mv, .ref hMi, .ref hMx, .int me])), (hMd, .inl (cI, 20, .inl md)), (hMk, .inl (cI, 40, .inl mk)), (hMy, .inl (cZ, 20, .inl my)), (hMl, .inl (cI, 80, .inl mq)), (hMw, .inl (cJ, 420, .inr (.inl mw)))] H → va_D A [(hMo, .inr (6, [.ref hMn, .ref hMr, .ref hMa, .ref hMp, .int mc, .ref hMt, .int ml, .int ms, .ref hMd, .ref hMk, .ref hMy, .int mm, .ref hMl, .ref hMw, .long mu, .long mv, .ref hMi, .ref hMx, .int me])), (hMd, .inl (cI, 20, .inl md)), (hMk, .inl (cI, 40, .inl mk)), (hMy, .inl (cZ, 20, .inl my)), (hMl, .inl (cI, 80, .inl mq)), (hMw, .inl (cJ, 420, .inr (.inl mw)))] → va_S A s.heap H locs → lv_has ls 7 [(0, .ref hMo), (1, .int y1), (2, .int y2), (3, .int y3)] → (∀ (H : Heap) (locs : List Loc) (ls : Array Slot), va_P D vwCl [(hMo, .inr (6, [.ref hMn, .ref hMr, .ref hMa, .ref hMp, .int mc, .ref hMt, .int ml, .int ms, .ref hMd, .ref hMk, .ref hMy, .int mm, .ref hMl, .ref hMw, .long mu, .long mv, .ref hMi, .ref hMx, .int me])), (hMd, .inl (cI, 20, .inl md)), (hMk, .inl (cI, 40, .inl mk)), (hMy, .inl (cZ, 20, .inl my)), (hMl, .inl (cI, 80, .inl out.2)), (hMw, .inl (cJ, 420, .inr (.inl mw)))] H → va_D A [(hMo, .inr (6, [.ref hMn, .ref hMr, .ref hMa, .ref hMp, .int mc, .ref hMt, .int ml, .int ms, .ref hMd, .ref hMk, .ref hMy, .int mm, .ref hMl, .ref hMw, .long mu, .long mv, .ref hMi, .ref hMx, .int me])), (hMd, .inl (cI, 20, .inl md)), (hMk, .inl (cI, 40, .inl mk)), (hMy, .inl (cZ, 20, .inl my)), (hMl, .inl (cI, 80, .inl out.2)), (hMw, .inl (cJ, 420, .inr (.inl mw)))] → va_S A s.heap H locs → lv_has ls 7 [(0, .ref hMo), (1, .int y1), (2, .int out.1)] → W p l e { frames := 1, cells := 0, slots := 0, locals := 21 } s m args below meth c H locs 0 0 Q (F0 m 62 ls [])) → W p l e { frames := 1, cells := 0, slots := 0, locals := 21 } s m args below meth c H locs 0 0 Q (F0 m 9 ls []) := by
  have hx := F.1
  have hb := F.2.1
  have hown := F.2.2.2.1
  have hts := F.2.2.2.2
  have hK := hG.1.1
  intro n
  induction n with
  | zero =>
    intro y2 y3 mq out ho
    exact (fp_l0 ho).elim
  | succ n ih =>
    intro y2 y3 mq out ho H locs ls hP hD hS hl hex
    obtain ⟨o, hf, ho⟩ := fp_l ho
    have hf : f_X6_laysRows_9 mm md mk my mw y1 y2 y3 mq = some o := hf
    rw [f_X6_laysRows_9] at hf
    refine lv_iload_n hx hb dX6_laysRows_9 rfl (lv_at hl 3 rfl) ?_
    refine lv_if_lt (tgt := 62) hx hb dX6_laysRows_10 (by decide) (fun c89 => ?_) (fun c89 => ?_)
    · have hf := fp_t hf c89
      obtain rfl := Option.some.inj hf
      have ho := fp_inr ho
      obtain rfl := Option.some.inj ho
      exact hex _ _ _ hP hD hS (lv_sub hl [0, 1, 2] rfl)
    · have hf := fp_f hf c89
      refine lv_aload_n hx hb dX6_laysRows_13 rfl (lv_at hl 0 rfl) ?_
      refine va_get (D := D) (ci := 6) (v := .ref hMl) (C := RX6) (T := TX6) (N := 19) hx hb hts ku_X6_laysRows_X6 hown hK hP 0 rfl rfl 12 (by decide) (hts _ kw_X6_laysRows_2) (fun _ h9 => h9) rfl dX6_laysRows_14 ?_
      refine lv_aload_n hx hb dX6_laysRows_17 rfl (lv_at hl 0 rfl) ?_
      refine va_get (D := D) (ci := 6) (v := .ref hMd) (C := RX6) (T := TX6) (N := 19) hx hb hts ku_X6_laysRows_X6 hown hK hP 0 rfl rfl 8 (by decide) (hts _ kw_X6_laysRows_3) (fun _ h9 => h9) rfl dX6_laysRows_18 ?_
      refine lv_iload_n hx hb dX6_laysRows_21 rfl (lv_at hl 3 rfl) ?_
      obtain ⟨k90, hf⟩ := fp_c hf
      refine va_iald hx hb hK hP 1 0 rfl rfl k90 dX6_laysRows_22 ?_
      refine lv_aload_n hx hb dX6_laysRows_23 rfl (lv_at hl 0 rfl) ?_
      refine va_get (D := D) (ci := 6) (v := .ref hMy) (C := RX6) (T := TX6) (N := 19) hx hb hts ku_X6_laysRows_X6 hown hK hP 0 rfl rfl 10 (by decide) (hts _ kw_X6_laysRows_4) (fun _ h9 => h9) rfl dX6_laysRows_24 ?_
      refine lv_iload_n hx hb dX6_laysRows_27 rfl (lv_at hl 3 rfl) ?_
      refine va_zald hx hb hK hP 3 2 rfl rfl k90 dX6_laysRows_28 ?_
      obtain ⟨j91, ej91, hf⟩ := fp_b hf
      have hj92 : ∀ (H : Heap) (locs : List Loc) (ls : Array Slot), va_P D vwCl [(hMo, .inr (6, [.ref hMn, .ref hMr, .ref hMa, .ref hMp, .int mc, .ref hMt, .int ml, .int ms, .ref hMd, .ref hMk, .ref hMy, .int mm, .ref hMl, .ref hMw, .long mu, .long mv, .ref hMi, .ref hMx, .int me])), (hMd, .inl (cI, 20, .inl md)), (hMk, .inl (cI, 40, .inl mk)), (hMy, .inl (cZ, 20, .inl my)), (hMl, .inl (cI, 80, .inl mq)), (hMw, .inl (cJ, 420, .inr (.inl mw)))] H → va_D A [(hMo, .inr (6, [.ref hMn, .ref hMr, .ref hMa, .ref hMp, .int mc, .ref hMt, .int ml, .int ms, .ref hMd, .ref hMk, .ref hMy, .int mm, .ref hMl, .ref hMw, .long mu, .long mv, .ref hMi, .ref hMx, .int me])), (hMd, .inl (cI, 20, .inl md)), (hMk, .inl (cI, 40, .inl mk)), (hMy, .inl (cZ, 20, .inl my)), (hMl, .inl (cI, 80, .inl mq)), (hMw, .inl (cJ, 420, .inr (.inl mw)))] → va_S A s.heap H locs → lv_has ls 7 [(0, .ref hMo), (1, .int y1), (2, .int y2), (3, .int y3)] → W p l e { frames := 1, cells := 0, slots := 0, locals := 21 } s m args below meth c H locs 0 0 Q (F0 m 38 ls [.int j91, .int (md y3.toNatClampNeg), .ref hMl]) := by
        intro H locs ls hP hD hS hl
        obtain ⟨k93, hf⟩ := fp_c hf
        refine va_iast hx hb hK hP hD hS 4 0 rfl rfl k93 dX6_laysRows_38 (fun H locs hP hD hS => ?_)
        have hP : va_P D vwCl [(hMo, .inr (6, [.ref hMn, .ref hMr, .ref hMa, .ref hMp, .int mc, .ref hMt, .int ml, .int ms, .ref hMd, .ref hMk, .ref hMy, .int mm, .ref hMl, .ref hMw, .long mu, .long mv, .ref hMi, .ref hMx, .int me])), (hMd, .inl (cI, 20, .inl md)), (hMk, .inl (cI, 40, .inl mk)), (hMy, .inl (cZ, 20, .inl my)), (hMl, .inl (cI, 80, .inl (upd mq (Int32.toNatClampNeg (md y3.toNatClampNeg)) j91))), (hMw, .inl (cJ, 420, .inr (.inl mw)))] H := hP
        have hD : va_D A [(hMo, .inr (6, [.ref hMn, .ref hMr, .ref hMa, .ref hMp, .int mc, .ref hMt, .int ml, .int ms, .ref hMd, .ref hMk, .ref hMy, .int mm, .ref hMl, .ref hMw, .long mu, .long mv, .ref hMi, .ref hMx, .int me])), (hMd, .inl (cI, 20, .inl md)), (hMk, .inl (cI, 40, .inl mk)), (hMy, .inl (cZ, 20, .inl my)), (hMl, .inl (cI, 80, .inl (upd mq (Int32.toNatClampNeg (md y3.toNatClampNeg)) j91))), (hMw, .inl (cJ, 420, .inr (.inl mw)))] := hD
        refine lv_iload_n hx hb dX6_laysRows_39 rfl (lv_at hl 2 rfl) ?_
        refine lv_aload_n hx hb dX6_laysRows_40 rfl (lv_at hl 0 rfl) ?_
        refine va_get (D := D) (ci := 6) (v := .ref hMy) (C := RX6) (T := TX6) (N := 19) hx hb hts ku_X6_laysRows_X6 hown hK hP 0 rfl rfl 10 (by decide) (hts _ kw_X6_laysRows_4) (fun _ h9 => h9) rfl dX6_laysRows_41 ?_
        refine lv_iload_n hx hb dX6_laysRows_44 rfl (lv_at hl 3 rfl) ?_
        refine va_zald hx hb hK hP 3 2 rfl rfl k90 dX6_laysRows_45 ?_
        refine lv_if_eq (tgt := 53) hx hb dX6_laysRows_46 (by decide) (fun c94 => ?_) (fun c94 => ?_)
        · have hf := fp_t hf c94
          refine lv_iconst (v := (0 : Int32)) hx hb dX6_laysRows_53 (by decide) ?_
          refine lv_iadd hx hb dX6_laysRows_54 ?_
          refine lv_istore_n (lv' := [(2, .int (y2 + (0 : Int32))), (0, .ref hMo), (1, .int y1), (3, .int y3)]) hx hb dX6_laysRows_55 rfl hl (by decide) rfl (fun ls hl => ?_)
          refine lv_iinc (v := (y3 + (-1 : Int32))) (lv' := [(3, .int (y3 + (-1 : Int32))), (2, .int (y2 + (0 : Int32))), (0, .ref hMo), (1, .int y1)]) hx hb dX6_laysRows_56 hl (k := 3) rfl rfl (by decide) rfl (fun ls hl => ?_)
          refine lv_goto (tgt := 9) hx hb dX6_laysRows_59 (by decide) ?_
          obtain rfl := Option.some.inj hf
          exact ih _ (fp_inl ho) hP hD hS (lv_sub hl [2, 3, 1, 0] rfl) hex
        · have hf := fp_f hf c94
          refine lv_iconst (v := (1 : Int32)) hx hb dX6_laysRows_49 (by decide) ?_
          refine lv_goto (tgt := 54) hx hb dX6_laysRows_50 (by decide) ?_
          refine lv_iadd hx hb dX6_laysRows_54 ?_
          refine lv_istore_n (lv' := [(2, .int (y2 + (1 : Int32))), (0, .ref hMo), (1, .int y1), (3, .int y3)]) hx hb dX6_laysRows_55 rfl hl (by decide) rfl (fun ls hl => ?_)
          refine lv_iinc (v := (y3 + (-1 : Int32))) (lv' := [(3, .int (y3 + (-1 : Int32))), (2, .int (y2 + (1 : Int32))), (0, .ref hMo), (1, .int y1)]) hx hb dX6_laysRows_56 hl (k := 3) rfl rfl (by decide) rfl (fun ls hl => ?_)
          refine lv_goto (tgt := 9) hx hb dX6_laysRows_59 (by decide) ?_
          obtain rfl := Option.some.inj hf
          exact ih _ (fp_inl ho) hP hD hS (lv_sub hl [2, 3, 1, 0] rfl) hex
      replace hf := ej91
      refine lv_if_eq (tgt := 36) hx hb dX6_laysRows_29 (by decide) (fun c95 => ?_) (fun c95 => ?_)
      · have hf := fp_t hf c95
        refine lv_bipush (v := (-4 : Int32)) hx hb dX6_laysRows_36 (by decide) ?_
        obtain rfl := Option.some.inj hf
        exact hj92 _ _ _ hP hD hS (lv_sub hl [0, 1, 2, 3] rfl)
      · have hf := fp_f hf c95
        refine lv_iload_n hx hb dX6_laysRows_32 rfl (lv_at hl 2 rfl) ?_
        refine lv_goto (tgt := 38) hx hb dX6_laysRows_33 (by decide) ?_
        obtain rfl := Option.some.inj hf
        exact hj92 _ _ _ hP hD hS (lv_sub hl [0, 1, 2, 3] rfl)
def f_X6_laysRows_64 (mm : Int32) (md : Nat → Int32) (mk : Nat → Int32) (my : Nat → Int32) (mq : Nat → Int32) (y1 : Int32) (y2 : Int32) (y3 : Int32) (mw : Nat → Int64) : Option ((Int32 × (Nat → Int64)) ⊕ ((Nat → Int64))) :=
  (if (420 : Int32) ≤ y3 then some (Sum.inr mw) else chk (aix y3 420) (some (Sum.inl ((y3 + (1 : Int32)), (vp_updL mw y3.toNatClampNeg (0 : Int64))))))
set_option maxHeartbeats 4000000 in
set_option maxRecDepth 100000 in
theorem lp_X6_laysRows_64 {p : Program} {l : Launch} {e : Env} {s : State} {m : MethodId} {args : Array Value} {below : List Frame} {meth : Method} {c : Code} {Q : State → Prop} {A : Nat → Prop} {D : va_G} {cI cJ cZ cQ : ClassId} {qs : Nat × Nat × Nat} {hMo hMn hMr hMa hMp hMt hMd hMk hMy hMl hMw hMi hMx : Nat} {mm : Int32} {md : Nat → Int32} {mk : Nat → Int32} {my : Nat → Int32} {mq : Nat → Int32} {y1 : Int32} {y2 : Int32} {mc : Int32} {ml : Int32} {ms : Int32} {mu : Int64} {mv : Int64} {me : Int32} (F : CallFix p m c cX6_laysRows 7 s args wsX6_laysRows RX6) (hG : kW D (ty4 cI cJ cZ cQ) qs A s s.heap) (hA : ∀ q : Nat, s.heap.size ≤ q → A q) :
    ∀ (n : Nat) {y3 : Int32} {mw : Nat → Int64} (out : (Nat → Int64)), lpf (fun s => f_X6_laysRows_64 mm md mk my mq y1 y2 s.1 s.2) n (y3, mw) = some out → ∀ {H : Heap} {locs : List Loc} {ls : Array Slot}, va_P D vwCl [(hMo, .inr (6, [.ref hMn, .ref hMr, .ref hMa, .ref hMp, .int mc, .ref hMt, .int ml, .int ms, .ref hMd, .ref hMk, .ref hMy, .int mm, .ref hMl, .ref hMw, .long mu, .long mv, .ref hMi, .ref hMx, .int me])), (hMd, .inl (cI, 20, .inl md)), (hMk, .inl (cI, 40, .inl mk)), (hMy, .inl (cZ, 20, .inl my)), (hMl, .inl (cI, 80, .inl mq)), (hMw, .inl (cJ, 420, .inr (.inl mw)))] H → va_D A [(hMo, .inr (6, [.ref hMn, .ref hMr, .ref hMa, .ref hMp, .int mc, .ref hMt, .int ml, .int ms, .ref hMd, .ref hMk, .ref hMy, .int mm, .ref hMl, .ref hMw, .long mu, .long mv, .ref hMi, .ref hMx, .int me])), (hMd, .inl (cI, 20, .inl md)), (hMk, .inl (cI, 40, .inl mk)), (hMy, .inl (cZ, 20, .inl my)), (hMl, .inl (cI, 80, .inl mq)), (hMw, .inl (cJ, 420, .inr (.inl mw)))] → va_S A s.heap H locs → lv_has ls 7 [(0, .ref hMo), (1, .int y1), (2, .int y2), (3, .int y3)] → (∀ (H : Heap) (locs : List Loc) (ls : Array Slot), va_P D vwCl [(hMo, .inr (6, [.ref hMn, .ref hMr, .ref hMa, .ref hMp, .int mc, .ref hMt, .int ml, .int ms, .ref hMd, .ref hMk, .ref hMy, .int mm, .ref hMl, .ref hMw, .long mu, .long mv, .ref hMi, .ref hMx, .int me])), (hMd, .inl (cI, 20, .inl md)), (hMk, .inl (cI, 40, .inl mk)), (hMy, .inl (cZ, 20, .inl my)), (hMl, .inl (cI, 80, .inl mq)), (hMw, .inl (cJ, 420, .inr (.inl out)))] H → va_D A [(hMo, .inr (6, [.ref hMn, .ref hMr, .ref hMa, .ref hMp, .int mc, .ref hMt, .int ml, .int ms, .ref hMd, .ref hMk, .ref hMy, .int mm, .ref hMl, .ref hMw, .long mu, .long mv, .ref hMi, .ref hMx, .int me])), (hMd, .inl (cI, 20, .inl md)), (hMk, .inl (cI, 40, .inl mk)), (hMy, .inl (cZ, 20, .inl my)), (hMl, .inl (cI, 80, .inl mq)), (hMw, .inl (cJ, 420, .inr (.inl out)))] → va_S A s.heap H locs → lv_has ls 7 [(0, .ref hMo), (1, .int y1), (2, .int y2)] → W p l e { frames := 1, cells := 0, slots := 0, locals := 21 } s m args below meth c H locs 0 0 Q (F0 m 84 ls [])) → W p l e { frames := 1, cells := 0, slots := 0, locals := 21 } s m args below meth c H locs 0 0 Q (F0 m 64 ls []) := by
  have hx := F.1
  have hb := F.2.1
  have hown := F.2.2.2.1
  have hts := F.2.2.2.2
  have hK := hG.1.1
  intro n
  induction n with
  | zero =>
    intro y3 mw out ho
    exact (fp_l0 ho).elim
  | succ n ih =>
    intro y3 mw out ho H locs ls hP hD hS hl hex
    obtain ⟨o, hf, ho⟩ := fp_l ho
    have hf : f_X6_laysRows_64 mm md mk my mq y1 y2 y3 mw = some o := hf
    rw [f_X6_laysRows_64] at hf
    refine lv_iload_n hx hb dX6_laysRows_64 rfl (lv_at hl 3 rfl) ?_
    refine lv_sipush (v := (420 : Int32)) hx hb dX6_laysRows_65 (by decide) ?_
    refine lv_icmp_ge (tgt := 84) hx hb dX6_laysRows_68 (by decide) (fun c97 => ?_) (fun c97 => ?_)
    · have hf := fp_t hf c97
      obtain rfl := Option.some.inj hf
      have ho := fp_inr ho
      obtain rfl := Option.some.inj ho
      exact hex _ _ _ hP hD hS (lv_sub hl [0, 1, 2] rfl)
    · have hf := fp_f hf c97
      refine lv_aload_n hx hb dX6_laysRows_71 rfl (lv_at hl 0 rfl) ?_
      refine va_get (D := D) (ci := 6) (v := .ref hMw) (C := RX6) (T := TX6) (N := 19) hx hb hts ku_X6_laysRows_X6 hown hK hP 0 rfl rfl 13 (by decide) (hts _ kw_X6_laysRows_5) (fun _ h9 => h9) rfl dX6_laysRows_72 ?_
      refine lv_iload_n hx hb dX6_laysRows_75 rfl (lv_at hl 3 rfl) ?_
      refine lv_lconst (v := 0) hx hb dX6_laysRows_76 (by decide) ?_
      obtain ⟨k98, hf⟩ := fp_c hf
      refine va_last hx hb hK hP hD hS 5 1 rfl rfl k98 dX6_laysRows_77 (fun H locs hP hD hS => ?_)
      have hP : va_P D vwCl [(hMo, .inr (6, [.ref hMn, .ref hMr, .ref hMa, .ref hMp, .int mc, .ref hMt, .int ml, .int ms, .ref hMd, .ref hMk, .ref hMy, .int mm, .ref hMl, .ref hMw, .long mu, .long mv, .ref hMi, .ref hMx, .int me])), (hMd, .inl (cI, 20, .inl md)), (hMk, .inl (cI, 40, .inl mk)), (hMy, .inl (cZ, 20, .inl my)), (hMl, .inl (cI, 80, .inl mq)), (hMw, .inl (cJ, 420, .inr (.inl (vp_updL mw y3.toNatClampNeg (0 : Int64)))))] H := hP
      have hD : va_D A [(hMo, .inr (6, [.ref hMn, .ref hMr, .ref hMa, .ref hMp, .int mc, .ref hMt, .int ml, .int ms, .ref hMd, .ref hMk, .ref hMy, .int mm, .ref hMl, .ref hMw, .long mu, .long mv, .ref hMi, .ref hMx, .int me])), (hMd, .inl (cI, 20, .inl md)), (hMk, .inl (cI, 40, .inl mk)), (hMy, .inl (cZ, 20, .inl my)), (hMl, .inl (cI, 80, .inl mq)), (hMw, .inl (cJ, 420, .inr (.inl (vp_updL mw y3.toNatClampNeg (0 : Int64)))))] := hD
      refine lv_iinc (v := (y3 + (1 : Int32))) (lv' := [(3, .int (y3 + (1 : Int32))), (0, .ref hMo), (1, .int y1), (2, .int y2)]) hx hb dX6_laysRows_78 hl (k := 3) rfl rfl (by decide) rfl (fun ls hl => ?_)
      refine lv_goto (tgt := 64) hx hb dX6_laysRows_81 (by decide) ?_
      obtain rfl := Option.some.inj hf
      exact ih _ (fp_inl ho) hP hD hS (lv_sub hl [1, 2, 3, 0] rfl) hex
def f_X6_laysRows_147 (mm : Int32) (md : Nat → Int32) (mk : Nat → Int32) (my : Nat → Int32) (mq : Nat → Int32) (y1 : Int32) (y2 : Int32) (y3 : Int32) (y4 : Int32) (y5 : Int32) (mw : Nat → Int64) : Option ((Int32 × (Nat → Int64)) ⊕ ((Nat → Int64))) :=
  (if (2 : Int32) ≤ y5 then some (Sum.inr mw) else chk (aix (((2 : Int32) * y3) + y5) 40) (Option.bind (f_X6_isAsked (mk (Int32.toNatClampNeg (((2 : Int32) * y3) + y5))) y1) (fun r107 => (if r107 = 0 then (if (mk (Int32.toNatClampNeg (((2 : Int32) * y3) + y5))) < 0 then some (Sum.inl ((y5 + (1 : Int32)), mw)) else chk (aix (mk (Int32.toNatClampNeg (((2 : Int32) * y3) + y5))) 80) ((if (mq (Int32.toNatClampNeg (mk (Int32.toNatClampNeg (((2 : Int32) * y3) + y5))))) = (-4 : Int32) then some (Sum.inl ((y5 + (1 : Int32)), mw)) else chk (aix (y4 + (mq (Int32.toNatClampNeg (mk (Int32.toNatClampNeg (((2 : Int32) * y3) + y5)))))) 420) (some (Sum.inl ((y5 + (1 : Int32)), (vp_updL mw (Int32.toNatClampNeg (y4 + (mq (Int32.toNatClampNeg (mk (Int32.toNatClampNeg (((2 : Int32) * y3) + y5))))))) ((mw (Int32.toNatClampNeg (y4 + (mq (Int32.toNatClampNeg (mk (Int32.toNatClampNeg (((2 : Int32) * y3) + y5)))))))) - (1 : Int64))))))))) else chk (aix (y4 + y2) 420) (some (Sum.inl ((y5 + (1 : Int32)), (vp_updL mw (Int32.toNatClampNeg (y4 + y2)) ((mw (Int32.toNatClampNeg (y4 + y2))) + (1 : Int64))))))))))
set_option maxHeartbeats 4000000 in
set_option maxRecDepth 100000 in
theorem lp_X6_laysRows_147 {p : Program} {l : Launch} {e : Env} {s : State} {m : MethodId} {args : Array Value} {below : List Frame} {meth : Method} {c : Code} {Q : State → Prop} {A : Nat → Prop} {D : va_G} {cI cJ cZ cQ : ClassId} {qs : Nat × Nat × Nat} {hMo hMn hMr hMa hMp hMt hMd hMk hMy hMl hMw hMi hMx : Nat} {mm : Int32} {md : Nat → Int32} {mk : Nat → Int32} {my : Nat → Int32} {mq : Nat → Int32} {y1 : Int32} {y2 : Int32} {y3 : Int32} {y4 : Int32} {mc : Int32} {ml : Int32} {ms : Int32} {mu : Int64} {mv : Int64} {me : Int32} (F : CallFix p m c cX6_laysRows 7 s args wsX6_laysRows RX6) (hG : kW D (ty4 cI cJ cZ cQ) qs A s s.heap) (hA : ∀ q : Nat, s.heap.size ≤ q → A q) :
    ∀ (n : Nat) {y5 : Int32} {mw : Nat → Int64} (out : (Nat → Int64)), lpf (fun s => f_X6_laysRows_147 mm md mk my mq y1 y2 y3 y4 s.1 s.2) n (y5, mw) = some out → ∀ {H : Heap} {locs : List Loc} {ls : Array Slot}, va_P D vwCl [(hMo, .inr (6, [.ref hMn, .ref hMr, .ref hMa, .ref hMp, .int mc, .ref hMt, .int ml, .int ms, .ref hMd, .ref hMk, .ref hMy, .int mm, .ref hMl, .ref hMw, .long mu, .long mv, .ref hMi, .ref hMx, .int me])), (hMd, .inl (cI, 20, .inl md)), (hMk, .inl (cI, 40, .inl mk)), (hMy, .inl (cZ, 20, .inl my)), (hMl, .inl (cI, 80, .inl mq)), (hMw, .inl (cJ, 420, .inr (.inl mw)))] H → va_D A [(hMo, .inr (6, [.ref hMn, .ref hMr, .ref hMa, .ref hMp, .int mc, .ref hMt, .int ml, .int ms, .ref hMd, .ref hMk, .ref hMy, .int mm, .ref hMl, .ref hMw, .long mu, .long mv, .ref hMi, .ref hMx, .int me])), (hMd, .inl (cI, 20, .inl md)), (hMk, .inl (cI, 40, .inl mk)), (hMy, .inl (cZ, 20, .inl my)), (hMl, .inl (cI, 80, .inl mq)), (hMw, .inl (cJ, 420, .inr (.inl mw)))] → va_S A s.heap H locs → lv_has ls 7 [(0, .ref hMo), (1, .int y1), (2, .int y2), (3, .int y3), (4, .int y4), (5, .int y5)] → (∀ (H : Heap) (locs : List Loc) (ls : Array Slot), va_P D vwCl [(hMo, .inr (6, [.ref hMn, .ref hMr, .ref hMa, .ref hMp, .int mc, .ref hMt, .int ml, .int ms, .ref hMd, .ref hMk, .ref hMy, .int mm, .ref hMl, .ref hMw, .long mu, .long mv, .ref hMi, .ref hMx, .int me])), (hMd, .inl (cI, 20, .inl md)), (hMk, .inl (cI, 40, .inl mk)), (hMy, .inl (cZ, 20, .inl my)), (hMl, .inl (cI, 80, .inl mq)), (hMw, .inl (cJ, 420, .inr (.inl out)))] H → va_D A [(hMo, .inr (6, [.ref hMn, .ref hMr, .ref hMa, .ref hMp, .int mc, .ref hMt, .int ml, .int ms, .ref hMd, .ref hMk, .ref hMy, .int mm, .ref hMl, .ref hMw, .long mu, .long mv, .ref hMi, .ref hMx, .int me])), (hMd, .inl (cI, 20, .inl md)), (hMk, .inl (cI, 40, .inl mk)), (hMy, .inl (cZ, 20, .inl my)), (hMl, .inl (cI, 80, .inl mq)), (hMw, .inl (cJ, 420, .inr (.inl out)))] → va_S A s.heap H locs → lv_has ls 7 [(0, .ref hMo), (1, .int y1), (2, .int y2), (3, .int y3), (4, .int y4)] → W p l e { frames := 1, cells := 0, slots := 0, locals := 21 } s m args below meth c H locs 0 0 Q (F0 m 233 ls [])) → W p l e { frames := 1, cells := 0, slots := 0, locals := 21 } s m args below meth c H locs 0 0 Q (F0 m 147 ls []) := by
  have hx := F.1
  have hb := F.2.1
  have hown := F.2.2.2.1
  have hts := F.2.2.2.2
  have hK := hG.1.1
  intro n
  induction n with
  | zero =>
    intro y5 mw out ho
    exact (fp_l0 ho).elim
  | succ n ih =>
    intro y5 mw out ho H locs ls hP hD hS hl hex
    obtain ⟨o, hf, ho⟩ := fp_l ho
    have hf : f_X6_laysRows_147 mm md mk my mq y1 y2 y3 y4 y5 mw = some o := hf
    rw [f_X6_laysRows_147] at hf
    refine lv_iload hx hb dX6_laysRows_147 (lv_at hl 5 rfl) ?_
    refine lv_iconst (v := (2 : Int32)) hx hb dX6_laysRows_149 (by decide) ?_
    refine lv_icmp_ge (tgt := 233) hx hb dX6_laysRows_150 (by decide) (fun c105 => ?_) (fun c105 => ?_)
    · have hf := fp_t hf c105
      obtain rfl := Option.some.inj hf
      have ho := fp_inr ho
      obtain rfl := Option.some.inj ho
      exact hex _ _ _ hP hD hS (lv_sub hl [0, 1, 2, 3, 4] rfl)
    · have hf := fp_f hf c105
      refine lv_aload_n hx hb dX6_laysRows_153 rfl (lv_at hl 0 rfl) ?_
      refine va_get (D := D) (ci := 6) (v := .ref hMk) (C := RX6) (T := TX6) (N := 19) hx hb hts ku_X6_laysRows_X6 hown hK hP 0 rfl rfl 9 (by decide) (hts _ kw_X6_laysRows_7) (fun _ h9 => h9) rfl dX6_laysRows_154 ?_
      refine lv_iconst (v := (2 : Int32)) hx hb dX6_laysRows_157 (by decide) ?_
      refine lv_iload_n hx hb dX6_laysRows_158 rfl (lv_at hl 3 rfl) ?_
      refine lv_imul hx hb dX6_laysRows_159 ?_
      refine lv_iload hx hb dX6_laysRows_160 (lv_at hl 5 rfl) ?_
      refine lv_iadd hx hb dX6_laysRows_162 ?_
      obtain ⟨k106, hf⟩ := fp_c hf
      refine va_iald hx hb hK hP 2 0 rfl rfl k106 dX6_laysRows_163 ?_
      refine lv_istore (lv' := [(6, .int (mk (Int32.toNatClampNeg (((2 : Int32) * y3) + y5)))), (0, .ref hMo), (1, .int y1), (2, .int y2), (3, .int y3), (4, .int y4), (5, .int y5)]) hx hb dX6_laysRows_164 hl (by decide) rfl (fun ls hl => ?_)
      refine lv_iload hx hb dX6_laysRows_166 (lv_at hl 0 rfl) ?_
      refine lv_iload_n hx hb dX6_laysRows_168 rfl (lv_at hl 2 rfl) ?_
      obtain ⟨r107, er107, hf⟩ := fp_b hf
      refine RoI.callS (c_X6_isAsked (l := l) (D := D) (cI := cI) (cJ := cJ) (cZ := cZ) (cQ := cQ) (qs := qs) er107) F (va_cwS 2 hts gX6_laysRows_X6_isAsked rfl rfl rfl yd_X6_isAsked ⟨Nat.le_of_ble_eq_true rfl, Nat.le_of_ble_eq_true rfl⟩) (hG.r hS) hP [] rfl rfl hl.1 rfl (Nat.le_of_ble_eq_true rfl) dX6_laysRows_169 ⟨Nat.zero_le _, Nat.zero_le _⟩ ?_
      refine lv_if_eq (tgt := 191) hx hb dX6_laysRows_172 (by decide) (fun c108 => ?_) (fun c108 => ?_)
      · have hf := fp_t hf c108
        refine lv_iload hx hb dX6_laysRows_191 (lv_at hl 0 rfl) ?_
        refine lv_if_lt (tgt := 227) hx hb dX6_laysRows_193 (by decide) (fun c109 => ?_) (fun c109 => ?_)
        · have hf := fp_t hf c109
          refine lv_iinc (v := (y5 + (1 : Int32))) (lv' := [(5, .int (y5 + (1 : Int32))), (6, .int (mk (Int32.toNatClampNeg (((2 : Int32) * y3) + y5)))), (0, .ref hMo), (1, .int y1), (2, .int y2), (3, .int y3), (4, .int y4)]) hx hb dX6_laysRows_227 hl (k := 6) rfl rfl (by decide) rfl (fun ls hl => ?_)
          refine lv_goto (tgt := 147) hx hb dX6_laysRows_230 (by decide) ?_
          obtain rfl := Option.some.inj hf
          exact ih _ (fp_inl ho) hP hD hS (lv_sub hl [2, 3, 4, 5, 6, 0] rfl) hex
        · have hf := fp_f hf c109
          refine lv_aload_n hx hb dX6_laysRows_196 rfl (lv_at hl 1 rfl) ?_
          refine va_get (D := D) (ci := 6) (v := .ref hMl) (C := RX6) (T := TX6) (N := 19) hx hb hts ku_X6_laysRows_X6 hown hK hP 0 rfl rfl 12 (by decide) (hts _ kw_X6_laysRows_2) (fun _ h9 => h9) rfl dX6_laysRows_197 ?_
          refine lv_iload hx hb dX6_laysRows_200 (lv_at hl 0 rfl) ?_
          obtain ⟨k110, hf⟩ := fp_c hf
          refine va_iald hx hb hK hP 4 0 rfl rfl k110 dX6_laysRows_202 ?_
          refine lv_bipush (v := (-4 : Int32)) hx hb dX6_laysRows_203 (by decide) ?_
          refine lv_icmp_eq (tgt := 227) hx hb dX6_laysRows_205 (by decide) (fun c111 => ?_) (fun c111 => ?_)
          · have hf := fp_t hf c111
            refine lv_iinc (v := (y5 + (1 : Int32))) (lv' := [(5, .int (y5 + (1 : Int32))), (6, .int (mk (Int32.toNatClampNeg (((2 : Int32) * y3) + y5)))), (0, .ref hMo), (1, .int y1), (2, .int y2), (3, .int y3), (4, .int y4)]) hx hb dX6_laysRows_227 hl (k := 6) rfl rfl (by decide) rfl (fun ls hl => ?_)
            refine lv_goto (tgt := 147) hx hb dX6_laysRows_230 (by decide) ?_
            obtain rfl := Option.some.inj hf
            exact ih _ (fp_inl ho) hP hD hS (lv_sub hl [2, 3, 4, 5, 6, 0] rfl) hex
          · have hf := fp_f hf c111
            refine lv_aload_n hx hb dX6_laysRows_208 rfl (lv_at hl 1 rfl) ?_
            refine va_get (D := D) (ci := 6) (v := .ref hMw) (C := RX6) (T := TX6) (N := 19) hx hb hts ku_X6_laysRows_X6 hown hK hP 0 rfl rfl 13 (by decide) (hts _ kw_X6_laysRows_5) (fun _ h9 => h9) rfl dX6_laysRows_209 ?_
            refine lv_iload hx hb dX6_laysRows_212 (lv_at hl 5 rfl) ?_
            refine lv_aload_n hx hb dX6_laysRows_214 rfl (lv_at hl 1 rfl) ?_
            refine va_get (D := D) (ci := 6) (v := .ref hMl) (C := RX6) (T := TX6) (N := 19) hx hb hts ku_X6_laysRows_X6 hown hK hP 0 rfl rfl 12 (by decide) (hts _ kw_X6_laysRows_2) (fun _ h9 => h9) rfl dX6_laysRows_215 ?_
            refine lv_iload hx hb dX6_laysRows_218 (lv_at hl 0 rfl) ?_
            refine va_iald hx hb hK hP 4 0 rfl rfl k110 dX6_laysRows_220 ?_
            refine lv_iadd hx hb dX6_laysRows_221 ?_
            refine lv_dup2_11 hx hb dX6_laysRows_222 rfl rfl ?_
            obtain ⟨k112, hf⟩ := fp_c hf
            refine va_lald hx hb hK hP 5 1 rfl rfl k112 dX6_laysRows_223 ?_
            refine lv_lconst (v := 1) hx hb dX6_laysRows_224 (by decide) ?_
            refine lv_lsub hx hb dX6_laysRows_225 ?_
            refine va_last hx hb hK hP hD hS 5 1 rfl rfl k112 dX6_laysRows_226 (fun H locs hP hD hS => ?_)
            have hP : va_P D vwCl [(hMo, .inr (6, [.ref hMn, .ref hMr, .ref hMa, .ref hMp, .int mc, .ref hMt, .int ml, .int ms, .ref hMd, .ref hMk, .ref hMy, .int mm, .ref hMl, .ref hMw, .long mu, .long mv, .ref hMi, .ref hMx, .int me])), (hMd, .inl (cI, 20, .inl md)), (hMk, .inl (cI, 40, .inl mk)), (hMy, .inl (cZ, 20, .inl my)), (hMl, .inl (cI, 80, .inl mq)), (hMw, .inl (cJ, 420, .inr (.inl (vp_updL mw (Int32.toNatClampNeg (y4 + (mq (Int32.toNatClampNeg (mk (Int32.toNatClampNeg (((2 : Int32) * y3) + y5))))))) ((mw (Int32.toNatClampNeg (y4 + (mq (Int32.toNatClampNeg (mk (Int32.toNatClampNeg (((2 : Int32) * y3) + y5)))))))) - (1 : Int64))))))] H := hP
            have hD : va_D A [(hMo, .inr (6, [.ref hMn, .ref hMr, .ref hMa, .ref hMp, .int mc, .ref hMt, .int ml, .int ms, .ref hMd, .ref hMk, .ref hMy, .int mm, .ref hMl, .ref hMw, .long mu, .long mv, .ref hMi, .ref hMx, .int me])), (hMd, .inl (cI, 20, .inl md)), (hMk, .inl (cI, 40, .inl mk)), (hMy, .inl (cZ, 20, .inl my)), (hMl, .inl (cI, 80, .inl mq)), (hMw, .inl (cJ, 420, .inr (.inl (vp_updL mw (Int32.toNatClampNeg (y4 + (mq (Int32.toNatClampNeg (mk (Int32.toNatClampNeg (((2 : Int32) * y3) + y5))))))) ((mw (Int32.toNatClampNeg (y4 + (mq (Int32.toNatClampNeg (mk (Int32.toNatClampNeg (((2 : Int32) * y3) + y5)))))))) - (1 : Int64))))))] := hD
            refine lv_iinc (v := (y5 + (1 : Int32))) (lv' := [(5, .int (y5 + (1 : Int32))), (6, .int (mk (Int32.toNatClampNeg (((2 : Int32) * y3) + y5)))), (0, .ref hMo), (1, .int y1), (2, .int y2), (3, .int y3), (4, .int y4)]) hx hb dX6_laysRows_227 hl (k := 6) rfl rfl (by decide) rfl (fun ls hl => ?_)
            refine lv_goto (tgt := 147) hx hb dX6_laysRows_230 (by decide) ?_
            obtain rfl := Option.some.inj hf
            exact ih _ (fp_inl ho) hP hD hS (lv_sub hl [2, 3, 4, 5, 6, 0] rfl) hex
      · have hf := fp_f hf c108
        refine lv_aload_n hx hb dX6_laysRows_175 rfl (lv_at hl 1 rfl) ?_
        refine va_get (D := D) (ci := 6) (v := .ref hMw) (C := RX6) (T := TX6) (N := 19) hx hb hts ku_X6_laysRows_X6 hown hK hP 0 rfl rfl 13 (by decide) (hts _ kw_X6_laysRows_5) (fun _ h9 => h9) rfl dX6_laysRows_176 ?_
        refine lv_iload hx hb dX6_laysRows_179 (lv_at hl 5 rfl) ?_
        refine lv_iload_n hx hb dX6_laysRows_181 rfl (lv_at hl 3 rfl) ?_
        refine lv_iadd hx hb dX6_laysRows_182 ?_
        refine lv_dup2_11 hx hb dX6_laysRows_183 rfl rfl ?_
        obtain ⟨k113, hf⟩ := fp_c hf
        refine va_lald hx hb hK hP 5 1 rfl rfl k113 dX6_laysRows_184 ?_
        refine lv_lconst (v := 1) hx hb dX6_laysRows_185 (by decide) ?_
        refine lv_ladd hx hb dX6_laysRows_186 ?_
        refine va_last hx hb hK hP hD hS 5 1 rfl rfl k113 dX6_laysRows_187 (fun H locs hP hD hS => ?_)
        have hP : va_P D vwCl [(hMo, .inr (6, [.ref hMn, .ref hMr, .ref hMa, .ref hMp, .int mc, .ref hMt, .int ml, .int ms, .ref hMd, .ref hMk, .ref hMy, .int mm, .ref hMl, .ref hMw, .long mu, .long mv, .ref hMi, .ref hMx, .int me])), (hMd, .inl (cI, 20, .inl md)), (hMk, .inl (cI, 40, .inl mk)), (hMy, .inl (cZ, 20, .inl my)), (hMl, .inl (cI, 80, .inl mq)), (hMw, .inl (cJ, 420, .inr (.inl (vp_updL mw (Int32.toNatClampNeg (y4 + y2)) ((mw (Int32.toNatClampNeg (y4 + y2))) + (1 : Int64))))))] H := hP
        have hD : va_D A [(hMo, .inr (6, [.ref hMn, .ref hMr, .ref hMa, .ref hMp, .int mc, .ref hMt, .int ml, .int ms, .ref hMd, .ref hMk, .ref hMy, .int mm, .ref hMl, .ref hMw, .long mu, .long mv, .ref hMi, .ref hMx, .int me])), (hMd, .inl (cI, 20, .inl md)), (hMk, .inl (cI, 40, .inl mk)), (hMy, .inl (cZ, 20, .inl my)), (hMl, .inl (cI, 80, .inl mq)), (hMw, .inl (cJ, 420, .inr (.inl (vp_updL mw (Int32.toNatClampNeg (y4 + y2)) ((mw (Int32.toNatClampNeg (y4 + y2))) + (1 : Int64))))))] := hD
        refine lv_goto (tgt := 227) hx hb dX6_laysRows_188 (by decide) ?_
        refine lv_iinc (v := (y5 + (1 : Int32))) (lv' := [(5, .int (y5 + (1 : Int32))), (6, .int (mk (Int32.toNatClampNeg (((2 : Int32) * y3) + y5)))), (0, .ref hMo), (1, .int y1), (2, .int y2), (3, .int y3), (4, .int y4)]) hx hb dX6_laysRows_227 hl (k := 6) rfl rfl (by decide) rfl (fun ls hl => ?_)
        refine lv_goto (tgt := 147) hx hb dX6_laysRows_230 (by decide) ?_
        obtain rfl := Option.some.inj hf
        exact ih _ (fp_inl ho) hP hD hS (lv_sub hl [2, 3, 4, 5, 6, 0] rfl) hex
def f_X6_laysRows_86 (mm : Int32) (md : Nat → Int32) (mk : Nat → Int32) (my : Nat → Int32) (mq : Nat → Int32) (y1 : Int32) (y2 : Int32) (y3 : Int32) (mw : Nat → Int64) : Option ((Int32 × (Nat → Int64)) ⊕ ((Nat → Int64))) :=
  (if mm ≤ y3 then some (Sum.inr mw) else chk (aix y3 20) ((if (my y3.toNatClampNeg) = 0 then some (Sum.inl ((y3 + (1 : Int32)), mw)) else chk (aix (md y3.toNatClampNeg) 80) (chk (aix (((21 : Int32) * (mq (Int32.toNatClampNeg (md y3.toNatClampNeg)))) + (mq (Int32.toNatClampNeg (md y3.toNatClampNeg)))) 420) (Option.bind (lpf (fun s => f_X6_laysRows_147 mm md mk my mq y1 y2 y3 ((21 : Int32) * (mq (Int32.toNatClampNeg (md y3.toNatClampNeg)))) s.1 s.2) 1000 ((0 : Int32), (vp_updL mw (Int32.toNatClampNeg (((21 : Int32) * (mq (Int32.toNatClampNeg (md y3.toNatClampNeg)))) + (mq (Int32.toNatClampNeg (md y3.toNatClampNeg))))) ((mw (Int32.toNatClampNeg (((21 : Int32) * (mq (Int32.toNatClampNeg (md y3.toNatClampNeg)))) + (mq (Int32.toNatClampNeg (md y3.toNatClampNeg)))))) + (2 : Int64))))) (fun o114 => some (Sum.inl ((y3 + (1 : Int32)), o114))))))))
set_option maxHeartbeats 4000000 in
set_option maxRecDepth 100000 in
theorem lp_X6_laysRows_86 {p : Program} {l : Launch} {e : Env} {s : State} {m : MethodId} {args : Array Value} {below : List Frame} {meth : Method} {c : Code} {Q : State → Prop} {A : Nat → Prop} {D : va_G} {cI cJ cZ cQ : ClassId} {qs : Nat × Nat × Nat} {hMo hMn hMr hMa hMp hMt hMd hMk hMy hMl hMw hMi hMx : Nat} {mm : Int32} {md : Nat → Int32} {mk : Nat → Int32} {my : Nat → Int32} {mq : Nat → Int32} {y1 : Int32} {y2 : Int32} {mc : Int32} {ml : Int32} {ms : Int32} {mu : Int64} {mv : Int64} {me : Int32} (F : CallFix p m c cX6_laysRows 7 s args wsX6_laysRows RX6) (hG : kW D (ty4 cI cJ cZ cQ) qs A s s.heap) (hA : ∀ q : Nat, s.heap.size ≤ q → A q) :
    ∀ (n : Nat) {y3 : Int32} {mw : Nat → Int64} (out : (Nat → Int64)), lpf (fun s => f_X6_laysRows_86 mm md mk my mq y1 y2 s.1 s.2) n (y3, mw) = some out → ∀ {H : Heap} {locs : List Loc} {ls : Array Slot}, va_P D vwCl [(hMo, .inr (6, [.ref hMn, .ref hMr, .ref hMa, .ref hMp, .int mc, .ref hMt, .int ml, .int ms, .ref hMd, .ref hMk, .ref hMy, .int mm, .ref hMl, .ref hMw, .long mu, .long mv, .ref hMi, .ref hMx, .int me])), (hMd, .inl (cI, 20, .inl md)), (hMk, .inl (cI, 40, .inl mk)), (hMy, .inl (cZ, 20, .inl my)), (hMl, .inl (cI, 80, .inl mq)), (hMw, .inl (cJ, 420, .inr (.inl mw)))] H → va_D A [(hMo, .inr (6, [.ref hMn, .ref hMr, .ref hMa, .ref hMp, .int mc, .ref hMt, .int ml, .int ms, .ref hMd, .ref hMk, .ref hMy, .int mm, .ref hMl, .ref hMw, .long mu, .long mv, .ref hMi, .ref hMx, .int me])), (hMd, .inl (cI, 20, .inl md)), (hMk, .inl (cI, 40, .inl mk)), (hMy, .inl (cZ, 20, .inl my)), (hMl, .inl (cI, 80, .inl mq)), (hMw, .inl (cJ, 420, .inr (.inl mw)))] → va_S A s.heap H locs → lv_has ls 7 [(0, .ref hMo), (1, .int y1), (2, .int y2), (3, .int y3)] → (∀ (H : Heap) (locs : List Loc) (ls : Array Slot), va_P D vwCl [(hMo, .inr (6, [.ref hMn, .ref hMr, .ref hMa, .ref hMp, .int mc, .ref hMt, .int ml, .int ms, .ref hMd, .ref hMk, .ref hMy, .int mm, .ref hMl, .ref hMw, .long mu, .long mv, .ref hMi, .ref hMx, .int me])), (hMd, .inl (cI, 20, .inl md)), (hMk, .inl (cI, 40, .inl mk)), (hMy, .inl (cZ, 20, .inl my)), (hMl, .inl (cI, 80, .inl mq)), (hMw, .inl (cJ, 420, .inr (.inl out)))] H → va_D A [(hMo, .inr (6, [.ref hMn, .ref hMr, .ref hMa, .ref hMp, .int mc, .ref hMt, .int ml, .int ms, .ref hMd, .ref hMk, .ref hMy, .int mm, .ref hMl, .ref hMw, .long mu, .long mv, .ref hMi, .ref hMx, .int me])), (hMd, .inl (cI, 20, .inl md)), (hMk, .inl (cI, 40, .inl mk)), (hMy, .inl (cZ, 20, .inl my)), (hMl, .inl (cI, 80, .inl mq)), (hMw, .inl (cJ, 420, .inr (.inl out)))] → va_S A s.heap H locs → lv_has ls 7 [(0, .ref hMo), (1, .int y1), (2, .int y2)] → W p l e { frames := 1, cells := 0, slots := 0, locals := 21 } s m args below meth c H locs 0 0 Q (F0 m 239 ls [])) → W p l e { frames := 1, cells := 0, slots := 0, locals := 21 } s m args below meth c H locs 0 0 Q (F0 m 86 ls []) := by
  have hx := F.1
  have hb := F.2.1
  have hown := F.2.2.2.1
  have hts := F.2.2.2.2
  have hK := hG.1.1
  intro n
  induction n with
  | zero =>
    intro y3 mw out ho
    exact (fp_l0 ho).elim
  | succ n ih =>
    intro y3 mw out ho H locs ls hP hD hS hl hex
    obtain ⟨o, hf, ho⟩ := fp_l ho
    have hf : f_X6_laysRows_86 mm md mk my mq y1 y2 y3 mw = some o := hf
    rw [f_X6_laysRows_86] at hf
    refine lv_iload_n hx hb dX6_laysRows_86 rfl (lv_at hl 3 rfl) ?_
    refine lv_aload_n hx hb dX6_laysRows_87 rfl (lv_at hl 0 rfl) ?_
    refine va_get (D := D) (ci := 6) (v := .int mm) (C := RX6) (T := TX6) (N := 19) hx hb hts ku_X6_laysRows_X6 hown hK hP 0 rfl rfl 11 (by decide) (hts _ kw_X6_laysRows_1) (fun _ h9 => h9) rfl dX6_laysRows_88 ?_
    refine lv_icmp_ge (tgt := 239) hx hb dX6_laysRows_91 (by decide) (fun c100 => ?_) (fun c100 => ?_)
    · have hf := fp_t hf c100
      obtain rfl := Option.some.inj hf
      have ho := fp_inr ho
      obtain rfl := Option.some.inj ho
      exact hex _ _ _ hP hD hS (lv_sub hl [0, 1, 2] rfl)
    · have hf := fp_f hf c100
      refine lv_aload_n hx hb dX6_laysRows_94 rfl (lv_at hl 0 rfl) ?_
      refine va_get (D := D) (ci := 6) (v := .ref hMy) (C := RX6) (T := TX6) (N := 19) hx hb hts ku_X6_laysRows_X6 hown hK hP 0 rfl rfl 10 (by decide) (hts _ kw_X6_laysRows_4) (fun _ h9 => h9) rfl dX6_laysRows_95 ?_
      refine lv_iload_n hx hb dX6_laysRows_98 rfl (lv_at hl 3 rfl) ?_
      obtain ⟨k101, hf⟩ := fp_c hf
      refine va_zald hx hb hK hP 3 2 rfl rfl k101 dX6_laysRows_99 ?_
      refine lv_if_eq (tgt := 233) hx hb dX6_laysRows_100 (by decide) (fun c102 => ?_) (fun c102 => ?_)
      · have hf := fp_t hf c102
        refine lv_iinc (v := (y3 + (1 : Int32))) (lv' := [(3, .int (y3 + (1 : Int32))), (0, .ref hMo), (1, .int y1), (2, .int y2)]) hx hb dX6_laysRows_233 hl (k := 3) rfl rfl (by decide) rfl (fun ls hl => ?_)
        refine lv_goto (tgt := 86) hx hb dX6_laysRows_236 (by decide) ?_
        obtain rfl := Option.some.inj hf
        exact ih _ (fp_inl ho) hP hD hS (lv_sub hl [1, 2, 3, 0] rfl) hex
      · have hf := fp_f hf c102
        refine lv_bipush (v := (21 : Int32)) hx hb dX6_laysRows_103 (by decide) ?_
        refine lv_aload_n hx hb dX6_laysRows_105 rfl (lv_at hl 0 rfl) ?_
        refine va_get (D := D) (ci := 6) (v := .ref hMl) (C := RX6) (T := TX6) (N := 19) hx hb hts ku_X6_laysRows_X6 hown hK hP 0 rfl rfl 12 (by decide) (hts _ kw_X6_laysRows_2) (fun _ h9 => h9) rfl dX6_laysRows_106 ?_
        refine lv_aload_n hx hb dX6_laysRows_109 rfl (lv_at hl 0 rfl) ?_
        refine va_get (D := D) (ci := 6) (v := .ref hMd) (C := RX6) (T := TX6) (N := 19) hx hb hts ku_X6_laysRows_X6 hown hK hP 0 rfl rfl 8 (by decide) (hts _ kw_X6_laysRows_3) (fun _ h9 => h9) rfl dX6_laysRows_110 ?_
        refine lv_iload_n hx hb dX6_laysRows_113 rfl (lv_at hl 3 rfl) ?_
        refine va_iald hx hb hK hP 1 0 rfl rfl k101 dX6_laysRows_114 ?_
        obtain ⟨k103, hf⟩ := fp_c hf
        refine va_iald hx hb hK hP 4 0 rfl rfl k103 dX6_laysRows_115 ?_
        refine lv_imul hx hb dX6_laysRows_116 ?_
        refine lv_istore (lv' := [(4, .int ((21 : Int32) * (mq (Int32.toNatClampNeg (md y3.toNatClampNeg))))), (0, .ref hMo), (1, .int y1), (2, .int y2), (3, .int y3)]) hx hb dX6_laysRows_117 hl (by decide) rfl (fun ls hl => ?_)
        refine lv_aload_n hx hb dX6_laysRows_119 rfl (lv_at hl 1 rfl) ?_
        refine va_get (D := D) (ci := 6) (v := .ref hMw) (C := RX6) (T := TX6) (N := 19) hx hb hts ku_X6_laysRows_X6 hown hK hP 0 rfl rfl 13 (by decide) (hts _ kw_X6_laysRows_5) (fun _ h9 => h9) rfl dX6_laysRows_120 ?_
        refine lv_iload hx hb dX6_laysRows_123 (lv_at hl 0 rfl) ?_
        refine lv_aload_n hx hb dX6_laysRows_125 rfl (lv_at hl 1 rfl) ?_
        refine va_get (D := D) (ci := 6) (v := .ref hMl) (C := RX6) (T := TX6) (N := 19) hx hb hts ku_X6_laysRows_X6 hown hK hP 0 rfl rfl 12 (by decide) (hts _ kw_X6_laysRows_2) (fun _ h9 => h9) rfl dX6_laysRows_126 ?_
        refine lv_aload_n hx hb dX6_laysRows_129 rfl (lv_at hl 1 rfl) ?_
        refine va_get (D := D) (ci := 6) (v := .ref hMd) (C := RX6) (T := TX6) (N := 19) hx hb hts ku_X6_laysRows_X6 hown hK hP 0 rfl rfl 8 (by decide) (hts _ kw_X6_laysRows_3) (fun _ h9 => h9) rfl dX6_laysRows_130 ?_
        refine lv_iload_n hx hb dX6_laysRows_133 rfl (lv_at hl 4 rfl) ?_
        refine va_iald hx hb hK hP 1 0 rfl rfl k101 dX6_laysRows_134 ?_
        refine va_iald hx hb hK hP 4 0 rfl rfl k103 dX6_laysRows_135 ?_
        refine lv_iadd hx hb dX6_laysRows_136 ?_
        refine lv_dup2_11 hx hb dX6_laysRows_137 rfl rfl ?_
        obtain ⟨k104, hf⟩ := fp_c hf
        refine va_lald hx hb hK hP 5 1 rfl rfl k104 dX6_laysRows_138 ?_
        refine lv_ldc2 hx hb hown (hts _ kw_X6_laysRows_6) dX6_laysRows_139 ?_
        refine lv_ladd hx hb dX6_laysRows_142 ?_
        refine va_last hx hb hK hP hD hS 5 1 rfl rfl k104 dX6_laysRows_143 (fun H locs hP hD hS => ?_)
        have hP : va_P D vwCl [(hMo, .inr (6, [.ref hMn, .ref hMr, .ref hMa, .ref hMp, .int mc, .ref hMt, .int ml, .int ms, .ref hMd, .ref hMk, .ref hMy, .int mm, .ref hMl, .ref hMw, .long mu, .long mv, .ref hMi, .ref hMx, .int me])), (hMd, .inl (cI, 20, .inl md)), (hMk, .inl (cI, 40, .inl mk)), (hMy, .inl (cZ, 20, .inl my)), (hMl, .inl (cI, 80, .inl mq)), (hMw, .inl (cJ, 420, .inr (.inl (vp_updL mw (Int32.toNatClampNeg (((21 : Int32) * (mq (Int32.toNatClampNeg (md y3.toNatClampNeg)))) + (mq (Int32.toNatClampNeg (md y3.toNatClampNeg))))) ((mw (Int32.toNatClampNeg (((21 : Int32) * (mq (Int32.toNatClampNeg (md y3.toNatClampNeg)))) + (mq (Int32.toNatClampNeg (md y3.toNatClampNeg)))))) + (2 : Int64))))))] H := hP
        have hD : va_D A [(hMo, .inr (6, [.ref hMn, .ref hMr, .ref hMa, .ref hMp, .int mc, .ref hMt, .int ml, .int ms, .ref hMd, .ref hMk, .ref hMy, .int mm, .ref hMl, .ref hMw, .long mu, .long mv, .ref hMi, .ref hMx, .int me])), (hMd, .inl (cI, 20, .inl md)), (hMk, .inl (cI, 40, .inl mk)), (hMy, .inl (cZ, 20, .inl my)), (hMl, .inl (cI, 80, .inl mq)), (hMw, .inl (cJ, 420, .inr (.inl (vp_updL mw (Int32.toNatClampNeg (((21 : Int32) * (mq (Int32.toNatClampNeg (md y3.toNatClampNeg)))) + (mq (Int32.toNatClampNeg (md y3.toNatClampNeg))))) ((mw (Int32.toNatClampNeg (((21 : Int32) * (mq (Int32.toNatClampNeg (md y3.toNatClampNeg)))) + (mq (Int32.toNatClampNeg (md y3.toNatClampNeg)))))) + (2 : Int64))))))] := hD
        refine lv_iconst (v := (0 : Int32)) hx hb dX6_laysRows_144 (by decide) ?_
        refine lv_istore (lv' := [(5, .int (0 : Int32)), (4, .int ((21 : Int32) * (mq (Int32.toNatClampNeg (md y3.toNatClampNeg))))), (0, .ref hMo), (1, .int y1), (2, .int y2), (3, .int y3)]) hx hb dX6_laysRows_145 hl (by decide) rfl (fun ls hl => ?_)
        obtain ⟨o114, eo114, hf⟩ := fp_b hf
        refine lp_X6_laysRows_147 F hG hA _ _ eo114 hP hD hS (lv_sub hl [2, 3, 4, 5, 1, 0] rfl) (fun H locs ls hP hD hS hl => ?_)
        refine lv_iinc (v := (y3 + (1 : Int32))) (lv' := [(3, .int (y3 + (1 : Int32))), (0, .ref hMo), (1, .int y1), (2, .int y2), (4, .int ((21 : Int32) * (mq (Int32.toNatClampNeg (md y3.toNatClampNeg)))))]) hx hb dX6_laysRows_233 hl (k := 3) rfl rfl (by decide) rfl (fun ls hl => ?_)
        refine lv_goto (tgt := 86) hx hb dX6_laysRows_236 (by decide) ?_
        obtain rfl := Option.some.inj hf
        exact ih _ (fp_inl ho) hP hD hS (lv_sub hl [1, 2, 3, 0] rfl) hex
def f_X6_laysRows (mm : Int32) (md : Nat → Int32) (mk : Nat → Int32) (my : Nat → Int32) (mq : Nat → Int32) (mw : Nat → Int64) (x1 : Int32) : Option (Int32 × (Nat → Int32) × (Nat → Int64)) :=
  Option.bind (lpf (fun s => f_X6_laysRows_9 mm md mk my mw x1 s.1 s.2.1 s.2.2) 1000 ((0 : Int32), (mm - (1 : Int32)), mq)) (fun o96 => Option.bind (lpf (fun s => f_X6_laysRows_64 mm md mk my o96.2 x1 o96.1 s.1 s.2) 1000 ((0 : Int32), mw)) (fun o99 => Option.bind (lpf (fun s => f_X6_laysRows_86 mm md mk my o96.2 x1 o96.1 s.1 s.2) 1000 ((0 : Int32), o99)) (fun o115 => some (o96.1, o96.2, o115))))
set_option maxHeartbeats 4000000 in
set_option maxRecDepth 100000 in
theorem b_X6_laysRows {p : Program} {l : Launch} {e : Env} {s : State} {m : MethodId} {args : Array Value} {below : List Frame} {meth : Method} {c : Code} {Q : State → Prop} {A : Nat → Prop} {H : Heap} {locs : List Loc} {D : va_G} {cI cJ cZ cQ : ClassId} {qs : Nat × Nat × Nat} {hMo hMn hMr hMa hMp hMt hMd hMk hMy hMl hMw hMi hMx : Nat} {mc : Int32} {ml : Int32} {ms : Int32} {mm : Int32} {mu : Int64} {mv : Int64} {me : Int32} {md : Nat → Int32} {mk : Nat → Int32} {my : Nat → Int32} {mq : Nat → Int32} {mw : Nat → Int64} {x1 : Int32} {out : Int32 × (Nat → Int32) × (Nat → Int64)} (F : CallFix p m c cX6_laysRows 7 s args wsX6_laysRows RX6) (hG : kW D (ty4 cI cJ cZ cQ) qs A s s.heap) (hA : ∀ q : Nat, s.heap.size ≤ q → A q) (hP : va_P D vwCl [(hMo, .inr (6, [.ref hMn, .ref hMr, .ref hMa, .ref hMp, .int mc, .ref hMt, .int ml, .int ms, .ref hMd, .ref hMk, .ref hMy, .int mm, .ref hMl, .ref hMw, .long mu, .long mv, .ref hMi, .ref hMx, .int me])), (hMd, .inl (cI, 20, .inl md)), (hMk, .inl (cI, 40, .inl mk)), (hMy, .inl (cZ, 20, .inl my)), (hMl, .inl (cI, 80, .inl mq)), (hMw, .inl (cJ, 420, .inr (.inl mw)))] H) (hD : va_D A [(hMo, .inr (6, [.ref hMn, .ref hMr, .ref hMa, .ref hMp, .int mc, .ref hMt, .int ml, .int ms, .ref hMd, .ref hMk, .ref hMy, .int mm, .ref hMl, .ref hMw, .long mu, .long mv, .ref hMi, .ref hMx, .int me])), (hMd, .inl (cI, 20, .inl md)), (hMk, .inl (cI, 40, .inl mk)), (hMy, .inl (cZ, 20, .inl my)), (hMl, .inl (cI, 80, .inl mq)), (hMw, .inl (cJ, 420, .inr (.inl mw)))]) (hS : va_S A s.heap H locs) (hf : f_X6_laysRows mm md mk my mq mw x1 = some out) (hret : ∀ (pc : Nat) (H : Heap) (locs : List Loc) (ls : Array Slot), decode cX6_laysRows pc = .ok (.ireturn, 1) → narrow .int (.int out.1) = .int out.1 → va_P D vwCl [(hMo, .inr (6, [.ref hMn, .ref hMr, .ref hMa, .ref hMp, .int mc, .ref hMt, .int ml, .int ms, .ref hMd, .ref hMk, .ref hMy, .int mm, .ref hMl, .ref hMw, .long mu, .long mv, .ref hMi, .ref hMx, .int me])), (hMd, .inl (cI, 20, .inl md)), (hMk, .inl (cI, 40, .inl mk)), (hMy, .inl (cZ, 20, .inl my)), (hMl, .inl (cI, 80, .inl out.2.1)), (hMw, .inl (cJ, 420, .inr (.inl out.2.2)))] H → va_D A [(hMo, .inr (6, [.ref hMn, .ref hMr, .ref hMa, .ref hMp, .int mc, .ref hMt, .int ml, .int ms, .ref hMd, .ref hMk, .ref hMy, .int mm, .ref hMl, .ref hMw, .long mu, .long mv, .ref hMi, .ref hMx, .int me])), (hMd, .inl (cI, 20, .inl md)), (hMk, .inl (cI, 40, .inl mk)), (hMy, .inl (cZ, 20, .inl my)), (hMl, .inl (cI, 80, .inl out.2.1)), (hMw, .inl (cJ, 420, .inr (.inl out.2.2)))] → va_S A s.heap H locs → W p l e { frames := 1, cells := 0, slots := 0, locals := 21 } s m args below meth c H locs 0 0 Q (F0 m pc ls [.int out.1])) {ls : Array Slot} (hl : lv_has ls 7 [(0, .ref hMo), (1, .int x1)]) : W p l e { frames := 1, cells := 0, slots := 0, locals := 21 } s m args below meth c H locs 0 0 Q (F0 m 0 ls []) := by
  have hx := F.1
  have hb := F.2.1
  have hown := F.2.2.2.1
  have hts := F.2.2.2.2
  have hK := hG.1.1
  rw [f_X6_laysRows] at hf
  refine lv_iconst (v := (0 : Int32)) hx hb dX6_laysRows_0 (by decide) ?_
  refine lv_istore_n (lv' := [(2, .int (0 : Int32)), (0, .ref hMo), (1, .int x1)]) hx hb dX6_laysRows_1 rfl hl (by decide) rfl (fun ls hl => ?_)
  refine lv_aload_n hx hb dX6_laysRows_2 rfl (lv_at hl 1 rfl) ?_
  refine va_get (D := D) (ci := 6) (v := .int mm) (C := RX6) (T := TX6) (N := 19) hx hb hts ku_X6_laysRows_X6 hown hK hP 0 rfl rfl 11 (by decide) (hts _ kw_X6_laysRows_1) (fun _ h9 => h9) rfl dX6_laysRows_3 ?_
  refine lv_iconst (v := (1 : Int32)) hx hb dX6_laysRows_6 (by decide) ?_
  refine lv_isub hx hb dX6_laysRows_7 ?_
  refine lv_istore_n (lv' := [(3, .int (mm - (1 : Int32))), (2, .int (0 : Int32)), (0, .ref hMo), (1, .int x1)]) hx hb dX6_laysRows_8 rfl hl (by decide) rfl (fun ls hl => ?_)
  obtain ⟨o96, eo96, hf⟩ := fp_b hf
  refine lp_X6_laysRows_9 F hG hA _ _ eo96 hP hD hS (lv_sub hl [2, 3, 1, 0] rfl) (fun H locs ls hP hD hS hl => ?_)
  refine lv_iconst (v := (0 : Int32)) hx hb dX6_laysRows_62 (by decide) ?_
  refine lv_istore_n (lv' := [(3, .int (0 : Int32)), (0, .ref hMo), (1, .int x1), (2, .int o96.1)]) hx hb dX6_laysRows_63 rfl hl (by decide) rfl (fun ls hl => ?_)
  obtain ⟨o99, eo99, hf⟩ := fp_b hf
  refine lp_X6_laysRows_64 F hG hA _ _ eo99 hP hD hS (lv_sub hl [1, 2, 3, 0] rfl) (fun H locs ls hP hD hS hl => ?_)
  refine lv_iconst (v := (0 : Int32)) hx hb dX6_laysRows_84 (by decide) ?_
  refine lv_istore_n (lv' := [(3, .int (0 : Int32)), (0, .ref hMo), (1, .int x1), (2, .int o96.1)]) hx hb dX6_laysRows_85 rfl hl (by decide) rfl (fun ls hl => ?_)
  obtain ⟨o115, eo115, hf⟩ := fp_b hf
  refine lp_X6_laysRows_86 F hG hA _ _ eo115 hP hD hS (lv_sub hl [1, 2, 3, 0] rfl) (fun H locs ls hP hD hS hl => ?_)
  refine lv_iload_n hx hb dX6_laysRows_239 rfl (lv_at hl 2 rfl) ?_
  obtain rfl := Option.some.inj hf
  exact hret _ _ _ _ dX6_laysRows_240 (vp_nar_int _) hP hD hS
set_option maxRecDepth 100000 in
theorem c_X6_laysRows {l : Launch} {D : va_G} {cI cJ cZ cQ : ClassId} {qs : Nat × Nat × Nat} {hMo hMn hMr hMa hMp hMt hMd hMk hMy hMl hMw hMi hMx : Nat} {mc : Int32} {ml : Int32} {ms : Int32} {mm : Int32} {mu : Int64} {mv : Int64} {me : Int32} {md : Nat → Int32} {mk : Nat → Int32} {my : Nat → Int32} {mq : Nat → Int32} {mw : Nat → Int64} {x1 : Int32} {out : Int32 × (Nat → Int32) × (Nat → Int64)} (hf : f_X6_laysRows mm md mk my mq mw x1 = some out) : RwI l yX6_laysRows wsX6_laysRows { frames := 1, cells := 0, slots := 0, locals := 21 } D (ty4 cI cJ cZ cQ) qs [.ref hMo, .int x1] [(hMo, .inr (6, [.ref hMn, .ref hMr, .ref hMa, .ref hMp, .int mc, .ref hMt, .int ml, .int ms, .ref hMd, .ref hMk, .ref hMy, .int mm, .ref hMl, .ref hMw, .long mu, .long mv, .ref hMi, .ref hMx, .int me])), (hMd, .inl (cI, 20, .inl md)), (hMk, .inl (cI, 40, .inl mk)), (hMy, .inl (cZ, 20, .inl my)), (hMl, .inl (cI, 80, .inl mq)), (hMw, .inl (cJ, 420, .inr (.inl mw)))] [(hMo, .inr (6, [.ref hMn, .ref hMr, .ref hMa, .ref hMp, .int mc, .ref hMt, .int ml, .int ms, .ref hMd, .ref hMk, .ref hMy, .int mm, .ref hMl, .ref hMw, .long mu, .long mv, .ref hMi, .ref hMx, .int me])), (hMd, .inl (cI, 20, .inl md)), (hMk, .inl (cI, 40, .inl mk)), (hMy, .inl (cZ, 20, .inl my)), (hMl, .inl (cI, 80, .inl out.2.1)), (hMw, .inl (cJ, 420, .inr (.inl out.2.2)))] out.1 :=
  RwI.of (own := RX6) (by decide +kernel) rfl rfl (Nat.le_of_ble_eq_true rfl) (fun F hG hA hP hD hS hret ls hl => b_X6_laysRows F hG hA hP hD hS hf hret hl)
-- method X6_solves
theorem yd_X6_solves : yX6_solves.cls = RX6 ∧ yX6_solves.cls ≠ "java/lang/invoke/MethodHandle" ∧ yX6_solves.cls ≠ "java/lang/invoke/VarHandle" ∧ (parseMethodDescriptor yX6_solves.desc).map (fun d => d.parameters.length) = some 1 := by decide +kernel
theorem ku_X6_solves_X6 : ∀ w ∈ u_ws RX6 TX6 19, w ∈ wsX6_solves := by decide +kernel
theorem kw_X6_solves_1 : Cond.fieldLink RX6 38 "MirrorSharesModel" "rows" "[J" ∈ wsX6_solves := List.mem_of_getElem? (i := 1) rfl
theorem kw_X6_solves_2 : Cond.fieldLink RX6 146 "MirrorSharesModel" "above" "J" ∈ wsX6_solves := List.mem_of_getElem? (i := 2) rfl
theorem kw_X6_solves_3 : Cond.fieldLink RX6 150 "MirrorSharesModel" "below" "J" ∈ wsX6_solves := List.mem_of_getElem? (i := 3) rfl
def f_X6_solves_59 (mu : Int64) (mv : Int64) (y1 : Int32) (y2 : Int64) (y4 : Int32) (y5 : Int64) (y7 : Int32) (y8 : Int64) (y10 : Int32) (mw : Nat → Int64) : Option ((Int32 × (Nat → Int64)) ⊕ ((Nat → Int64))) :=
  (if y1 < y10 then some (Sum.inr mw) else chk (aix (((21 : Int32) * y7) + y10) 420) (chk (aix (((21 : Int32) * y4) + y10) 420) (chk (¬ y2 = 0) (some (Sum.inl ((y10 + (1 : Int32)), (vp_updL mw (Int32.toNatClampNeg (((21 : Int32) * y7) + y10)) ((((mw (Int32.toNatClampNeg (((21 : Int32) * y7) + y10))) * y5) - (y8 * (mw (Int32.toNatClampNeg (((21 : Int32) * y4) + y10))))) / y2))))))))
set_option maxHeartbeats 4000000 in
set_option maxRecDepth 100000 in
theorem lp_X6_solves_59 {p : Program} {l : Launch} {e : Env} {s : State} {m : MethodId} {args : Array Value} {below : List Frame} {meth : Method} {c : Code} {Q : State → Prop} {A : Nat → Prop} {D : va_G} {cI cJ cZ cQ : ClassId} {qs : Nat × Nat × Nat} {hMo hMn hMr hMa hMp hMt hMd hMk hMy hMl hMw hMi hMx : Nat} {mu : Int64} {mv : Int64} {y1 : Int32} {y2 : Int64} {y4 : Int32} {y5 : Int64} {y7 : Int32} {y8 : Int64} {mc : Int32} {ml : Int32} {ms : Int32} {mm : Int32} {me : Int32} (F : CallFix p m c cX6_solves 11 s args wsX6_solves RX6) (hG : kW D (ty4 cI cJ cZ cQ) qs A s s.heap) (hA : ∀ q : Nat, s.heap.size ≤ q → A q) :
    ∀ (n : Nat) {y10 : Int32} {mw : Nat → Int64} (out : (Nat → Int64)), lpf (fun s => f_X6_solves_59 mu mv y1 y2 y4 y5 y7 y8 s.1 s.2) n (y10, mw) = some out → ∀ {H : Heap} {locs : List Loc} {ls : Array Slot}, va_P D vwCl [(hMo, .inr (6, [.ref hMn, .ref hMr, .ref hMa, .ref hMp, .int mc, .ref hMt, .int ml, .int ms, .ref hMd, .ref hMk, .ref hMy, .int mm, .ref hMl, .ref hMw, .long mu, .long mv, .ref hMi, .ref hMx, .int me])), (hMw, .inl (cJ, 420, .inr (.inl mw)))] H → va_D A [(hMo, .inr (6, [.ref hMn, .ref hMr, .ref hMa, .ref hMp, .int mc, .ref hMt, .int ml, .int ms, .ref hMd, .ref hMk, .ref hMy, .int mm, .ref hMl, .ref hMw, .long mu, .long mv, .ref hMi, .ref hMx, .int me])), (hMw, .inl (cJ, 420, .inr (.inl mw)))] → va_S A s.heap H locs → lv_has ls 11 [(0, .ref hMo), (1, .int y1), (2, .long y2), (4, .int y4), (5, .long y5), (7, .int y7), (8, .long y8), (10, .int y10)] → (∀ (H : Heap) (locs : List Loc) (ls : Array Slot), va_P D vwCl [(hMo, .inr (6, [.ref hMn, .ref hMr, .ref hMa, .ref hMp, .int mc, .ref hMt, .int ml, .int ms, .ref hMd, .ref hMk, .ref hMy, .int mm, .ref hMl, .ref hMw, .long mu, .long mv, .ref hMi, .ref hMx, .int me])), (hMw, .inl (cJ, 420, .inr (.inl out)))] H → va_D A [(hMo, .inr (6, [.ref hMn, .ref hMr, .ref hMa, .ref hMp, .int mc, .ref hMt, .int ml, .int ms, .ref hMd, .ref hMk, .ref hMy, .int mm, .ref hMl, .ref hMw, .long mu, .long mv, .ref hMi, .ref hMx, .int me])), (hMw, .inl (cJ, 420, .inr (.inl out)))] → va_S A s.heap H locs → lv_has ls 11 [(0, .ref hMo), (1, .int y1), (2, .long y2), (4, .int y4), (5, .long y5), (7, .int y7), (8, .long y8)] → W p l e { frames := 0, cells := 0, slots := 0, locals := 0 } s m args below meth c H locs 0 0 Q (F0 m 119 ls [])) → W p l e { frames := 0, cells := 0, slots := 0, locals := 0 } s m args below meth c H locs 0 0 Q (F0 m 59 ls []) := by
  have hx := F.1
  have hb := F.2.1
  have hown := F.2.2.2.1
  have hts := F.2.2.2.2
  have hK := hG.1.1
  intro n
  induction n with
  | zero =>
    intro y10 mw out ho
    exact (fp_l0 ho).elim
  | succ n ih =>
    intro y10 mw out ho H locs ls hP hD hS hl hex
    obtain ⟨o, hf, ho⟩ := fp_l ho
    have hf : f_X6_solves_59 mu mv y1 y2 y4 y5 y7 y8 y10 mw = some o := hf
    rw [f_X6_solves_59] at hf
    refine lv_iload hx hb dX6_solves_59 (lv_at hl 7 rfl) ?_
    refine lv_iload_n hx hb dX6_solves_61 rfl (lv_at hl 1 rfl) ?_
    refine lv_icmp_gt (tgt := 119) hx hb dX6_solves_62 (by decide) (fun c120 => ?_) (fun c120 => ?_)
    · have hf := fp_t hf c120
      obtain rfl := Option.some.inj hf
      have ho := fp_inr ho
      obtain rfl := Option.some.inj ho
      exact hex _ _ _ hP hD hS (lv_sub hl [0, 1, 2, 3, 4, 5, 6] rfl)
    · have hf := fp_f hf c120
      refine lv_aload_n hx hb dX6_solves_65 rfl (lv_at hl 0 rfl) ?_
      refine va_get (D := D) (ci := 6) (v := .ref hMw) (C := RX6) (T := TX6) (N := 19) hx hb hts ku_X6_solves_X6 hown hK hP 0 rfl rfl 13 (by decide) (hts _ kw_X6_solves_1) (fun _ h9 => h9) rfl dX6_solves_66 ?_
      refine lv_bipush (v := (21 : Int32)) hx hb dX6_solves_69 (by decide) ?_
      refine lv_iload hx hb dX6_solves_71 (lv_at hl 5 rfl) ?_
      refine lv_imul hx hb dX6_solves_73 ?_
      refine lv_iload hx hb dX6_solves_74 (lv_at hl 7 rfl) ?_
      refine lv_iadd hx hb dX6_solves_76 ?_
      refine lv_aload_n hx hb dX6_solves_77 rfl (lv_at hl 0 rfl) ?_
      refine va_get (D := D) (ci := 6) (v := .ref hMw) (C := RX6) (T := TX6) (N := 19) hx hb hts ku_X6_solves_X6 hown hK hP 0 rfl rfl 13 (by decide) (hts _ kw_X6_solves_1) (fun _ h9 => h9) rfl dX6_solves_78 ?_
      refine lv_bipush (v := (21 : Int32)) hx hb dX6_solves_81 (by decide) ?_
      refine lv_iload hx hb dX6_solves_83 (lv_at hl 5 rfl) ?_
      refine lv_imul hx hb dX6_solves_85 ?_
      refine lv_iload hx hb dX6_solves_86 (lv_at hl 7 rfl) ?_
      refine lv_iadd hx hb dX6_solves_88 ?_
      obtain ⟨k121, hf⟩ := fp_c hf
      refine va_lald hx hb hK hP 1 1 rfl rfl k121 dX6_solves_89 ?_
      refine lv_lload hx hb dX6_solves_90 (lv_at hl 4 rfl) ?_
      refine lv_lmul hx hb dX6_solves_92 ?_
      refine lv_lload hx hb dX6_solves_93 (lv_at hl 6 rfl) ?_
      refine lv_aload_n hx hb dX6_solves_95 rfl (lv_at hl 0 rfl) ?_
      refine va_get (D := D) (ci := 6) (v := .ref hMw) (C := RX6) (T := TX6) (N := 19) hx hb hts ku_X6_solves_X6 hown hK hP 0 rfl rfl 13 (by decide) (hts _ kw_X6_solves_1) (fun _ h9 => h9) rfl dX6_solves_96 ?_
      refine lv_bipush (v := (21 : Int32)) hx hb dX6_solves_99 (by decide) ?_
      refine lv_iload hx hb dX6_solves_101 (lv_at hl 3 rfl) ?_
      refine lv_imul hx hb dX6_solves_103 ?_
      refine lv_iload hx hb dX6_solves_104 (lv_at hl 7 rfl) ?_
      refine lv_iadd hx hb dX6_solves_106 ?_
      obtain ⟨k122, hf⟩ := fp_c hf
      refine va_lald hx hb hK hP 1 1 rfl rfl k122 dX6_solves_107 ?_
      refine lv_lmul hx hb dX6_solves_108 ?_
      refine lv_lsub hx hb dX6_solves_109 ?_
      refine lv_lload_n hx hb dX6_solves_110 rfl (lv_at hl 2 rfl) ?_
      obtain ⟨k123, hf⟩ := fp_c hf
      refine lv_ldiv hx hb dX6_solves_111 k123 ?_
      refine va_last hx hb hK hP hD hS 1 1 rfl rfl k121 dX6_solves_112 (fun H locs hP hD hS => ?_)
      have hP : va_P D vwCl [(hMo, .inr (6, [.ref hMn, .ref hMr, .ref hMa, .ref hMp, .int mc, .ref hMt, .int ml, .int ms, .ref hMd, .ref hMk, .ref hMy, .int mm, .ref hMl, .ref hMw, .long mu, .long mv, .ref hMi, .ref hMx, .int me])), (hMw, .inl (cJ, 420, .inr (.inl (vp_updL mw (Int32.toNatClampNeg (((21 : Int32) * y7) + y10)) ((((mw (Int32.toNatClampNeg (((21 : Int32) * y7) + y10))) * y5) - (y8 * (mw (Int32.toNatClampNeg (((21 : Int32) * y4) + y10))))) / y2)))))] H := hP
      have hD : va_D A [(hMo, .inr (6, [.ref hMn, .ref hMr, .ref hMa, .ref hMp, .int mc, .ref hMt, .int ml, .int ms, .ref hMd, .ref hMk, .ref hMy, .int mm, .ref hMl, .ref hMw, .long mu, .long mv, .ref hMi, .ref hMx, .int me])), (hMw, .inl (cJ, 420, .inr (.inl (vp_updL mw (Int32.toNatClampNeg (((21 : Int32) * y7) + y10)) ((((mw (Int32.toNatClampNeg (((21 : Int32) * y7) + y10))) * y5) - (y8 * (mw (Int32.toNatClampNeg (((21 : Int32) * y4) + y10))))) / y2)))))] := hD
      refine lv_iinc (v := (y10 + (1 : Int32))) (lv' := [(10, .int (y10 + (1 : Int32))), (0, .ref hMo), (1, .int y1), (2, .long y2), (4, .int y4), (5, .long y5), (7, .int y7), (8, .long y8)]) hx hb dX6_solves_113 hl (k := 7) rfl rfl (by decide) rfl (fun ls hl => ?_)
      refine lv_goto (tgt := 59) hx hb dX6_solves_116 (by decide) ?_
      obtain rfl := Option.some.inj hf
      exact ih _ (fp_inl ho) hP hD hS (lv_sub hl [1, 2, 3, 4, 5, 6, 7, 0] rfl) hex
def f_X6_solves_34 (mu : Int64) (mv : Int64) (y1 : Int32) (y2 : Int64) (y4 : Int32) (y5 : Int64) (y7 : Int32) (mw : Nat → Int64) : Option ((Int32 × (Nat → Int64)) ⊕ ((Nat → Int64))) :=
  (if y1 ≤ y7 then some (Sum.inr mw) else chk (aix (((21 : Int32) * y7) + y4) 420) (Option.bind (lpf (fun s => f_X6_solves_59 mu mv y1 y2 y4 y5 y7 (mw (Int32.toNatClampNeg (((21 : Int32) * y7) + y4))) s.1 s.2) 1000 (y4, mw)) (fun o124 => some (Sum.inl ((y7 + (1 : Int32)), o124)))))
set_option maxHeartbeats 4000000 in
set_option maxRecDepth 100000 in
theorem lp_X6_solves_34 {p : Program} {l : Launch} {e : Env} {s : State} {m : MethodId} {args : Array Value} {below : List Frame} {meth : Method} {c : Code} {Q : State → Prop} {A : Nat → Prop} {D : va_G} {cI cJ cZ cQ : ClassId} {qs : Nat × Nat × Nat} {hMo hMn hMr hMa hMp hMt hMd hMk hMy hMl hMw hMi hMx : Nat} {mu : Int64} {mv : Int64} {y1 : Int32} {y2 : Int64} {y4 : Int32} {y5 : Int64} {mc : Int32} {ml : Int32} {ms : Int32} {mm : Int32} {me : Int32} (F : CallFix p m c cX6_solves 11 s args wsX6_solves RX6) (hG : kW D (ty4 cI cJ cZ cQ) qs A s s.heap) (hA : ∀ q : Nat, s.heap.size ≤ q → A q) :
    ∀ (n : Nat) {y7 : Int32} {mw : Nat → Int64} (out : (Nat → Int64)), lpf (fun s => f_X6_solves_34 mu mv y1 y2 y4 y5 s.1 s.2) n (y7, mw) = some out → ∀ {H : Heap} {locs : List Loc} {ls : Array Slot}, va_P D vwCl [(hMo, .inr (6, [.ref hMn, .ref hMr, .ref hMa, .ref hMp, .int mc, .ref hMt, .int ml, .int ms, .ref hMd, .ref hMk, .ref hMy, .int mm, .ref hMl, .ref hMw, .long mu, .long mv, .ref hMi, .ref hMx, .int me])), (hMw, .inl (cJ, 420, .inr (.inl mw)))] H → va_D A [(hMo, .inr (6, [.ref hMn, .ref hMr, .ref hMa, .ref hMp, .int mc, .ref hMt, .int ml, .int ms, .ref hMd, .ref hMk, .ref hMy, .int mm, .ref hMl, .ref hMw, .long mu, .long mv, .ref hMi, .ref hMx, .int me])), (hMw, .inl (cJ, 420, .inr (.inl mw)))] → va_S A s.heap H locs → lv_has ls 11 [(0, .ref hMo), (1, .int y1), (2, .long y2), (4, .int y4), (5, .long y5), (7, .int y7)] → (∀ (H : Heap) (locs : List Loc) (ls : Array Slot), va_P D vwCl [(hMo, .inr (6, [.ref hMn, .ref hMr, .ref hMa, .ref hMp, .int mc, .ref hMt, .int ml, .int ms, .ref hMd, .ref hMk, .ref hMy, .int mm, .ref hMl, .ref hMw, .long mu, .long mv, .ref hMi, .ref hMx, .int me])), (hMw, .inl (cJ, 420, .inr (.inl out)))] H → va_D A [(hMo, .inr (6, [.ref hMn, .ref hMr, .ref hMa, .ref hMp, .int mc, .ref hMt, .int ml, .int ms, .ref hMd, .ref hMk, .ref hMy, .int mm, .ref hMl, .ref hMw, .long mu, .long mv, .ref hMi, .ref hMx, .int me])), (hMw, .inl (cJ, 420, .inr (.inl out)))] → va_S A s.heap H locs → lv_has ls 11 [(0, .ref hMo), (1, .int y1), (2, .long y2), (4, .int y4), (5, .long y5)] → W p l e { frames := 0, cells := 0, slots := 0, locals := 0 } s m args below meth c H locs 0 0 Q (F0 m 125 ls [])) → W p l e { frames := 0, cells := 0, slots := 0, locals := 0 } s m args below meth c H locs 0 0 Q (F0 m 34 ls []) := by
  have hx := F.1
  have hb := F.2.1
  have hown := F.2.2.2.1
  have hts := F.2.2.2.2
  have hK := hG.1.1
  intro n
  induction n with
  | zero =>
    intro y7 mw out ho
    exact (fp_l0 ho).elim
  | succ n ih =>
    intro y7 mw out ho H locs ls hP hD hS hl hex
    obtain ⟨o, hf, ho⟩ := fp_l ho
    have hf : f_X6_solves_34 mu mv y1 y2 y4 y5 y7 mw = some o := hf
    rw [f_X6_solves_34] at hf
    refine lv_iload hx hb dX6_solves_34 (lv_at hl 5 rfl) ?_
    refine lv_iload_n hx hb dX6_solves_36 rfl (lv_at hl 1 rfl) ?_
    refine lv_icmp_ge (tgt := 125) hx hb dX6_solves_37 (by decide) (fun c118 => ?_) (fun c118 => ?_)
    · have hf := fp_t hf c118
      obtain rfl := Option.some.inj hf
      have ho := fp_inr ho
      obtain rfl := Option.some.inj ho
      exact hex _ _ _ hP hD hS (lv_sub hl [0, 1, 2, 3, 4] rfl)
    · have hf := fp_f hf c118
      refine lv_aload_n hx hb dX6_solves_40 rfl (lv_at hl 0 rfl) ?_
      refine va_get (D := D) (ci := 6) (v := .ref hMw) (C := RX6) (T := TX6) (N := 19) hx hb hts ku_X6_solves_X6 hown hK hP 0 rfl rfl 13 (by decide) (hts _ kw_X6_solves_1) (fun _ h9 => h9) rfl dX6_solves_41 ?_
      refine lv_bipush (v := (21 : Int32)) hx hb dX6_solves_44 (by decide) ?_
      refine lv_iload hx hb dX6_solves_46 (lv_at hl 5 rfl) ?_
      refine lv_imul hx hb dX6_solves_48 ?_
      refine lv_iload hx hb dX6_solves_49 (lv_at hl 3 rfl) ?_
      refine lv_iadd hx hb dX6_solves_51 ?_
      obtain ⟨k119, hf⟩ := fp_c hf
      refine va_lald hx hb hK hP 1 1 rfl rfl k119 dX6_solves_52 ?_
      refine lv_lstore (lv' := [(8, .long (mw (Int32.toNatClampNeg (((21 : Int32) * y7) + y4)))), (0, .ref hMo), (1, .int y1), (2, .long y2), (4, .int y4), (5, .long y5), (7, .int y7)]) hx hb dX6_solves_53 hl (by decide) rfl (fun ls hl => ?_)
      refine lv_iload hx hb dX6_solves_55 (lv_at hl 4 rfl) ?_
      refine lv_istore (lv' := [(10, .int y4), (8, .long (mw (Int32.toNatClampNeg (((21 : Int32) * y7) + y4)))), (0, .ref hMo), (1, .int y1), (2, .long y2), (4, .int y4), (5, .long y5), (7, .int y7)]) hx hb dX6_solves_57 hl (by decide) rfl (fun ls hl => ?_)
      obtain ⟨o124, eo124, hf⟩ := fp_b hf
      refine lp_X6_solves_59 F hG hA _ _ eo124 hP hD hS (lv_sub hl [2, 3, 4, 5, 6, 7, 1, 0] rfl) (fun H locs ls hP hD hS hl => ?_)
      refine lv_iinc (v := (y7 + (1 : Int32))) (lv' := [(7, .int (y7 + (1 : Int32))), (0, .ref hMo), (1, .int y1), (2, .long y2), (4, .int y4), (5, .long y5), (8, .long (mw (Int32.toNatClampNeg (((21 : Int32) * y7) + y4))))]) hx hb dX6_solves_119 hl (k := 5) rfl rfl (by decide) rfl (fun ls hl => ?_)
      refine lv_goto (tgt := 34) hx hb dX6_solves_122 (by decide) ?_
      obtain rfl := Option.some.inj hf
      exact ih _ (fp_inl ho) hP hD hS (lv_sub hl [1, 2, 3, 4, 5, 0] rfl) hex
def f_X6_solves_5 (mu : Int64) (mv : Int64) (y1 : Int32) (y2 : Int64) (y4 : Int32) (mw : Nat → Int64) : Option ((Int64 × Int32 × (Nat → Int64)) ⊕ ((Nat → Int64))) :=
  (if (y1 - (1 : Int32)) ≤ y4 then some (Sum.inr mw) else chk (aix (((21 : Int32) * y4) + y4) 420) (Option.bind (lpf (fun s => f_X6_solves_34 mu mv y1 y2 y4 (mw (Int32.toNatClampNeg (((21 : Int32) * y4) + y4))) s.1 s.2) 1000 ((y4 + (1 : Int32)), mw)) (fun o125 => some (Sum.inl ((mw (Int32.toNatClampNeg (((21 : Int32) * y4) + y4))), (y4 + (1 : Int32)), o125)))))
set_option maxHeartbeats 4000000 in
set_option maxRecDepth 100000 in
theorem lp_X6_solves_5 {p : Program} {l : Launch} {e : Env} {s : State} {m : MethodId} {args : Array Value} {below : List Frame} {meth : Method} {c : Code} {Q : State → Prop} {A : Nat → Prop} {D : va_G} {cI cJ cZ cQ : ClassId} {qs : Nat × Nat × Nat} {hMo hMn hMr hMa hMp hMt hMd hMk hMy hMl hMw hMi hMx : Nat} {mu : Int64} {mv : Int64} {y1 : Int32} {mc : Int32} {ml : Int32} {ms : Int32} {mm : Int32} {me : Int32} (F : CallFix p m c cX6_solves 11 s args wsX6_solves RX6) (hG : kW D (ty4 cI cJ cZ cQ) qs A s s.heap) (hA : ∀ q : Nat, s.heap.size ≤ q → A q) :
    ∀ (n : Nat) {y2 : Int64} {y4 : Int32} {mw : Nat → Int64} (out : (Nat → Int64)), lpf (fun s => f_X6_solves_5 mu mv y1 s.1 s.2.1 s.2.2) n (y2, y4, mw) = some out → ∀ {H : Heap} {locs : List Loc} {ls : Array Slot}, va_P D vwCl [(hMo, .inr (6, [.ref hMn, .ref hMr, .ref hMa, .ref hMp, .int mc, .ref hMt, .int ml, .int ms, .ref hMd, .ref hMk, .ref hMy, .int mm, .ref hMl, .ref hMw, .long mu, .long mv, .ref hMi, .ref hMx, .int me])), (hMw, .inl (cJ, 420, .inr (.inl mw)))] H → va_D A [(hMo, .inr (6, [.ref hMn, .ref hMr, .ref hMa, .ref hMp, .int mc, .ref hMt, .int ml, .int ms, .ref hMd, .ref hMk, .ref hMy, .int mm, .ref hMl, .ref hMw, .long mu, .long mv, .ref hMi, .ref hMx, .int me])), (hMw, .inl (cJ, 420, .inr (.inl mw)))] → va_S A s.heap H locs → lv_has ls 11 [(0, .ref hMo), (1, .int y1), (2, .long y2), (4, .int y4)] → (∀ (H : Heap) (locs : List Loc) (ls : Array Slot), va_P D vwCl [(hMo, .inr (6, [.ref hMn, .ref hMr, .ref hMa, .ref hMp, .int mc, .ref hMt, .int ml, .int ms, .ref hMd, .ref hMk, .ref hMy, .int mm, .ref hMl, .ref hMw, .long mu, .long mv, .ref hMi, .ref hMx, .int me])), (hMw, .inl (cJ, 420, .inr (.inl out)))] H → va_D A [(hMo, .inr (6, [.ref hMn, .ref hMr, .ref hMa, .ref hMp, .int mc, .ref hMt, .int ml, .int ms, .ref hMd, .ref hMk, .ref hMy, .int mm, .ref hMl, .ref hMw, .long mu, .long mv, .ref hMi, .ref hMx, .int me])), (hMw, .inl (cJ, 420, .inr (.inl out)))] → va_S A s.heap H locs → lv_has ls 11 [(0, .ref hMo), (1, .int y1)] → W p l e { frames := 0, cells := 0, slots := 0, locals := 0 } s m args below meth c H locs 0 0 Q (F0 m 134 ls [])) → W p l e { frames := 0, cells := 0, slots := 0, locals := 0 } s m args below meth c H locs 0 0 Q (F0 m 5 ls []) := by
  have hx := F.1
  have hb := F.2.1
  have hown := F.2.2.2.1
  have hts := F.2.2.2.2
  have hK := hG.1.1
  intro n
  induction n with
  | zero =>
    intro y2 y4 mw out ho
    exact (fp_l0 ho).elim
  | succ n ih =>
    intro y2 y4 mw out ho H locs ls hP hD hS hl hex
    obtain ⟨o, hf, ho⟩ := fp_l ho
    have hf : f_X6_solves_5 mu mv y1 y2 y4 mw = some o := hf
    rw [f_X6_solves_5] at hf
    refine lv_iload hx hb dX6_solves_5 (lv_at hl 3 rfl) ?_
    refine lv_iload_n hx hb dX6_solves_7 rfl (lv_at hl 1 rfl) ?_
    refine lv_iconst (v := (1 : Int32)) hx hb dX6_solves_8 (by decide) ?_
    refine lv_isub hx hb dX6_solves_9 ?_
    refine lv_icmp_ge (tgt := 134) hx hb dX6_solves_10 (by decide) (fun c116 => ?_) (fun c116 => ?_)
    · have hf := fp_t hf c116
      obtain rfl := Option.some.inj hf
      have ho := fp_inr ho
      obtain rfl := Option.some.inj ho
      exact hex _ _ _ hP hD hS (lv_sub hl [0, 1] rfl)
    · have hf := fp_f hf c116
      refine lv_aload_n hx hb dX6_solves_13 rfl (lv_at hl 0 rfl) ?_
      refine va_get (D := D) (ci := 6) (v := .ref hMw) (C := RX6) (T := TX6) (N := 19) hx hb hts ku_X6_solves_X6 hown hK hP 0 rfl rfl 13 (by decide) (hts _ kw_X6_solves_1) (fun _ h9 => h9) rfl dX6_solves_14 ?_
      refine lv_bipush (v := (21 : Int32)) hx hb dX6_solves_17 (by decide) ?_
      refine lv_iload hx hb dX6_solves_19 (lv_at hl 3 rfl) ?_
      refine lv_imul hx hb dX6_solves_21 ?_
      refine lv_iload hx hb dX6_solves_22 (lv_at hl 3 rfl) ?_
      refine lv_iadd hx hb dX6_solves_24 ?_
      obtain ⟨k117, hf⟩ := fp_c hf
      refine va_lald hx hb hK hP 1 1 rfl rfl k117 dX6_solves_25 ?_
      refine lv_lstore (lv' := [(5, .long (mw (Int32.toNatClampNeg (((21 : Int32) * y4) + y4)))), (0, .ref hMo), (1, .int y1), (2, .long y2), (4, .int y4)]) hx hb dX6_solves_26 hl (by decide) rfl (fun ls hl => ?_)
      refine lv_iload hx hb dX6_solves_28 (lv_at hl 4 rfl) ?_
      refine lv_iconst (v := (1 : Int32)) hx hb dX6_solves_30 (by decide) ?_
      refine lv_iadd hx hb dX6_solves_31 ?_
      refine lv_istore (lv' := [(7, .int (y4 + (1 : Int32))), (5, .long (mw (Int32.toNatClampNeg (((21 : Int32) * y4) + y4)))), (0, .ref hMo), (1, .int y1), (2, .long y2), (4, .int y4)]) hx hb dX6_solves_32 hl (by decide) rfl (fun ls hl => ?_)
      obtain ⟨o125, eo125, hf⟩ := fp_b hf
      refine lp_X6_solves_34 F hG hA _ _ eo125 hP hD hS (lv_sub hl [2, 3, 4, 5, 1, 0] rfl) (fun H locs ls hP hD hS hl => ?_)
      refine lv_lload hx hb dX6_solves_125 (lv_at hl 4 rfl) ?_
      refine lv_lstore_n (lv' := [(2, .long (mw (Int32.toNatClampNeg (((21 : Int32) * y4) + y4)))), (0, .ref hMo), (1, .int y1), (4, .int y4), (5, .long (mw (Int32.toNatClampNeg (((21 : Int32) * y4) + y4))))]) hx hb dX6_solves_127 rfl hl (by decide) rfl (fun ls hl => ?_)
      refine lv_iinc (v := (y4 + (1 : Int32))) (lv' := [(4, .int (y4 + (1 : Int32))), (2, .long (mw (Int32.toNatClampNeg (((21 : Int32) * y4) + y4)))), (0, .ref hMo), (1, .int y1), (5, .long (mw (Int32.toNatClampNeg (((21 : Int32) * y4) + y4))))]) hx hb dX6_solves_128 hl (k := 3) rfl rfl (by decide) rfl (fun ls hl => ?_)
      refine lv_goto (tgt := 5) hx hb dX6_solves_131 (by decide) ?_
      obtain rfl := Option.some.inj hf
      exact ih _ (fp_inl ho) hP hD hS (lv_sub hl [2, 3, 1, 0] rfl) hex
def f_X6_solves (mu : Int64) (mv : Int64) (mw : Nat → Int64) (x1 : Int32) : Option (Int64 × Int64 × (Nat → Int64)) :=
  Option.bind (lpf (fun s => f_X6_solves_5 mu mv x1 s.1 s.2.1 s.2.2) 1000 ((1 : Int64), (0 : Int32), mw)) (fun o126 => chk (aix (((21 : Int32) * (x1 - (1 : Int32))) + x1) 420) (chk (aix ((((21 : Int32) * (x1 - (1 : Int32))) + x1) - (1 : Int32)) 420) (some ((o126 (Int32.toNatClampNeg (((21 : Int32) * (x1 - (1 : Int32))) + x1))), (o126 (Int32.toNatClampNeg ((((21 : Int32) * (x1 - (1 : Int32))) + x1) - (1 : Int32)))), o126))))
set_option maxHeartbeats 4000000 in
set_option maxRecDepth 100000 in
theorem b_X6_solves {p : Program} {l : Launch} {e : Env} {s : State} {m : MethodId} {args : Array Value} {below : List Frame} {meth : Method} {c : Code} {Q : State → Prop} {A : Nat → Prop} {H : Heap} {locs : List Loc} {D : va_G} {cI cJ cZ cQ : ClassId} {qs : Nat × Nat × Nat} {hMo hMn hMr hMa hMp hMt hMd hMk hMy hMl hMw hMi hMx : Nat} {mc : Int32} {ml : Int32} {ms : Int32} {mm : Int32} {mu : Int64} {mv : Int64} {me : Int32} {mw : Nat → Int64} {x1 : Int32} {out : Int64 × Int64 × (Nat → Int64)} (F : CallFix p m c cX6_solves 11 s args wsX6_solves RX6) (hG : kW D (ty4 cI cJ cZ cQ) qs A s s.heap) (hA : ∀ q : Nat, s.heap.size ≤ q → A q) (hP : va_P D vwCl [(hMo, .inr (6, [.ref hMn, .ref hMr, .ref hMa, .ref hMp, .int mc, .ref hMt, .int ml, .int ms, .ref hMd, .ref hMk, .ref hMy, .int mm, .ref hMl, .ref hMw, .long mu, .long mv, .ref hMi, .ref hMx, .int me])), (hMw, .inl (cJ, 420, .inr (.inl mw)))] H) (hD : va_D A [(hMo, .inr (6, [.ref hMn, .ref hMr, .ref hMa, .ref hMp, .int mc, .ref hMt, .int ml, .int ms, .ref hMd, .ref hMk, .ref hMy, .int mm, .ref hMl, .ref hMw, .long mu, .long mv, .ref hMi, .ref hMx, .int me])), (hMw, .inl (cJ, 420, .inr (.inl mw)))]) (hS : va_S A s.heap H locs) (hf : f_X6_solves mu mv mw x1 = some out) (hret : ∀ (pc : Nat) (H : Heap) (locs : List Loc) (ls : Array Slot), decode cX6_solves pc = .ok (.return_, 1) → va_P D vwCl [(hMo, .inr (6, [.ref hMn, .ref hMr, .ref hMa, .ref hMp, .int mc, .ref hMt, .int ml, .int ms, .ref hMd, .ref hMk, .ref hMy, .int mm, .ref hMl, .ref hMw, .long out.1, .long out.2.1, .ref hMi, .ref hMx, .int me])), (hMw, .inl (cJ, 420, .inr (.inl out.2.2)))] H → va_D A [(hMo, .inr (6, [.ref hMn, .ref hMr, .ref hMa, .ref hMp, .int mc, .ref hMt, .int ml, .int ms, .ref hMd, .ref hMk, .ref hMy, .int mm, .ref hMl, .ref hMw, .long out.1, .long out.2.1, .ref hMi, .ref hMx, .int me])), (hMw, .inl (cJ, 420, .inr (.inl out.2.2)))] → va_S A s.heap H locs → W p l e { frames := 0, cells := 0, slots := 0, locals := 0 } s m args below meth c H locs 0 0 Q (F0 m pc ls [])) {ls : Array Slot} (hl : lv_has ls 11 [(0, .ref hMo), (1, .int x1)]) : W p l e { frames := 0, cells := 0, slots := 0, locals := 0 } s m args below meth c H locs 0 0 Q (F0 m 0 ls []) := by
  have hx := F.1
  have hb := F.2.1
  have hown := F.2.2.2.1
  have hts := F.2.2.2.2
  have hK := hG.1.1
  rw [f_X6_solves] at hf
  refine lv_lconst (v := 1) hx hb dX6_solves_0 (by decide) ?_
  refine lv_lstore_n (lv' := [(2, .long (1 : Int64)), (0, .ref hMo), (1, .int x1)]) hx hb dX6_solves_1 rfl hl (by decide) rfl (fun ls hl => ?_)
  refine lv_iconst (v := (0 : Int32)) hx hb dX6_solves_2 (by decide) ?_
  refine lv_istore (lv' := [(4, .int (0 : Int32)), (2, .long (1 : Int64)), (0, .ref hMo), (1, .int x1)]) hx hb dX6_solves_3 hl (by decide) rfl (fun ls hl => ?_)
  obtain ⟨o126, eo126, hf⟩ := fp_b hf
  refine lp_X6_solves_5 F hG hA _ _ eo126 hP hD hS (lv_sub hl [2, 3, 1, 0] rfl) (fun H locs ls hP hD hS hl => ?_)
  refine lv_aload_n hx hb dX6_solves_134 rfl (lv_at hl 0 rfl) ?_
  refine lv_aload_n hx hb dX6_solves_135 rfl (lv_at hl 0 rfl) ?_
  refine va_get (D := D) (ci := 6) (v := .ref hMw) (C := RX6) (T := TX6) (N := 19) hx hb hts ku_X6_solves_X6 hown hK hP 0 rfl rfl 13 (by decide) (hts _ kw_X6_solves_1) (fun _ h9 => h9) rfl dX6_solves_136 ?_
  refine lv_bipush (v := (21 : Int32)) hx hb dX6_solves_139 (by decide) ?_
  refine lv_iload_n hx hb dX6_solves_141 rfl (lv_at hl 1 rfl) ?_
  refine lv_iconst (v := (1 : Int32)) hx hb dX6_solves_142 (by decide) ?_
  refine lv_isub hx hb dX6_solves_143 ?_
  refine lv_imul hx hb dX6_solves_144 ?_
  refine lv_iload_n hx hb dX6_solves_145 rfl (lv_at hl 1 rfl) ?_
  refine lv_iadd hx hb dX6_solves_146 ?_
  obtain ⟨k127, hf⟩ := fp_c hf
  refine va_lald hx hb hK hP 1 1 rfl rfl k127 dX6_solves_147 ?_
  refine va_put (D := D) (ci := 6) (v := .long (o126 (Int32.toNatClampNeg (((21 : Int32) * (x1 - (1 : Int32))) + x1)))) (ty := .long) (C := RX6) (T := TX6) (N := 19) hx hb hts ku_X6_solves_X6 tyX6 tyX6_ok nmX6 hown hK hP hD hS 0 rfl rfl 14 (by decide) (hts _ kw_X6_solves_2) (fun _ h9 => h9) rfl (by decide +kernel) rfl rfl (Nat.le_of_ble_eq_true rfl) dX6_solves_148 (fun H locs hP hD hS => ?_)
  have hP : va_P D vwCl [(hMo, .inr (6, [.ref hMn, .ref hMr, .ref hMa, .ref hMp, .int mc, .ref hMt, .int ml, .int ms, .ref hMd, .ref hMk, .ref hMy, .int mm, .ref hMl, .ref hMw, .long (o126 (Int32.toNatClampNeg (((21 : Int32) * (x1 - (1 : Int32))) + x1))), .long mv, .ref hMi, .ref hMx, .int me])), (hMw, .inl (cJ, 420, .inr (.inl o126)))] H := hP
  have hD : va_D A [(hMo, .inr (6, [.ref hMn, .ref hMr, .ref hMa, .ref hMp, .int mc, .ref hMt, .int ml, .int ms, .ref hMd, .ref hMk, .ref hMy, .int mm, .ref hMl, .ref hMw, .long (o126 (Int32.toNatClampNeg (((21 : Int32) * (x1 - (1 : Int32))) + x1))), .long mv, .ref hMi, .ref hMx, .int me])), (hMw, .inl (cJ, 420, .inr (.inl o126)))] := hD
  refine lv_aload_n hx hb dX6_solves_151 rfl (lv_at hl 0 rfl) ?_
  refine lv_aload_n hx hb dX6_solves_152 rfl (lv_at hl 0 rfl) ?_
  refine va_get (D := D) (ci := 6) (v := .ref hMw) (C := RX6) (T := TX6) (N := 19) hx hb hts ku_X6_solves_X6 hown hK hP 0 rfl rfl 13 (by decide) (hts _ kw_X6_solves_1) (fun _ h9 => h9) rfl dX6_solves_153 ?_
  refine lv_bipush (v := (21 : Int32)) hx hb dX6_solves_156 (by decide) ?_
  refine lv_iload_n hx hb dX6_solves_158 rfl (lv_at hl 1 rfl) ?_
  refine lv_iconst (v := (1 : Int32)) hx hb dX6_solves_159 (by decide) ?_
  refine lv_isub hx hb dX6_solves_160 ?_
  refine lv_imul hx hb dX6_solves_161 ?_
  refine lv_iload_n hx hb dX6_solves_162 rfl (lv_at hl 1 rfl) ?_
  refine lv_iadd hx hb dX6_solves_163 ?_
  refine lv_iconst (v := (1 : Int32)) hx hb dX6_solves_164 (by decide) ?_
  refine lv_isub hx hb dX6_solves_165 ?_
  obtain ⟨k128, hf⟩ := fp_c hf
  refine va_lald hx hb hK hP 1 1 rfl rfl k128 dX6_solves_166 ?_
  refine va_put (D := D) (ci := 6) (v := .long (o126 (Int32.toNatClampNeg ((((21 : Int32) * (x1 - (1 : Int32))) + x1) - (1 : Int32))))) (ty := .long) (C := RX6) (T := TX6) (N := 19) hx hb hts ku_X6_solves_X6 tyX6 tyX6_ok nmX6 hown hK hP hD hS 0 rfl rfl 15 (by decide) (hts _ kw_X6_solves_3) (fun _ h9 => h9) rfl (by decide +kernel) rfl rfl (Nat.le_of_ble_eq_true rfl) dX6_solves_167 (fun H locs hP hD hS => ?_)
  have hP : va_P D vwCl [(hMo, .inr (6, [.ref hMn, .ref hMr, .ref hMa, .ref hMp, .int mc, .ref hMt, .int ml, .int ms, .ref hMd, .ref hMk, .ref hMy, .int mm, .ref hMl, .ref hMw, .long (o126 (Int32.toNatClampNeg (((21 : Int32) * (x1 - (1 : Int32))) + x1))), .long (o126 (Int32.toNatClampNeg ((((21 : Int32) * (x1 - (1 : Int32))) + x1) - (1 : Int32)))), .ref hMi, .ref hMx, .int me])), (hMw, .inl (cJ, 420, .inr (.inl o126)))] H := hP
  have hD : va_D A [(hMo, .inr (6, [.ref hMn, .ref hMr, .ref hMa, .ref hMp, .int mc, .ref hMt, .int ml, .int ms, .ref hMd, .ref hMk, .ref hMy, .int mm, .ref hMl, .ref hMw, .long (o126 (Int32.toNatClampNeg (((21 : Int32) * (x1 - (1 : Int32))) + x1))), .long (o126 (Int32.toNatClampNeg ((((21 : Int32) * (x1 - (1 : Int32))) + x1) - (1 : Int32)))), .ref hMi, .ref hMx, .int me])), (hMw, .inl (cJ, 420, .inr (.inl o126)))] := hD
  obtain rfl := Option.some.inj hf
  exact hret _ _ _ _ dX6_solves_170 hP hD hS
set_option maxRecDepth 100000 in
theorem c_X6_solves {l : Launch} {D : va_G} {cI cJ cZ cQ : ClassId} {qs : Nat × Nat × Nat} {hMo hMn hMr hMa hMp hMt hMd hMk hMy hMl hMw hMi hMx : Nat} {mc : Int32} {ml : Int32} {ms : Int32} {mm : Int32} {mu : Int64} {mv : Int64} {me : Int32} {mw : Nat → Int64} {x1 : Int32} {out : Int64 × Int64 × (Nat → Int64)} (hf : f_X6_solves mu mv mw x1 = some out) : RwV l yX6_solves wsX6_solves { frames := 0, cells := 0, slots := 0, locals := 0 } D (ty4 cI cJ cZ cQ) qs [.ref hMo, .int x1] [(hMo, .inr (6, [.ref hMn, .ref hMr, .ref hMa, .ref hMp, .int mc, .ref hMt, .int ml, .int ms, .ref hMd, .ref hMk, .ref hMy, .int mm, .ref hMl, .ref hMw, .long mu, .long mv, .ref hMi, .ref hMx, .int me])), (hMw, .inl (cJ, 420, .inr (.inl mw)))] [(hMo, .inr (6, [.ref hMn, .ref hMr, .ref hMa, .ref hMp, .int mc, .ref hMt, .int ml, .int ms, .ref hMd, .ref hMk, .ref hMy, .int mm, .ref hMl, .ref hMw, .long out.1, .long out.2.1, .ref hMi, .ref hMx, .int me])), (hMw, .inl (cJ, 420, .inr (.inl out.2.2)))] :=
  RwV.of (own := RX6) (by decide +kernel) rfl rfl (Nat.le_of_ble_eq_true rfl) (fun F hG hA hP hD hS hret ls hl => b_X6_solves F hG hA hP hD hS hf hret hl)
-- method X6_lowers
theorem yd_X6_lowers : yX6_lowers.cls = RX6 ∧ yX6_lowers.cls ≠ "java/lang/invoke/MethodHandle" ∧ yX6_lowers.cls ≠ "java/lang/invoke/VarHandle" ∧ (parseMethodDescriptor yX6_lowers.desc).map (fun d => d.parameters.length) = some 0 := by decide +kernel
theorem ku_X6_lowers_X6 : ∀ w ∈ u_ws RX6 TX6 19, w ∈ wsX6_lowers := by decide +kernel
theorem kw_X6_lowers_1 : Cond.fieldLink RX6 146 "MirrorSharesModel" "above" "J" ∈ wsX6_lowers := List.mem_of_getElem? (i := 1) rfl
theorem kw_X6_lowers_2 : Cond.fieldLink RX6 150 "MirrorSharesModel" "below" "J" ∈ wsX6_lowers := List.mem_of_getElem? (i := 2) rfl
def f_X6_lowers_10 (mu : Int64) (mv : Int64) (y1 : Int64) (y3 : Int64) : Option ((Int64 × Int64) ⊕ (Int64)) :=
  (if (lg_cmp y3 (0 : Int64)) = 0 then some (Sum.inr y1) else chk (¬ y3 = 0) (some (Sum.inl (y3, (y1 - ((y1 / y3) * y3))))))
set_option maxHeartbeats 4000000 in
set_option maxRecDepth 100000 in
theorem lp_X6_lowers_10 {p : Program} {l : Launch} {e : Env} {s : State} {m : MethodId} {args : Array Value} {below : List Frame} {meth : Method} {c : Code} {Q : State → Prop} {A : Nat → Prop} {D : va_G} {cI cJ cZ cQ : ClassId} {qs : Nat × Nat × Nat} {hMo hMn hMr hMa hMp hMt hMd hMk hMy hMl hMw hMi hMx : Nat} {mu : Int64} {mv : Int64} {mc : Int32} {ml : Int32} {ms : Int32} {mm : Int32} {me : Int32} (F : CallFix p m c cX6_lowers 7 s args wsX6_lowers RX6) (hG : kW D (ty4 cI cJ cZ cQ) qs A s s.heap) (hA : ∀ q : Nat, s.heap.size ≤ q → A q) :
    ∀ (n : Nat) {y1 : Int64} {y3 : Int64} (out : Int64), lpf (fun s => f_X6_lowers_10 mu mv s.1 s.2) n (y1, y3) = some out → ∀ {H : Heap} {locs : List Loc} {ls : Array Slot}, va_P D vwCl [(hMo, .inr (6, [.ref hMn, .ref hMr, .ref hMa, .ref hMp, .int mc, .ref hMt, .int ml, .int ms, .ref hMd, .ref hMk, .ref hMy, .int mm, .ref hMl, .ref hMw, .long mu, .long mv, .ref hMi, .ref hMx, .int me]))] H → va_D A [(hMo, .inr (6, [.ref hMn, .ref hMr, .ref hMa, .ref hMp, .int mc, .ref hMt, .int ml, .int ms, .ref hMd, .ref hMk, .ref hMy, .int mm, .ref hMl, .ref hMw, .long mu, .long mv, .ref hMi, .ref hMx, .int me]))] → va_S A s.heap H locs → lv_has ls 7 [(0, .ref hMo), (1, .long y1), (3, .long y3)] → (∀ (H : Heap) (locs : List Loc) (ls : Array Slot), va_P D vwCl [(hMo, .inr (6, [.ref hMn, .ref hMr, .ref hMa, .ref hMp, .int mc, .ref hMt, .int ml, .int ms, .ref hMd, .ref hMk, .ref hMy, .int mm, .ref hMl, .ref hMw, .long mu, .long mv, .ref hMi, .ref hMx, .int me]))] H → va_D A [(hMo, .inr (6, [.ref hMn, .ref hMr, .ref hMa, .ref hMp, .int mc, .ref hMt, .int ml, .int ms, .ref hMd, .ref hMk, .ref hMy, .int mm, .ref hMl, .ref hMw, .long mu, .long mv, .ref hMi, .ref hMx, .int me]))] → va_S A s.heap H locs → lv_has ls 7 [(0, .ref hMo), (1, .long out)] → W p l e { frames := 0, cells := 0, slots := 0, locals := 0 } s m args below meth c H locs 0 0 Q (F0 m 29 ls [])) → W p l e { frames := 0, cells := 0, slots := 0, locals := 0 } s m args below meth c H locs 0 0 Q (F0 m 10 ls []) := by
  have hx := F.1
  have hb := F.2.1
  have hown := F.2.2.2.1
  have hts := F.2.2.2.2
  have hK := hG.1.1
  intro n
  induction n with
  | zero =>
    intro y1 y3 out ho
    exact (fp_l0 ho).elim
  | succ n ih =>
    intro y1 y3 out ho H locs ls hP hD hS hl hex
    obtain ⟨o, hf, ho⟩ := fp_l ho
    have hf : f_X6_lowers_10 mu mv y1 y3 = some o := hf
    rw [f_X6_lowers_10] at hf
    refine lv_lload_n hx hb dX6_lowers_10 rfl (lv_at hl 2 rfl) ?_
    refine lv_lconst (v := 0) hx hb dX6_lowers_11 (by decide) ?_
    refine W.lcmp hx hb dX6_lowers_12 ?_
    refine lv_if_eq (tgt := 29) hx hb dX6_lowers_13 (by decide) (fun c129 => ?_) (fun c129 => ?_)
    · have hf := fp_t hf c129
      obtain rfl := Option.some.inj hf
      have ho := fp_inr ho
      obtain rfl := Option.some.inj ho
      exact hex _ _ _ hP hD hS (lv_sub hl [0, 1] rfl)
    · have hf := fp_f hf c129
      refine lv_lload_n hx hb dX6_lowers_16 rfl (lv_at hl 1 rfl) ?_
      refine lv_lload_n hx hb dX6_lowers_17 rfl (lv_at hl 2 rfl) ?_
      obtain ⟨k130, hf⟩ := fp_c hf
      refine lv_lrem hx hb dX6_lowers_18 k130 ?_
      refine lv_lstore (lv' := [(5, .long (y1 - ((y1 / y3) * y3))), (0, .ref hMo), (1, .long y1), (3, .long y3)]) hx hb dX6_lowers_19 hl (by decide) rfl (fun ls hl => ?_)
      refine lv_lload_n hx hb dX6_lowers_21 rfl (lv_at hl 3 rfl) ?_
      refine lv_lstore_n (lv' := [(1, .long y3), (5, .long (y1 - ((y1 / y3) * y3))), (0, .ref hMo), (3, .long y3)]) hx hb dX6_lowers_22 rfl hl (by decide) rfl (fun ls hl => ?_)
      refine lv_lload hx hb dX6_lowers_23 (lv_at hl 1 rfl) ?_
      refine lv_lstore_n (lv' := [(3, .long (y1 - ((y1 / y3) * y3))), (1, .long y3), (5, .long (y1 - ((y1 / y3) * y3))), (0, .ref hMo)]) hx hb dX6_lowers_25 rfl hl (by decide) rfl (fun ls hl => ?_)
      refine lv_goto (tgt := 10) hx hb dX6_lowers_26 (by decide) ?_
      obtain rfl := Option.some.inj hf
      exact ih _ (fp_inl ho) hP hD hS (lv_sub hl [3, 1, 0] rfl) hex
def f_X6_lowers (mu : Int64) (mv : Int64) : Option (Int64 × Int64) :=
  Option.bind (lpf (fun s => f_X6_lowers_10 mu mv s.1 s.2) 1000 (mu, mv)) (fun o131 => chk (¬ o131 = 0) (some ((mu / o131), (mv / o131))))
set_option maxHeartbeats 4000000 in
set_option maxRecDepth 100000 in
theorem b_X6_lowers {p : Program} {l : Launch} {e : Env} {s : State} {m : MethodId} {args : Array Value} {below : List Frame} {meth : Method} {c : Code} {Q : State → Prop} {A : Nat → Prop} {H : Heap} {locs : List Loc} {D : va_G} {cI cJ cZ cQ : ClassId} {qs : Nat × Nat × Nat} {hMo hMn hMr hMa hMp hMt hMd hMk hMy hMl hMw hMi hMx : Nat} {mc : Int32} {ml : Int32} {ms : Int32} {mm : Int32} {mu : Int64} {mv : Int64} {me : Int32} {out : Int64 × Int64} (F : CallFix p m c cX6_lowers 7 s args wsX6_lowers RX6) (hG : kW D (ty4 cI cJ cZ cQ) qs A s s.heap) (hA : ∀ q : Nat, s.heap.size ≤ q → A q) (hP : va_P D vwCl [(hMo, .inr (6, [.ref hMn, .ref hMr, .ref hMa, .ref hMp, .int mc, .ref hMt, .int ml, .int ms, .ref hMd, .ref hMk, .ref hMy, .int mm, .ref hMl, .ref hMw, .long mu, .long mv, .ref hMi, .ref hMx, .int me]))] H) (hD : va_D A [(hMo, .inr (6, [.ref hMn, .ref hMr, .ref hMa, .ref hMp, .int mc, .ref hMt, .int ml, .int ms, .ref hMd, .ref hMk, .ref hMy, .int mm, .ref hMl, .ref hMw, .long mu, .long mv, .ref hMi, .ref hMx, .int me]))]) (hS : va_S A s.heap H locs) (hf : f_X6_lowers mu mv = some out) (hret : ∀ (pc : Nat) (H : Heap) (locs : List Loc) (ls : Array Slot), decode cX6_lowers pc = .ok (.return_, 1) → va_P D vwCl [(hMo, .inr (6, [.ref hMn, .ref hMr, .ref hMa, .ref hMp, .int mc, .ref hMt, .int ml, .int ms, .ref hMd, .ref hMk, .ref hMy, .int mm, .ref hMl, .ref hMw, .long out.1, .long out.2, .ref hMi, .ref hMx, .int me]))] H → va_D A [(hMo, .inr (6, [.ref hMn, .ref hMr, .ref hMa, .ref hMp, .int mc, .ref hMt, .int ml, .int ms, .ref hMd, .ref hMk, .ref hMy, .int mm, .ref hMl, .ref hMw, .long out.1, .long out.2, .ref hMi, .ref hMx, .int me]))] → va_S A s.heap H locs → W p l e { frames := 0, cells := 0, slots := 0, locals := 0 } s m args below meth c H locs 0 0 Q (F0 m pc ls [])) {ls : Array Slot} (hl : lv_has ls 7 [(0, .ref hMo)]) : W p l e { frames := 0, cells := 0, slots := 0, locals := 0 } s m args below meth c H locs 0 0 Q (F0 m 0 ls []) := by
  have hx := F.1
  have hb := F.2.1
  have hown := F.2.2.2.1
  have hts := F.2.2.2.2
  have hK := hG.1.1
  rw [f_X6_lowers] at hf
  refine lv_aload_n hx hb dX6_lowers_0 rfl (lv_at hl 0 rfl) ?_
  refine va_get (D := D) (ci := 6) (v := .long mu) (C := RX6) (T := TX6) (N := 19) hx hb hts ku_X6_lowers_X6 hown hK hP 0 rfl rfl 14 (by decide) (hts _ kw_X6_lowers_1) (fun _ h9 => h9) rfl dX6_lowers_1 ?_
  refine lv_lstore_n (lv' := [(1, .long mu), (0, .ref hMo)]) hx hb dX6_lowers_4 rfl hl (by decide) rfl (fun ls hl => ?_)
  refine lv_aload_n hx hb dX6_lowers_5 rfl (lv_at hl 1 rfl) ?_
  refine va_get (D := D) (ci := 6) (v := .long mv) (C := RX6) (T := TX6) (N := 19) hx hb hts ku_X6_lowers_X6 hown hK hP 0 rfl rfl 15 (by decide) (hts _ kw_X6_lowers_2) (fun _ h9 => h9) rfl dX6_lowers_6 ?_
  refine lv_lstore_n (lv' := [(3, .long mv), (1, .long mu), (0, .ref hMo)]) hx hb dX6_lowers_9 rfl hl (by decide) rfl (fun ls hl => ?_)
  obtain ⟨o131, eo131, hf⟩ := fp_b hf
  refine lp_X6_lowers_10 F hG hA _ _ eo131 hP hD hS (lv_sub hl [2, 1, 0] rfl) (fun H locs ls hP hD hS hl => ?_)
  refine lv_aload_n hx hb dX6_lowers_29 rfl (lv_at hl 0 rfl) ?_
  refine lv_dup hx hb dX6_lowers_30 rfl ?_
  refine va_get (D := D) (ci := 6) (v := .long mu) (C := RX6) (T := TX6) (N := 19) hx hb hts ku_X6_lowers_X6 hown hK hP 0 rfl rfl 14 (by decide) (hts _ kw_X6_lowers_1) (fun _ h9 => h9) rfl dX6_lowers_31 ?_
  refine lv_lload_n hx hb dX6_lowers_34 rfl (lv_at hl 1 rfl) ?_
  obtain ⟨k132, hf⟩ := fp_c hf
  refine lv_ldiv hx hb dX6_lowers_35 k132 ?_
  refine va_put (D := D) (ci := 6) (v := .long (mu / o131)) (ty := .long) (C := RX6) (T := TX6) (N := 19) hx hb hts ku_X6_lowers_X6 tyX6 tyX6_ok nmX6 hown hK hP hD hS 0 rfl rfl 14 (by decide) (hts _ kw_X6_lowers_1) (fun _ h9 => h9) rfl (by decide +kernel) rfl rfl (Nat.le_of_ble_eq_true rfl) dX6_lowers_36 (fun H locs hP hD hS => ?_)
  have hP : va_P D vwCl [(hMo, .inr (6, [.ref hMn, .ref hMr, .ref hMa, .ref hMp, .int mc, .ref hMt, .int ml, .int ms, .ref hMd, .ref hMk, .ref hMy, .int mm, .ref hMl, .ref hMw, .long (mu / o131), .long mv, .ref hMi, .ref hMx, .int me]))] H := hP
  have hD : va_D A [(hMo, .inr (6, [.ref hMn, .ref hMr, .ref hMa, .ref hMp, .int mc, .ref hMt, .int ml, .int ms, .ref hMd, .ref hMk, .ref hMy, .int mm, .ref hMl, .ref hMw, .long (mu / o131), .long mv, .ref hMi, .ref hMx, .int me]))] := hD
  refine lv_aload_n hx hb dX6_lowers_39 rfl (lv_at hl 0 rfl) ?_
  refine lv_dup hx hb dX6_lowers_40 rfl ?_
  refine va_get (D := D) (ci := 6) (v := .long mv) (C := RX6) (T := TX6) (N := 19) hx hb hts ku_X6_lowers_X6 hown hK hP 0 rfl rfl 15 (by decide) (hts _ kw_X6_lowers_2) (fun _ h9 => h9) rfl dX6_lowers_41 ?_
  refine lv_lload_n hx hb dX6_lowers_44 rfl (lv_at hl 1 rfl) ?_
  refine lv_ldiv hx hb dX6_lowers_45 k132 ?_
  refine va_put (D := D) (ci := 6) (v := .long (mv / o131)) (ty := .long) (C := RX6) (T := TX6) (N := 19) hx hb hts ku_X6_lowers_X6 tyX6 tyX6_ok nmX6 hown hK hP hD hS 0 rfl rfl 15 (by decide) (hts _ kw_X6_lowers_2) (fun _ h9 => h9) rfl (by decide +kernel) rfl rfl (Nat.le_of_ble_eq_true rfl) dX6_lowers_46 (fun H locs hP hD hS => ?_)
  have hP : va_P D vwCl [(hMo, .inr (6, [.ref hMn, .ref hMr, .ref hMa, .ref hMp, .int mc, .ref hMt, .int ml, .int ms, .ref hMd, .ref hMk, .ref hMy, .int mm, .ref hMl, .ref hMw, .long (mu / o131), .long (mv / o131), .ref hMi, .ref hMx, .int me]))] H := hP
  have hD : va_D A [(hMo, .inr (6, [.ref hMn, .ref hMr, .ref hMa, .ref hMp, .int mc, .ref hMt, .int ml, .int ms, .ref hMd, .ref hMk, .ref hMy, .int mm, .ref hMl, .ref hMw, .long (mu / o131), .long (mv / o131), .ref hMi, .ref hMx, .int me]))] := hD
  obtain rfl := Option.some.inj hf
  exact hret _ _ _ _ dX6_lowers_49 hP hD hS
set_option maxRecDepth 100000 in
theorem c_X6_lowers {l : Launch} {D : va_G} {cI cJ cZ cQ : ClassId} {qs : Nat × Nat × Nat} {hMo hMn hMr hMa hMp hMt hMd hMk hMy hMl hMw hMi hMx : Nat} {mc : Int32} {ml : Int32} {ms : Int32} {mm : Int32} {mu : Int64} {mv : Int64} {me : Int32} {out : Int64 × Int64} (hf : f_X6_lowers mu mv = some out) : RwV l yX6_lowers wsX6_lowers { frames := 0, cells := 0, slots := 0, locals := 0 } D (ty4 cI cJ cZ cQ) qs [.ref hMo] [(hMo, .inr (6, [.ref hMn, .ref hMr, .ref hMa, .ref hMp, .int mc, .ref hMt, .int ml, .int ms, .ref hMd, .ref hMk, .ref hMy, .int mm, .ref hMl, .ref hMw, .long mu, .long mv, .ref hMi, .ref hMx, .int me]))] [(hMo, .inr (6, [.ref hMn, .ref hMr, .ref hMa, .ref hMp, .int mc, .ref hMt, .int ml, .int ms, .ref hMd, .ref hMk, .ref hMy, .int mm, .ref hMl, .ref hMw, .long out.1, .long out.2, .ref hMi, .ref hMx, .int me]))] :=
  RwV.of (own := RX6) (by decide +kernel) rfl rfl (Nat.le_of_ble_eq_true rfl) (fun F hG hA hP hD hS hret ls hl => b_X6_lowers F hG hA hP hD hS hf hret hl)
-- method X6_shares
theorem yd_X6_shares : yX6_shares.cls = RX6 ∧ yX6_shares.cls ≠ "java/lang/invoke/MethodHandle" ∧ yX6_shares.cls ≠ "java/lang/invoke/VarHandle" ∧ (parseMethodDescriptor yX6_shares.desc).map (fun d => d.parameters.length) = some 3 := by decide +kernel
theorem ku_X6_shares_X6 : ∀ w ∈ u_ws RX6 TX6 19, w ∈ wsX6_shares := by decide +kernel
theorem kw_X6_shares_1 : Cond.fieldLink RX6 146 "MirrorSharesModel" "above" "J" ∈ wsX6_shares := List.mem_of_getElem? (i := 1) rfl
theorem kw_X6_shares_2 : Cond.fieldLink RX6 150 "MirrorSharesModel" "below" "J" ∈ wsX6_shares := List.mem_of_getElem? (i := 2) rfl
theorem kw_X6_shares_3 : Cond.fieldLink RX6 31 "MirrorSharesModel" "may" "[Z" ∈ wsX6_shares := List.mem_of_getElem? (i := 3) rfl
def f_X6_shares (mm : Int32) (mu : Int64) (mv : Int64) (md : Nat → Int32) (mk : Nat → Int32) (my : Nat → Int32) (mq : Nat → Int32) (mw : Nat → Int64) (fr1 : Nat → Int32) (x2 : Int32) (x3 : Int32) : Option (Int32 × Int64 × Int64 × (Nat → Int32) × (Nat → Int32) × (Nat → Int32) × (Nat → Int32) × (Nat → Int64)) :=
  Option.bind (f_X6_portState fr1 x2) (fun r133 => Option.bind (f_X6_follows fr1 r133) (fun r134 => Option.bind (f_X6_isAsked r134 x3) (fun r135 => Option.bind (if r135 = 0 then some (0 : Int64) else some (1 : Int64)) (fun j136 => (if 0 ≤ r134 then Option.bind (f_X6_gathers mm md mk fr1 r134) (fun r139 => Option.bind (f_X6_findsMay r139.1 r139.2.1 r139.2.2 my mq x3) (fun r140 => (if (r140.1 (Int32.toNatClampNeg (0 : Int32))) = 0 then some (r139.1, j136, (1 : Int64), r139.2.1, r139.2.2, r140.1, r140.2, mw) else Option.bind (f_X6_laysRows r139.1 r139.2.1 r139.2.2 r140.1 r140.2 mw x3) (fun r142 => Option.bind (f_X6_solves j136 (1 : Int64) r142.2.2 r142.1) (fun r143 => Option.bind (f_X6_lowers r143.1 r143.2.1) (fun r144 => some (r139.1, r144.1, r144.2, r139.2.1, r139.2.2, r140.1, r142.2.1, r143.2.2))))))) else some (mm, j136, (1 : Int64), md, mk, my, mq, mw))))))
set_option maxHeartbeats 4000000 in
set_option maxRecDepth 100000 in
theorem b_X6_shares {p : Program} {l : Launch} {e : Env} {s : State} {m : MethodId} {args : Array Value} {below : List Frame} {meth : Method} {c : Code} {Q : State → Prop} {A : Nat → Prop} {H : Heap} {locs : List Loc} {D : va_G} {cI cJ cZ cQ : ClassId} {qs : Nat × Nat × Nat} {hMo hMn hMr hMa hMp hMt hMd hMk hMy hMl hMw hMi hMx hAR1 : Nat} {mc : Int32} {ml : Int32} {ms : Int32} {mm : Int32} {mu : Int64} {mv : Int64} {me : Int32} {md : Nat → Int32} {mk : Nat → Int32} {my : Nat → Int32} {mq : Nat → Int32} {mw : Nat → Int64} {fr1 : Nat → Int32} {x2 : Int32} {x3 : Int32} {out : Int32 × Int64 × Int64 × (Nat → Int32) × (Nat → Int32) × (Nat → Int32) × (Nat → Int32) × (Nat → Int64)} (F : CallFix p m c cX6_shares 5 s args wsX6_shares RX6) (hG : kW D (ty4 cI cJ cZ cQ) qs A s s.heap) (hA : ∀ q : Nat, s.heap.size ≤ q → A q) (hP : va_P D vwCl [(hMo, .inr (6, [.ref hMn, .ref hMr, .ref hMa, .ref hMp, .int mc, .ref hMt, .int ml, .int ms, .ref hMd, .ref hMk, .ref hMy, .int mm, .ref hMl, .ref hMw, .long mu, .long mv, .ref hMi, .ref hMx, .int me])), (hMd, .inl (cI, 20, .inl md)), (hMk, .inl (cI, 40, .inl mk)), (hMy, .inl (cZ, 20, .inl my)), (hMl, .inl (cI, 80, .inl mq)), (hMw, .inl (cJ, 420, .inr (.inl mw))), (hAR1, .inl (cI, 22, .inl fr1))] H) (hD : va_D A [(hMo, .inr (6, [.ref hMn, .ref hMr, .ref hMa, .ref hMp, .int mc, .ref hMt, .int ml, .int ms, .ref hMd, .ref hMk, .ref hMy, .int mm, .ref hMl, .ref hMw, .long mu, .long mv, .ref hMi, .ref hMx, .int me])), (hMd, .inl (cI, 20, .inl md)), (hMk, .inl (cI, 40, .inl mk)), (hMy, .inl (cZ, 20, .inl my)), (hMl, .inl (cI, 80, .inl mq)), (hMw, .inl (cJ, 420, .inr (.inl mw))), (hAR1, .inl (cI, 22, .inl fr1))]) (hS : va_S A s.heap H locs) (hf : f_X6_shares mm mu mv md mk my mq mw fr1 x2 x3 = some out) (hret : ∀ (pc : Nat) (H : Heap) (locs : List Loc) (ls : Array Slot), decode cX6_shares pc = .ok (.return_, 1) → va_P D vwCl [(hMo, .inr (6, [.ref hMn, .ref hMr, .ref hMa, .ref hMp, .int mc, .ref hMt, .int ml, .int ms, .ref hMd, .ref hMk, .ref hMy, .int out.1, .ref hMl, .ref hMw, .long out.2.1, .long out.2.2.1, .ref hMi, .ref hMx, .int me])), (hMd, .inl (cI, 20, .inl out.2.2.2.1)), (hMk, .inl (cI, 40, .inl out.2.2.2.2.1)), (hMy, .inl (cZ, 20, .inl out.2.2.2.2.2.1)), (hMl, .inl (cI, 80, .inl out.2.2.2.2.2.2.1)), (hMw, .inl (cJ, 420, .inr (.inl out.2.2.2.2.2.2.2))), (hAR1, .inl (cI, 22, .inl fr1))] H → va_D A [(hMo, .inr (6, [.ref hMn, .ref hMr, .ref hMa, .ref hMp, .int mc, .ref hMt, .int ml, .int ms, .ref hMd, .ref hMk, .ref hMy, .int out.1, .ref hMl, .ref hMw, .long out.2.1, .long out.2.2.1, .ref hMi, .ref hMx, .int me])), (hMd, .inl (cI, 20, .inl out.2.2.2.1)), (hMk, .inl (cI, 40, .inl out.2.2.2.2.1)), (hMy, .inl (cZ, 20, .inl out.2.2.2.2.2.1)), (hMl, .inl (cI, 80, .inl out.2.2.2.2.2.2.1)), (hMw, .inl (cJ, 420, .inr (.inl out.2.2.2.2.2.2.2))), (hAR1, .inl (cI, 22, .inl fr1))] → va_S A s.heap H locs → W p l e { frames := 5, cells := 0, slots := 0, locals := 118 } s m args below meth c H locs 0 0 Q (F0 m pc ls [])) {ls : Array Slot} (hl : lv_has ls 5 [(0, .ref hMo), (1, .ref hAR1), (2, .int x2), (3, .int x3)]) : W p l e { frames := 5, cells := 0, slots := 0, locals := 118 } s m args below meth c H locs 0 0 Q (F0 m 0 ls []) := by
  have hx := F.1
  have hb := F.2.1
  have hown := F.2.2.2.1
  have hts := F.2.2.2.2
  have hK := hG.1.1
  rw [f_X6_shares] at hf
  refine lv_aload_n hx hb dX6_shares_0 rfl (lv_at hl 1 rfl) ?_
  refine lv_aload_n hx hb dX6_shares_1 rfl (lv_at hl 1 rfl) ?_
  refine lv_iload_n hx hb dX6_shares_2 rfl (lv_at hl 2 rfl) ?_
  obtain ⟨r133, er133, hf⟩ := fp_b hf
  refine RoI.callS (c_X6_portState (l := l) (D := D) (cI := cI) (cJ := cJ) (cZ := cZ) (cQ := cQ) (qs := qs) er133) F (va_cwS 2 hts gX6_shares_X6_portState rfl rfl rfl yd_X6_portState ⟨Nat.le_of_ble_eq_true rfl, Nat.le_of_ble_eq_true rfl⟩) (hG.r hS) hP [6] rfl rfl hl.1 rfl (Nat.le_of_ble_eq_true rfl) dX6_shares_3 ⟨Nat.zero_le _, Nat.zero_le _⟩ ?_
  obtain ⟨r134, er134, hf⟩ := fp_b hf
  refine RoI.callS (c_X6_follows (l := l) (D := D) (cI := cI) (cJ := cJ) (cZ := cZ) (cQ := cQ) (qs := qs) er134) F (va_cwS 2 hts gX6_shares_X6_follows rfl rfl rfl yd_X6_follows ⟨Nat.le_of_ble_eq_true rfl, Nat.le_of_ble_eq_true rfl⟩) (hG.r hS) hP [6] rfl rfl hl.1 rfl (Nat.le_of_ble_eq_true rfl) dX6_shares_6 ⟨Nat.zero_le _, Nat.zero_le _⟩ ?_
  refine lv_istore (lv' := [(4, .int r134), (0, .ref hMo), (1, .ref hAR1), (2, .int x2), (3, .int x3)]) hx hb dX6_shares_9 hl (by decide) rfl (fun ls hl => ?_)
  refine lv_aload_n hx hb dX6_shares_11 rfl (lv_at hl 1 rfl) ?_
  refine lv_iload hx hb dX6_shares_12 (lv_at hl 0 rfl) ?_
  refine lv_iload_n hx hb dX6_shares_14 rfl (lv_at hl 4 rfl) ?_
  obtain ⟨r135, er135, hf⟩ := fp_b hf
  refine RoI.callS (c_X6_isAsked (l := l) (D := D) (cI := cI) (cJ := cJ) (cZ := cZ) (cQ := cQ) (qs := qs) er135) F (va_cwS 2 hts gX6_shares_X6_isAsked rfl rfl rfl yd_X6_isAsked ⟨Nat.le_of_ble_eq_true rfl, Nat.le_of_ble_eq_true rfl⟩) (hG.r hS) hP [] rfl rfl hl.1 rfl (Nat.le_of_ble_eq_true rfl) dX6_shares_15 ⟨Nat.zero_le _, Nat.zero_le _⟩ ?_
  obtain ⟨j136, ej136, hf⟩ := fp_b hf
  have hj137 : ∀ (H : Heap) (locs : List Loc) (ls : Array Slot), va_P D vwCl [(hMo, .inr (6, [.ref hMn, .ref hMr, .ref hMa, .ref hMp, .int mc, .ref hMt, .int ml, .int ms, .ref hMd, .ref hMk, .ref hMy, .int mm, .ref hMl, .ref hMw, .long mu, .long mv, .ref hMi, .ref hMx, .int me])), (hMd, .inl (cI, 20, .inl md)), (hMk, .inl (cI, 40, .inl mk)), (hMy, .inl (cZ, 20, .inl my)), (hMl, .inl (cI, 80, .inl mq)), (hMw, .inl (cJ, 420, .inr (.inl mw))), (hAR1, .inl (cI, 22, .inl fr1))] H → va_D A [(hMo, .inr (6, [.ref hMn, .ref hMr, .ref hMa, .ref hMp, .int mc, .ref hMt, .int ml, .int ms, .ref hMd, .ref hMk, .ref hMy, .int mm, .ref hMl, .ref hMw, .long mu, .long mv, .ref hMi, .ref hMx, .int me])), (hMd, .inl (cI, 20, .inl md)), (hMk, .inl (cI, 40, .inl mk)), (hMy, .inl (cZ, 20, .inl my)), (hMl, .inl (cI, 80, .inl mq)), (hMw, .inl (cJ, 420, .inr (.inl mw))), (hAR1, .inl (cI, 22, .inl fr1))] → va_S A s.heap H locs → lv_has ls 5 [(0, .ref hMo), (1, .ref hAR1), (3, .int x3), (4, .int r134)] → W p l e { frames := 5, cells := 0, slots := 0, locals := 118 } s m args below meth c H locs 0 0 Q (F0 m 26 ls [.long j136, .ref hMo]) := by
    intro H locs ls hP hD hS hl
    refine va_put (D := D) (ci := 6) (v := .long j136) (ty := .long) (C := RX6) (T := TX6) (N := 19) hx hb hts ku_X6_shares_X6 tyX6 tyX6_ok nmX6 hown hK hP hD hS 0 rfl rfl 14 (by decide) (hts _ kw_X6_shares_1) (fun _ h9 => h9) rfl (by decide +kernel) rfl rfl (Nat.le_of_ble_eq_true rfl) dX6_shares_26 (fun H locs hP hD hS => ?_)
    have hP : va_P D vwCl [(hMo, .inr (6, [.ref hMn, .ref hMr, .ref hMa, .ref hMp, .int mc, .ref hMt, .int ml, .int ms, .ref hMd, .ref hMk, .ref hMy, .int mm, .ref hMl, .ref hMw, .long j136, .long mv, .ref hMi, .ref hMx, .int me])), (hMd, .inl (cI, 20, .inl md)), (hMk, .inl (cI, 40, .inl mk)), (hMy, .inl (cZ, 20, .inl my)), (hMl, .inl (cI, 80, .inl mq)), (hMw, .inl (cJ, 420, .inr (.inl mw))), (hAR1, .inl (cI, 22, .inl fr1))] H := hP
    have hD : va_D A [(hMo, .inr (6, [.ref hMn, .ref hMr, .ref hMa, .ref hMp, .int mc, .ref hMt, .int ml, .int ms, .ref hMd, .ref hMk, .ref hMy, .int mm, .ref hMl, .ref hMw, .long j136, .long mv, .ref hMi, .ref hMx, .int me])), (hMd, .inl (cI, 20, .inl md)), (hMk, .inl (cI, 40, .inl mk)), (hMy, .inl (cZ, 20, .inl my)), (hMl, .inl (cI, 80, .inl mq)), (hMw, .inl (cJ, 420, .inr (.inl mw))), (hAR1, .inl (cI, 22, .inl fr1))] := hD
    refine lv_aload_n hx hb dX6_shares_29 rfl (lv_at hl 0 rfl) ?_
    refine lv_lconst (v := 1) hx hb dX6_shares_30 (by decide) ?_
    refine va_put (D := D) (ci := 6) (v := .long (1 : Int64)) (ty := .long) (C := RX6) (T := TX6) (N := 19) hx hb hts ku_X6_shares_X6 tyX6 tyX6_ok nmX6 hown hK hP hD hS 0 rfl rfl 15 (by decide) (hts _ kw_X6_shares_2) (fun _ h9 => h9) rfl (by decide +kernel) rfl rfl (Nat.le_of_ble_eq_true rfl) dX6_shares_31 (fun H locs hP hD hS => ?_)
    have hP : va_P D vwCl [(hMo, .inr (6, [.ref hMn, .ref hMr, .ref hMa, .ref hMp, .int mc, .ref hMt, .int ml, .int ms, .ref hMd, .ref hMk, .ref hMy, .int mm, .ref hMl, .ref hMw, .long j136, .long (1 : Int64), .ref hMi, .ref hMx, .int me])), (hMd, .inl (cI, 20, .inl md)), (hMk, .inl (cI, 40, .inl mk)), (hMy, .inl (cZ, 20, .inl my)), (hMl, .inl (cI, 80, .inl mq)), (hMw, .inl (cJ, 420, .inr (.inl mw))), (hAR1, .inl (cI, 22, .inl fr1))] H := hP
    have hD : va_D A [(hMo, .inr (6, [.ref hMn, .ref hMr, .ref hMa, .ref hMp, .int mc, .ref hMt, .int ml, .int ms, .ref hMd, .ref hMk, .ref hMy, .int mm, .ref hMl, .ref hMw, .long j136, .long (1 : Int64), .ref hMi, .ref hMx, .int me])), (hMd, .inl (cI, 20, .inl md)), (hMk, .inl (cI, 40, .inl mk)), (hMy, .inl (cZ, 20, .inl my)), (hMl, .inl (cI, 80, .inl mq)), (hMw, .inl (cJ, 420, .inr (.inl mw))), (hAR1, .inl (cI, 22, .inl fr1))] := hD
    refine lv_iload hx hb dX6_shares_34 (lv_at hl 3 rfl) ?_
    refine lv_if_ge (tgt := 40) hx hb dX6_shares_36 (by decide) (fun c138 => ?_) (fun c138 => ?_)
    · have hf := fp_t hf c138
      refine lv_aload_n hx hb dX6_shares_40 rfl (lv_at hl 0 rfl) ?_
      refine lv_aload_n hx hb dX6_shares_41 rfl (lv_at hl 1 rfl) ?_
      refine lv_iload hx hb dX6_shares_42 (lv_at hl 3 rfl) ?_
      obtain ⟨r139, er139, hf⟩ := fp_b hf
      refine kc_rwV (w2 := [(hMo, .inr (6, [.ref hMn, .ref hMr, .ref hMa, .ref hMp, .int mc, .ref hMt, .int ml, .int ms, .ref hMd, .ref hMk, .ref hMy, .int r139.1, .ref hMl, .ref hMw, .long j136, .long (1 : Int64), .ref hMi, .ref hMx, .int me])), (hMd, .inl (cI, 20, .inl r139.2.1)), (hMk, .inl (cI, 40, .inl r139.2.2)), (hMy, .inl (cZ, 20, .inl my)), (hMl, .inl (cI, 80, .inl mq)), (hMw, .inl (cJ, 420, .inr (.inl mw))), (hAR1, .inl (cI, 22, .inl fr1))]) (RwV.runV (c_X6_gathers (l := l) (D := D) (cI := cI) (cJ := cJ) (cZ := cZ) (cQ := cQ) (qs := qs) er139) F (cwV 2 hts gX6_shares_X6_gathers rfl rfl rfl yd_X6_gathers ⟨Nat.le_of_ble_eq_true rfl, Nat.le_of_ble_eq_true rfl⟩) hG hP hD hS hA [0, 1, 2, 6] (by decide) rfl 6 rfl rfl rfl hl.1 rfl (Nat.le_of_ble_eq_true rfl) dX6_shares_44 ⟨Nat.zero_le _, Nat.zero_le _⟩) hP hD hS hA [0, 1, 2, 6] [3, 4, 5] [3, 4, 5, 0, 1, 2, 6] rfl (wr := [(hMy, .inl (cZ, 20, .inl my)), (hMl, .inl (cI, 80, .inl mq)), (hMw, .inl (cJ, 420, .inr (.inl mw)))]) rfl (by decide) (by decide) rfl (by decide) (fun H locs hP hD hS => ?_)
      refine lv_aload_n hx hb dX6_shares_47 rfl (lv_at hl 0 rfl) ?_
      refine lv_iload_n hx hb dX6_shares_48 rfl (lv_at hl 2 rfl) ?_
      obtain ⟨r140, er140, hf⟩ := fp_b hf
      refine kc_rwV (w2 := [(hMo, .inr (6, [.ref hMn, .ref hMr, .ref hMa, .ref hMp, .int mc, .ref hMt, .int ml, .int ms, .ref hMd, .ref hMk, .ref hMy, .int r139.1, .ref hMl, .ref hMw, .long j136, .long (1 : Int64), .ref hMi, .ref hMx, .int me])), (hMd, .inl (cI, 20, .inl r139.2.1)), (hMk, .inl (cI, 40, .inl r139.2.2)), (hMy, .inl (cZ, 20, .inl r140.1)), (hMl, .inl (cI, 80, .inl r140.2)), (hMw, .inl (cJ, 420, .inr (.inl mw))), (hAR1, .inl (cI, 22, .inl fr1))]) (RwV.runV (c_X6_findsMay (l := l) (D := D) (cI := cI) (cJ := cJ) (cZ := cZ) (cQ := cQ) (qs := qs) er140) F (cwV 1 hts gX6_shares_X6_findsMay rfl rfl rfl yd_X6_findsMay ⟨Nat.le_of_ble_eq_true rfl, Nat.le_of_ble_eq_true rfl⟩) hG hP hD hS hA [0, 1, 2, 3, 4] (by decide) rfl 6 rfl rfl rfl hl.1 rfl (Nat.le_of_ble_eq_true rfl) dX6_shares_49 ⟨Nat.zero_le _, Nat.zero_le _⟩) hP hD hS hA [0, 1, 2, 3, 4] [5, 6] [2, 3, 4, 5, 6, 0, 1] rfl (wr := [(hMw, .inl (cJ, 420, .inr (.inl mw))), (hAR1, .inl (cI, 22, .inl fr1))]) rfl (by decide) (by decide) rfl (by decide) (fun H locs hP hD hS => ?_)
      refine lv_aload_n hx hb dX6_shares_52 rfl (lv_at hl 0 rfl) ?_
      refine va_get (D := D) (ci := 6) (v := .ref hMy) (C := RX6) (T := TX6) (N := 19) hx hb hts ku_X6_shares_X6 hown hK hP 0 rfl rfl 10 (by decide) (hts _ kw_X6_shares_3) (fun _ h9 => h9) rfl dX6_shares_53 ?_
      refine lv_iconst (v := (0 : Int32)) hx hb dX6_shares_56 (by decide) ?_
      refine va_zald hx hb hK hP 3 2 rfl rfl (show aix (0 : Int32) 20 by decide) dX6_shares_57 ?_
      refine lv_if_eq (tgt := 74) hx hb dX6_shares_58 (by decide) (fun c141 => ?_) (fun c141 => ?_)
      · have hf := fp_t hf c141
        obtain rfl := Option.some.inj hf
        exact hret _ _ _ _ dX6_shares_74 hP hD hS
      · have hf := fp_f hf c141
        refine lv_aload_n hx hb dX6_shares_61 rfl (lv_at hl 0 rfl) ?_
        refine lv_aload_n hx hb dX6_shares_62 rfl (lv_at hl 0 rfl) ?_
        refine lv_iload_n hx hb dX6_shares_63 rfl (lv_at hl 2 rfl) ?_
        obtain ⟨r142, er142, hf⟩ := fp_b hf
        refine kc_rwI (w2 := [(hMo, .inr (6, [.ref hMn, .ref hMr, .ref hMa, .ref hMp, .int mc, .ref hMt, .int ml, .int ms, .ref hMd, .ref hMk, .ref hMy, .int r139.1, .ref hMl, .ref hMw, .long j136, .long (1 : Int64), .ref hMi, .ref hMx, .int me])), (hMd, .inl (cI, 20, .inl r139.2.1)), (hMk, .inl (cI, 40, .inl r139.2.2)), (hMy, .inl (cZ, 20, .inl r140.1)), (hMl, .inl (cI, 80, .inl r142.2.1)), (hMw, .inl (cJ, 420, .inr (.inl r142.2.2))), (hAR1, .inl (cI, 22, .inl fr1))]) (RwI.runV (c_X6_laysRows (l := l) (D := D) (cI := cI) (cJ := cJ) (cZ := cZ) (cQ := cQ) (qs := qs) er142) F (cwV 1 hts gX6_shares_X6_laysRows rfl rfl rfl yd_X6_laysRows ⟨Nat.le_of_ble_eq_true rfl, Nat.le_of_ble_eq_true rfl⟩) hG hP hD hS hA [0, 1, 2, 3, 4, 5] (by decide) rfl 6 rfl rfl rfl hl.1 rfl (Nat.le_of_ble_eq_true rfl) dX6_shares_64 ⟨Nat.zero_le _, Nat.zero_le _⟩) hP hD hS hA [0, 1, 2, 3, 4, 5] [6] [1, 2, 3, 4, 5, 6, 0] rfl (wr := [(hAR1, .inl (cI, 22, .inl fr1))]) rfl (by decide) (by decide) rfl (by decide) (fun H locs hP hD hS => ?_)
        obtain ⟨r143, er143, hf⟩ := fp_b hf
        refine kc_rwV (w2 := [(hMo, .inr (6, [.ref hMn, .ref hMr, .ref hMa, .ref hMp, .int mc, .ref hMt, .int ml, .int ms, .ref hMd, .ref hMk, .ref hMy, .int r139.1, .ref hMl, .ref hMw, .long r143.1, .long r143.2.1, .ref hMi, .ref hMx, .int me])), (hMd, .inl (cI, 20, .inl r139.2.1)), (hMk, .inl (cI, 40, .inl r139.2.2)), (hMy, .inl (cZ, 20, .inl r140.1)), (hMl, .inl (cI, 80, .inl r142.2.1)), (hMw, .inl (cJ, 420, .inr (.inl r143.2.2))), (hAR1, .inl (cI, 22, .inl fr1))]) (RwV.runV (c_X6_solves (l := l) (D := D) (cI := cI) (cJ := cJ) (cZ := cZ) (cQ := cQ) (qs := qs) er143) F (cwV 1 hts gX6_shares_X6_solves rfl rfl rfl yd_X6_solves ⟨Nat.le_of_ble_eq_true rfl, Nat.le_of_ble_eq_true rfl⟩) hG hP hD hS hA [0, 5] (by decide) rfl 6 rfl rfl rfl hl.1 rfl (Nat.le_of_ble_eq_true rfl) dX6_shares_67 ⟨Nat.zero_le _, Nat.zero_le _⟩) hP hD hS hA [0, 5] [1, 2, 3, 4, 6] [5, 0, 1, 2, 3, 6, 4] rfl (wr := [(hMd, .inl (cI, 20, .inl r139.2.1)), (hMk, .inl (cI, 40, .inl r139.2.2)), (hMy, .inl (cZ, 20, .inl r140.1)), (hMl, .inl (cI, 80, .inl r142.2.1)), (hAR1, .inl (cI, 22, .inl fr1))]) rfl (by decide) (by decide) rfl (by decide) (fun H locs hP hD hS => ?_)
        refine lv_aload_n hx hb dX6_shares_70 rfl (lv_at hl 0 rfl) ?_
        obtain ⟨r144, er144, hf⟩ := fp_b hf
        refine kc_rwV (w2 := [(hMo, .inr (6, [.ref hMn, .ref hMr, .ref hMa, .ref hMp, .int mc, .ref hMt, .int ml, .int ms, .ref hMd, .ref hMk, .ref hMy, .int r139.1, .ref hMl, .ref hMw, .long r144.1, .long r144.2, .ref hMi, .ref hMx, .int me])), (hMd, .inl (cI, 20, .inl r139.2.1)), (hMk, .inl (cI, 40, .inl r139.2.2)), (hMy, .inl (cZ, 20, .inl r140.1)), (hMl, .inl (cI, 80, .inl r142.2.1)), (hMw, .inl (cJ, 420, .inr (.inl r143.2.2))), (hAR1, .inl (cI, 22, .inl fr1))]) (RwV.runV (c_X6_lowers (l := l) (D := D) (cI := cI) (cJ := cJ) (cZ := cZ) (cQ := cQ) (qs := qs) er144) F (cwV 0 hts gX6_shares_X6_lowers rfl rfl rfl yd_X6_lowers ⟨Nat.le_of_ble_eq_true rfl, Nat.le_of_ble_eq_true rfl⟩) hG hP hD hS hA [0] (by decide) rfl 6 rfl rfl rfl hl.1 rfl (Nat.le_of_ble_eq_true rfl) dX6_shares_71 ⟨Nat.zero_le _, Nat.zero_le _⟩) hP hD hS hA [0] [1, 2, 3, 4, 5, 6] [6, 0, 1, 2, 3, 4, 5] rfl (wr := [(hMd, .inl (cI, 20, .inl r139.2.1)), (hMk, .inl (cI, 40, .inl r139.2.2)), (hMy, .inl (cZ, 20, .inl r140.1)), (hMl, .inl (cI, 80, .inl r142.2.1)), (hMw, .inl (cJ, 420, .inr (.inl r143.2.2))), (hAR1, .inl (cI, 22, .inl fr1))]) rfl (by decide) (by decide) rfl (by decide) (fun H locs hP hD hS => ?_)
        obtain rfl := Option.some.inj hf
        exact hret _ _ _ _ dX6_shares_74 hP hD hS
    · have hf := fp_f hf c138
      obtain rfl := Option.some.inj hf
      exact hret _ _ _ _ dX6_shares_39 hP hD hS
  replace hf := ej136
  refine lv_if_eq (tgt := 25) hx hb dX6_shares_18 (by decide) (fun c145 => ?_) (fun c145 => ?_)
  · have hf := fp_t hf c145
    refine lv_lconst (v := 0) hx hb dX6_shares_25 (by decide) ?_
    obtain rfl := Option.some.inj hf
    exact hj137 _ _ _ hP hD hS (lv_sub hl [1, 2, 4, 0] rfl)
  · have hf := fp_f hf c145
    refine lv_lconst (v := 1) hx hb dX6_shares_21 (by decide) ?_
    refine lv_goto (tgt := 26) hx hb dX6_shares_22 (by decide) ?_
    obtain rfl := Option.some.inj hf
    exact hj137 _ _ _ hP hD hS (lv_sub hl [1, 2, 4, 0] rfl)
set_option maxRecDepth 100000 in
theorem c_X6_shares {l : Launch} {D : va_G} {cI cJ cZ cQ : ClassId} {qs : Nat × Nat × Nat} {hMo hMn hMr hMa hMp hMt hMd hMk hMy hMl hMw hMi hMx hAR1 : Nat} {mc : Int32} {ml : Int32} {ms : Int32} {mm : Int32} {mu : Int64} {mv : Int64} {me : Int32} {md : Nat → Int32} {mk : Nat → Int32} {my : Nat → Int32} {mq : Nat → Int32} {mw : Nat → Int64} {fr1 : Nat → Int32} {x2 : Int32} {x3 : Int32} {out : Int32 × Int64 × Int64 × (Nat → Int32) × (Nat → Int32) × (Nat → Int32) × (Nat → Int32) × (Nat → Int64)} (hf : f_X6_shares mm mu mv md mk my mq mw fr1 x2 x3 = some out) : RwV l yX6_shares wsX6_shares { frames := 5, cells := 0, slots := 0, locals := 118 } D (ty4 cI cJ cZ cQ) qs [.ref hMo, .ref hAR1, .int x2, .int x3] [(hMo, .inr (6, [.ref hMn, .ref hMr, .ref hMa, .ref hMp, .int mc, .ref hMt, .int ml, .int ms, .ref hMd, .ref hMk, .ref hMy, .int mm, .ref hMl, .ref hMw, .long mu, .long mv, .ref hMi, .ref hMx, .int me])), (hMd, .inl (cI, 20, .inl md)), (hMk, .inl (cI, 40, .inl mk)), (hMy, .inl (cZ, 20, .inl my)), (hMl, .inl (cI, 80, .inl mq)), (hMw, .inl (cJ, 420, .inr (.inl mw))), (hAR1, .inl (cI, 22, .inl fr1))] [(hMo, .inr (6, [.ref hMn, .ref hMr, .ref hMa, .ref hMp, .int mc, .ref hMt, .int ml, .int ms, .ref hMd, .ref hMk, .ref hMy, .int out.1, .ref hMl, .ref hMw, .long out.2.1, .long out.2.2.1, .ref hMi, .ref hMx, .int me])), (hMd, .inl (cI, 20, .inl out.2.2.2.1)), (hMk, .inl (cI, 40, .inl out.2.2.2.2.1)), (hMy, .inl (cZ, 20, .inl out.2.2.2.2.2.1)), (hMl, .inl (cI, 80, .inl out.2.2.2.2.2.2.1)), (hMw, .inl (cJ, 420, .inr (.inl out.2.2.2.2.2.2.2))), (hAR1, .inl (cI, 22, .inl fr1))] :=
  RwV.of (own := RX6) (by decide +kernel) rfl rfl (Nat.le_of_ble_eq_true rfl) (fun F hG hA hP hD hS hret ls hl => b_X6_shares F hG hA hP hD hS hf hret hl)
-- method X6_share
theorem yd_X6_share : yX6_share.cls = RX6 ∧ yX6_share.cls ≠ "java/lang/invoke/MethodHandle" ∧ yX6_share.cls ≠ "java/lang/invoke/VarHandle" ∧ (parseMethodDescriptor yX6_share.desc).map (fun d => d.parameters.length) = some 3 := by decide +kernel
theorem ku_X6_share_X6 : ∀ w ∈ u_ws RX6 TX6 19, w ∈ wsX6_share := by decide +kernel
theorem kw_X6_share_1 : Cond.fieldLink RX6 7 "MirrorSharesModel" "now" "[I" ∈ wsX6_share := List.mem_of_getElem? (i := 1) rfl
theorem kw_X6_share_3 : Cond.fieldLink RX6 150 "MirrorSharesModel" "below" "J" ∈ wsX6_share := List.mem_of_getElem? (i := 3) rfl
theorem kw_X6_share_2 : Cond.fieldLink RX6 146 "MirrorSharesModel" "above" "J" ∈ wsX6_share := List.mem_of_getElem? (i := 2) rfl
def f_X6_share (mm : Int32) (mu : Int64) (mv : Int64) (mn : Nat → Int32) (md : Nat → Int32) (mk : Nat → Int32) (my : Nat → Int32) (mq : Nat → Int32) (mw : Nat → Int64) (x1 : Int32) (x2 : Int32) (x3 : Int32) : Option (Int32 × Int32 × Int64 × Int64 × (Nat → Int32) × (Nat → Int32) × (Nat → Int32) × (Nat → Int32) × (Nat → Int64)) :=
  Option.bind (f_X6_isPort mn x1) (fun r146 => (if r146 = 0 then some ((-1 : Int32), mm, mu, mv, md, mk, my, mq, mw) else Option.bind (f_X6_isPort mn x2) (fun r148 => (if r148 = 0 then some ((-1 : Int32), mm, mu, mv, md, mk, my, mq, mw) else Option.bind (f_X6_in x3 (0 : Int32) (1 : Int32)) (fun r150 => (if r150 = 0 then some ((-1 : Int32), mm, mu, mv, md, mk, my, mq, mw) else Option.bind (f_X6_shares mm mu mv md mk my mq mw mn x1 x2) (fun r152 => (if x3 = 0 then some ((Int64.toInt32 r152.2.1), r152.1, r152.2.1, r152.2.2.1, r152.2.2.2.1, r152.2.2.2.2.1, r152.2.2.2.2.2.1, r152.2.2.2.2.2.2.1, r152.2.2.2.2.2.2.2) else some ((Int64.toInt32 r152.2.2.1), r152.1, r152.2.1, r152.2.2.1, r152.2.2.2.1, r152.2.2.2.2.1, r152.2.2.2.2.2.1, r152.2.2.2.2.2.2.1, r152.2.2.2.2.2.2.2)))))))))
set_option maxHeartbeats 4000000 in
set_option maxRecDepth 100000 in
theorem b_X6_share {p : Program} {l : Launch} {e : Env} {s : State} {m : MethodId} {args : Array Value} {below : List Frame} {meth : Method} {c : Code} {Q : State → Prop} {A : Nat → Prop} {H : Heap} {locs : List Loc} {D : va_G} {cI cJ cZ cQ : ClassId} {qs : Nat × Nat × Nat} {hMo hMn hMr hMa hMp hMt hMd hMk hMy hMl hMw hMi hMx : Nat} {mc : Int32} {ml : Int32} {ms : Int32} {mm : Int32} {mu : Int64} {mv : Int64} {me : Int32} {mn : Nat → Int32} {md : Nat → Int32} {mk : Nat → Int32} {my : Nat → Int32} {mq : Nat → Int32} {mw : Nat → Int64} {x1 : Int32} {x2 : Int32} {x3 : Int32} {out : Int32 × Int32 × Int64 × Int64 × (Nat → Int32) × (Nat → Int32) × (Nat → Int32) × (Nat → Int32) × (Nat → Int64)} (F : CallFix p m c cX6_share 4 s args wsX6_share RX6) (hG : kW D (ty4 cI cJ cZ cQ) qs A s s.heap) (hA : ∀ q : Nat, s.heap.size ≤ q → A q) (hP : va_P D vwCl [(hMo, .inr (6, [.ref hMn, .ref hMr, .ref hMa, .ref hMp, .int mc, .ref hMt, .int ml, .int ms, .ref hMd, .ref hMk, .ref hMy, .int mm, .ref hMl, .ref hMw, .long mu, .long mv, .ref hMi, .ref hMx, .int me])), (hMn, .inl (cI, 22, .inl mn)), (hMd, .inl (cI, 20, .inl md)), (hMk, .inl (cI, 40, .inl mk)), (hMy, .inl (cZ, 20, .inl my)), (hMl, .inl (cI, 80, .inl mq)), (hMw, .inl (cJ, 420, .inr (.inl mw)))] H) (hD : va_D A [(hMo, .inr (6, [.ref hMn, .ref hMr, .ref hMa, .ref hMp, .int mc, .ref hMt, .int ml, .int ms, .ref hMd, .ref hMk, .ref hMy, .int mm, .ref hMl, .ref hMw, .long mu, .long mv, .ref hMi, .ref hMx, .int me])), (hMn, .inl (cI, 22, .inl mn)), (hMd, .inl (cI, 20, .inl md)), (hMk, .inl (cI, 40, .inl mk)), (hMy, .inl (cZ, 20, .inl my)), (hMl, .inl (cI, 80, .inl mq)), (hMw, .inl (cJ, 420, .inr (.inl mw)))]) (hS : va_S A s.heap H locs) (hf : f_X6_share mm mu mv mn md mk my mq mw x1 x2 x3 = some out) (hret : ∀ (pc : Nat) (H : Heap) (locs : List Loc) (ls : Array Slot), decode cX6_share pc = .ok (.ireturn, 1) → narrow .int (.int out.1) = .int out.1 → va_P D vwCl [(hMo, .inr (6, [.ref hMn, .ref hMr, .ref hMa, .ref hMp, .int mc, .ref hMt, .int ml, .int ms, .ref hMd, .ref hMk, .ref hMy, .int out.2.1, .ref hMl, .ref hMw, .long out.2.2.1, .long out.2.2.2.1, .ref hMi, .ref hMx, .int me])), (hMn, .inl (cI, 22, .inl mn)), (hMd, .inl (cI, 20, .inl out.2.2.2.2.1)), (hMk, .inl (cI, 40, .inl out.2.2.2.2.2.1)), (hMy, .inl (cZ, 20, .inl out.2.2.2.2.2.2.1)), (hMl, .inl (cI, 80, .inl out.2.2.2.2.2.2.2.1)), (hMw, .inl (cJ, 420, .inr (.inl out.2.2.2.2.2.2.2.2)))] H → va_D A [(hMo, .inr (6, [.ref hMn, .ref hMr, .ref hMa, .ref hMp, .int mc, .ref hMt, .int ml, .int ms, .ref hMd, .ref hMk, .ref hMy, .int out.2.1, .ref hMl, .ref hMw, .long out.2.2.1, .long out.2.2.2.1, .ref hMi, .ref hMx, .int me])), (hMn, .inl (cI, 22, .inl mn)), (hMd, .inl (cI, 20, .inl out.2.2.2.2.1)), (hMk, .inl (cI, 40, .inl out.2.2.2.2.2.1)), (hMy, .inl (cZ, 20, .inl out.2.2.2.2.2.2.1)), (hMl, .inl (cI, 80, .inl out.2.2.2.2.2.2.2.1)), (hMw, .inl (cJ, 420, .inr (.inl out.2.2.2.2.2.2.2.2)))] → va_S A s.heap H locs → W p l e { frames := 6, cells := 0, slots := 0, locals := 142 } s m args below meth c H locs 0 0 Q (F0 m pc ls [.int out.1])) {ls : Array Slot} (hl : lv_has ls 4 [(0, .ref hMo), (1, .int x1), (2, .int x2), (3, .int x3)]) : W p l e { frames := 6, cells := 0, slots := 0, locals := 142 } s m args below meth c H locs 0 0 Q (F0 m 0 ls []) := by
  have hx := F.1
  have hb := F.2.1
  have hown := F.2.2.2.1
  have hts := F.2.2.2.2
  have hK := hG.1.1
  rw [f_X6_share] at hf
  refine lv_aload_n hx hb dX6_share_0 rfl (lv_at hl 0 rfl) ?_
  refine lv_iload_n hx hb dX6_share_1 rfl (lv_at hl 1 rfl) ?_
  obtain ⟨r146, er146, hf⟩ := fp_b hf
  refine RoI.callV (c_X6_isPort (l := l) (D := D) (cI := cI) (cJ := cJ) (cZ := cZ) (cQ := cQ) (qs := qs) er146) F (cwV 1 hts gX6_share_X6_isPort rfl rfl rfl yd_X6_isPort ⟨Nat.le_of_ble_eq_true rfl, Nat.le_of_ble_eq_true rfl⟩) (hG.r hS) hP [0, 1] rfl 6 rfl rfl rfl hl.1 rfl (Nat.le_of_ble_eq_true rfl) dX6_share_2 ⟨Nat.zero_le _, Nat.zero_le _⟩ ?_
  refine lv_if_eq (tgt := 25) hx hb dX6_share_5 (by decide) (fun c147 => ?_) (fun c147 => ?_)
  · have hf := fp_t hf c147
    refine lv_iconst (v := (-1 : Int32)) hx hb dX6_share_25 (by decide) ?_
    obtain rfl := Option.some.inj hf
    exact hret _ _ _ _ dX6_share_26 (vp_nar_int _) hP hD hS
  · have hf := fp_f hf c147
    refine lv_aload_n hx hb dX6_share_8 rfl (lv_at hl 0 rfl) ?_
    refine lv_iload_n hx hb dX6_share_9 rfl (lv_at hl 2 rfl) ?_
    obtain ⟨r148, er148, hf⟩ := fp_b hf
    refine RoI.callV (c_X6_isPort (l := l) (D := D) (cI := cI) (cJ := cJ) (cZ := cZ) (cQ := cQ) (qs := qs) er148) F (cwV 1 hts gX6_share_X6_isPort rfl rfl rfl yd_X6_isPort ⟨Nat.le_of_ble_eq_true rfl, Nat.le_of_ble_eq_true rfl⟩) (hG.r hS) hP [0, 1] rfl 6 rfl rfl rfl hl.1 rfl (Nat.le_of_ble_eq_true rfl) dX6_share_10 ⟨Nat.zero_le _, Nat.zero_le _⟩ ?_
    refine lv_if_eq (tgt := 25) hx hb dX6_share_13 (by decide) (fun c149 => ?_) (fun c149 => ?_)
    · have hf := fp_t hf c149
      refine lv_iconst (v := (-1 : Int32)) hx hb dX6_share_25 (by decide) ?_
      obtain rfl := Option.some.inj hf
      exact hret _ _ _ _ dX6_share_26 (vp_nar_int _) hP hD hS
    · have hf := fp_f hf c149
      refine lv_iload_n hx hb dX6_share_16 rfl (lv_at hl 3 rfl) ?_
      refine lv_iconst (v := (0 : Int32)) hx hb dX6_share_17 (by decide) ?_
      refine lv_iconst (v := (1 : Int32)) hx hb dX6_share_18 (by decide) ?_
      obtain ⟨r150, er150, hf⟩ := fp_b hf
      refine RoI.callS (c_X6_in (l := l) (D := D) (cI := cI) (cJ := cJ) (cZ := cZ) (cQ := cQ) (qs := qs) er150) F (va_cwS 3 hts gX6_share_X6_in rfl rfl rfl yd_X6_in ⟨Nat.le_of_ble_eq_true rfl, Nat.le_of_ble_eq_true rfl⟩) (hG.r hS) hP [] rfl rfl hl.1 rfl (Nat.le_of_ble_eq_true rfl) dX6_share_19 ⟨Nat.zero_le _, Nat.zero_le _⟩ ?_
      refine lv_if_ne (tgt := 27) hx hb dX6_share_22 (by decide) (fun c151 => ?_) (fun c151 => ?_)
      · have hf := fp_f hf c151
        refine lv_aload_n hx hb dX6_share_27 rfl (lv_at hl 0 rfl) ?_
        refine lv_aload_n hx hb dX6_share_28 rfl (lv_at hl 0 rfl) ?_
        refine va_get (D := D) (ci := 6) (v := .ref hMn) (C := RX6) (T := TX6) (N := 19) hx hb hts ku_X6_share_X6 hown hK hP 0 rfl rfl 0 (by decide) (hts _ kw_X6_share_1) (fun _ h9 => h9) rfl dX6_share_29 ?_
        refine lv_iload_n hx hb dX6_share_32 rfl (lv_at hl 1 rfl) ?_
        refine lv_iload_n hx hb dX6_share_33 rfl (lv_at hl 2 rfl) ?_
        obtain ⟨r152, er152, hf⟩ := fp_b hf
        refine kc_rwV (w2 := [(hMo, .inr (6, [.ref hMn, .ref hMr, .ref hMa, .ref hMp, .int mc, .ref hMt, .int ml, .int ms, .ref hMd, .ref hMk, .ref hMy, .int r152.1, .ref hMl, .ref hMw, .long r152.2.1, .long r152.2.2.1, .ref hMi, .ref hMx, .int me])), (hMn, .inl (cI, 22, .inl mn)), (hMd, .inl (cI, 20, .inl r152.2.2.2.1)), (hMk, .inl (cI, 40, .inl r152.2.2.2.2.1)), (hMy, .inl (cZ, 20, .inl r152.2.2.2.2.2.1)), (hMl, .inl (cI, 80, .inl r152.2.2.2.2.2.2.1)), (hMw, .inl (cJ, 420, .inr (.inl r152.2.2.2.2.2.2.2)))]) (RwV.runV (c_X6_shares (l := l) (D := D) (cI := cI) (cJ := cJ) (cZ := cZ) (cQ := cQ) (qs := qs) er152) F (cwV 3 hts gX6_share_X6_shares rfl rfl rfl yd_X6_shares ⟨Nat.le_of_ble_eq_true rfl, Nat.le_of_ble_eq_true rfl⟩) hG hP hD hS hA [0, 2, 3, 4, 5, 6, 1] (by decide) rfl 6 rfl rfl rfl hl.1 rfl (Nat.le_of_ble_eq_true rfl) dX6_share_34 ⟨Nat.zero_le _, Nat.zero_le _⟩) hP hD hS hA [0, 2, 3, 4, 5, 6, 1] [] [0, 6, 1, 2, 3, 4, 5] rfl (wr := []) rfl (by decide) (by decide) rfl (by decide) (fun H locs hP hD hS => ?_)
        refine lv_iload_n hx hb dX6_share_37 rfl (lv_at hl 3 rfl) ?_
        refine lv_if_ne (tgt := 48) hx hb dX6_share_38 (by decide) (fun c153 => ?_) (fun c153 => ?_)
        · have hf := fp_f hf c153
          refine lv_aload_n hx hb dX6_share_48 rfl (lv_at hl 0 rfl) ?_
          refine va_get (D := D) (ci := 6) (v := .long r152.2.2.1) (C := RX6) (T := TX6) (N := 19) hx hb hts ku_X6_share_X6 hown hK hP 0 rfl rfl 15 (by decide) (hts _ kw_X6_share_3) (fun _ h9 => h9) rfl dX6_share_49 ?_
          refine lv_l2i (v := (Int64.toInt32 r152.2.2.1)) hx hb dX6_share_52 rfl ?_
          obtain rfl := Option.some.inj hf
          exact hret _ _ _ _ dX6_share_53 (vp_nar_int _) hP hD hS
        · have hf := fp_t hf c153
          refine lv_aload_n hx hb dX6_share_41 rfl (lv_at hl 0 rfl) ?_
          refine va_get (D := D) (ci := 6) (v := .long r152.2.1) (C := RX6) (T := TX6) (N := 19) hx hb hts ku_X6_share_X6 hown hK hP 0 rfl rfl 14 (by decide) (hts _ kw_X6_share_2) (fun _ h9 => h9) rfl dX6_share_42 ?_
          refine lv_goto (tgt := 52) hx hb dX6_share_45 (by decide) ?_
          refine lv_l2i (v := (Int64.toInt32 r152.2.1)) hx hb dX6_share_52 rfl ?_
          obtain rfl := Option.some.inj hf
          exact hret _ _ _ _ dX6_share_53 (vp_nar_int _) hP hD hS
      · have hf := fp_t hf c151
        refine lv_iconst (v := (-1 : Int32)) hx hb dX6_share_25 (by decide) ?_
        obtain rfl := Option.some.inj hf
        exact hret _ _ _ _ dX6_share_26 (vp_nar_int _) hP hD hS
set_option maxRecDepth 100000 in
theorem c_X6_share {l : Launch} {D : va_G} {cI cJ cZ cQ : ClassId} {qs : Nat × Nat × Nat} {hMo hMn hMr hMa hMp hMt hMd hMk hMy hMl hMw hMi hMx : Nat} {mc : Int32} {ml : Int32} {ms : Int32} {mm : Int32} {mu : Int64} {mv : Int64} {me : Int32} {mn : Nat → Int32} {md : Nat → Int32} {mk : Nat → Int32} {my : Nat → Int32} {mq : Nat → Int32} {mw : Nat → Int64} {x1 : Int32} {x2 : Int32} {x3 : Int32} {out : Int32 × Int32 × Int64 × Int64 × (Nat → Int32) × (Nat → Int32) × (Nat → Int32) × (Nat → Int32) × (Nat → Int64)} (hf : f_X6_share mm mu mv mn md mk my mq mw x1 x2 x3 = some out) : RwI l yX6_share wsX6_share { frames := 6, cells := 0, slots := 0, locals := 142 } D (ty4 cI cJ cZ cQ) qs [.ref hMo, .int x1, .int x2, .int x3] [(hMo, .inr (6, [.ref hMn, .ref hMr, .ref hMa, .ref hMp, .int mc, .ref hMt, .int ml, .int ms, .ref hMd, .ref hMk, .ref hMy, .int mm, .ref hMl, .ref hMw, .long mu, .long mv, .ref hMi, .ref hMx, .int me])), (hMn, .inl (cI, 22, .inl mn)), (hMd, .inl (cI, 20, .inl md)), (hMk, .inl (cI, 40, .inl mk)), (hMy, .inl (cZ, 20, .inl my)), (hMl, .inl (cI, 80, .inl mq)), (hMw, .inl (cJ, 420, .inr (.inl mw)))] [(hMo, .inr (6, [.ref hMn, .ref hMr, .ref hMa, .ref hMp, .int mc, .ref hMt, .int ml, .int ms, .ref hMd, .ref hMk, .ref hMy, .int out.2.1, .ref hMl, .ref hMw, .long out.2.2.1, .long out.2.2.2.1, .ref hMi, .ref hMx, .int me])), (hMn, .inl (cI, 22, .inl mn)), (hMd, .inl (cI, 20, .inl out.2.2.2.2.1)), (hMk, .inl (cI, 40, .inl out.2.2.2.2.2.1)), (hMy, .inl (cZ, 20, .inl out.2.2.2.2.2.2.1)), (hMl, .inl (cI, 80, .inl out.2.2.2.2.2.2.2.1)), (hMw, .inl (cJ, 420, .inr (.inl out.2.2.2.2.2.2.2.2)))] out.1 :=
  RwI.of (own := RX6) (by decide +kernel) rfl rfl (Nat.le_of_ble_eq_true rfl) (fun F hG hA hP hD hS hret ls hl => b_X6_share F hG hA hP hD hS hf hret hl)
-- method X6_lostOf
theorem yd_X6_lostOf : yX6_lostOf.cls = RX6 ∧ yX6_lostOf.cls ≠ "java/lang/invoke/MethodHandle" ∧ yX6_lostOf.cls ≠ "java/lang/invoke/VarHandle" ∧ (parseMethodDescriptor yX6_lostOf.desc).map (fun d => d.parameters.length) = some 2 := by decide +kernel
theorem ku_X6_lostOf_X6 : ∀ w ∈ u_ws RX6 TX6 19, w ∈ wsX6_lostOf := by decide +kernel
theorem kw_X6_lostOf_1 : Cond.fieldLink RX6 7 "MirrorSharesModel" "now" "[I" ∈ wsX6_lostOf := List.mem_of_getElem? (i := 1) rfl
theorem kw_X6_lostOf_2 : Cond.fieldLink RX6 150 "MirrorSharesModel" "below" "J" ∈ wsX6_lostOf := List.mem_of_getElem? (i := 2) rfl
theorem kw_X6_lostOf_3 : Cond.fieldLink RX6 146 "MirrorSharesModel" "above" "J" ∈ wsX6_lostOf := List.mem_of_getElem? (i := 3) rfl
def f_X6_lostOf (mm : Int32) (mu : Int64) (mv : Int64) (mn : Nat → Int32) (md : Nat → Int32) (mk : Nat → Int32) (my : Nat → Int32) (mq : Nat → Int32) (mw : Nat → Int64) (x1 : Int32) (x2 : Int32) : Option (Int64 × Int32 × Int64 × Int64 × (Nat → Int32) × (Nat → Int32) × (Nat → Int32) × (Nat → Int32) × (Nat → Int64)) :=
  Option.bind (if (2 : Int32) ≤ x2 then some (-2 : Int32) else some (-1 : Int32)) (fun j154 => Option.bind (f_X6_shares mm mu mv md mk my mq mw mn x1 j154) (fun r156 => (if (x2 - ((x2 / (2 : Int32)) * (2 : Int32))) = (1 : Int32) then some (r156.2.2.1, r156.1, r156.2.1, r156.2.2.1, r156.2.2.2.1, r156.2.2.2.2.1, r156.2.2.2.2.2.1, r156.2.2.2.2.2.2.1, r156.2.2.2.2.2.2.2) else (if x2 = 0 then some (r156.2.1, r156.1, r156.2.1, r156.2.2.1, r156.2.2.2.1, r156.2.2.2.2.1, r156.2.2.2.2.2.1, r156.2.2.2.2.2.2.1, r156.2.2.2.2.2.2.2) else some ((r156.2.2.1 - r156.2.1), r156.1, r156.2.1, r156.2.2.1, r156.2.2.2.1, r156.2.2.2.2.1, r156.2.2.2.2.2.1, r156.2.2.2.2.2.2.1, r156.2.2.2.2.2.2.2)))))
set_option maxHeartbeats 4000000 in
set_option maxRecDepth 100000 in
theorem b_X6_lostOf {p : Program} {l : Launch} {e : Env} {s : State} {m : MethodId} {args : Array Value} {below : List Frame} {meth : Method} {c : Code} {Q : State → Prop} {A : Nat → Prop} {H : Heap} {locs : List Loc} {D : va_G} {cI cJ cZ cQ : ClassId} {qs : Nat × Nat × Nat} {hMo hMn hMr hMa hMp hMt hMd hMk hMy hMl hMw hMi hMx : Nat} {mc : Int32} {ml : Int32} {ms : Int32} {mm : Int32} {mu : Int64} {mv : Int64} {me : Int32} {mn : Nat → Int32} {md : Nat → Int32} {mk : Nat → Int32} {my : Nat → Int32} {mq : Nat → Int32} {mw : Nat → Int64} {x1 : Int32} {x2 : Int32} {out : Int64 × Int32 × Int64 × Int64 × (Nat → Int32) × (Nat → Int32) × (Nat → Int32) × (Nat → Int32) × (Nat → Int64)} (F : CallFix p m c cX6_lostOf 3 s args wsX6_lostOf RX6) (hG : kW D (ty4 cI cJ cZ cQ) qs A s s.heap) (hA : ∀ q : Nat, s.heap.size ≤ q → A q) (hP : va_P D vwCl [(hMo, .inr (6, [.ref hMn, .ref hMr, .ref hMa, .ref hMp, .int mc, .ref hMt, .int ml, .int ms, .ref hMd, .ref hMk, .ref hMy, .int mm, .ref hMl, .ref hMw, .long mu, .long mv, .ref hMi, .ref hMx, .int me])), (hMn, .inl (cI, 22, .inl mn)), (hMd, .inl (cI, 20, .inl md)), (hMk, .inl (cI, 40, .inl mk)), (hMy, .inl (cZ, 20, .inl my)), (hMl, .inl (cI, 80, .inl mq)), (hMw, .inl (cJ, 420, .inr (.inl mw)))] H) (hD : va_D A [(hMo, .inr (6, [.ref hMn, .ref hMr, .ref hMa, .ref hMp, .int mc, .ref hMt, .int ml, .int ms, .ref hMd, .ref hMk, .ref hMy, .int mm, .ref hMl, .ref hMw, .long mu, .long mv, .ref hMi, .ref hMx, .int me])), (hMn, .inl (cI, 22, .inl mn)), (hMd, .inl (cI, 20, .inl md)), (hMk, .inl (cI, 40, .inl mk)), (hMy, .inl (cZ, 20, .inl my)), (hMl, .inl (cI, 80, .inl mq)), (hMw, .inl (cJ, 420, .inr (.inl mw)))]) (hS : va_S A s.heap H locs) (hf : f_X6_lostOf mm mu mv mn md mk my mq mw x1 x2 = some out) (hret : ∀ (pc : Nat) (H : Heap) (locs : List Loc) (ls : Array Slot), decode cX6_lostOf pc = .ok (.lreturn, 1) → va_P D vwCl [(hMo, .inr (6, [.ref hMn, .ref hMr, .ref hMa, .ref hMp, .int mc, .ref hMt, .int ml, .int ms, .ref hMd, .ref hMk, .ref hMy, .int out.2.1, .ref hMl, .ref hMw, .long out.2.2.1, .long out.2.2.2.1, .ref hMi, .ref hMx, .int me])), (hMn, .inl (cI, 22, .inl mn)), (hMd, .inl (cI, 20, .inl out.2.2.2.2.1)), (hMk, .inl (cI, 40, .inl out.2.2.2.2.2.1)), (hMy, .inl (cZ, 20, .inl out.2.2.2.2.2.2.1)), (hMl, .inl (cI, 80, .inl out.2.2.2.2.2.2.2.1)), (hMw, .inl (cJ, 420, .inr (.inl out.2.2.2.2.2.2.2.2)))] H → va_D A [(hMo, .inr (6, [.ref hMn, .ref hMr, .ref hMa, .ref hMp, .int mc, .ref hMt, .int ml, .int ms, .ref hMd, .ref hMk, .ref hMy, .int out.2.1, .ref hMl, .ref hMw, .long out.2.2.1, .long out.2.2.2.1, .ref hMi, .ref hMx, .int me])), (hMn, .inl (cI, 22, .inl mn)), (hMd, .inl (cI, 20, .inl out.2.2.2.2.1)), (hMk, .inl (cI, 40, .inl out.2.2.2.2.2.1)), (hMy, .inl (cZ, 20, .inl out.2.2.2.2.2.2.1)), (hMl, .inl (cI, 80, .inl out.2.2.2.2.2.2.2.1)), (hMw, .inl (cJ, 420, .inr (.inl out.2.2.2.2.2.2.2.2)))] → va_S A s.heap H locs → W p l e { frames := 6, cells := 0, slots := 0, locals := 142 } s m args below meth c H locs 0 0 Q (F0 m pc ls [.long out.1])) {ls : Array Slot} (hl : lv_has ls 3 [(0, .ref hMo), (1, .int x1), (2, .int x2)]) : W p l e { frames := 6, cells := 0, slots := 0, locals := 142 } s m args below meth c H locs 0 0 Q (F0 m 0 ls []) := by
  have hx := F.1
  have hb := F.2.1
  have hown := F.2.2.2.1
  have hts := F.2.2.2.2
  have hK := hG.1.1
  rw [f_X6_lostOf] at hf
  refine lv_aload_n hx hb dX6_lostOf_0 rfl (lv_at hl 0 rfl) ?_
  refine lv_aload_n hx hb dX6_lostOf_1 rfl (lv_at hl 0 rfl) ?_
  refine va_get (D := D) (ci := 6) (v := .ref hMn) (C := RX6) (T := TX6) (N := 19) hx hb hts ku_X6_lostOf_X6 hown hK hP 0 rfl rfl 0 (by decide) (hts _ kw_X6_lostOf_1) (fun _ h9 => h9) rfl dX6_lostOf_2 ?_
  refine lv_iload_n hx hb dX6_lostOf_5 rfl (lv_at hl 1 rfl) ?_
  refine lv_iload_n hx hb dX6_lostOf_6 rfl (lv_at hl 2 rfl) ?_
  refine lv_iconst (v := (2 : Int32)) hx hb dX6_lostOf_7 (by decide) ?_
  obtain ⟨j154, ej154, hf⟩ := fp_b hf
  have hj155 : ∀ (H : Heap) (locs : List Loc) (ls : Array Slot), va_P D vwCl [(hMo, .inr (6, [.ref hMn, .ref hMr, .ref hMa, .ref hMp, .int mc, .ref hMt, .int ml, .int ms, .ref hMd, .ref hMk, .ref hMy, .int mm, .ref hMl, .ref hMw, .long mu, .long mv, .ref hMi, .ref hMx, .int me])), (hMn, .inl (cI, 22, .inl mn)), (hMd, .inl (cI, 20, .inl md)), (hMk, .inl (cI, 40, .inl mk)), (hMy, .inl (cZ, 20, .inl my)), (hMl, .inl (cI, 80, .inl mq)), (hMw, .inl (cJ, 420, .inr (.inl mw)))] H → va_D A [(hMo, .inr (6, [.ref hMn, .ref hMr, .ref hMa, .ref hMp, .int mc, .ref hMt, .int ml, .int ms, .ref hMd, .ref hMk, .ref hMy, .int mm, .ref hMl, .ref hMw, .long mu, .long mv, .ref hMi, .ref hMx, .int me])), (hMn, .inl (cI, 22, .inl mn)), (hMd, .inl (cI, 20, .inl md)), (hMk, .inl (cI, 40, .inl mk)), (hMy, .inl (cZ, 20, .inl my)), (hMl, .inl (cI, 80, .inl mq)), (hMw, .inl (cJ, 420, .inr (.inl mw)))] → va_S A s.heap H locs → lv_has ls 3 [(0, .ref hMo), (2, .int x2)] → W p l e { frames := 6, cells := 0, slots := 0, locals := 142 } s m args below meth c H locs 0 0 Q (F0 m 17 ls [.int j154, .int x1, .ref hMn, .ref hMo]) := by
    intro H locs ls hP hD hS hl
    obtain ⟨r156, er156, hf⟩ := fp_b hf
    refine kc_rwV (w2 := [(hMo, .inr (6, [.ref hMn, .ref hMr, .ref hMa, .ref hMp, .int mc, .ref hMt, .int ml, .int ms, .ref hMd, .ref hMk, .ref hMy, .int r156.1, .ref hMl, .ref hMw, .long r156.2.1, .long r156.2.2.1, .ref hMi, .ref hMx, .int me])), (hMn, .inl (cI, 22, .inl mn)), (hMd, .inl (cI, 20, .inl r156.2.2.2.1)), (hMk, .inl (cI, 40, .inl r156.2.2.2.2.1)), (hMy, .inl (cZ, 20, .inl r156.2.2.2.2.2.1)), (hMl, .inl (cI, 80, .inl r156.2.2.2.2.2.2.1)), (hMw, .inl (cJ, 420, .inr (.inl r156.2.2.2.2.2.2.2)))]) (RwV.runV (c_X6_shares (l := l) (D := D) (cI := cI) (cJ := cJ) (cZ := cZ) (cQ := cQ) (qs := qs) er156) F (cwV 3 hts gX6_lostOf_X6_shares rfl rfl rfl yd_X6_shares ⟨Nat.le_of_ble_eq_true rfl, Nat.le_of_ble_eq_true rfl⟩) hG hP hD hS hA [0, 2, 3, 4, 5, 6, 1] (by decide) rfl 6 rfl rfl rfl hl.1 rfl (Nat.le_of_ble_eq_true rfl) dX6_lostOf_17 ⟨Nat.zero_le _, Nat.zero_le _⟩) hP hD hS hA [0, 2, 3, 4, 5, 6, 1] [] [0, 6, 1, 2, 3, 4, 5] rfl (wr := []) rfl (by decide) (by decide) rfl (by decide) (fun H locs hP hD hS => ?_)
    refine lv_iload_n hx hb dX6_lostOf_20 rfl (lv_at hl 1 rfl) ?_
    refine lv_iconst (v := (2 : Int32)) hx hb dX6_lostOf_21 (by decide) ?_
    refine lv_irem hx hb dX6_lostOf_22 (by decide) ?_
    refine lv_iconst (v := (1 : Int32)) hx hb dX6_lostOf_23 (by decide) ?_
    refine lv_icmp_ne (tgt := 34) hx hb dX6_lostOf_24 (by decide) (fun c157 => ?_) (fun c157 => ?_)
    · have hf := fp_f hf c157
      refine lv_iload_n hx hb dX6_lostOf_34 rfl (lv_at hl 1 rfl) ?_
      refine lv_if_ne (tgt := 45) hx hb dX6_lostOf_35 (by decide) (fun c158 => ?_) (fun c158 => ?_)
      · have hf := fp_f hf c158
        refine lv_aload_n hx hb dX6_lostOf_45 rfl (lv_at hl 0 rfl) ?_
        refine va_get (D := D) (ci := 6) (v := .long r156.2.2.1) (C := RX6) (T := TX6) (N := 19) hx hb hts ku_X6_lostOf_X6 hown hK hP 0 rfl rfl 15 (by decide) (hts _ kw_X6_lostOf_2) (fun _ h9 => h9) rfl dX6_lostOf_46 ?_
        refine lv_aload_n hx hb dX6_lostOf_49 rfl (lv_at hl 0 rfl) ?_
        refine va_get (D := D) (ci := 6) (v := .long r156.2.1) (C := RX6) (T := TX6) (N := 19) hx hb hts ku_X6_lostOf_X6 hown hK hP 0 rfl rfl 14 (by decide) (hts _ kw_X6_lostOf_3) (fun _ h9 => h9) rfl dX6_lostOf_50 ?_
        refine lv_lsub hx hb dX6_lostOf_53 ?_
        obtain rfl := Option.some.inj hf
        exact hret _ _ _ _ dX6_lostOf_54 hP hD hS
      · have hf := fp_t hf c158
        refine lv_aload_n hx hb dX6_lostOf_38 rfl (lv_at hl 0 rfl) ?_
        refine va_get (D := D) (ci := 6) (v := .long r156.2.1) (C := RX6) (T := TX6) (N := 19) hx hb hts ku_X6_lostOf_X6 hown hK hP 0 rfl rfl 14 (by decide) (hts _ kw_X6_lostOf_3) (fun _ h9 => h9) rfl dX6_lostOf_39 ?_
        refine lv_goto (tgt := 54) hx hb dX6_lostOf_42 (by decide) ?_
        obtain rfl := Option.some.inj hf
        exact hret _ _ _ _ dX6_lostOf_54 hP hD hS
    · have hf := fp_t hf c157
      refine lv_aload_n hx hb dX6_lostOf_27 rfl (lv_at hl 0 rfl) ?_
      refine va_get (D := D) (ci := 6) (v := .long r156.2.2.1) (C := RX6) (T := TX6) (N := 19) hx hb hts ku_X6_lostOf_X6 hown hK hP 0 rfl rfl 15 (by decide) (hts _ kw_X6_lostOf_2) (fun _ h9 => h9) rfl dX6_lostOf_28 ?_
      refine lv_goto (tgt := 54) hx hb dX6_lostOf_31 (by decide) ?_
      obtain rfl := Option.some.inj hf
      exact hret _ _ _ _ dX6_lostOf_54 hP hD hS
  replace hf := ej154
  refine lv_icmp_ge (tgt := 15) hx hb dX6_lostOf_8 (by decide) (fun c159 => ?_) (fun c159 => ?_)
  · have hf := fp_t hf c159
    refine lv_bipush (v := (-2 : Int32)) hx hb dX6_lostOf_15 (by decide) ?_
    obtain rfl := Option.some.inj hf
    exact hj155 _ _ _ hP hD hS (lv_sub hl [0, 2] rfl)
  · have hf := fp_f hf c159
    refine lv_iconst (v := (-1 : Int32)) hx hb dX6_lostOf_11 (by decide) ?_
    refine lv_goto (tgt := 17) hx hb dX6_lostOf_12 (by decide) ?_
    obtain rfl := Option.some.inj hf
    exact hj155 _ _ _ hP hD hS (lv_sub hl [0, 2] rfl)
set_option maxRecDepth 100000 in
theorem c_X6_lostOf {l : Launch} {D : va_G} {cI cJ cZ cQ : ClassId} {qs : Nat × Nat × Nat} {hMo hMn hMr hMa hMp hMt hMd hMk hMy hMl hMw hMi hMx : Nat} {mc : Int32} {ml : Int32} {ms : Int32} {mm : Int32} {mu : Int64} {mv : Int64} {me : Int32} {mn : Nat → Int32} {md : Nat → Int32} {mk : Nat → Int32} {my : Nat → Int32} {mq : Nat → Int32} {mw : Nat → Int64} {x1 : Int32} {x2 : Int32} {out : Int64 × Int32 × Int64 × Int64 × (Nat → Int32) × (Nat → Int32) × (Nat → Int32) × (Nat → Int32) × (Nat → Int64)} (hf : f_X6_lostOf mm mu mv mn md mk my mq mw x1 x2 = some out) : RwL l yX6_lostOf wsX6_lostOf { frames := 6, cells := 0, slots := 0, locals := 142 } D (ty4 cI cJ cZ cQ) qs [.ref hMo, .int x1, .int x2] [(hMo, .inr (6, [.ref hMn, .ref hMr, .ref hMa, .ref hMp, .int mc, .ref hMt, .int ml, .int ms, .ref hMd, .ref hMk, .ref hMy, .int mm, .ref hMl, .ref hMw, .long mu, .long mv, .ref hMi, .ref hMx, .int me])), (hMn, .inl (cI, 22, .inl mn)), (hMd, .inl (cI, 20, .inl md)), (hMk, .inl (cI, 40, .inl mk)), (hMy, .inl (cZ, 20, .inl my)), (hMl, .inl (cI, 80, .inl mq)), (hMw, .inl (cJ, 420, .inr (.inl mw)))] [(hMo, .inr (6, [.ref hMn, .ref hMr, .ref hMa, .ref hMp, .int mc, .ref hMt, .int ml, .int ms, .ref hMd, .ref hMk, .ref hMy, .int out.2.1, .ref hMl, .ref hMw, .long out.2.2.1, .long out.2.2.2.1, .ref hMi, .ref hMx, .int me])), (hMn, .inl (cI, 22, .inl mn)), (hMd, .inl (cI, 20, .inl out.2.2.2.2.1)), (hMk, .inl (cI, 40, .inl out.2.2.2.2.2.1)), (hMy, .inl (cZ, 20, .inl out.2.2.2.2.2.2.1)), (hMl, .inl (cI, 80, .inl out.2.2.2.2.2.2.2.1)), (hMw, .inl (cJ, 420, .inr (.inl out.2.2.2.2.2.2.2.2)))] out.1 :=
  RwL.of (own := RX6) (by decide +kernel) rfl rfl (Nat.le_of_ble_eq_true rfl) (fun F hG hA hP hD hS hret ls hl => b_X6_lostOf F hG hA hP hD hS hf hret hl)
-- method X6_lost
theorem yd_X6_lost : yX6_lost.cls = RX6 ∧ yX6_lost.cls ≠ "java/lang/invoke/MethodHandle" ∧ yX6_lost.cls ≠ "java/lang/invoke/VarHandle" ∧ (parseMethodDescriptor yX6_lost.desc).map (fun d => d.parameters.length) = some 2 := by decide +kernel
def f_X6_lost (mm : Int32) (mu : Int64) (mv : Int64) (mn : Nat → Int32) (md : Nat → Int32) (mk : Nat → Int32) (my : Nat → Int32) (mq : Nat → Int32) (mw : Nat → Int64) (x1 : Int32) (x2 : Int32) : Option (Int32 × Int32 × Int64 × Int64 × (Nat → Int32) × (Nat → Int32) × (Nat → Int32) × (Nat → Int32) × (Nat → Int64)) :=
  Option.bind (f_X6_isPort mn x1) (fun r160 => (if r160 = 0 then some ((-1 : Int32), mm, mu, mv, md, mk, my, mq, mw) else Option.bind (f_X6_in x2 (0 : Int32) (3 : Int32)) (fun r162 => (if r162 = 0 then some ((-1 : Int32), mm, mu, mv, md, mk, my, mq, mw) else Option.bind (f_X6_lostOf mm mu mv mn md mk my mq mw x1 x2) (fun r164 => some ((Int64.toInt32 r164.1), r164.2.1, r164.2.2.1, r164.2.2.2.1, r164.2.2.2.2.1, r164.2.2.2.2.2.1, r164.2.2.2.2.2.2.1, r164.2.2.2.2.2.2.2.1, r164.2.2.2.2.2.2.2.2))))))
set_option maxHeartbeats 4000000 in
set_option maxRecDepth 100000 in
theorem b_X6_lost {p : Program} {l : Launch} {e : Env} {s : State} {m : MethodId} {args : Array Value} {below : List Frame} {meth : Method} {c : Code} {Q : State → Prop} {A : Nat → Prop} {H : Heap} {locs : List Loc} {D : va_G} {cI cJ cZ cQ : ClassId} {qs : Nat × Nat × Nat} {hMo hMn hMr hMa hMp hMt hMd hMk hMy hMl hMw hMi hMx : Nat} {mc : Int32} {ml : Int32} {ms : Int32} {mm : Int32} {mu : Int64} {mv : Int64} {me : Int32} {mn : Nat → Int32} {md : Nat → Int32} {mk : Nat → Int32} {my : Nat → Int32} {mq : Nat → Int32} {mw : Nat → Int64} {x1 : Int32} {x2 : Int32} {out : Int32 × Int32 × Int64 × Int64 × (Nat → Int32) × (Nat → Int32) × (Nat → Int32) × (Nat → Int32) × (Nat → Int64)} (F : CallFix p m c cX6_lost 3 s args wsX6_lost RX6) (hG : kW D (ty4 cI cJ cZ cQ) qs A s s.heap) (hA : ∀ q : Nat, s.heap.size ≤ q → A q) (hP : va_P D vwCl [(hMo, .inr (6, [.ref hMn, .ref hMr, .ref hMa, .ref hMp, .int mc, .ref hMt, .int ml, .int ms, .ref hMd, .ref hMk, .ref hMy, .int mm, .ref hMl, .ref hMw, .long mu, .long mv, .ref hMi, .ref hMx, .int me])), (hMn, .inl (cI, 22, .inl mn)), (hMd, .inl (cI, 20, .inl md)), (hMk, .inl (cI, 40, .inl mk)), (hMy, .inl (cZ, 20, .inl my)), (hMl, .inl (cI, 80, .inl mq)), (hMw, .inl (cJ, 420, .inr (.inl mw)))] H) (hD : va_D A [(hMo, .inr (6, [.ref hMn, .ref hMr, .ref hMa, .ref hMp, .int mc, .ref hMt, .int ml, .int ms, .ref hMd, .ref hMk, .ref hMy, .int mm, .ref hMl, .ref hMw, .long mu, .long mv, .ref hMi, .ref hMx, .int me])), (hMn, .inl (cI, 22, .inl mn)), (hMd, .inl (cI, 20, .inl md)), (hMk, .inl (cI, 40, .inl mk)), (hMy, .inl (cZ, 20, .inl my)), (hMl, .inl (cI, 80, .inl mq)), (hMw, .inl (cJ, 420, .inr (.inl mw)))]) (hS : va_S A s.heap H locs) (hf : f_X6_lost mm mu mv mn md mk my mq mw x1 x2 = some out) (hret : ∀ (pc : Nat) (H : Heap) (locs : List Loc) (ls : Array Slot), decode cX6_lost pc = .ok (.ireturn, 1) → narrow .int (.int out.1) = .int out.1 → va_P D vwCl [(hMo, .inr (6, [.ref hMn, .ref hMr, .ref hMa, .ref hMp, .int mc, .ref hMt, .int ml, .int ms, .ref hMd, .ref hMk, .ref hMy, .int out.2.1, .ref hMl, .ref hMw, .long out.2.2.1, .long out.2.2.2.1, .ref hMi, .ref hMx, .int me])), (hMn, .inl (cI, 22, .inl mn)), (hMd, .inl (cI, 20, .inl out.2.2.2.2.1)), (hMk, .inl (cI, 40, .inl out.2.2.2.2.2.1)), (hMy, .inl (cZ, 20, .inl out.2.2.2.2.2.2.1)), (hMl, .inl (cI, 80, .inl out.2.2.2.2.2.2.2.1)), (hMw, .inl (cJ, 420, .inr (.inl out.2.2.2.2.2.2.2.2)))] H → va_D A [(hMo, .inr (6, [.ref hMn, .ref hMr, .ref hMa, .ref hMp, .int mc, .ref hMt, .int ml, .int ms, .ref hMd, .ref hMk, .ref hMy, .int out.2.1, .ref hMl, .ref hMw, .long out.2.2.1, .long out.2.2.2.1, .ref hMi, .ref hMx, .int me])), (hMn, .inl (cI, 22, .inl mn)), (hMd, .inl (cI, 20, .inl out.2.2.2.2.1)), (hMk, .inl (cI, 40, .inl out.2.2.2.2.2.1)), (hMy, .inl (cZ, 20, .inl out.2.2.2.2.2.2.1)), (hMl, .inl (cI, 80, .inl out.2.2.2.2.2.2.2.1)), (hMw, .inl (cJ, 420, .inr (.inl out.2.2.2.2.2.2.2.2)))] → va_S A s.heap H locs → W p l e { frames := 7, cells := 0, slots := 0, locals := 164 } s m args below meth c H locs 0 0 Q (F0 m pc ls [.int out.1])) {ls : Array Slot} (hl : lv_has ls 3 [(0, .ref hMo), (1, .int x1), (2, .int x2)]) : W p l e { frames := 7, cells := 0, slots := 0, locals := 164 } s m args below meth c H locs 0 0 Q (F0 m 0 ls []) := by
  have hx := F.1
  have hb := F.2.1
  have hown := F.2.2.2.1
  have hts := F.2.2.2.2
  have hK := hG.1.1
  rw [f_X6_lost] at hf
  refine lv_aload_n hx hb dX6_lost_0 rfl (lv_at hl 0 rfl) ?_
  refine lv_iload_n hx hb dX6_lost_1 rfl (lv_at hl 1 rfl) ?_
  obtain ⟨r160, er160, hf⟩ := fp_b hf
  refine RoI.callV (c_X6_isPort (l := l) (D := D) (cI := cI) (cJ := cJ) (cZ := cZ) (cQ := cQ) (qs := qs) er160) F (cwV 1 hts gX6_lost_X6_isPort rfl rfl rfl yd_X6_isPort ⟨Nat.le_of_ble_eq_true rfl, Nat.le_of_ble_eq_true rfl⟩) (hG.r hS) hP [0, 1] rfl 6 rfl rfl rfl hl.1 rfl (Nat.le_of_ble_eq_true rfl) dX6_lost_2 ⟨Nat.zero_le _, Nat.zero_le _⟩ ?_
  refine lv_if_eq (tgt := 17) hx hb dX6_lost_5 (by decide) (fun c161 => ?_) (fun c161 => ?_)
  · have hf := fp_t hf c161
    refine lv_iconst (v := (-1 : Int32)) hx hb dX6_lost_17 (by decide) ?_
    obtain rfl := Option.some.inj hf
    exact hret _ _ _ _ dX6_lost_18 (vp_nar_int _) hP hD hS
  · have hf := fp_f hf c161
    refine lv_iload_n hx hb dX6_lost_8 rfl (lv_at hl 2 rfl) ?_
    refine lv_iconst (v := (0 : Int32)) hx hb dX6_lost_9 (by decide) ?_
    refine lv_iconst (v := (3 : Int32)) hx hb dX6_lost_10 (by decide) ?_
    obtain ⟨r162, er162, hf⟩ := fp_b hf
    refine RoI.callS (c_X6_in (l := l) (D := D) (cI := cI) (cJ := cJ) (cZ := cZ) (cQ := cQ) (qs := qs) er162) F (va_cwS 3 hts gX6_lost_X6_in rfl rfl rfl yd_X6_in ⟨Nat.le_of_ble_eq_true rfl, Nat.le_of_ble_eq_true rfl⟩) (hG.r hS) hP [] rfl rfl hl.1 rfl (Nat.le_of_ble_eq_true rfl) dX6_lost_11 ⟨Nat.zero_le _, Nat.zero_le _⟩ ?_
    refine lv_if_ne (tgt := 19) hx hb dX6_lost_14 (by decide) (fun c163 => ?_) (fun c163 => ?_)
    · have hf := fp_f hf c163
      refine lv_aload_n hx hb dX6_lost_19 rfl (lv_at hl 0 rfl) ?_
      refine lv_iload_n hx hb dX6_lost_20 rfl (lv_at hl 1 rfl) ?_
      refine lv_iload_n hx hb dX6_lost_21 rfl (lv_at hl 2 rfl) ?_
      obtain ⟨r164, er164, hf⟩ := fp_b hf
      refine kc_rwL (w2 := [(hMo, .inr (6, [.ref hMn, .ref hMr, .ref hMa, .ref hMp, .int mc, .ref hMt, .int ml, .int ms, .ref hMd, .ref hMk, .ref hMy, .int r164.2.1, .ref hMl, .ref hMw, .long r164.2.2.1, .long r164.2.2.2.1, .ref hMi, .ref hMx, .int me])), (hMn, .inl (cI, 22, .inl mn)), (hMd, .inl (cI, 20, .inl r164.2.2.2.2.1)), (hMk, .inl (cI, 40, .inl r164.2.2.2.2.2.1)), (hMy, .inl (cZ, 20, .inl r164.2.2.2.2.2.2.1)), (hMl, .inl (cI, 80, .inl r164.2.2.2.2.2.2.2.1)), (hMw, .inl (cJ, 420, .inr (.inl r164.2.2.2.2.2.2.2.2)))]) (RwL.runV (c_X6_lostOf (l := l) (D := D) (cI := cI) (cJ := cJ) (cZ := cZ) (cQ := cQ) (qs := qs) er164) F (cwV 2 hts gX6_lost_X6_lostOf rfl rfl rfl yd_X6_lostOf ⟨Nat.le_of_ble_eq_true rfl, Nat.le_of_ble_eq_true rfl⟩) hG hP hD hS hA [0, 1, 2, 3, 4, 5, 6] (by decide) rfl 6 rfl rfl rfl hl.1 rfl (Nat.le_of_ble_eq_true rfl) dX6_lost_22 ⟨Nat.zero_le _, Nat.zero_le _⟩) hP hD hS hA [0, 1, 2, 3, 4, 5, 6] [] [0, 1, 2, 3, 4, 5, 6] rfl (wr := []) rfl (by decide) (by decide) rfl (by decide) (fun H locs hP hD hS => ?_)
      refine lv_l2i (v := (Int64.toInt32 r164.1)) hx hb dX6_lost_25 rfl ?_
      obtain rfl := Option.some.inj hf
      exact hret _ _ _ _ dX6_lost_26 (vp_nar_int _) hP hD hS
    · have hf := fp_t hf c163
      refine lv_iconst (v := (-1 : Int32)) hx hb dX6_lost_17 (by decide) ?_
      obtain rfl := Option.some.inj hf
      exact hret _ _ _ _ dX6_lost_18 (vp_nar_int _) hP hD hS
set_option maxRecDepth 100000 in
theorem c_X6_lost {l : Launch} {D : va_G} {cI cJ cZ cQ : ClassId} {qs : Nat × Nat × Nat} {hMo hMn hMr hMa hMp hMt hMd hMk hMy hMl hMw hMi hMx : Nat} {mc : Int32} {ml : Int32} {ms : Int32} {mm : Int32} {mu : Int64} {mv : Int64} {me : Int32} {mn : Nat → Int32} {md : Nat → Int32} {mk : Nat → Int32} {my : Nat → Int32} {mq : Nat → Int32} {mw : Nat → Int64} {x1 : Int32} {x2 : Int32} {out : Int32 × Int32 × Int64 × Int64 × (Nat → Int32) × (Nat → Int32) × (Nat → Int32) × (Nat → Int32) × (Nat → Int64)} (hf : f_X6_lost mm mu mv mn md mk my mq mw x1 x2 = some out) : RwI l yX6_lost wsX6_lost { frames := 7, cells := 0, slots := 0, locals := 164 } D (ty4 cI cJ cZ cQ) qs [.ref hMo, .int x1, .int x2] [(hMo, .inr (6, [.ref hMn, .ref hMr, .ref hMa, .ref hMp, .int mc, .ref hMt, .int ml, .int ms, .ref hMd, .ref hMk, .ref hMy, .int mm, .ref hMl, .ref hMw, .long mu, .long mv, .ref hMi, .ref hMx, .int me])), (hMn, .inl (cI, 22, .inl mn)), (hMd, .inl (cI, 20, .inl md)), (hMk, .inl (cI, 40, .inl mk)), (hMy, .inl (cZ, 20, .inl my)), (hMl, .inl (cI, 80, .inl mq)), (hMw, .inl (cJ, 420, .inr (.inl mw)))] [(hMo, .inr (6, [.ref hMn, .ref hMr, .ref hMa, .ref hMp, .int mc, .ref hMt, .int ml, .int ms, .ref hMd, .ref hMk, .ref hMy, .int out.2.1, .ref hMl, .ref hMw, .long out.2.2.1, .long out.2.2.2.1, .ref hMi, .ref hMx, .int me])), (hMn, .inl (cI, 22, .inl mn)), (hMd, .inl (cI, 20, .inl out.2.2.2.2.1)), (hMk, .inl (cI, 40, .inl out.2.2.2.2.2.1)), (hMy, .inl (cZ, 20, .inl out.2.2.2.2.2.2.1)), (hMl, .inl (cI, 80, .inl out.2.2.2.2.2.2.2.1)), (hMw, .inl (cJ, 420, .inr (.inl out.2.2.2.2.2.2.2.2)))] out.1 :=
  RwI.of (own := RX6) (by decide +kernel) rfl rfl (Nat.le_of_ble_eq_true rfl) (fun F hG hA hP hD hS hret ls hl => b_X6_lost F hG hA hP hD hS hf hret hl)
-- method X6_bits
theorem yd_X6_bits : yX6_bits.cls = RX6 ∧ yX6_bits.cls ≠ "java/lang/invoke/MethodHandle" ∧ yX6_bits.cls ≠ "java/lang/invoke/VarHandle" ∧ (parseMethodDescriptor yX6_bits.desc).map (fun d => d.parameters.length) = some 2 := by decide +kernel
theorem ku_X6_bits_X6 : ∀ w ∈ u_ws RX6 TX6 19, w ∈ wsX6_bits := by decide +kernel
theorem kw_X6_bits_1 : Cond.fieldLink RX6 7 "MirrorSharesModel" "now" "[I" ∈ wsX6_bits := List.mem_of_getElem? (i := 1) rfl
theorem kw_X6_bits_2 : Cond.fieldLink RX6 146 "MirrorSharesModel" "above" "J" ∈ wsX6_bits := List.mem_of_getElem? (i := 2) rfl
theorem kw_X6_bits_3 : Cond.fieldLink RX6 150 "MirrorSharesModel" "below" "J" ∈ wsX6_bits := List.mem_of_getElem? (i := 3) rfl
def f_X6_bits (mm : Int32) (mu : Int64) (mv : Int64) (mn : Nat → Int32) (md : Nat → Int32) (mk : Nat → Int32) (my : Nat → Int32) (mq : Nat → Int32) (mw : Nat → Int64) (x1 : Int32) (x2 : Int32) : Option (Int32 × Int32 × Int64 × Int64 × (Nat → Int32) × (Nat → Int32) × (Nat → Int32) × (Nat → Int32) × (Nat → Int64)) :=
  Option.bind (f_X6_isPort mn x1) (fun r165 => (if r165 = 0 then some ((-1 : Int32), mm, mu, mv, md, mk, my, mq, mw) else Option.bind (f_X6_isPort mn x2) (fun r167 => (if r167 = 0 then some ((-1 : Int32), mm, mu, mv, md, mk, my, mq, mw) else Option.bind (f_X6_shares mm mu mv md mk my mq mw mn x1 x2) (fun r169 => chk ((FP.fdiv (FP.l2f r169.2.1) (FP.l2f r169.2.2.1)) &&& 0x7fffffff ≤ 0x7f800000) (Option.bind (f_Jxf58ca_floatToIntBits_5c35a (FP.fdiv (FP.l2f r169.2.1) (FP.l2f r169.2.2.1))) (fun r171 => some (r171, r169.1, r169.2.1, r169.2.2.1, r169.2.2.2.1, r169.2.2.2.2.1, r169.2.2.2.2.2.1, r169.2.2.2.2.2.2.1, r169.2.2.2.2.2.2.2))))))))
set_option maxHeartbeats 4000000 in
set_option maxRecDepth 100000 in
theorem b_X6_bits {p : Program} {l : Launch} {e : Env} {s : State} {m : MethodId} {args : Array Value} {below : List Frame} {meth : Method} {c : Code} {Q : State → Prop} {A : Nat → Prop} {H : Heap} {locs : List Loc} {D : va_G} {cI cJ cZ cQ : ClassId} {qs : Nat × Nat × Nat} {hMo hMn hMr hMa hMp hMt hMd hMk hMy hMl hMw hMi hMx : Nat} {mc : Int32} {ml : Int32} {ms : Int32} {mm : Int32} {mu : Int64} {mv : Int64} {me : Int32} {mn : Nat → Int32} {md : Nat → Int32} {mk : Nat → Int32} {my : Nat → Int32} {mq : Nat → Int32} {mw : Nat → Int64} {x1 : Int32} {x2 : Int32} {out : Int32 × Int32 × Int64 × Int64 × (Nat → Int32) × (Nat → Int32) × (Nat → Int32) × (Nat → Int32) × (Nat → Int64)} (F : CallFix p m c cX6_bits 3 s args wsX6_bits RX6) (hG : kW D (ty4 cI cJ cZ cQ) qs A s s.heap) (hA : ∀ q : Nat, s.heap.size ≤ q → A q) (hP : va_P D vwCl [(hMo, .inr (6, [.ref hMn, .ref hMr, .ref hMa, .ref hMp, .int mc, .ref hMt, .int ml, .int ms, .ref hMd, .ref hMk, .ref hMy, .int mm, .ref hMl, .ref hMw, .long mu, .long mv, .ref hMi, .ref hMx, .int me])), (hMn, .inl (cI, 22, .inl mn)), (hMd, .inl (cI, 20, .inl md)), (hMk, .inl (cI, 40, .inl mk)), (hMy, .inl (cZ, 20, .inl my)), (hMl, .inl (cI, 80, .inl mq)), (hMw, .inl (cJ, 420, .inr (.inl mw)))] H) (hD : va_D A [(hMo, .inr (6, [.ref hMn, .ref hMr, .ref hMa, .ref hMp, .int mc, .ref hMt, .int ml, .int ms, .ref hMd, .ref hMk, .ref hMy, .int mm, .ref hMl, .ref hMw, .long mu, .long mv, .ref hMi, .ref hMx, .int me])), (hMn, .inl (cI, 22, .inl mn)), (hMd, .inl (cI, 20, .inl md)), (hMk, .inl (cI, 40, .inl mk)), (hMy, .inl (cZ, 20, .inl my)), (hMl, .inl (cI, 80, .inl mq)), (hMw, .inl (cJ, 420, .inr (.inl mw)))]) (hS : va_S A s.heap H locs) (hf : f_X6_bits mm mu mv mn md mk my mq mw x1 x2 = some out) (hret : ∀ (pc : Nat) (H : Heap) (locs : List Loc) (ls : Array Slot), decode cX6_bits pc = .ok (.ireturn, 1) → narrow .int (.int out.1) = .int out.1 → va_P D vwCl [(hMo, .inr (6, [.ref hMn, .ref hMr, .ref hMa, .ref hMp, .int mc, .ref hMt, .int ml, .int ms, .ref hMd, .ref hMk, .ref hMy, .int out.2.1, .ref hMl, .ref hMw, .long out.2.2.1, .long out.2.2.2.1, .ref hMi, .ref hMx, .int me])), (hMn, .inl (cI, 22, .inl mn)), (hMd, .inl (cI, 20, .inl out.2.2.2.2.1)), (hMk, .inl (cI, 40, .inl out.2.2.2.2.2.1)), (hMy, .inl (cZ, 20, .inl out.2.2.2.2.2.2.1)), (hMl, .inl (cI, 80, .inl out.2.2.2.2.2.2.2.1)), (hMw, .inl (cJ, 420, .inr (.inl out.2.2.2.2.2.2.2.2)))] H → va_D A [(hMo, .inr (6, [.ref hMn, .ref hMr, .ref hMa, .ref hMp, .int mc, .ref hMt, .int ml, .int ms, .ref hMd, .ref hMk, .ref hMy, .int out.2.1, .ref hMl, .ref hMw, .long out.2.2.1, .long out.2.2.2.1, .ref hMi, .ref hMx, .int me])), (hMn, .inl (cI, 22, .inl mn)), (hMd, .inl (cI, 20, .inl out.2.2.2.2.1)), (hMk, .inl (cI, 40, .inl out.2.2.2.2.2.1)), (hMy, .inl (cZ, 20, .inl out.2.2.2.2.2.2.1)), (hMl, .inl (cI, 80, .inl out.2.2.2.2.2.2.2.1)), (hMw, .inl (cJ, 420, .inr (.inl out.2.2.2.2.2.2.2.2)))] → va_S A s.heap H locs → W p l e { frames := 6, cells := 0, slots := 0, locals := 142 } s m args below meth c H locs 0 0 Q (F0 m pc ls [.int out.1])) {ls : Array Slot} (hl : lv_has ls 3 [(0, .ref hMo), (1, .int x1), (2, .int x2)]) : W p l e { frames := 6, cells := 0, slots := 0, locals := 142 } s m args below meth c H locs 0 0 Q (F0 m 0 ls []) := by
  have hx := F.1
  have hb := F.2.1
  have hown := F.2.2.2.1
  have hts := F.2.2.2.2
  have hK := hG.1.1
  rw [f_X6_bits] at hf
  refine lv_aload_n hx hb dX6_bits_0 rfl (lv_at hl 0 rfl) ?_
  refine lv_iload_n hx hb dX6_bits_1 rfl (lv_at hl 1 rfl) ?_
  obtain ⟨r165, er165, hf⟩ := fp_b hf
  refine RoI.callV (c_X6_isPort (l := l) (D := D) (cI := cI) (cJ := cJ) (cZ := cZ) (cQ := cQ) (qs := qs) er165) F (cwV 1 hts gX6_bits_X6_isPort rfl rfl rfl yd_X6_isPort ⟨Nat.le_of_ble_eq_true rfl, Nat.le_of_ble_eq_true rfl⟩) (hG.r hS) hP [0, 1] rfl 6 rfl rfl rfl hl.1 rfl (Nat.le_of_ble_eq_true rfl) dX6_bits_2 ⟨Nat.zero_le _, Nat.zero_le _⟩ ?_
  refine lv_if_eq (tgt := 16) hx hb dX6_bits_5 (by decide) (fun c166 => ?_) (fun c166 => ?_)
  · have hf := fp_t hf c166
    refine lv_iconst (v := (-1 : Int32)) hx hb dX6_bits_16 (by decide) ?_
    obtain rfl := Option.some.inj hf
    exact hret _ _ _ _ dX6_bits_17 (vp_nar_int _) hP hD hS
  · have hf := fp_f hf c166
    refine lv_aload_n hx hb dX6_bits_8 rfl (lv_at hl 0 rfl) ?_
    refine lv_iload_n hx hb dX6_bits_9 rfl (lv_at hl 2 rfl) ?_
    obtain ⟨r167, er167, hf⟩ := fp_b hf
    refine RoI.callV (c_X6_isPort (l := l) (D := D) (cI := cI) (cJ := cJ) (cZ := cZ) (cQ := cQ) (qs := qs) er167) F (cwV 1 hts gX6_bits_X6_isPort rfl rfl rfl yd_X6_isPort ⟨Nat.le_of_ble_eq_true rfl, Nat.le_of_ble_eq_true rfl⟩) (hG.r hS) hP [0, 1] rfl 6 rfl rfl rfl hl.1 rfl (Nat.le_of_ble_eq_true rfl) dX6_bits_10 ⟨Nat.zero_le _, Nat.zero_le _⟩ ?_
    refine lv_if_ne (tgt := 18) hx hb dX6_bits_13 (by decide) (fun c168 => ?_) (fun c168 => ?_)
    · have hf := fp_f hf c168
      refine lv_aload_n hx hb dX6_bits_18 rfl (lv_at hl 0 rfl) ?_
      refine lv_aload_n hx hb dX6_bits_19 rfl (lv_at hl 0 rfl) ?_
      refine va_get (D := D) (ci := 6) (v := .ref hMn) (C := RX6) (T := TX6) (N := 19) hx hb hts ku_X6_bits_X6 hown hK hP 0 rfl rfl 0 (by decide) (hts _ kw_X6_bits_1) (fun _ h9 => h9) rfl dX6_bits_20 ?_
      refine lv_iload_n hx hb dX6_bits_23 rfl (lv_at hl 1 rfl) ?_
      refine lv_iload_n hx hb dX6_bits_24 rfl (lv_at hl 2 rfl) ?_
      obtain ⟨r169, er169, hf⟩ := fp_b hf
      refine kc_rwV (w2 := [(hMo, .inr (6, [.ref hMn, .ref hMr, .ref hMa, .ref hMp, .int mc, .ref hMt, .int ml, .int ms, .ref hMd, .ref hMk, .ref hMy, .int r169.1, .ref hMl, .ref hMw, .long r169.2.1, .long r169.2.2.1, .ref hMi, .ref hMx, .int me])), (hMn, .inl (cI, 22, .inl mn)), (hMd, .inl (cI, 20, .inl r169.2.2.2.1)), (hMk, .inl (cI, 40, .inl r169.2.2.2.2.1)), (hMy, .inl (cZ, 20, .inl r169.2.2.2.2.2.1)), (hMl, .inl (cI, 80, .inl r169.2.2.2.2.2.2.1)), (hMw, .inl (cJ, 420, .inr (.inl r169.2.2.2.2.2.2.2)))]) (RwV.runV (c_X6_shares (l := l) (D := D) (cI := cI) (cJ := cJ) (cZ := cZ) (cQ := cQ) (qs := qs) er169) F (cwV 3 hts gX6_bits_X6_shares rfl rfl rfl yd_X6_shares ⟨Nat.le_of_ble_eq_true rfl, Nat.le_of_ble_eq_true rfl⟩) hG hP hD hS hA [0, 2, 3, 4, 5, 6, 1] (by decide) rfl 6 rfl rfl rfl hl.1 rfl (Nat.le_of_ble_eq_true rfl) dX6_bits_25 ⟨Nat.zero_le _, Nat.zero_le _⟩) hP hD hS hA [0, 2, 3, 4, 5, 6, 1] [] [0, 6, 1, 2, 3, 4, 5] rfl (wr := []) rfl (by decide) (by decide) rfl (by decide) (fun H locs hP hD hS => ?_)
      refine lv_aload_n hx hb dX6_bits_28 rfl (lv_at hl 0 rfl) ?_
      refine va_get (D := D) (ci := 6) (v := .long r169.2.1) (C := RX6) (T := TX6) (N := 19) hx hb hts ku_X6_bits_X6 hown hK hP 0 rfl rfl 14 (by decide) (hts _ kw_X6_bits_2) (fun _ h9 => h9) rfl dX6_bits_29 ?_
      refine lv_l2f hx hb dX6_bits_32 ?_
      refine lv_aload_n hx hb dX6_bits_33 rfl (lv_at hl 0 rfl) ?_
      refine va_get (D := D) (ci := 6) (v := .long r169.2.2.1) (C := RX6) (T := TX6) (N := 19) hx hb hts ku_X6_bits_X6 hown hK hP 0 rfl rfl 15 (by decide) (hts _ kw_X6_bits_3) (fun _ h9 => h9) rfl dX6_bits_34 ?_
      refine lv_l2f hx hb dX6_bits_37 ?_
      obtain ⟨k170, hf⟩ := fp_c hf
      refine lv_fdiv hx hb dX6_bits_38 k170 ?_
      obtain ⟨r171, er171, hf⟩ := fp_b hf
      refine RoI.callS (c_Jxf58ca_floatToIntBits_5c35a (l := l) (D := D) (cI := cI) (cJ := cJ) (cZ := cZ) (cQ := cQ) (qs := qs) er171) F (va_cwS 1 hts gX6_bits_Jxf58ca_floatToIntBits_5c35a rfl rfl rfl yd_Jxf58ca_floatToIntBits_5c35a ⟨Nat.le_of_ble_eq_true rfl, Nat.le_of_ble_eq_true rfl⟩) (hG.r hS) hP [] rfl rfl hl.1 rfl (Nat.le_of_ble_eq_true rfl) dX6_bits_39 ⟨Nat.zero_le _, Nat.zero_le _⟩ ?_
      obtain rfl := Option.some.inj hf
      exact hret _ _ _ _ dX6_bits_42 (vp_nar_int _) hP hD hS
    · have hf := fp_t hf c168
      refine lv_iconst (v := (-1 : Int32)) hx hb dX6_bits_16 (by decide) ?_
      obtain rfl := Option.some.inj hf
      exact hret _ _ _ _ dX6_bits_17 (vp_nar_int _) hP hD hS
set_option maxRecDepth 100000 in
theorem c_X6_bits {l : Launch} {D : va_G} {cI cJ cZ cQ : ClassId} {qs : Nat × Nat × Nat} {hMo hMn hMr hMa hMp hMt hMd hMk hMy hMl hMw hMi hMx : Nat} {mc : Int32} {ml : Int32} {ms : Int32} {mm : Int32} {mu : Int64} {mv : Int64} {me : Int32} {mn : Nat → Int32} {md : Nat → Int32} {mk : Nat → Int32} {my : Nat → Int32} {mq : Nat → Int32} {mw : Nat → Int64} {x1 : Int32} {x2 : Int32} {out : Int32 × Int32 × Int64 × Int64 × (Nat → Int32) × (Nat → Int32) × (Nat → Int32) × (Nat → Int32) × (Nat → Int64)} (hf : f_X6_bits mm mu mv mn md mk my mq mw x1 x2 = some out) : RwI l yX6_bits wsX6_bits { frames := 6, cells := 0, slots := 0, locals := 142 } D (ty4 cI cJ cZ cQ) qs [.ref hMo, .int x1, .int x2] [(hMo, .inr (6, [.ref hMn, .ref hMr, .ref hMa, .ref hMp, .int mc, .ref hMt, .int ml, .int ms, .ref hMd, .ref hMk, .ref hMy, .int mm, .ref hMl, .ref hMw, .long mu, .long mv, .ref hMi, .ref hMx, .int me])), (hMn, .inl (cI, 22, .inl mn)), (hMd, .inl (cI, 20, .inl md)), (hMk, .inl (cI, 40, .inl mk)), (hMy, .inl (cZ, 20, .inl my)), (hMl, .inl (cI, 80, .inl mq)), (hMw, .inl (cJ, 420, .inr (.inl mw)))] [(hMo, .inr (6, [.ref hMn, .ref hMr, .ref hMa, .ref hMp, .int mc, .ref hMt, .int ml, .int ms, .ref hMd, .ref hMk, .ref hMy, .int out.2.1, .ref hMl, .ref hMw, .long out.2.2.1, .long out.2.2.2.1, .ref hMi, .ref hMx, .int me])), (hMn, .inl (cI, 22, .inl mn)), (hMd, .inl (cI, 20, .inl out.2.2.2.2.1)), (hMk, .inl (cI, 40, .inl out.2.2.2.2.2.1)), (hMy, .inl (cZ, 20, .inl out.2.2.2.2.2.2.1)), (hMl, .inl (cI, 80, .inl out.2.2.2.2.2.2.2.1)), (hMw, .inl (cJ, 420, .inr (.inl out.2.2.2.2.2.2.2.2)))] out.1 :=
  RwI.of (own := RX6) (by decide +kernel) rfl rfl (Nat.le_of_ble_eq_true rfl) (fun F hG hA hP hD hS hret ls hl => b_X6_bits F hG hA hP hD hS hf hret hl)
-- method X6_spreads
theorem yd_X6_spreads : yX6_spreads.cls = RX6 ∧ yX6_spreads.cls ≠ "java/lang/invoke/MethodHandle" ∧ yX6_spreads.cls ≠ "java/lang/invoke/VarHandle" ∧ (parseMethodDescriptor yX6_spreads.desc).map (fun d => d.parameters.length) = some 1 := by decide +kernel
theorem ku_X6_spreads_X6 : ∀ w ∈ u_ws RX6 TX6 19, w ∈ wsX6_spreads := by decide +kernel
theorem kw_X6_spreads_1 : Cond.fieldLink RX6 45 "MirrorSharesModel" "took" "[I" ∈ wsX6_spreads := List.mem_of_getElem? (i := 1) rfl
theorem kw_X6_spreads_2 : Cond.fieldLink RX6 42 "MirrorSharesModel" "line" "[I" ∈ wsX6_spreads := List.mem_of_getElem? (i := 2) rfl
theorem kw_X6_spreads_3 : Cond.fieldLink RX6 7 "MirrorSharesModel" "now" "[I" ∈ wsX6_spreads := List.mem_of_getElem? (i := 3) rfl
theorem kw_X6_spreads_4 : Cond.fieldLink RX6 184 "MirrorSharesModel" "met" "I" ∈ wsX6_spreads := List.mem_of_getElem? (i := 4) rfl
def f_X6_spreads_2 (me : Int32) (mn : Nat → Int32) (mi : Nat → Int32) (y1 : Int32) (y2 : Int32) (mx : Nat → Int32) : Option ((Int32 × (Nat → Int32)) ⊕ ((Nat → Int32))) :=
  (if (80 : Int32) ≤ y2 then some (Sum.inr mx) else chk (aix y2 80) (some (Sum.inl ((y2 + (1 : Int32)), (upd mx y2.toNatClampNeg (-4 : Int32))))))
set_option maxHeartbeats 4000000 in
set_option maxRecDepth 100000 in
theorem lp_X6_spreads_2 {p : Program} {l : Launch} {e : Env} {s : State} {m : MethodId} {args : Array Value} {below : List Frame} {meth : Method} {c : Code} {Q : State → Prop} {A : Nat → Prop} {D : va_G} {cI cJ cZ cQ : ClassId} {qs : Nat × Nat × Nat} {hMo hMn hMr hMa hMp hMt hMd hMk hMy hMl hMw hMi hMx : Nat} {me : Int32} {mn : Nat → Int32} {mi : Nat → Int32} {y1 : Int32} {mc : Int32} {ml : Int32} {ms : Int32} {mm : Int32} {mu : Int64} {mv : Int64} (F : CallFix p m c cX6_spreads 6 s args wsX6_spreads RX6) (hG : kW D (ty4 cI cJ cZ cQ) qs A s s.heap) (hA : ∀ q : Nat, s.heap.size ≤ q → A q) :
    ∀ (n : Nat) {y2 : Int32} {mx : Nat → Int32} (out : (Nat → Int32)), lpf (fun s => f_X6_spreads_2 me mn mi y1 s.1 s.2) n (y2, mx) = some out → ∀ {H : Heap} {locs : List Loc} {ls : Array Slot}, va_P D vwCl [(hMo, .inr (6, [.ref hMn, .ref hMr, .ref hMa, .ref hMp, .int mc, .ref hMt, .int ml, .int ms, .ref hMd, .ref hMk, .ref hMy, .int mm, .ref hMl, .ref hMw, .long mu, .long mv, .ref hMi, .ref hMx, .int me])), (hMn, .inl (cI, 22, .inl mn)), (hMi, .inl (cI, 80, .inl mi)), (hMx, .inl (cI, 80, .inl mx))] H → va_D A [(hMo, .inr (6, [.ref hMn, .ref hMr, .ref hMa, .ref hMp, .int mc, .ref hMt, .int ml, .int ms, .ref hMd, .ref hMk, .ref hMy, .int mm, .ref hMl, .ref hMw, .long mu, .long mv, .ref hMi, .ref hMx, .int me])), (hMn, .inl (cI, 22, .inl mn)), (hMi, .inl (cI, 80, .inl mi)), (hMx, .inl (cI, 80, .inl mx))] → va_S A s.heap H locs → lv_has ls 6 [(0, .ref hMo), (1, .int y1), (2, .int y2)] → (∀ (H : Heap) (locs : List Loc) (ls : Array Slot), va_P D vwCl [(hMo, .inr (6, [.ref hMn, .ref hMr, .ref hMa, .ref hMp, .int mc, .ref hMt, .int ml, .int ms, .ref hMd, .ref hMk, .ref hMy, .int mm, .ref hMl, .ref hMw, .long mu, .long mv, .ref hMi, .ref hMx, .int me])), (hMn, .inl (cI, 22, .inl mn)), (hMi, .inl (cI, 80, .inl mi)), (hMx, .inl (cI, 80, .inl out))] H → va_D A [(hMo, .inr (6, [.ref hMn, .ref hMr, .ref hMa, .ref hMp, .int mc, .ref hMt, .int ml, .int ms, .ref hMd, .ref hMk, .ref hMy, .int mm, .ref hMl, .ref hMw, .long mu, .long mv, .ref hMi, .ref hMx, .int me])), (hMn, .inl (cI, 22, .inl mn)), (hMi, .inl (cI, 80, .inl mi)), (hMx, .inl (cI, 80, .inl out))] → va_S A s.heap H locs → lv_has ls 6 [(0, .ref hMo), (1, .int y1)] → W p l e { frames := 3, cells := 0, slots := 0, locals := 68 } s m args below meth c H locs 0 0 Q (F0 m 22 ls [])) → W p l e { frames := 3, cells := 0, slots := 0, locals := 68 } s m args below meth c H locs 0 0 Q (F0 m 2 ls []) := by
  have hx := F.1
  have hb := F.2.1
  have hown := F.2.2.2.1
  have hts := F.2.2.2.2
  have hK := hG.1.1
  intro n
  induction n with
  | zero =>
    intro y2 mx out ho
    exact (fp_l0 ho).elim
  | succ n ih =>
    intro y2 mx out ho H locs ls hP hD hS hl hex
    obtain ⟨o, hf, ho⟩ := fp_l ho
    have hf : f_X6_spreads_2 me mn mi y1 y2 mx = some o := hf
    rw [f_X6_spreads_2] at hf
    refine lv_iload_n hx hb dX6_spreads_2 rfl (lv_at hl 2 rfl) ?_
    refine lv_bipush (v := (80 : Int32)) hx hb dX6_spreads_3 (by decide) ?_
    refine lv_icmp_ge (tgt := 22) hx hb dX6_spreads_5 (by decide) (fun c172 => ?_) (fun c172 => ?_)
    · have hf := fp_t hf c172
      obtain rfl := Option.some.inj hf
      have ho := fp_inr ho
      obtain rfl := Option.some.inj ho
      exact hex _ _ _ hP hD hS (lv_sub hl [0, 1] rfl)
    · have hf := fp_f hf c172
      refine lv_aload_n hx hb dX6_spreads_8 rfl (lv_at hl 0 rfl) ?_
      refine va_get (D := D) (ci := 6) (v := .ref hMx) (C := RX6) (T := TX6) (N := 19) hx hb hts ku_X6_spreads_X6 hown hK hP 0 rfl rfl 17 (by decide) (hts _ kw_X6_spreads_1) (fun _ h9 => h9) rfl dX6_spreads_9 ?_
      refine lv_iload_n hx hb dX6_spreads_12 rfl (lv_at hl 2 rfl) ?_
      refine lv_bipush (v := (-4 : Int32)) hx hb dX6_spreads_13 (by decide) ?_
      obtain ⟨k173, hf⟩ := fp_c hf
      refine va_iast hx hb hK hP hD hS 3 0 rfl rfl k173 dX6_spreads_15 (fun H locs hP hD hS => ?_)
      have hP : va_P D vwCl [(hMo, .inr (6, [.ref hMn, .ref hMr, .ref hMa, .ref hMp, .int mc, .ref hMt, .int ml, .int ms, .ref hMd, .ref hMk, .ref hMy, .int mm, .ref hMl, .ref hMw, .long mu, .long mv, .ref hMi, .ref hMx, .int me])), (hMn, .inl (cI, 22, .inl mn)), (hMi, .inl (cI, 80, .inl mi)), (hMx, .inl (cI, 80, .inl (upd mx y2.toNatClampNeg (-4 : Int32))))] H := hP
      have hD : va_D A [(hMo, .inr (6, [.ref hMn, .ref hMr, .ref hMa, .ref hMp, .int mc, .ref hMt, .int ml, .int ms, .ref hMd, .ref hMk, .ref hMy, .int mm, .ref hMl, .ref hMw, .long mu, .long mv, .ref hMi, .ref hMx, .int me])), (hMn, .inl (cI, 22, .inl mn)), (hMi, .inl (cI, 80, .inl mi)), (hMx, .inl (cI, 80, .inl (upd mx y2.toNatClampNeg (-4 : Int32))))] := hD
      refine lv_iinc (v := (y2 + (1 : Int32))) (lv' := [(2, .int (y2 + (1 : Int32))), (0, .ref hMo), (1, .int y1)]) hx hb dX6_spreads_16 hl (k := 2) rfl rfl (by decide) rfl (fun ls hl => ?_)
      refine lv_goto (tgt := 2) hx hb dX6_spreads_19 (by decide) ?_
      obtain rfl := Option.some.inj hf
      exact ih _ (fp_inl ho) hP hD hS (lv_sub hl [1, 2, 0] rfl) hex
def f_X6_spreads_73 (mn : Nat → Int32) (y2 : Int32) (y3 : Int32) (y4 : Int32) (me : Int32) (mi : Nat → Int32) (mx : Nat → Int32) : Option ((Int32 × Int32 × (Nat → Int32) × (Nat → Int32)) ⊕ (Int32 × (Nat → Int32) × (Nat → Int32))) :=
  Option.bind (f_X6_waysOf mn y3) (fun r179 => (if r179 ≤ y4 then some (Sum.inr (me, mi, mx)) else Option.bind (f_X6_goes mn y3 y4) (fun r181 => (if r181 < 0 then some (Sum.inl ((y4 + (1 : Int32)), me, mi, mx)) else chk (aix r181 80) ((if (mx r181.toNatClampNeg) = (-4 : Int32) then chk (aix y3 80) (chk (aix me 80) (some (Sum.inl ((y4 + (1 : Int32)), (me + (1 : Int32)), (upd mi me.toNatClampNeg r181), (upd mx r181.toNatClampNeg ((mx y3.toNatClampNeg) + (1 : Int32))))))) else some (Sum.inl ((y4 + (1 : Int32)), me, mi, mx))))))))
set_option maxHeartbeats 4000000 in
set_option maxRecDepth 100000 in
theorem lp_X6_spreads_73 {p : Program} {l : Launch} {e : Env} {s : State} {m : MethodId} {args : Array Value} {below : List Frame} {meth : Method} {c : Code} {Q : State → Prop} {A : Nat → Prop} {D : va_G} {cI cJ cZ cQ : ClassId} {qs : Nat × Nat × Nat} {hMo hMn hMr hMa hMp hMt hMd hMk hMy hMl hMw hMi hMx : Nat} {mn : Nat → Int32} {y2 : Int32} {y3 : Int32} {mc : Int32} {ml : Int32} {ms : Int32} {mm : Int32} {mu : Int64} {mv : Int64} (F : CallFix p m c cX6_spreads 6 s args wsX6_spreads RX6) (hG : kW D (ty4 cI cJ cZ cQ) qs A s s.heap) (hA : ∀ q : Nat, s.heap.size ≤ q → A q) :
    ∀ (n : Nat) {y4 : Int32} {me : Int32} {mi : Nat → Int32} {mx : Nat → Int32} (out : Int32 × (Nat → Int32) × (Nat → Int32)), lpf (fun s => f_X6_spreads_73 mn y2 y3 s.1 s.2.1 s.2.2.1 s.2.2.2) n (y4, me, mi, mx) = some out → ∀ {H : Heap} {locs : List Loc} {ls : Array Slot}, va_P D vwCl [(hMo, .inr (6, [.ref hMn, .ref hMr, .ref hMa, .ref hMp, .int mc, .ref hMt, .int ml, .int ms, .ref hMd, .ref hMk, .ref hMy, .int mm, .ref hMl, .ref hMw, .long mu, .long mv, .ref hMi, .ref hMx, .int me])), (hMn, .inl (cI, 22, .inl mn)), (hMi, .inl (cI, 80, .inl mi)), (hMx, .inl (cI, 80, .inl mx))] H → va_D A [(hMo, .inr (6, [.ref hMn, .ref hMr, .ref hMa, .ref hMp, .int mc, .ref hMt, .int ml, .int ms, .ref hMd, .ref hMk, .ref hMy, .int mm, .ref hMl, .ref hMw, .long mu, .long mv, .ref hMi, .ref hMx, .int me])), (hMn, .inl (cI, 22, .inl mn)), (hMi, .inl (cI, 80, .inl mi)), (hMx, .inl (cI, 80, .inl mx))] → va_S A s.heap H locs → lv_has ls 6 [(0, .ref hMo), (2, .int y2), (3, .int y3), (4, .int y4)] → (∀ (H : Heap) (locs : List Loc) (ls : Array Slot), va_P D vwCl [(hMo, .inr (6, [.ref hMn, .ref hMr, .ref hMa, .ref hMp, .int mc, .ref hMt, .int ml, .int ms, .ref hMd, .ref hMk, .ref hMy, .int mm, .ref hMl, .ref hMw, .long mu, .long mv, .ref hMi, .ref hMx, .int out.1])), (hMn, .inl (cI, 22, .inl mn)), (hMi, .inl (cI, 80, .inl out.2.1)), (hMx, .inl (cI, 80, .inl out.2.2))] H → va_D A [(hMo, .inr (6, [.ref hMn, .ref hMr, .ref hMa, .ref hMp, .int mc, .ref hMt, .int ml, .int ms, .ref hMd, .ref hMk, .ref hMy, .int mm, .ref hMl, .ref hMw, .long mu, .long mv, .ref hMi, .ref hMx, .int out.1])), (hMn, .inl (cI, 22, .inl mn)), (hMi, .inl (cI, 80, .inl out.2.1)), (hMx, .inl (cI, 80, .inl out.2.2))] → va_S A s.heap H locs → lv_has ls 6 [(0, .ref hMo), (2, .int y2), (3, .int y3)] → W p l e { frames := 3, cells := 0, slots := 0, locals := 68 } s m args below meth c H locs 0 0 Q (F0 m 157 ls [])) → W p l e { frames := 3, cells := 0, slots := 0, locals := 68 } s m args below meth c H locs 0 0 Q (F0 m 73 ls []) := by
  have hx := F.1
  have hb := F.2.1
  have hown := F.2.2.2.1
  have hts := F.2.2.2.2
  have hK := hG.1.1
  intro n
  induction n with
  | zero =>
    intro y4 me mi mx out ho
    exact (fp_l0 ho).elim
  | succ n ih =>
    intro y4 me mi mx out ho H locs ls hP hD hS hl hex
    obtain ⟨o, hf, ho⟩ := fp_l ho
    have hf : f_X6_spreads_73 mn y2 y3 y4 me mi mx = some o := hf
    rw [f_X6_spreads_73] at hf
    refine lv_iload hx hb dX6_spreads_73 (lv_at hl 3 rfl) ?_
    refine lv_aload_n hx hb dX6_spreads_75 rfl (lv_at hl 0 rfl) ?_
    refine va_get (D := D) (ci := 6) (v := .ref hMn) (C := RX6) (T := TX6) (N := 19) hx hb hts ku_X6_spreads_X6 hown hK hP 0 rfl rfl 0 (by decide) (hts _ kw_X6_spreads_3) (fun _ h9 => h9) rfl dX6_spreads_76 ?_
    refine lv_iload_n hx hb dX6_spreads_79 rfl (lv_at hl 2 rfl) ?_
    obtain ⟨r179, er179, hf⟩ := fp_b hf
    refine RoI.callS (c_X6_waysOf (l := l) (D := D) (cI := cI) (cJ := cJ) (cZ := cZ) (cQ := cQ) (qs := qs) er179) F (va_cwS 2 hts gX6_spreads_X6_waysOf rfl rfl rfl yd_X6_waysOf ⟨Nat.le_of_ble_eq_true rfl, Nat.le_of_ble_eq_true rfl⟩) (hG.r hS) hP [1] rfl rfl hl.1 rfl (Nat.le_of_ble_eq_true rfl) dX6_spreads_80 ⟨Nat.zero_le _, Nat.zero_le _⟩ ?_
    refine lv_icmp_ge (tgt := 157) hx hb dX6_spreads_83 (by decide) (fun c180 => ?_) (fun c180 => ?_)
    · have hf := fp_t hf c180
      obtain rfl := Option.some.inj hf
      have ho := fp_inr ho
      obtain rfl := Option.some.inj ho
      exact hex _ _ _ hP hD hS (lv_sub hl [0, 1, 2] rfl)
    · have hf := fp_f hf c180
      refine lv_aload_n hx hb dX6_spreads_86 rfl (lv_at hl 0 rfl) ?_
      refine va_get (D := D) (ci := 6) (v := .ref hMn) (C := RX6) (T := TX6) (N := 19) hx hb hts ku_X6_spreads_X6 hown hK hP 0 rfl rfl 0 (by decide) (hts _ kw_X6_spreads_3) (fun _ h9 => h9) rfl dX6_spreads_87 ?_
      refine lv_iload_n hx hb dX6_spreads_90 rfl (lv_at hl 2 rfl) ?_
      refine lv_iload hx hb dX6_spreads_91 (lv_at hl 3 rfl) ?_
      obtain ⟨r181, er181, hf⟩ := fp_b hf
      refine RoI.callS (c_X6_goes (l := l) (D := D) (cI := cI) (cJ := cJ) (cZ := cZ) (cQ := cQ) (qs := qs) er181) F (va_cwS 3 hts gX6_spreads_X6_goes rfl rfl rfl yd_X6_goes ⟨Nat.le_of_ble_eq_true rfl, Nat.le_of_ble_eq_true rfl⟩) (hG.r hS) hP [1] rfl rfl hl.1 rfl (Nat.le_of_ble_eq_true rfl) dX6_spreads_93 ⟨Nat.zero_le _, Nat.zero_le _⟩ ?_
      refine lv_istore (lv' := [(5, .int r181), (0, .ref hMo), (2, .int y2), (3, .int y3), (4, .int y4)]) hx hb dX6_spreads_96 hl (by decide) rfl (fun ls hl => ?_)
      refine lv_iload hx hb dX6_spreads_98 (lv_at hl 0 rfl) ?_
      refine lv_if_lt (tgt := 151) hx hb dX6_spreads_100 (by decide) (fun c182 => ?_) (fun c182 => ?_)
      · have hf := fp_t hf c182
        refine lv_iinc (v := (y4 + (1 : Int32))) (lv' := [(4, .int (y4 + (1 : Int32))), (5, .int r181), (0, .ref hMo), (2, .int y2), (3, .int y3)]) hx hb dX6_spreads_151 hl (k := 4) rfl rfl (by decide) rfl (fun ls hl => ?_)
        refine lv_goto (tgt := 73) hx hb dX6_spreads_154 (by decide) ?_
        obtain rfl := Option.some.inj hf
        exact ih _ (fp_inl ho) hP hD hS (lv_sub hl [2, 3, 4, 0] rfl) hex
      · have hf := fp_f hf c182
        refine lv_aload_n hx hb dX6_spreads_103 rfl (lv_at hl 1 rfl) ?_
        refine va_get (D := D) (ci := 6) (v := .ref hMx) (C := RX6) (T := TX6) (N := 19) hx hb hts ku_X6_spreads_X6 hown hK hP 0 rfl rfl 17 (by decide) (hts _ kw_X6_spreads_1) (fun _ h9 => h9) rfl dX6_spreads_104 ?_
        refine lv_iload hx hb dX6_spreads_107 (lv_at hl 0 rfl) ?_
        obtain ⟨k183, hf⟩ := fp_c hf
        refine va_iald hx hb hK hP 3 0 rfl rfl k183 dX6_spreads_109 ?_
        refine lv_bipush (v := (-4 : Int32)) hx hb dX6_spreads_110 (by decide) ?_
        refine lv_icmp_ne (tgt := 151) hx hb dX6_spreads_112 (by decide) (fun c184 => ?_) (fun c184 => ?_)
        · have hf := fp_f hf c184
          refine lv_iinc (v := (y4 + (1 : Int32))) (lv' := [(4, .int (y4 + (1 : Int32))), (5, .int r181), (0, .ref hMo), (2, .int y2), (3, .int y3)]) hx hb dX6_spreads_151 hl (k := 4) rfl rfl (by decide) rfl (fun ls hl => ?_)
          refine lv_goto (tgt := 73) hx hb dX6_spreads_154 (by decide) ?_
          obtain rfl := Option.some.inj hf
          exact ih _ (fp_inl ho) hP hD hS (lv_sub hl [2, 3, 4, 0] rfl) hex
        · have hf := fp_t hf c184
          refine lv_aload_n hx hb dX6_spreads_115 rfl (lv_at hl 1 rfl) ?_
          refine va_get (D := D) (ci := 6) (v := .ref hMx) (C := RX6) (T := TX6) (N := 19) hx hb hts ku_X6_spreads_X6 hown hK hP 0 rfl rfl 17 (by decide) (hts _ kw_X6_spreads_1) (fun _ h9 => h9) rfl dX6_spreads_116 ?_
          refine lv_iload hx hb dX6_spreads_119 (lv_at hl 0 rfl) ?_
          refine lv_aload_n hx hb dX6_spreads_121 rfl (lv_at hl 1 rfl) ?_
          refine va_get (D := D) (ci := 6) (v := .ref hMx) (C := RX6) (T := TX6) (N := 19) hx hb hts ku_X6_spreads_X6 hown hK hP 0 rfl rfl 17 (by decide) (hts _ kw_X6_spreads_1) (fun _ h9 => h9) rfl dX6_spreads_122 ?_
          refine lv_iload_n hx hb dX6_spreads_125 rfl (lv_at hl 3 rfl) ?_
          obtain ⟨k185, hf⟩ := fp_c hf
          refine va_iald hx hb hK hP 3 0 rfl rfl k185 dX6_spreads_126 ?_
          refine lv_iconst (v := (1 : Int32)) hx hb dX6_spreads_127 (by decide) ?_
          refine lv_iadd hx hb dX6_spreads_128 ?_
          refine va_iast hx hb hK hP hD hS 3 0 rfl rfl k183 dX6_spreads_129 (fun H locs hP hD hS => ?_)
          have hP : va_P D vwCl [(hMo, .inr (6, [.ref hMn, .ref hMr, .ref hMa, .ref hMp, .int mc, .ref hMt, .int ml, .int ms, .ref hMd, .ref hMk, .ref hMy, .int mm, .ref hMl, .ref hMw, .long mu, .long mv, .ref hMi, .ref hMx, .int me])), (hMn, .inl (cI, 22, .inl mn)), (hMi, .inl (cI, 80, .inl mi)), (hMx, .inl (cI, 80, .inl (upd mx r181.toNatClampNeg ((mx y3.toNatClampNeg) + (1 : Int32)))))] H := hP
          have hD : va_D A [(hMo, .inr (6, [.ref hMn, .ref hMr, .ref hMa, .ref hMp, .int mc, .ref hMt, .int ml, .int ms, .ref hMd, .ref hMk, .ref hMy, .int mm, .ref hMl, .ref hMw, .long mu, .long mv, .ref hMi, .ref hMx, .int me])), (hMn, .inl (cI, 22, .inl mn)), (hMi, .inl (cI, 80, .inl mi)), (hMx, .inl (cI, 80, .inl (upd mx r181.toNatClampNeg ((mx y3.toNatClampNeg) + (1 : Int32)))))] := hD
          refine lv_aload_n hx hb dX6_spreads_130 rfl (lv_at hl 1 rfl) ?_
          refine va_get (D := D) (ci := 6) (v := .ref hMi) (C := RX6) (T := TX6) (N := 19) hx hb hts ku_X6_spreads_X6 hown hK hP 0 rfl rfl 16 (by decide) (hts _ kw_X6_spreads_2) (fun _ h9 => h9) rfl dX6_spreads_131 ?_
          refine lv_aload_n hx hb dX6_spreads_134 rfl (lv_at hl 1 rfl) ?_
          refine va_get (D := D) (ci := 6) (v := .int me) (C := RX6) (T := TX6) (N := 19) hx hb hts ku_X6_spreads_X6 hown hK hP 0 rfl rfl 18 (by decide) (hts _ kw_X6_spreads_4) (fun _ h9 => h9) rfl dX6_spreads_135 ?_
          refine lv_iload hx hb dX6_spreads_138 (lv_at hl 0 rfl) ?_
          obtain ⟨k186, hf⟩ := fp_c hf
          refine va_iast hx hb hK hP hD hS 2 0 rfl rfl k186 dX6_spreads_140 (fun H locs hP hD hS => ?_)
          have hP : va_P D vwCl [(hMo, .inr (6, [.ref hMn, .ref hMr, .ref hMa, .ref hMp, .int mc, .ref hMt, .int ml, .int ms, .ref hMd, .ref hMk, .ref hMy, .int mm, .ref hMl, .ref hMw, .long mu, .long mv, .ref hMi, .ref hMx, .int me])), (hMn, .inl (cI, 22, .inl mn)), (hMi, .inl (cI, 80, .inl (upd mi me.toNatClampNeg r181))), (hMx, .inl (cI, 80, .inl (upd mx r181.toNatClampNeg ((mx y3.toNatClampNeg) + (1 : Int32)))))] H := hP
          have hD : va_D A [(hMo, .inr (6, [.ref hMn, .ref hMr, .ref hMa, .ref hMp, .int mc, .ref hMt, .int ml, .int ms, .ref hMd, .ref hMk, .ref hMy, .int mm, .ref hMl, .ref hMw, .long mu, .long mv, .ref hMi, .ref hMx, .int me])), (hMn, .inl (cI, 22, .inl mn)), (hMi, .inl (cI, 80, .inl (upd mi me.toNatClampNeg r181))), (hMx, .inl (cI, 80, .inl (upd mx r181.toNatClampNeg ((mx y3.toNatClampNeg) + (1 : Int32)))))] := hD
          refine lv_aload_n hx hb dX6_spreads_141 rfl (lv_at hl 1 rfl) ?_
          refine lv_dup hx hb dX6_spreads_142 rfl ?_
          refine va_get (D := D) (ci := 6) (v := .int me) (C := RX6) (T := TX6) (N := 19) hx hb hts ku_X6_spreads_X6 hown hK hP 0 rfl rfl 18 (by decide) (hts _ kw_X6_spreads_4) (fun _ h9 => h9) rfl dX6_spreads_143 ?_
          refine lv_iconst (v := (1 : Int32)) hx hb dX6_spreads_146 (by decide) ?_
          refine lv_iadd hx hb dX6_spreads_147 ?_
          refine va_put (D := D) (ci := 6) (v := .int (me + (1 : Int32))) (ty := .int) (C := RX6) (T := TX6) (N := 19) hx hb hts ku_X6_spreads_X6 tyX6 tyX6_ok nmX6 hown hK hP hD hS 0 rfl rfl 18 (by decide) (hts _ kw_X6_spreads_4) (fun _ h9 => h9) rfl (by decide +kernel) rfl rfl (Nat.le_of_ble_eq_true rfl) dX6_spreads_148 (fun H locs hP hD hS => ?_)
          have hP : va_P D vwCl [(hMo, .inr (6, [.ref hMn, .ref hMr, .ref hMa, .ref hMp, .int mc, .ref hMt, .int ml, .int ms, .ref hMd, .ref hMk, .ref hMy, .int mm, .ref hMl, .ref hMw, .long mu, .long mv, .ref hMi, .ref hMx, .int (me + (1 : Int32))])), (hMn, .inl (cI, 22, .inl mn)), (hMi, .inl (cI, 80, .inl (upd mi me.toNatClampNeg r181))), (hMx, .inl (cI, 80, .inl (upd mx r181.toNatClampNeg ((mx y3.toNatClampNeg) + (1 : Int32)))))] H := hP
          have hD : va_D A [(hMo, .inr (6, [.ref hMn, .ref hMr, .ref hMa, .ref hMp, .int mc, .ref hMt, .int ml, .int ms, .ref hMd, .ref hMk, .ref hMy, .int mm, .ref hMl, .ref hMw, .long mu, .long mv, .ref hMi, .ref hMx, .int (me + (1 : Int32))])), (hMn, .inl (cI, 22, .inl mn)), (hMi, .inl (cI, 80, .inl (upd mi me.toNatClampNeg r181))), (hMx, .inl (cI, 80, .inl (upd mx r181.toNatClampNeg ((mx y3.toNatClampNeg) + (1 : Int32)))))] := hD
          refine lv_iinc (v := (y4 + (1 : Int32))) (lv' := [(4, .int (y4 + (1 : Int32))), (5, .int r181), (0, .ref hMo), (2, .int y2), (3, .int y3)]) hx hb dX6_spreads_151 hl (k := 4) rfl rfl (by decide) rfl (fun ls hl => ?_)
          refine lv_goto (tgt := 73) hx hb dX6_spreads_154 (by decide) ?_
          obtain rfl := Option.some.inj hf
          exact ih _ (fp_inl ho) hP hD hS (lv_sub hl [2, 3, 4, 0] rfl) hex
def f_X6_spreads_55 (mn : Nat → Int32) (y2 : Int32) (me : Int32) (mi : Nat → Int32) (mx : Nat → Int32) : Option ((Int32 × Int32 × (Nat → Int32) × (Nat → Int32)) ⊕ (Int32 × (Nat → Int32) × (Nat → Int32))) :=
  (if me ≤ y2 then some (Sum.inr (me, mi, mx)) else chk (aix y2 80) (Option.bind (lpf (fun s => f_X6_spreads_73 mn y2 (mi y2.toNatClampNeg) s.1 s.2.1 s.2.2.1 s.2.2.2) 1000 ((0 : Int32), me, mi, mx)) (fun o187 => some (Sum.inl ((y2 + (1 : Int32)), o187.1, o187.2.1, o187.2.2)))))
set_option maxHeartbeats 4000000 in
set_option maxRecDepth 100000 in
theorem lp_X6_spreads_55 {p : Program} {l : Launch} {e : Env} {s : State} {m : MethodId} {args : Array Value} {below : List Frame} {meth : Method} {c : Code} {Q : State → Prop} {A : Nat → Prop} {D : va_G} {cI cJ cZ cQ : ClassId} {qs : Nat × Nat × Nat} {hMo hMn hMr hMa hMp hMt hMd hMk hMy hMl hMw hMi hMx : Nat} {mn : Nat → Int32} {mc : Int32} {ml : Int32} {ms : Int32} {mm : Int32} {mu : Int64} {mv : Int64} (F : CallFix p m c cX6_spreads 6 s args wsX6_spreads RX6) (hG : kW D (ty4 cI cJ cZ cQ) qs A s s.heap) (hA : ∀ q : Nat, s.heap.size ≤ q → A q) :
    ∀ (n : Nat) {y2 : Int32} {me : Int32} {mi : Nat → Int32} {mx : Nat → Int32} (out : Int32 × (Nat → Int32) × (Nat → Int32)), lpf (fun s => f_X6_spreads_55 mn s.1 s.2.1 s.2.2.1 s.2.2.2) n (y2, me, mi, mx) = some out → ∀ {H : Heap} {locs : List Loc} {ls : Array Slot}, va_P D vwCl [(hMo, .inr (6, [.ref hMn, .ref hMr, .ref hMa, .ref hMp, .int mc, .ref hMt, .int ml, .int ms, .ref hMd, .ref hMk, .ref hMy, .int mm, .ref hMl, .ref hMw, .long mu, .long mv, .ref hMi, .ref hMx, .int me])), (hMn, .inl (cI, 22, .inl mn)), (hMi, .inl (cI, 80, .inl mi)), (hMx, .inl (cI, 80, .inl mx))] H → va_D A [(hMo, .inr (6, [.ref hMn, .ref hMr, .ref hMa, .ref hMp, .int mc, .ref hMt, .int ml, .int ms, .ref hMd, .ref hMk, .ref hMy, .int mm, .ref hMl, .ref hMw, .long mu, .long mv, .ref hMi, .ref hMx, .int me])), (hMn, .inl (cI, 22, .inl mn)), (hMi, .inl (cI, 80, .inl mi)), (hMx, .inl (cI, 80, .inl mx))] → va_S A s.heap H locs → lv_has ls 6 [(0, .ref hMo), (2, .int y2)] → (∀ (H : Heap) (locs : List Loc) (ls : Array Slot), va_P D vwCl [(hMo, .inr (6, [.ref hMn, .ref hMr, .ref hMa, .ref hMp, .int mc, .ref hMt, .int ml, .int ms, .ref hMd, .ref hMk, .ref hMy, .int mm, .ref hMl, .ref hMw, .long mu, .long mv, .ref hMi, .ref hMx, .int out.1])), (hMn, .inl (cI, 22, .inl mn)), (hMi, .inl (cI, 80, .inl out.2.1)), (hMx, .inl (cI, 80, .inl out.2.2))] H → va_D A [(hMo, .inr (6, [.ref hMn, .ref hMr, .ref hMa, .ref hMp, .int mc, .ref hMt, .int ml, .int ms, .ref hMd, .ref hMk, .ref hMy, .int mm, .ref hMl, .ref hMw, .long mu, .long mv, .ref hMi, .ref hMx, .int out.1])), (hMn, .inl (cI, 22, .inl mn)), (hMi, .inl (cI, 80, .inl out.2.1)), (hMx, .inl (cI, 80, .inl out.2.2))] → va_S A s.heap H locs → lv_has ls 6 [(0, .ref hMo)] → W p l e { frames := 3, cells := 0, slots := 0, locals := 68 } s m args below meth c H locs 0 0 Q (F0 m 163 ls [])) → W p l e { frames := 3, cells := 0, slots := 0, locals := 68 } s m args below meth c H locs 0 0 Q (F0 m 55 ls []) := by
  have hx := F.1
  have hb := F.2.1
  have hown := F.2.2.2.1
  have hts := F.2.2.2.2
  have hK := hG.1.1
  intro n
  induction n with
  | zero =>
    intro y2 me mi mx out ho
    exact (fp_l0 ho).elim
  | succ n ih =>
    intro y2 me mi mx out ho H locs ls hP hD hS hl hex
    obtain ⟨o, hf, ho⟩ := fp_l ho
    have hf : f_X6_spreads_55 mn y2 me mi mx = some o := hf
    rw [f_X6_spreads_55] at hf
    refine lv_iload_n hx hb dX6_spreads_55 rfl (lv_at hl 1 rfl) ?_
    refine lv_aload_n hx hb dX6_spreads_56 rfl (lv_at hl 0 rfl) ?_
    refine va_get (D := D) (ci := 6) (v := .int me) (C := RX6) (T := TX6) (N := 19) hx hb hts ku_X6_spreads_X6 hown hK hP 0 rfl rfl 18 (by decide) (hts _ kw_X6_spreads_4) (fun _ h9 => h9) rfl dX6_spreads_57 ?_
    refine lv_icmp_ge (tgt := 163) hx hb dX6_spreads_60 (by decide) (fun c177 => ?_) (fun c177 => ?_)
    · have hf := fp_t hf c177
      obtain rfl := Option.some.inj hf
      have ho := fp_inr ho
      obtain rfl := Option.some.inj ho
      exact hex _ _ _ hP hD hS (lv_sub hl [0] rfl)
    · have hf := fp_f hf c177
      refine lv_aload_n hx hb dX6_spreads_63 rfl (lv_at hl 0 rfl) ?_
      refine va_get (D := D) (ci := 6) (v := .ref hMi) (C := RX6) (T := TX6) (N := 19) hx hb hts ku_X6_spreads_X6 hown hK hP 0 rfl rfl 16 (by decide) (hts _ kw_X6_spreads_2) (fun _ h9 => h9) rfl dX6_spreads_64 ?_
      refine lv_iload_n hx hb dX6_spreads_67 rfl (lv_at hl 1 rfl) ?_
      obtain ⟨k178, hf⟩ := fp_c hf
      refine va_iald hx hb hK hP 2 0 rfl rfl k178 dX6_spreads_68 ?_
      refine lv_istore_n (lv' := [(3, .int (mi y2.toNatClampNeg)), (0, .ref hMo), (2, .int y2)]) hx hb dX6_spreads_69 rfl hl (by decide) rfl (fun ls hl => ?_)
      refine lv_iconst (v := (0 : Int32)) hx hb dX6_spreads_70 (by decide) ?_
      refine lv_istore (lv' := [(4, .int (0 : Int32)), (3, .int (mi y2.toNatClampNeg)), (0, .ref hMo), (2, .int y2)]) hx hb dX6_spreads_71 hl (by decide) rfl (fun ls hl => ?_)
      obtain ⟨o187, eo187, hf⟩ := fp_b hf
      refine lp_X6_spreads_73 F hG hA _ _ eo187 hP hD hS (lv_sub hl [2, 3, 1, 0] rfl) (fun H locs ls hP hD hS hl => ?_)
      refine lv_iinc (v := (y2 + (1 : Int32))) (lv' := [(2, .int (y2 + (1 : Int32))), (0, .ref hMo), (3, .int (mi y2.toNatClampNeg))]) hx hb dX6_spreads_157 hl (k := 1) rfl rfl (by decide) rfl (fun ls hl => ?_)
      refine lv_goto (tgt := 55) hx hb dX6_spreads_160 (by decide) ?_
      obtain rfl := Option.some.inj hf
      exact ih _ (fp_inl ho) hP hD hS (lv_sub hl [1, 0] rfl) hex
def f_X6_spreads (me : Int32) (mn : Nat → Int32) (mi : Nat → Int32) (mx : Nat → Int32) (x1 : Int32) : Option (Int32 × (Nat → Int32) × (Nat → Int32)) :=
  Option.bind (lpf (fun s => f_X6_spreads_2 me mn mi x1 s.1 s.2) 1000 ((0 : Int32), mx)) (fun o174 => Option.bind (f_X6_portState mn x1) (fun r175 => chk (aix ((upd mi (Int32.toNatClampNeg (0 : Int32)) r175) (Int32.toNatClampNeg (0 : Int32))) 80) (Option.bind (lpf (fun s => f_X6_spreads_55 mn s.1 s.2.1 s.2.2.1 s.2.2.2) 1000 ((0 : Int32), (1 : Int32), (upd mi (Int32.toNatClampNeg (0 : Int32)) r175), (upd o174 (Int32.toNatClampNeg ((upd mi (Int32.toNatClampNeg (0 : Int32)) r175) (Int32.toNatClampNeg (0 : Int32)))) (1 : Int32)))) (fun o188 => some (o188.1, o188.2.1, o188.2.2)))))
set_option maxHeartbeats 4000000 in
set_option maxRecDepth 100000 in
theorem b_X6_spreads {p : Program} {l : Launch} {e : Env} {s : State} {m : MethodId} {args : Array Value} {below : List Frame} {meth : Method} {c : Code} {Q : State → Prop} {A : Nat → Prop} {H : Heap} {locs : List Loc} {D : va_G} {cI cJ cZ cQ : ClassId} {qs : Nat × Nat × Nat} {hMo hMn hMr hMa hMp hMt hMd hMk hMy hMl hMw hMi hMx : Nat} {mc : Int32} {ml : Int32} {ms : Int32} {mm : Int32} {mu : Int64} {mv : Int64} {me : Int32} {mn : Nat → Int32} {mi : Nat → Int32} {mx : Nat → Int32} {x1 : Int32} {out : Int32 × (Nat → Int32) × (Nat → Int32)} (F : CallFix p m c cX6_spreads 6 s args wsX6_spreads RX6) (hG : kW D (ty4 cI cJ cZ cQ) qs A s s.heap) (hA : ∀ q : Nat, s.heap.size ≤ q → A q) (hP : va_P D vwCl [(hMo, .inr (6, [.ref hMn, .ref hMr, .ref hMa, .ref hMp, .int mc, .ref hMt, .int ml, .int ms, .ref hMd, .ref hMk, .ref hMy, .int mm, .ref hMl, .ref hMw, .long mu, .long mv, .ref hMi, .ref hMx, .int me])), (hMn, .inl (cI, 22, .inl mn)), (hMi, .inl (cI, 80, .inl mi)), (hMx, .inl (cI, 80, .inl mx))] H) (hD : va_D A [(hMo, .inr (6, [.ref hMn, .ref hMr, .ref hMa, .ref hMp, .int mc, .ref hMt, .int ml, .int ms, .ref hMd, .ref hMk, .ref hMy, .int mm, .ref hMl, .ref hMw, .long mu, .long mv, .ref hMi, .ref hMx, .int me])), (hMn, .inl (cI, 22, .inl mn)), (hMi, .inl (cI, 80, .inl mi)), (hMx, .inl (cI, 80, .inl mx))]) (hS : va_S A s.heap H locs) (hf : f_X6_spreads me mn mi mx x1 = some out) (hret : ∀ (pc : Nat) (H : Heap) (locs : List Loc) (ls : Array Slot), decode cX6_spreads pc = .ok (.return_, 1) → va_P D vwCl [(hMo, .inr (6, [.ref hMn, .ref hMr, .ref hMa, .ref hMp, .int mc, .ref hMt, .int ml, .int ms, .ref hMd, .ref hMk, .ref hMy, .int mm, .ref hMl, .ref hMw, .long mu, .long mv, .ref hMi, .ref hMx, .int out.1])), (hMn, .inl (cI, 22, .inl mn)), (hMi, .inl (cI, 80, .inl out.2.1)), (hMx, .inl (cI, 80, .inl out.2.2))] H → va_D A [(hMo, .inr (6, [.ref hMn, .ref hMr, .ref hMa, .ref hMp, .int mc, .ref hMt, .int ml, .int ms, .ref hMd, .ref hMk, .ref hMy, .int mm, .ref hMl, .ref hMw, .long mu, .long mv, .ref hMi, .ref hMx, .int out.1])), (hMn, .inl (cI, 22, .inl mn)), (hMi, .inl (cI, 80, .inl out.2.1)), (hMx, .inl (cI, 80, .inl out.2.2))] → va_S A s.heap H locs → W p l e { frames := 3, cells := 0, slots := 0, locals := 68 } s m args below meth c H locs 0 0 Q (F0 m pc ls [])) {ls : Array Slot} (hl : lv_has ls 6 [(0, .ref hMo), (1, .int x1)]) : W p l e { frames := 3, cells := 0, slots := 0, locals := 68 } s m args below meth c H locs 0 0 Q (F0 m 0 ls []) := by
  have hx := F.1
  have hb := F.2.1
  have hown := F.2.2.2.1
  have hts := F.2.2.2.2
  have hK := hG.1.1
  rw [f_X6_spreads] at hf
  refine lv_iconst (v := (0 : Int32)) hx hb dX6_spreads_0 (by decide) ?_
  refine lv_istore_n (lv' := [(2, .int (0 : Int32)), (0, .ref hMo), (1, .int x1)]) hx hb dX6_spreads_1 rfl hl (by decide) rfl (fun ls hl => ?_)
  obtain ⟨o174, eo174, hf⟩ := fp_b hf
  refine lp_X6_spreads_2 F hG hA _ _ eo174 hP hD hS (lv_sub hl [1, 2, 0] rfl) (fun H locs ls hP hD hS hl => ?_)
  refine lv_aload_n hx hb dX6_spreads_22 rfl (lv_at hl 0 rfl) ?_
  refine va_get (D := D) (ci := 6) (v := .ref hMi) (C := RX6) (T := TX6) (N := 19) hx hb hts ku_X6_spreads_X6 hown hK hP 0 rfl rfl 16 (by decide) (hts _ kw_X6_spreads_2) (fun _ h9 => h9) rfl dX6_spreads_23 ?_
  refine lv_iconst (v := (0 : Int32)) hx hb dX6_spreads_26 (by decide) ?_
  refine lv_aload_n hx hb dX6_spreads_27 rfl (lv_at hl 0 rfl) ?_
  refine va_get (D := D) (ci := 6) (v := .ref hMn) (C := RX6) (T := TX6) (N := 19) hx hb hts ku_X6_spreads_X6 hown hK hP 0 rfl rfl 0 (by decide) (hts _ kw_X6_spreads_3) (fun _ h9 => h9) rfl dX6_spreads_28 ?_
  refine lv_iload_n hx hb dX6_spreads_31 rfl (lv_at hl 1 rfl) ?_
  obtain ⟨r175, er175, hf⟩ := fp_b hf
  refine RoI.callS (c_X6_portState (l := l) (D := D) (cI := cI) (cJ := cJ) (cZ := cZ) (cQ := cQ) (qs := qs) er175) F (va_cwS 2 hts gX6_spreads_X6_portState rfl rfl rfl yd_X6_portState ⟨Nat.le_of_ble_eq_true rfl, Nat.le_of_ble_eq_true rfl⟩) (hG.r hS) hP [1] rfl rfl hl.1 rfl (Nat.le_of_ble_eq_true rfl) dX6_spreads_32 ⟨Nat.zero_le _, Nat.zero_le _⟩ ?_
  refine va_iast hx hb hK hP hD hS 2 0 rfl rfl (show aix (0 : Int32) 80 by decide) dX6_spreads_35 (fun H locs hP hD hS => ?_)
  have hP : va_P D vwCl [(hMo, .inr (6, [.ref hMn, .ref hMr, .ref hMa, .ref hMp, .int mc, .ref hMt, .int ml, .int ms, .ref hMd, .ref hMk, .ref hMy, .int mm, .ref hMl, .ref hMw, .long mu, .long mv, .ref hMi, .ref hMx, .int me])), (hMn, .inl (cI, 22, .inl mn)), (hMi, .inl (cI, 80, .inl (upd mi (Int32.toNatClampNeg (0 : Int32)) r175))), (hMx, .inl (cI, 80, .inl o174))] H := hP
  have hD : va_D A [(hMo, .inr (6, [.ref hMn, .ref hMr, .ref hMa, .ref hMp, .int mc, .ref hMt, .int ml, .int ms, .ref hMd, .ref hMk, .ref hMy, .int mm, .ref hMl, .ref hMw, .long mu, .long mv, .ref hMi, .ref hMx, .int me])), (hMn, .inl (cI, 22, .inl mn)), (hMi, .inl (cI, 80, .inl (upd mi (Int32.toNatClampNeg (0 : Int32)) r175))), (hMx, .inl (cI, 80, .inl o174))] := hD
  refine lv_aload_n hx hb dX6_spreads_36 rfl (lv_at hl 0 rfl) ?_
  refine va_get (D := D) (ci := 6) (v := .ref hMx) (C := RX6) (T := TX6) (N := 19) hx hb hts ku_X6_spreads_X6 hown hK hP 0 rfl rfl 17 (by decide) (hts _ kw_X6_spreads_1) (fun _ h9 => h9) rfl dX6_spreads_37 ?_
  refine lv_aload_n hx hb dX6_spreads_40 rfl (lv_at hl 0 rfl) ?_
  refine va_get (D := D) (ci := 6) (v := .ref hMi) (C := RX6) (T := TX6) (N := 19) hx hb hts ku_X6_spreads_X6 hown hK hP 0 rfl rfl 16 (by decide) (hts _ kw_X6_spreads_2) (fun _ h9 => h9) rfl dX6_spreads_41 ?_
  refine lv_iconst (v := (0 : Int32)) hx hb dX6_spreads_44 (by decide) ?_
  refine va_iald hx hb hK hP 2 0 rfl rfl (show aix (0 : Int32) 80 by decide) dX6_spreads_45 ?_
  refine lv_iconst (v := (1 : Int32)) hx hb dX6_spreads_46 (by decide) ?_
  obtain ⟨k176, hf⟩ := fp_c hf
  refine va_iast hx hb hK hP hD hS 3 0 rfl rfl k176 dX6_spreads_47 (fun H locs hP hD hS => ?_)
  have hP : va_P D vwCl [(hMo, .inr (6, [.ref hMn, .ref hMr, .ref hMa, .ref hMp, .int mc, .ref hMt, .int ml, .int ms, .ref hMd, .ref hMk, .ref hMy, .int mm, .ref hMl, .ref hMw, .long mu, .long mv, .ref hMi, .ref hMx, .int me])), (hMn, .inl (cI, 22, .inl mn)), (hMi, .inl (cI, 80, .inl (upd mi (Int32.toNatClampNeg (0 : Int32)) r175))), (hMx, .inl (cI, 80, .inl (upd o174 (Int32.toNatClampNeg ((upd mi (Int32.toNatClampNeg (0 : Int32)) r175) (Int32.toNatClampNeg (0 : Int32)))) (1 : Int32))))] H := hP
  have hD : va_D A [(hMo, .inr (6, [.ref hMn, .ref hMr, .ref hMa, .ref hMp, .int mc, .ref hMt, .int ml, .int ms, .ref hMd, .ref hMk, .ref hMy, .int mm, .ref hMl, .ref hMw, .long mu, .long mv, .ref hMi, .ref hMx, .int me])), (hMn, .inl (cI, 22, .inl mn)), (hMi, .inl (cI, 80, .inl (upd mi (Int32.toNatClampNeg (0 : Int32)) r175))), (hMx, .inl (cI, 80, .inl (upd o174 (Int32.toNatClampNeg ((upd mi (Int32.toNatClampNeg (0 : Int32)) r175) (Int32.toNatClampNeg (0 : Int32)))) (1 : Int32))))] := hD
  refine lv_aload_n hx hb dX6_spreads_48 rfl (lv_at hl 0 rfl) ?_
  refine lv_iconst (v := (1 : Int32)) hx hb dX6_spreads_49 (by decide) ?_
  refine va_put (D := D) (ci := 6) (v := .int (1 : Int32)) (ty := .int) (C := RX6) (T := TX6) (N := 19) hx hb hts ku_X6_spreads_X6 tyX6 tyX6_ok nmX6 hown hK hP hD hS 0 rfl rfl 18 (by decide) (hts _ kw_X6_spreads_4) (fun _ h9 => h9) rfl (by decide +kernel) rfl rfl (Nat.le_of_ble_eq_true rfl) dX6_spreads_50 (fun H locs hP hD hS => ?_)
  have hP : va_P D vwCl [(hMo, .inr (6, [.ref hMn, .ref hMr, .ref hMa, .ref hMp, .int mc, .ref hMt, .int ml, .int ms, .ref hMd, .ref hMk, .ref hMy, .int mm, .ref hMl, .ref hMw, .long mu, .long mv, .ref hMi, .ref hMx, .int (1 : Int32)])), (hMn, .inl (cI, 22, .inl mn)), (hMi, .inl (cI, 80, .inl (upd mi (Int32.toNatClampNeg (0 : Int32)) r175))), (hMx, .inl (cI, 80, .inl (upd o174 (Int32.toNatClampNeg ((upd mi (Int32.toNatClampNeg (0 : Int32)) r175) (Int32.toNatClampNeg (0 : Int32)))) (1 : Int32))))] H := hP
  have hD : va_D A [(hMo, .inr (6, [.ref hMn, .ref hMr, .ref hMa, .ref hMp, .int mc, .ref hMt, .int ml, .int ms, .ref hMd, .ref hMk, .ref hMy, .int mm, .ref hMl, .ref hMw, .long mu, .long mv, .ref hMi, .ref hMx, .int (1 : Int32)])), (hMn, .inl (cI, 22, .inl mn)), (hMi, .inl (cI, 80, .inl (upd mi (Int32.toNatClampNeg (0 : Int32)) r175))), (hMx, .inl (cI, 80, .inl (upd o174 (Int32.toNatClampNeg ((upd mi (Int32.toNatClampNeg (0 : Int32)) r175) (Int32.toNatClampNeg (0 : Int32)))) (1 : Int32))))] := hD
  refine lv_iconst (v := (0 : Int32)) hx hb dX6_spreads_53 (by decide) ?_
  refine lv_istore_n (lv' := [(2, .int (0 : Int32)), (0, .ref hMo), (1, .int x1)]) hx hb dX6_spreads_54 rfl hl (by decide) rfl (fun ls hl => ?_)
  obtain ⟨o188, eo188, hf⟩ := fp_b hf
  refine lp_X6_spreads_55 F hG hA _ _ eo188 hP hD hS (lv_sub hl [1, 0] rfl) (fun H locs ls hP hD hS hl => ?_)
  obtain rfl := Option.some.inj hf
  exact hret _ _ _ _ dX6_spreads_163 hP hD hS
set_option maxRecDepth 100000 in
theorem c_X6_spreads {l : Launch} {D : va_G} {cI cJ cZ cQ : ClassId} {qs : Nat × Nat × Nat} {hMo hMn hMr hMa hMp hMt hMd hMk hMy hMl hMw hMi hMx : Nat} {mc : Int32} {ml : Int32} {ms : Int32} {mm : Int32} {mu : Int64} {mv : Int64} {me : Int32} {mn : Nat → Int32} {mi : Nat → Int32} {mx : Nat → Int32} {x1 : Int32} {out : Int32 × (Nat → Int32) × (Nat → Int32)} (hf : f_X6_spreads me mn mi mx x1 = some out) : RwV l yX6_spreads wsX6_spreads { frames := 3, cells := 0, slots := 0, locals := 68 } D (ty4 cI cJ cZ cQ) qs [.ref hMo, .int x1] [(hMo, .inr (6, [.ref hMn, .ref hMr, .ref hMa, .ref hMp, .int mc, .ref hMt, .int ml, .int ms, .ref hMd, .ref hMk, .ref hMy, .int mm, .ref hMl, .ref hMw, .long mu, .long mv, .ref hMi, .ref hMx, .int me])), (hMn, .inl (cI, 22, .inl mn)), (hMi, .inl (cI, 80, .inl mi)), (hMx, .inl (cI, 80, .inl mx))] [(hMo, .inr (6, [.ref hMn, .ref hMr, .ref hMa, .ref hMp, .int mc, .ref hMt, .int ml, .int ms, .ref hMd, .ref hMk, .ref hMy, .int mm, .ref hMl, .ref hMw, .long mu, .long mv, .ref hMi, .ref hMx, .int out.1])), (hMn, .inl (cI, 22, .inl mn)), (hMi, .inl (cI, 80, .inl out.2.1)), (hMx, .inl (cI, 80, .inl out.2.2))] :=
  RwV.of (own := RX6) (by decide +kernel) rfl rfl (Nat.le_of_ble_eq_true rfl) (fun F hG hA hP hD hS hret ls hl => b_X6_spreads F hG hA hP hD hS hf hret hl)
-- method X6_lit
theorem yd_X6_lit : yX6_lit.cls = RX6 ∧ yX6_lit.cls ≠ "java/lang/invoke/MethodHandle" ∧ yX6_lit.cls ≠ "java/lang/invoke/VarHandle" ∧ (parseMethodDescriptor yX6_lit.desc).map (fun d => d.parameters.length) = some 1 := by decide +kernel
theorem ku_X6_lit_X6 : ∀ w ∈ u_ws RX6 TX6 19, w ∈ wsX6_lit := by decide +kernel
theorem kw_X6_lit_1 : Cond.fieldLink RX6 184 "MirrorSharesModel" "met" "I" ∈ wsX6_lit := List.mem_of_getElem? (i := 1) rfl
theorem kw_X6_lit_2 : Cond.fieldLink RX6 42 "MirrorSharesModel" "line" "[I" ∈ wsX6_lit := List.mem_of_getElem? (i := 2) rfl
def f_X6_lit_19 (me : Int32) (mn : Nat → Int32) (mi : Nat → Int32) (mx : Nat → Int32) (y2 : Int32) (y3 : Int32) : Option ((Int32 × Int32) ⊕ (Int32)) :=
  (if me ≤ y3 then some (Sum.inr y2) else chk (aix y3 80) (some (Sum.inl ((y2 ||| ((1 : Int32) <<< (((mi y3.toNatClampNeg) / (4 : Int32)) &&& 31))), (y3 + (1 : Int32))))))
set_option maxHeartbeats 4000000 in
set_option maxRecDepth 100000 in
theorem lp_X6_lit_19 {p : Program} {l : Launch} {e : Env} {s : State} {m : MethodId} {args : Array Value} {below : List Frame} {meth : Method} {c : Code} {Q : State → Prop} {A : Nat → Prop} {D : va_G} {cI cJ cZ cQ : ClassId} {qs : Nat × Nat × Nat} {hMo hMn hMr hMa hMp hMt hMd hMk hMy hMl hMw hMi hMx : Nat} {me : Int32} {mn : Nat → Int32} {mi : Nat → Int32} {mx : Nat → Int32} {mc : Int32} {ml : Int32} {ms : Int32} {mm : Int32} {mu : Int64} {mv : Int64} (F : CallFix p m c cX6_lit 4 s args wsX6_lit RX6) (hG : kW D (ty4 cI cJ cZ cQ) qs A s s.heap) (hA : ∀ q : Nat, s.heap.size ≤ q → A q) :
    ∀ (n : Nat) {y2 : Int32} {y3 : Int32} (out : Int32), lpf (fun s => f_X6_lit_19 me mn mi mx s.1 s.2) n (y2, y3) = some out → ∀ {H : Heap} {locs : List Loc} {ls : Array Slot}, va_P D vwCl [(hMo, .inr (6, [.ref hMn, .ref hMr, .ref hMa, .ref hMp, .int mc, .ref hMt, .int ml, .int ms, .ref hMd, .ref hMk, .ref hMy, .int mm, .ref hMl, .ref hMw, .long mu, .long mv, .ref hMi, .ref hMx, .int me])), (hMn, .inl (cI, 22, .inl mn)), (hMi, .inl (cI, 80, .inl mi)), (hMx, .inl (cI, 80, .inl mx))] H → va_D A [(hMo, .inr (6, [.ref hMn, .ref hMr, .ref hMa, .ref hMp, .int mc, .ref hMt, .int ml, .int ms, .ref hMd, .ref hMk, .ref hMy, .int mm, .ref hMl, .ref hMw, .long mu, .long mv, .ref hMi, .ref hMx, .int me])), (hMn, .inl (cI, 22, .inl mn)), (hMi, .inl (cI, 80, .inl mi)), (hMx, .inl (cI, 80, .inl mx))] → va_S A s.heap H locs → lv_has ls 4 [(0, .ref hMo), (2, .int y2), (3, .int y3)] → (∀ (H : Heap) (locs : List Loc) (ls : Array Slot), va_P D vwCl [(hMo, .inr (6, [.ref hMn, .ref hMr, .ref hMa, .ref hMp, .int mc, .ref hMt, .int ml, .int ms, .ref hMd, .ref hMk, .ref hMy, .int mm, .ref hMl, .ref hMw, .long mu, .long mv, .ref hMi, .ref hMx, .int me])), (hMn, .inl (cI, 22, .inl mn)), (hMi, .inl (cI, 80, .inl mi)), (hMx, .inl (cI, 80, .inl mx))] H → va_D A [(hMo, .inr (6, [.ref hMn, .ref hMr, .ref hMa, .ref hMp, .int mc, .ref hMt, .int ml, .int ms, .ref hMd, .ref hMk, .ref hMy, .int mm, .ref hMl, .ref hMw, .long mu, .long mv, .ref hMi, .ref hMx, .int me])), (hMn, .inl (cI, 22, .inl mn)), (hMi, .inl (cI, 80, .inl mi)), (hMx, .inl (cI, 80, .inl mx))] → va_S A s.heap H locs → lv_has ls 4 [(0, .ref hMo), (2, .int out)] → W p l e { frames := 4, cells := 0, slots := 0, locals := 93 } s m args below meth c H locs 0 0 Q (F0 m 46 ls [])) → W p l e { frames := 4, cells := 0, slots := 0, locals := 93 } s m args below meth c H locs 0 0 Q (F0 m 19 ls []) := by
  have hx := F.1
  have hb := F.2.1
  have hown := F.2.2.2.1
  have hts := F.2.2.2.2
  have hK := hG.1.1
  intro n
  induction n with
  | zero =>
    intro y2 y3 out ho
    exact (fp_l0 ho).elim
  | succ n ih =>
    intro y2 y3 out ho H locs ls hP hD hS hl hex
    obtain ⟨o, hf, ho⟩ := fp_l ho
    have hf : f_X6_lit_19 me mn mi mx y2 y3 = some o := hf
    rw [f_X6_lit_19] at hf
    refine lv_iload_n hx hb dX6_lit_19 rfl (lv_at hl 2 rfl) ?_
    refine lv_aload_n hx hb dX6_lit_20 rfl (lv_at hl 0 rfl) ?_
    refine va_get (D := D) (ci := 6) (v := .int me) (C := RX6) (T := TX6) (N := 19) hx hb hts ku_X6_lit_X6 hown hK hP 0 rfl rfl 18 (by decide) (hts _ kw_X6_lit_1) (fun _ h9 => h9) rfl dX6_lit_21 ?_
    refine lv_icmp_ge (tgt := 46) hx hb dX6_lit_24 (by decide) (fun c192 => ?_) (fun c192 => ?_)
    · have hf := fp_t hf c192
      obtain rfl := Option.some.inj hf
      have ho := fp_inr ho
      obtain rfl := Option.some.inj ho
      exact hex _ _ _ hP hD hS (lv_sub hl [0, 1] rfl)
    · have hf := fp_f hf c192
      refine lv_iload_n hx hb dX6_lit_27 rfl (lv_at hl 1 rfl) ?_
      refine lv_iconst (v := (1 : Int32)) hx hb dX6_lit_28 (by decide) ?_
      refine lv_aload_n hx hb dX6_lit_29 rfl (lv_at hl 0 rfl) ?_
      refine va_get (D := D) (ci := 6) (v := .ref hMi) (C := RX6) (T := TX6) (N := 19) hx hb hts ku_X6_lit_X6 hown hK hP 0 rfl rfl 16 (by decide) (hts _ kw_X6_lit_2) (fun _ h9 => h9) rfl dX6_lit_30 ?_
      refine lv_iload_n hx hb dX6_lit_33 rfl (lv_at hl 2 rfl) ?_
      obtain ⟨k193, hf⟩ := fp_c hf
      refine va_iald hx hb hK hP 2 0 rfl rfl k193 dX6_lit_34 ?_
      refine lv_iconst (v := (4 : Int32)) hx hb dX6_lit_35 (by decide) ?_
      refine lv_idiv hx hb dX6_lit_36 (by decide) ?_
      refine lv_ishl hx hb dX6_lit_37 ?_
      refine lv_ior hx hb dX6_lit_38 ?_
      refine lv_istore_n (lv' := [(2, .int (y2 ||| ((1 : Int32) <<< (((mi y3.toNatClampNeg) / (4 : Int32)) &&& 31)))), (0, .ref hMo), (3, .int y3)]) hx hb dX6_lit_39 rfl hl (by decide) rfl (fun ls hl => ?_)
      refine lv_iinc (v := (y3 + (1 : Int32))) (lv' := [(3, .int (y3 + (1 : Int32))), (2, .int (y2 ||| ((1 : Int32) <<< (((mi y3.toNatClampNeg) / (4 : Int32)) &&& 31)))), (0, .ref hMo)]) hx hb dX6_lit_40 hl (k := 2) rfl rfl (by decide) rfl (fun ls hl => ?_)
      refine lv_goto (tgt := 19) hx hb dX6_lit_43 (by decide) ?_
      obtain rfl := Option.some.inj hf
      exact ih _ (fp_inl ho) hP hD hS (lv_sub hl [2, 1, 0] rfl) hex
def f_X6_lit (me : Int32) (mn : Nat → Int32) (mi : Nat → Int32) (mx : Nat → Int32) (x1 : Int32) : Option (Int32 × Int32 × (Nat → Int32) × (Nat → Int32)) :=
  Option.bind (f_X6_isPort mn x1) (fun r189 => (if r189 = 0 then some ((-1 : Int32), me, mi, mx) else Option.bind (f_X6_spreads me mn mi mx x1) (fun r191 => Option.bind (lpf (fun s => f_X6_lit_19 r191.1 mn r191.2.1 r191.2.2 s.1 s.2) 1000 ((0 : Int32), (0 : Int32))) (fun o194 => some (o194, r191.1, r191.2.1, r191.2.2)))))
set_option maxHeartbeats 4000000 in
set_option maxRecDepth 100000 in
theorem b_X6_lit {p : Program} {l : Launch} {e : Env} {s : State} {m : MethodId} {args : Array Value} {below : List Frame} {meth : Method} {c : Code} {Q : State → Prop} {A : Nat → Prop} {H : Heap} {locs : List Loc} {D : va_G} {cI cJ cZ cQ : ClassId} {qs : Nat × Nat × Nat} {hMo hMn hMr hMa hMp hMt hMd hMk hMy hMl hMw hMi hMx : Nat} {mc : Int32} {ml : Int32} {ms : Int32} {mm : Int32} {mu : Int64} {mv : Int64} {me : Int32} {mn : Nat → Int32} {mi : Nat → Int32} {mx : Nat → Int32} {x1 : Int32} {out : Int32 × Int32 × (Nat → Int32) × (Nat → Int32)} (F : CallFix p m c cX6_lit 4 s args wsX6_lit RX6) (hG : kW D (ty4 cI cJ cZ cQ) qs A s s.heap) (hA : ∀ q : Nat, s.heap.size ≤ q → A q) (hP : va_P D vwCl [(hMo, .inr (6, [.ref hMn, .ref hMr, .ref hMa, .ref hMp, .int mc, .ref hMt, .int ml, .int ms, .ref hMd, .ref hMk, .ref hMy, .int mm, .ref hMl, .ref hMw, .long mu, .long mv, .ref hMi, .ref hMx, .int me])), (hMn, .inl (cI, 22, .inl mn)), (hMi, .inl (cI, 80, .inl mi)), (hMx, .inl (cI, 80, .inl mx))] H) (hD : va_D A [(hMo, .inr (6, [.ref hMn, .ref hMr, .ref hMa, .ref hMp, .int mc, .ref hMt, .int ml, .int ms, .ref hMd, .ref hMk, .ref hMy, .int mm, .ref hMl, .ref hMw, .long mu, .long mv, .ref hMi, .ref hMx, .int me])), (hMn, .inl (cI, 22, .inl mn)), (hMi, .inl (cI, 80, .inl mi)), (hMx, .inl (cI, 80, .inl mx))]) (hS : va_S A s.heap H locs) (hf : f_X6_lit me mn mi mx x1 = some out) (hret : ∀ (pc : Nat) (H : Heap) (locs : List Loc) (ls : Array Slot), decode cX6_lit pc = .ok (.ireturn, 1) → narrow .int (.int out.1) = .int out.1 → va_P D vwCl [(hMo, .inr (6, [.ref hMn, .ref hMr, .ref hMa, .ref hMp, .int mc, .ref hMt, .int ml, .int ms, .ref hMd, .ref hMk, .ref hMy, .int mm, .ref hMl, .ref hMw, .long mu, .long mv, .ref hMi, .ref hMx, .int out.2.1])), (hMn, .inl (cI, 22, .inl mn)), (hMi, .inl (cI, 80, .inl out.2.2.1)), (hMx, .inl (cI, 80, .inl out.2.2.2))] H → va_D A [(hMo, .inr (6, [.ref hMn, .ref hMr, .ref hMa, .ref hMp, .int mc, .ref hMt, .int ml, .int ms, .ref hMd, .ref hMk, .ref hMy, .int mm, .ref hMl, .ref hMw, .long mu, .long mv, .ref hMi, .ref hMx, .int out.2.1])), (hMn, .inl (cI, 22, .inl mn)), (hMi, .inl (cI, 80, .inl out.2.2.1)), (hMx, .inl (cI, 80, .inl out.2.2.2))] → va_S A s.heap H locs → W p l e { frames := 4, cells := 0, slots := 0, locals := 93 } s m args below meth c H locs 0 0 Q (F0 m pc ls [.int out.1])) {ls : Array Slot} (hl : lv_has ls 4 [(0, .ref hMo), (1, .int x1)]) : W p l e { frames := 4, cells := 0, slots := 0, locals := 93 } s m args below meth c H locs 0 0 Q (F0 m 0 ls []) := by
  have hx := F.1
  have hb := F.2.1
  have hown := F.2.2.2.1
  have hts := F.2.2.2.2
  have hK := hG.1.1
  rw [f_X6_lit] at hf
  refine lv_aload_n hx hb dX6_lit_0 rfl (lv_at hl 0 rfl) ?_
  refine lv_iload_n hx hb dX6_lit_1 rfl (lv_at hl 1 rfl) ?_
  obtain ⟨r189, er189, hf⟩ := fp_b hf
  refine RoI.callV (c_X6_isPort (l := l) (D := D) (cI := cI) (cJ := cJ) (cZ := cZ) (cQ := cQ) (qs := qs) er189) F (cwV 1 hts gX6_lit_X6_isPort rfl rfl rfl yd_X6_isPort ⟨Nat.le_of_ble_eq_true rfl, Nat.le_of_ble_eq_true rfl⟩) (hG.r hS) hP [0, 1] rfl 6 rfl rfl rfl hl.1 rfl (Nat.le_of_ble_eq_true rfl) dX6_lit_2 ⟨Nat.zero_le _, Nat.zero_le _⟩ ?_
  refine lv_if_ne (tgt := 10) hx hb dX6_lit_5 (by decide) (fun c190 => ?_) (fun c190 => ?_)
  · have hf := fp_f hf c190
    refine lv_aload_n hx hb dX6_lit_10 rfl (lv_at hl 0 rfl) ?_
    refine lv_iload_n hx hb dX6_lit_11 rfl (lv_at hl 1 rfl) ?_
    obtain ⟨r191, er191, hf⟩ := fp_b hf
    refine kc_rwV (w2 := [(hMo, .inr (6, [.ref hMn, .ref hMr, .ref hMa, .ref hMp, .int mc, .ref hMt, .int ml, .int ms, .ref hMd, .ref hMk, .ref hMy, .int mm, .ref hMl, .ref hMw, .long mu, .long mv, .ref hMi, .ref hMx, .int r191.1])), (hMn, .inl (cI, 22, .inl mn)), (hMi, .inl (cI, 80, .inl r191.2.1)), (hMx, .inl (cI, 80, .inl r191.2.2))]) (RwV.runV (c_X6_spreads (l := l) (D := D) (cI := cI) (cJ := cJ) (cZ := cZ) (cQ := cQ) (qs := qs) er191) F (cwV 1 hts gX6_lit_X6_spreads rfl rfl rfl yd_X6_spreads ⟨Nat.le_of_ble_eq_true rfl, Nat.le_of_ble_eq_true rfl⟩) hG hP hD hS hA [0, 1, 2, 3] (by decide) rfl 6 rfl rfl rfl hl.1 rfl (Nat.le_of_ble_eq_true rfl) dX6_lit_12 ⟨Nat.zero_le _, Nat.zero_le _⟩) hP hD hS hA [0, 1, 2, 3] [] [0, 1, 2, 3] rfl (wr := []) rfl (by decide) (by decide) rfl (by decide) (fun H locs hP hD hS => ?_)
    refine lv_iconst (v := (0 : Int32)) hx hb dX6_lit_15 (by decide) ?_
    refine lv_istore_n (lv' := [(2, .int (0 : Int32)), (0, .ref hMo), (1, .int x1)]) hx hb dX6_lit_16 rfl hl (by decide) rfl (fun ls hl => ?_)
    refine lv_iconst (v := (0 : Int32)) hx hb dX6_lit_17 (by decide) ?_
    refine lv_istore_n (lv' := [(3, .int (0 : Int32)), (2, .int (0 : Int32)), (0, .ref hMo), (1, .int x1)]) hx hb dX6_lit_18 rfl hl (by decide) rfl (fun ls hl => ?_)
    obtain ⟨o194, eo194, hf⟩ := fp_b hf
    refine lp_X6_lit_19 F hG hA _ _ eo194 hP hD hS (lv_sub hl [2, 1, 0] rfl) (fun H locs ls hP hD hS hl => ?_)
    refine lv_iload_n hx hb dX6_lit_46 rfl (lv_at hl 1 rfl) ?_
    obtain rfl := Option.some.inj hf
    exact hret _ _ _ _ dX6_lit_47 (vp_nar_int _) hP hD hS
  · have hf := fp_t hf c190
    refine lv_iconst (v := (-1 : Int32)) hx hb dX6_lit_8 (by decide) ?_
    obtain rfl := Option.some.inj hf
    exact hret _ _ _ _ dX6_lit_9 (vp_nar_int _) hP hD hS
set_option maxRecDepth 100000 in
theorem c_X6_lit {l : Launch} {D : va_G} {cI cJ cZ cQ : ClassId} {qs : Nat × Nat × Nat} {hMo hMn hMr hMa hMp hMt hMd hMk hMy hMl hMw hMi hMx : Nat} {mc : Int32} {ml : Int32} {ms : Int32} {mm : Int32} {mu : Int64} {mv : Int64} {me : Int32} {mn : Nat → Int32} {mi : Nat → Int32} {mx : Nat → Int32} {x1 : Int32} {out : Int32 × Int32 × (Nat → Int32) × (Nat → Int32)} (hf : f_X6_lit me mn mi mx x1 = some out) : RwI l yX6_lit wsX6_lit { frames := 4, cells := 0, slots := 0, locals := 93 } D (ty4 cI cJ cZ cQ) qs [.ref hMo, .int x1] [(hMo, .inr (6, [.ref hMn, .ref hMr, .ref hMa, .ref hMp, .int mc, .ref hMt, .int ml, .int ms, .ref hMd, .ref hMk, .ref hMy, .int mm, .ref hMl, .ref hMw, .long mu, .long mv, .ref hMi, .ref hMx, .int me])), (hMn, .inl (cI, 22, .inl mn)), (hMi, .inl (cI, 80, .inl mi)), (hMx, .inl (cI, 80, .inl mx))] [(hMo, .inr (6, [.ref hMn, .ref hMr, .ref hMa, .ref hMp, .int mc, .ref hMt, .int ml, .int ms, .ref hMd, .ref hMk, .ref hMy, .int mm, .ref hMl, .ref hMw, .long mu, .long mv, .ref hMi, .ref hMx, .int out.2.1])), (hMn, .inl (cI, 22, .inl mn)), (hMi, .inl (cI, 80, .inl out.2.2.1)), (hMx, .inl (cI, 80, .inl out.2.2.2))] out.1 :=
  RwI.of (own := RX6) (by decide +kernel) rfl rfl (Nat.le_of_ble_eq_true rfl) (fun F hG hA hP hD hS hret ls hl => b_X6_lit F hG hA hP hD hS hf hret hl)
-- method X6_far
theorem yd_X6_far : yX6_far.cls = RX6 ∧ yX6_far.cls ≠ "java/lang/invoke/MethodHandle" ∧ yX6_far.cls ≠ "java/lang/invoke/VarHandle" ∧ (parseMethodDescriptor yX6_far.desc).map (fun d => d.parameters.length) = some 2 := by decide +kernel
theorem ku_X6_far_X6 : ∀ w ∈ u_ws RX6 TX6 19, w ∈ wsX6_far := by decide +kernel
theorem kw_X6_far_1 : Cond.fieldLink RX6 184 "MirrorSharesModel" "met" "I" ∈ wsX6_far := List.mem_of_getElem? (i := 1) rfl
theorem kw_X6_far_2 : Cond.fieldLink RX6 7 "MirrorSharesModel" "now" "[I" ∈ wsX6_far := List.mem_of_getElem? (i := 2) rfl
theorem kw_X6_far_3 : Cond.fieldLink RX6 42 "MirrorSharesModel" "line" "[I" ∈ wsX6_far := List.mem_of_getElem? (i := 3) rfl
theorem kw_X6_far_4 : Cond.fieldLink RX6 45 "MirrorSharesModel" "took" "[I" ∈ wsX6_far := List.mem_of_getElem? (i := 4) rfl
def f_X6_far_36 (me : Int32) (mn : Nat → Int32) (mi : Nat → Int32) (mx : Nat → Int32) (y2 : Int32) (y3 : Int32) (y4 : Int32) : Option ((Int32) ⊕ ((Int32 × Int32 × (Nat → Int32) × (Nat → Int32)) ⊕ (Unit))) :=
  chk (aix y3 80) (Option.bind (f_X6_waysOf mn (mi y3.toNatClampNeg)) (fun r202 => (if r202 ≤ y4 then some (Sum.inr (Sum.inr ())) else Option.bind (f_X6_goes mn (mi y3.toNatClampNeg) y4) (fun r204 => (if r204 = ((-2 : Int32) - y2) then chk (aix (mi y3.toNatClampNeg) 80) (some (Sum.inr (Sum.inl ((mx (Int32.toNatClampNeg (mi y3.toNatClampNeg))), me, mi, mx)))) else some (Sum.inl (y4 + (1 : Int32))))))))
set_option maxHeartbeats 4000000 in
set_option maxRecDepth 100000 in
theorem lp_X6_far_36 {p : Program} {l : Launch} {e : Env} {s : State} {m : MethodId} {args : Array Value} {below : List Frame} {meth : Method} {c : Code} {Q : State → Prop} {A : Nat → Prop} {D : va_G} {cI cJ cZ cQ : ClassId} {qs : Nat × Nat × Nat} {hMo hMn hMr hMa hMp hMt hMd hMk hMy hMl hMw hMi hMx : Nat} {me : Int32} {mn : Nat → Int32} {mi : Nat → Int32} {mx : Nat → Int32} {y2 : Int32} {y3 : Int32} {mc : Int32} {ml : Int32} {ms : Int32} {mm : Int32} {mu : Int64} {mv : Int64} (F : CallFix p m c cX6_far 5 s args wsX6_far RX6) (hG : kW D (ty4 cI cJ cZ cQ) qs A s s.heap) (hA : ∀ q : Nat, s.heap.size ≤ q → A q) :
    ∀ (n : Nat) {y4 : Int32} (out : (Int32 × Int32 × (Nat → Int32) × (Nat → Int32)) ⊕ (Unit)), lpf (fun s => f_X6_far_36 me mn mi mx y2 y3 s) n y4 = some out → ∀ {H : Heap} {locs : List Loc} {ls : Array Slot}, va_P D vwCl [(hMo, .inr (6, [.ref hMn, .ref hMr, .ref hMa, .ref hMp, .int mc, .ref hMt, .int ml, .int ms, .ref hMd, .ref hMk, .ref hMy, .int mm, .ref hMl, .ref hMw, .long mu, .long mv, .ref hMi, .ref hMx, .int me])), (hMn, .inl (cI, 22, .inl mn)), (hMi, .inl (cI, 80, .inl mi)), (hMx, .inl (cI, 80, .inl mx))] H → va_D A [(hMo, .inr (6, [.ref hMn, .ref hMr, .ref hMa, .ref hMp, .int mc, .ref hMt, .int ml, .int ms, .ref hMd, .ref hMk, .ref hMy, .int mm, .ref hMl, .ref hMw, .long mu, .long mv, .ref hMi, .ref hMx, .int me])), (hMn, .inl (cI, 22, .inl mn)), (hMi, .inl (cI, 80, .inl mi)), (hMx, .inl (cI, 80, .inl mx))] → va_S A s.heap H locs → lv_has ls 5 [(0, .ref hMo), (2, .int y2), (3, .int y3), (4, .int y4)] → (∀ xx, out = Sum.inr xx → ∀ (H : Heap) (locs : List Loc) (ls : Array Slot), va_P D vwCl [(hMo, .inr (6, [.ref hMn, .ref hMr, .ref hMa, .ref hMp, .int mc, .ref hMt, .int ml, .int ms, .ref hMd, .ref hMk, .ref hMy, .int mm, .ref hMl, .ref hMw, .long mu, .long mv, .ref hMi, .ref hMx, .int me])), (hMn, .inl (cI, 22, .inl mn)), (hMi, .inl (cI, 80, .inl mi)), (hMx, .inl (cI, 80, .inl mx))] H → va_D A [(hMo, .inr (6, [.ref hMn, .ref hMr, .ref hMa, .ref hMp, .int mc, .ref hMt, .int ml, .int ms, .ref hMd, .ref hMk, .ref hMy, .int mm, .ref hMl, .ref hMw, .long mu, .long mv, .ref hMi, .ref hMx, .int me])), (hMn, .inl (cI, 22, .inl mn)), (hMi, .inl (cI, 80, .inl mi)), (hMx, .inl (cI, 80, .inl mx))] → va_S A s.heap H locs → lv_has ls 5 [(0, .ref hMo), (2, .int y2), (3, .int y3)] → W p l e { frames := 4, cells := 0, slots := 0, locals := 93 } s m args below meth c H locs 0 0 Q (F0 m 94 ls [])) → (∀ r9, out = Sum.inl r9 → ∀ (pc : Nat) (H : Heap) (locs : List Loc) (ls : Array Slot), decode cX6_far pc = .ok (.ireturn, 1) → narrow .int (.int r9.1) = .int r9.1 → va_P D vwCl [(hMo, .inr (6, [.ref hMn, .ref hMr, .ref hMa, .ref hMp, .int mc, .ref hMt, .int ml, .int ms, .ref hMd, .ref hMk, .ref hMy, .int mm, .ref hMl, .ref hMw, .long mu, .long mv, .ref hMi, .ref hMx, .int r9.2.1])), (hMn, .inl (cI, 22, .inl mn)), (hMi, .inl (cI, 80, .inl r9.2.2.1)), (hMx, .inl (cI, 80, .inl r9.2.2.2))] H → va_D A [(hMo, .inr (6, [.ref hMn, .ref hMr, .ref hMa, .ref hMp, .int mc, .ref hMt, .int ml, .int ms, .ref hMd, .ref hMk, .ref hMy, .int mm, .ref hMl, .ref hMw, .long mu, .long mv, .ref hMi, .ref hMx, .int r9.2.1])), (hMn, .inl (cI, 22, .inl mn)), (hMi, .inl (cI, 80, .inl r9.2.2.1)), (hMx, .inl (cI, 80, .inl r9.2.2.2))] → va_S A s.heap H locs → W p l e { frames := 4, cells := 0, slots := 0, locals := 93 } s m args below meth c H locs 0 0 Q (F0 m pc ls [.int r9.1])) → W p l e { frames := 4, cells := 0, slots := 0, locals := 93 } s m args below meth c H locs 0 0 Q (F0 m 36 ls []) := by
  have hx := F.1
  have hb := F.2.1
  have hown := F.2.2.2.1
  have hts := F.2.2.2.2
  have hK := hG.1.1
  intro n
  induction n with
  | zero =>
    intro y4 out ho
    exact (fp_l0 ho).elim
  | succ n ih =>
    intro y4 out ho H locs ls hP hD hS hl hex hre
    obtain ⟨o, hf, ho⟩ := fp_l ho
    have hf : f_X6_far_36 me mn mi mx y2 y3 y4 = some o := hf
    rw [f_X6_far_36] at hf
    refine lv_iload hx hb dX6_far_36 (lv_at hl 3 rfl) ?_
    refine lv_aload_n hx hb dX6_far_38 rfl (lv_at hl 0 rfl) ?_
    refine va_get (D := D) (ci := 6) (v := .ref hMn) (C := RX6) (T := TX6) (N := 19) hx hb hts ku_X6_far_X6 hown hK hP 0 rfl rfl 0 (by decide) (hts _ kw_X6_far_2) (fun _ h9 => h9) rfl dX6_far_39 ?_
    refine lv_aload_n hx hb dX6_far_42 rfl (lv_at hl 0 rfl) ?_
    refine va_get (D := D) (ci := 6) (v := .ref hMi) (C := RX6) (T := TX6) (N := 19) hx hb hts ku_X6_far_X6 hown hK hP 0 rfl rfl 16 (by decide) (hts _ kw_X6_far_3) (fun _ h9 => h9) rfl dX6_far_43 ?_
    refine lv_iload_n hx hb dX6_far_46 rfl (lv_at hl 2 rfl) ?_
    obtain ⟨k201, hf⟩ := fp_c hf
    refine va_iald hx hb hK hP 2 0 rfl rfl k201 dX6_far_47 ?_
    obtain ⟨r202, er202, hf⟩ := fp_b hf
    refine RoI.callS (c_X6_waysOf (l := l) (D := D) (cI := cI) (cJ := cJ) (cZ := cZ) (cQ := cQ) (qs := qs) er202) F (va_cwS 2 hts gX6_far_X6_waysOf rfl rfl rfl yd_X6_waysOf ⟨Nat.le_of_ble_eq_true rfl, Nat.le_of_ble_eq_true rfl⟩) (hG.r hS) hP [1] rfl rfl hl.1 rfl (Nat.le_of_ble_eq_true rfl) dX6_far_48 ⟨Nat.zero_le _, Nat.zero_le _⟩ ?_
    refine lv_icmp_ge (tgt := 94) hx hb dX6_far_51 (by decide) (fun c203 => ?_) (fun c203 => ?_)
    · have hf := fp_t hf c203
      obtain rfl := Option.some.inj hf
      have ho := fp_inr ho
      obtain rfl := Option.some.inj ho
      exact hex _ rfl _ _ _ hP hD hS (lv_sub hl [0, 1, 2] rfl)
    · have hf := fp_f hf c203
      refine lv_aload_n hx hb dX6_far_54 rfl (lv_at hl 0 rfl) ?_
      refine va_get (D := D) (ci := 6) (v := .ref hMn) (C := RX6) (T := TX6) (N := 19) hx hb hts ku_X6_far_X6 hown hK hP 0 rfl rfl 0 (by decide) (hts _ kw_X6_far_2) (fun _ h9 => h9) rfl dX6_far_55 ?_
      refine lv_aload_n hx hb dX6_far_58 rfl (lv_at hl 0 rfl) ?_
      refine va_get (D := D) (ci := 6) (v := .ref hMi) (C := RX6) (T := TX6) (N := 19) hx hb hts ku_X6_far_X6 hown hK hP 0 rfl rfl 16 (by decide) (hts _ kw_X6_far_3) (fun _ h9 => h9) rfl dX6_far_59 ?_
      refine lv_iload_n hx hb dX6_far_62 rfl (lv_at hl 2 rfl) ?_
      refine va_iald hx hb hK hP 2 0 rfl rfl k201 dX6_far_63 ?_
      refine lv_iload hx hb dX6_far_64 (lv_at hl 3 rfl) ?_
      obtain ⟨r204, er204, hf⟩ := fp_b hf
      refine RoI.callS (c_X6_goes (l := l) (D := D) (cI := cI) (cJ := cJ) (cZ := cZ) (cQ := cQ) (qs := qs) er204) F (va_cwS 3 hts gX6_far_X6_goes rfl rfl rfl yd_X6_goes ⟨Nat.le_of_ble_eq_true rfl, Nat.le_of_ble_eq_true rfl⟩) (hG.r hS) hP [1] rfl rfl hl.1 rfl (Nat.le_of_ble_eq_true rfl) dX6_far_66 ⟨Nat.zero_le _, Nat.zero_le _⟩ ?_
      refine lv_bipush (v := (-2 : Int32)) hx hb dX6_far_69 (by decide) ?_
      refine lv_iload_n hx hb dX6_far_71 rfl (lv_at hl 1 rfl) ?_
      refine lv_isub hx hb dX6_far_72 ?_
      refine lv_icmp_ne (tgt := 88) hx hb dX6_far_73 (by decide) (fun c205 => ?_) (fun c205 => ?_)
      · have hf := fp_f hf c205
        refine lv_iinc (v := (y4 + (1 : Int32))) (lv' := [(4, .int (y4 + (1 : Int32))), (0, .ref hMo), (2, .int y2), (3, .int y3)]) hx hb dX6_far_88 hl (k := 3) rfl rfl (by decide) rfl (fun ls hl => ?_)
        refine lv_goto (tgt := 36) hx hb dX6_far_91 (by decide) ?_
        obtain rfl := Option.some.inj hf
        exact ih _ (fp_inl ho) hP hD hS (lv_sub hl [1, 2, 3, 0] rfl) hex hre
      · have hf := fp_t hf c205
        refine lv_aload_n hx hb dX6_far_76 rfl (lv_at hl 0 rfl) ?_
        refine va_get (D := D) (ci := 6) (v := .ref hMx) (C := RX6) (T := TX6) (N := 19) hx hb hts ku_X6_far_X6 hown hK hP 0 rfl rfl 17 (by decide) (hts _ kw_X6_far_4) (fun _ h9 => h9) rfl dX6_far_77 ?_
        refine lv_aload_n hx hb dX6_far_80 rfl (lv_at hl 0 rfl) ?_
        refine va_get (D := D) (ci := 6) (v := .ref hMi) (C := RX6) (T := TX6) (N := 19) hx hb hts ku_X6_far_X6 hown hK hP 0 rfl rfl 16 (by decide) (hts _ kw_X6_far_3) (fun _ h9 => h9) rfl dX6_far_81 ?_
        refine lv_iload_n hx hb dX6_far_84 rfl (lv_at hl 2 rfl) ?_
        refine va_iald hx hb hK hP 2 0 rfl rfl k201 dX6_far_85 ?_
        obtain ⟨k206, hf⟩ := fp_c hf
        refine va_iald hx hb hK hP 3 0 rfl rfl k206 dX6_far_86 ?_
        obtain rfl := Option.some.inj hf
        have ho := fp_inr ho
        obtain rfl := Option.some.inj ho
        exact hre _ rfl _ _ _ _ dX6_far_87 (vp_nar_int _) hP hD hS
def f_X6_far_25 (me : Int32) (mn : Nat → Int32) (mi : Nat → Int32) (mx : Nat → Int32) (y2 : Int32) (y3 : Int32) : Option ((Int32) ⊕ ((Int32 × Int32 × (Nat → Int32) × (Nat → Int32)) ⊕ (Unit))) :=
  (if me ≤ y3 then some (Sum.inr (Sum.inr ())) else Option.bind (lpf (fun s => f_X6_far_36 me mn mi mx y2 y3 s) 1000 (0 : Int32)) (fun o207 => Sum.elim (fun r9 => some (Sum.inr (Sum.inl r9))) (fun z208 => some (Sum.inl (y3 + (1 : Int32)))) o207))
set_option maxHeartbeats 4000000 in
set_option maxRecDepth 100000 in
theorem lp_X6_far_25 {p : Program} {l : Launch} {e : Env} {s : State} {m : MethodId} {args : Array Value} {below : List Frame} {meth : Method} {c : Code} {Q : State → Prop} {A : Nat → Prop} {D : va_G} {cI cJ cZ cQ : ClassId} {qs : Nat × Nat × Nat} {hMo hMn hMr hMa hMp hMt hMd hMk hMy hMl hMw hMi hMx : Nat} {me : Int32} {mn : Nat → Int32} {mi : Nat → Int32} {mx : Nat → Int32} {y2 : Int32} {mc : Int32} {ml : Int32} {ms : Int32} {mm : Int32} {mu : Int64} {mv : Int64} (F : CallFix p m c cX6_far 5 s args wsX6_far RX6) (hG : kW D (ty4 cI cJ cZ cQ) qs A s s.heap) (hA : ∀ q : Nat, s.heap.size ≤ q → A q) :
    ∀ (n : Nat) {y3 : Int32} (out : (Int32 × Int32 × (Nat → Int32) × (Nat → Int32)) ⊕ (Unit)), lpf (fun s => f_X6_far_25 me mn mi mx y2 s) n y3 = some out → ∀ {H : Heap} {locs : List Loc} {ls : Array Slot}, va_P D vwCl [(hMo, .inr (6, [.ref hMn, .ref hMr, .ref hMa, .ref hMp, .int mc, .ref hMt, .int ml, .int ms, .ref hMd, .ref hMk, .ref hMy, .int mm, .ref hMl, .ref hMw, .long mu, .long mv, .ref hMi, .ref hMx, .int me])), (hMn, .inl (cI, 22, .inl mn)), (hMi, .inl (cI, 80, .inl mi)), (hMx, .inl (cI, 80, .inl mx))] H → va_D A [(hMo, .inr (6, [.ref hMn, .ref hMr, .ref hMa, .ref hMp, .int mc, .ref hMt, .int ml, .int ms, .ref hMd, .ref hMk, .ref hMy, .int mm, .ref hMl, .ref hMw, .long mu, .long mv, .ref hMi, .ref hMx, .int me])), (hMn, .inl (cI, 22, .inl mn)), (hMi, .inl (cI, 80, .inl mi)), (hMx, .inl (cI, 80, .inl mx))] → va_S A s.heap H locs → lv_has ls 5 [(0, .ref hMo), (2, .int y2), (3, .int y3)] → (∀ xx, out = Sum.inr xx → ∀ (H : Heap) (locs : List Loc) (ls : Array Slot), va_P D vwCl [(hMo, .inr (6, [.ref hMn, .ref hMr, .ref hMa, .ref hMp, .int mc, .ref hMt, .int ml, .int ms, .ref hMd, .ref hMk, .ref hMy, .int mm, .ref hMl, .ref hMw, .long mu, .long mv, .ref hMi, .ref hMx, .int me])), (hMn, .inl (cI, 22, .inl mn)), (hMi, .inl (cI, 80, .inl mi)), (hMx, .inl (cI, 80, .inl mx))] H → va_D A [(hMo, .inr (6, [.ref hMn, .ref hMr, .ref hMa, .ref hMp, .int mc, .ref hMt, .int ml, .int ms, .ref hMd, .ref hMk, .ref hMy, .int mm, .ref hMl, .ref hMw, .long mu, .long mv, .ref hMi, .ref hMx, .int me])), (hMn, .inl (cI, 22, .inl mn)), (hMi, .inl (cI, 80, .inl mi)), (hMx, .inl (cI, 80, .inl mx))] → va_S A s.heap H locs → lv_has ls 5 [(0, .ref hMo), (2, .int y2)] → W p l e { frames := 4, cells := 0, slots := 0, locals := 93 } s m args below meth c H locs 0 0 Q (F0 m 100 ls [])) → (∀ r9, out = Sum.inl r9 → ∀ (pc : Nat) (H : Heap) (locs : List Loc) (ls : Array Slot), decode cX6_far pc = .ok (.ireturn, 1) → narrow .int (.int r9.1) = .int r9.1 → va_P D vwCl [(hMo, .inr (6, [.ref hMn, .ref hMr, .ref hMa, .ref hMp, .int mc, .ref hMt, .int ml, .int ms, .ref hMd, .ref hMk, .ref hMy, .int mm, .ref hMl, .ref hMw, .long mu, .long mv, .ref hMi, .ref hMx, .int r9.2.1])), (hMn, .inl (cI, 22, .inl mn)), (hMi, .inl (cI, 80, .inl r9.2.2.1)), (hMx, .inl (cI, 80, .inl r9.2.2.2))] H → va_D A [(hMo, .inr (6, [.ref hMn, .ref hMr, .ref hMa, .ref hMp, .int mc, .ref hMt, .int ml, .int ms, .ref hMd, .ref hMk, .ref hMy, .int mm, .ref hMl, .ref hMw, .long mu, .long mv, .ref hMi, .ref hMx, .int r9.2.1])), (hMn, .inl (cI, 22, .inl mn)), (hMi, .inl (cI, 80, .inl r9.2.2.1)), (hMx, .inl (cI, 80, .inl r9.2.2.2))] → va_S A s.heap H locs → W p l e { frames := 4, cells := 0, slots := 0, locals := 93 } s m args below meth c H locs 0 0 Q (F0 m pc ls [.int r9.1])) → W p l e { frames := 4, cells := 0, slots := 0, locals := 93 } s m args below meth c H locs 0 0 Q (F0 m 25 ls []) := by
  have hx := F.1
  have hb := F.2.1
  have hown := F.2.2.2.1
  have hts := F.2.2.2.2
  have hK := hG.1.1
  intro n
  induction n with
  | zero =>
    intro y3 out ho
    exact (fp_l0 ho).elim
  | succ n ih =>
    intro y3 out ho H locs ls hP hD hS hl hex hre
    obtain ⟨o, hf, ho⟩ := fp_l ho
    have hf : f_X6_far_25 me mn mi mx y2 y3 = some o := hf
    rw [f_X6_far_25] at hf
    refine lv_iload_n hx hb dX6_far_25 rfl (lv_at hl 2 rfl) ?_
    refine lv_aload_n hx hb dX6_far_26 rfl (lv_at hl 0 rfl) ?_
    refine va_get (D := D) (ci := 6) (v := .int me) (C := RX6) (T := TX6) (N := 19) hx hb hts ku_X6_far_X6 hown hK hP 0 rfl rfl 18 (by decide) (hts _ kw_X6_far_1) (fun _ h9 => h9) rfl dX6_far_27 ?_
    refine lv_icmp_ge (tgt := 100) hx hb dX6_far_30 (by decide) (fun c200 => ?_) (fun c200 => ?_)
    · have hf := fp_t hf c200
      obtain rfl := Option.some.inj hf
      have ho := fp_inr ho
      obtain rfl := Option.some.inj ho
      exact hex _ rfl _ _ _ hP hD hS (lv_sub hl [0, 1] rfl)
    · have hf := fp_f hf c200
      refine lv_iconst (v := (0 : Int32)) hx hb dX6_far_33 (by decide) ?_
      refine lv_istore (lv' := [(4, .int (0 : Int32)), (0, .ref hMo), (2, .int y2), (3, .int y3)]) hx hb dX6_far_34 hl (by decide) rfl (fun ls hl => ?_)
      obtain ⟨o207, eo207, hf⟩ := fp_b hf
      refine lp_X6_far_36 F hG hA _ _ eo207 hP hD hS (lv_sub hl [1, 2, 3, 0] rfl) (fun z208 hz208 H locs ls hP hD hS hl => ?_) (fun r9 h9 => ?_)
      · subst hz208
        have hf := fp_inr hf
        refine lv_iinc (v := (y3 + (1 : Int32))) (lv' := [(3, .int (y3 + (1 : Int32))), (0, .ref hMo), (2, .int y2)]) hx hb dX6_far_94 hl (k := 2) rfl rfl (by decide) rfl (fun ls hl => ?_)
        refine lv_goto (tgt := 25) hx hb dX6_far_97 (by decide) ?_
        obtain rfl := Option.some.inj hf
        exact ih _ (fp_inl ho) hP hD hS (lv_sub hl [1, 2, 0] rfl) hex hre
      · subst h9
        have hf := fp_inl hf
        obtain rfl := Option.some.inj hf
        have ho := fp_inr ho
        obtain rfl := Option.some.inj ho
        exact hre _ rfl
def f_X6_far (me : Int32) (mn : Nat → Int32) (mi : Nat → Int32) (mx : Nat → Int32) (x1 : Int32) (x2 : Int32) : Option (Int32 × Int32 × (Nat → Int32) × (Nat → Int32)) :=
  Option.bind (f_X6_isPort mn x1) (fun r195 => (if r195 = 0 then some ((-1 : Int32), me, mi, mx) else Option.bind (f_X6_isPort mn x2) (fun r197 => (if r197 = 0 then some ((-1 : Int32), me, mi, mx) else Option.bind (f_X6_spreads me mn mi mx x1) (fun r199 => Option.bind (lpf (fun s => f_X6_far_25 r199.1 mn r199.2.1 r199.2.2 x2 s) 1000 (0 : Int32)) (fun o209 => Sum.elim (fun r9 => some r9) (fun z210 => some ((-4 : Int32), r199.1, r199.2.1, r199.2.2)) o209))))))
set_option maxHeartbeats 4000000 in
set_option maxRecDepth 100000 in
theorem b_X6_far {p : Program} {l : Launch} {e : Env} {s : State} {m : MethodId} {args : Array Value} {below : List Frame} {meth : Method} {c : Code} {Q : State → Prop} {A : Nat → Prop} {H : Heap} {locs : List Loc} {D : va_G} {cI cJ cZ cQ : ClassId} {qs : Nat × Nat × Nat} {hMo hMn hMr hMa hMp hMt hMd hMk hMy hMl hMw hMi hMx : Nat} {mc : Int32} {ml : Int32} {ms : Int32} {mm : Int32} {mu : Int64} {mv : Int64} {me : Int32} {mn : Nat → Int32} {mi : Nat → Int32} {mx : Nat → Int32} {x1 : Int32} {x2 : Int32} {out : Int32 × Int32 × (Nat → Int32) × (Nat → Int32)} (F : CallFix p m c cX6_far 5 s args wsX6_far RX6) (hG : kW D (ty4 cI cJ cZ cQ) qs A s s.heap) (hA : ∀ q : Nat, s.heap.size ≤ q → A q) (hP : va_P D vwCl [(hMo, .inr (6, [.ref hMn, .ref hMr, .ref hMa, .ref hMp, .int mc, .ref hMt, .int ml, .int ms, .ref hMd, .ref hMk, .ref hMy, .int mm, .ref hMl, .ref hMw, .long mu, .long mv, .ref hMi, .ref hMx, .int me])), (hMn, .inl (cI, 22, .inl mn)), (hMi, .inl (cI, 80, .inl mi)), (hMx, .inl (cI, 80, .inl mx))] H) (hD : va_D A [(hMo, .inr (6, [.ref hMn, .ref hMr, .ref hMa, .ref hMp, .int mc, .ref hMt, .int ml, .int ms, .ref hMd, .ref hMk, .ref hMy, .int mm, .ref hMl, .ref hMw, .long mu, .long mv, .ref hMi, .ref hMx, .int me])), (hMn, .inl (cI, 22, .inl mn)), (hMi, .inl (cI, 80, .inl mi)), (hMx, .inl (cI, 80, .inl mx))]) (hS : va_S A s.heap H locs) (hf : f_X6_far me mn mi mx x1 x2 = some out) (hret : ∀ (pc : Nat) (H : Heap) (locs : List Loc) (ls : Array Slot), decode cX6_far pc = .ok (.ireturn, 1) → narrow .int (.int out.1) = .int out.1 → va_P D vwCl [(hMo, .inr (6, [.ref hMn, .ref hMr, .ref hMa, .ref hMp, .int mc, .ref hMt, .int ml, .int ms, .ref hMd, .ref hMk, .ref hMy, .int mm, .ref hMl, .ref hMw, .long mu, .long mv, .ref hMi, .ref hMx, .int out.2.1])), (hMn, .inl (cI, 22, .inl mn)), (hMi, .inl (cI, 80, .inl out.2.2.1)), (hMx, .inl (cI, 80, .inl out.2.2.2))] H → va_D A [(hMo, .inr (6, [.ref hMn, .ref hMr, .ref hMa, .ref hMp, .int mc, .ref hMt, .int ml, .int ms, .ref hMd, .ref hMk, .ref hMy, .int mm, .ref hMl, .ref hMw, .long mu, .long mv, .ref hMi, .ref hMx, .int out.2.1])), (hMn, .inl (cI, 22, .inl mn)), (hMi, .inl (cI, 80, .inl out.2.2.1)), (hMx, .inl (cI, 80, .inl out.2.2.2))] → va_S A s.heap H locs → W p l e { frames := 4, cells := 0, slots := 0, locals := 93 } s m args below meth c H locs 0 0 Q (F0 m pc ls [.int out.1])) {ls : Array Slot} (hl : lv_has ls 5 [(0, .ref hMo), (1, .int x1), (2, .int x2)]) : W p l e { frames := 4, cells := 0, slots := 0, locals := 93 } s m args below meth c H locs 0 0 Q (F0 m 0 ls []) := by
  have hx := F.1
  have hb := F.2.1
  have hown := F.2.2.2.1
  have hts := F.2.2.2.2
  have hK := hG.1.1
  rw [f_X6_far] at hf
  refine lv_aload_n hx hb dX6_far_0 rfl (lv_at hl 0 rfl) ?_
  refine lv_iload_n hx hb dX6_far_1 rfl (lv_at hl 1 rfl) ?_
  obtain ⟨r195, er195, hf⟩ := fp_b hf
  refine RoI.callV (c_X6_isPort (l := l) (D := D) (cI := cI) (cJ := cJ) (cZ := cZ) (cQ := cQ) (qs := qs) er195) F (cwV 1 hts gX6_far_X6_isPort rfl rfl rfl yd_X6_isPort ⟨Nat.le_of_ble_eq_true rfl, Nat.le_of_ble_eq_true rfl⟩) (hG.r hS) hP [0, 1] rfl 6 rfl rfl rfl hl.1 rfl (Nat.le_of_ble_eq_true rfl) dX6_far_2 ⟨Nat.zero_le _, Nat.zero_le _⟩ ?_
  refine lv_if_eq (tgt := 16) hx hb dX6_far_5 (by decide) (fun c196 => ?_) (fun c196 => ?_)
  · have hf := fp_t hf c196
    refine lv_iconst (v := (-1 : Int32)) hx hb dX6_far_16 (by decide) ?_
    obtain rfl := Option.some.inj hf
    exact hret _ _ _ _ dX6_far_17 (vp_nar_int _) hP hD hS
  · have hf := fp_f hf c196
    refine lv_aload_n hx hb dX6_far_8 rfl (lv_at hl 0 rfl) ?_
    refine lv_iload_n hx hb dX6_far_9 rfl (lv_at hl 2 rfl) ?_
    obtain ⟨r197, er197, hf⟩ := fp_b hf
    refine RoI.callV (c_X6_isPort (l := l) (D := D) (cI := cI) (cJ := cJ) (cZ := cZ) (cQ := cQ) (qs := qs) er197) F (cwV 1 hts gX6_far_X6_isPort rfl rfl rfl yd_X6_isPort ⟨Nat.le_of_ble_eq_true rfl, Nat.le_of_ble_eq_true rfl⟩) (hG.r hS) hP [0, 1] rfl 6 rfl rfl rfl hl.1 rfl (Nat.le_of_ble_eq_true rfl) dX6_far_10 ⟨Nat.zero_le _, Nat.zero_le _⟩ ?_
    refine lv_if_ne (tgt := 18) hx hb dX6_far_13 (by decide) (fun c198 => ?_) (fun c198 => ?_)
    · have hf := fp_f hf c198
      refine lv_aload_n hx hb dX6_far_18 rfl (lv_at hl 0 rfl) ?_
      refine lv_iload_n hx hb dX6_far_19 rfl (lv_at hl 1 rfl) ?_
      obtain ⟨r199, er199, hf⟩ := fp_b hf
      refine kc_rwV (w2 := [(hMo, .inr (6, [.ref hMn, .ref hMr, .ref hMa, .ref hMp, .int mc, .ref hMt, .int ml, .int ms, .ref hMd, .ref hMk, .ref hMy, .int mm, .ref hMl, .ref hMw, .long mu, .long mv, .ref hMi, .ref hMx, .int r199.1])), (hMn, .inl (cI, 22, .inl mn)), (hMi, .inl (cI, 80, .inl r199.2.1)), (hMx, .inl (cI, 80, .inl r199.2.2))]) (RwV.runV (c_X6_spreads (l := l) (D := D) (cI := cI) (cJ := cJ) (cZ := cZ) (cQ := cQ) (qs := qs) er199) F (cwV 1 hts gX6_far_X6_spreads rfl rfl rfl yd_X6_spreads ⟨Nat.le_of_ble_eq_true rfl, Nat.le_of_ble_eq_true rfl⟩) hG hP hD hS hA [0, 1, 2, 3] (by decide) rfl 6 rfl rfl rfl hl.1 rfl (Nat.le_of_ble_eq_true rfl) dX6_far_20 ⟨Nat.zero_le _, Nat.zero_le _⟩) hP hD hS hA [0, 1, 2, 3] [] [0, 1, 2, 3] rfl (wr := []) rfl (by decide) (by decide) rfl (by decide) (fun H locs hP hD hS => ?_)
      refine lv_iconst (v := (0 : Int32)) hx hb dX6_far_23 (by decide) ?_
      refine lv_istore_n (lv' := [(3, .int (0 : Int32)), (0, .ref hMo), (1, .int x1), (2, .int x2)]) hx hb dX6_far_24 rfl hl (by decide) rfl (fun ls hl => ?_)
      obtain ⟨o209, eo209, hf⟩ := fp_b hf
      refine lp_X6_far_25 F hG hA _ _ eo209 hP hD hS (lv_sub hl [1, 3, 0] rfl) (fun z210 hz210 H locs ls hP hD hS hl => ?_) (fun r9 h9 => ?_)
      · subst hz210
        have hf := fp_inr hf
        refine lv_bipush (v := (-4 : Int32)) hx hb dX6_far_100 (by decide) ?_
        obtain rfl := Option.some.inj hf
        exact hret _ _ _ _ dX6_far_102 (vp_nar_int _) hP hD hS
      · subst h9
        have hf := fp_inl hf
        obtain rfl := Option.some.inj hf
        exact hret
    · have hf := fp_t hf c198
      refine lv_iconst (v := (-1 : Int32)) hx hb dX6_far_16 (by decide) ?_
      obtain rfl := Option.some.inj hf
      exact hret _ _ _ _ dX6_far_17 (vp_nar_int _) hP hD hS
set_option maxRecDepth 100000 in
theorem c_X6_far {l : Launch} {D : va_G} {cI cJ cZ cQ : ClassId} {qs : Nat × Nat × Nat} {hMo hMn hMr hMa hMp hMt hMd hMk hMy hMl hMw hMi hMx : Nat} {mc : Int32} {ml : Int32} {ms : Int32} {mm : Int32} {mu : Int64} {mv : Int64} {me : Int32} {mn : Nat → Int32} {mi : Nat → Int32} {mx : Nat → Int32} {x1 : Int32} {x2 : Int32} {out : Int32 × Int32 × (Nat → Int32) × (Nat → Int32)} (hf : f_X6_far me mn mi mx x1 x2 = some out) : RwI l yX6_far wsX6_far { frames := 4, cells := 0, slots := 0, locals := 93 } D (ty4 cI cJ cZ cQ) qs [.ref hMo, .int x1, .int x2] [(hMo, .inr (6, [.ref hMn, .ref hMr, .ref hMa, .ref hMp, .int mc, .ref hMt, .int ml, .int ms, .ref hMd, .ref hMk, .ref hMy, .int mm, .ref hMl, .ref hMw, .long mu, .long mv, .ref hMi, .ref hMx, .int me])), (hMn, .inl (cI, 22, .inl mn)), (hMi, .inl (cI, 80, .inl mi)), (hMx, .inl (cI, 80, .inl mx))] [(hMo, .inr (6, [.ref hMn, .ref hMr, .ref hMa, .ref hMp, .int mc, .ref hMt, .int ml, .int ms, .ref hMd, .ref hMk, .ref hMy, .int mm, .ref hMl, .ref hMw, .long mu, .long mv, .ref hMi, .ref hMx, .int out.2.1])), (hMn, .inl (cI, 22, .inl mn)), (hMi, .inl (cI, 80, .inl out.2.2.1)), (hMx, .inl (cI, 80, .inl out.2.2.2))] out.1 :=
  RwI.of (own := RX6) (by decide +kernel) rfl rfl (Nat.le_of_ble_eq_true rfl) (fun F hG hA hP hD hS hret ls hl => b_X6_far F hG hA hP hD hS hf hret hl)
-- method X6_alike
theorem yd_X6_alike : yX6_alike.cls = RX6 ∧ yX6_alike.cls ≠ "java/lang/invoke/MethodHandle" ∧ yX6_alike.cls ≠ "java/lang/invoke/VarHandle" ∧ (parseMethodDescriptor yX6_alike.desc).map (fun d => d.parameters.length) = some 2 := by decide +kernel
def f_X6_alike_23 (mn : Nat → Int32) (y1 : Int32) (y2 : Int32) (y3 : Int32) (y4 : Int32) (mm : Int32) (mu : Int64) (mv : Int64) (md : Nat → Int32) (mk : Nat → Int32) (my : Nat → Int32) (mq : Nat → Int32) (mw : Nat → Int64) : Option ((Int32 × Int32 × Int32 × Int64 × Int64 × (Nat → Int32) × (Nat → Int32) × (Nat → Int32) × (Nat → Int32) × (Nat → Int64)) ⊕ (Int32 × Int32 × Int64 × Int64 × (Nat → Int32) × (Nat → Int32) × (Nat → Int32) × (Nat → Int32) × (Nat → Int64))) :=
  (if (4 : Int32) ≤ y4 then some (Sum.inr (y3, mm, mu, mv, md, mk, my, mq, mw)) else (if y3 = 0 then some (Sum.inl ((0 : Int32), (y4 + (1 : Int32)), mm, mu, mv, md, mk, my, mq, mw)) else Option.bind (f_X6_lostOf mm mu mv mn md mk my mq mw y1 y4) (fun r217 => Option.bind (f_X6_lostOf r217.2.1 r217.2.2.1 r217.2.2.2.1 mn r217.2.2.2.2.1 r217.2.2.2.2.2.1 r217.2.2.2.2.2.2.1 r217.2.2.2.2.2.2.2.1 r217.2.2.2.2.2.2.2.2 y2 y4) (fun r218 => (if (lg_cmp r217.1 r218.1) = 0 then some (Sum.inl ((1 : Int32), (y4 + (1 : Int32)), r218.2.1, r218.2.2.1, r218.2.2.2.1, r218.2.2.2.2.1, r218.2.2.2.2.2.1, r218.2.2.2.2.2.2.1, r218.2.2.2.2.2.2.2.1, r218.2.2.2.2.2.2.2.2)) else some (Sum.inl ((0 : Int32), (y4 + (1 : Int32)), r218.2.1, r218.2.2.1, r218.2.2.2.1, r218.2.2.2.2.1, r218.2.2.2.2.2.1, r218.2.2.2.2.2.2.1, r218.2.2.2.2.2.2.2.1, r218.2.2.2.2.2.2.2.2)))))))
set_option maxHeartbeats 4000000 in
set_option maxRecDepth 100000 in
theorem lp_X6_alike_23 {p : Program} {l : Launch} {e : Env} {s : State} {m : MethodId} {args : Array Value} {below : List Frame} {meth : Method} {c : Code} {Q : State → Prop} {A : Nat → Prop} {D : va_G} {cI cJ cZ cQ : ClassId} {qs : Nat × Nat × Nat} {hMo hMn hMr hMa hMp hMt hMd hMk hMy hMl hMw hMi hMx : Nat} {mn : Nat → Int32} {y1 : Int32} {y2 : Int32} {mc : Int32} {ml : Int32} {ms : Int32} {me : Int32} (F : CallFix p m c cX6_alike 5 s args wsX6_alike RX6) (hG : kW D (ty4 cI cJ cZ cQ) qs A s s.heap) (hA : ∀ q : Nat, s.heap.size ≤ q → A q) :
    ∀ (n : Nat) {y3 : Int32} {y4 : Int32} {mm : Int32} {mu : Int64} {mv : Int64} {md : Nat → Int32} {mk : Nat → Int32} {my : Nat → Int32} {mq : Nat → Int32} {mw : Nat → Int64} (out : Int32 × Int32 × Int64 × Int64 × (Nat → Int32) × (Nat → Int32) × (Nat → Int32) × (Nat → Int32) × (Nat → Int64)), lpf (fun s => f_X6_alike_23 mn y1 y2 s.1 s.2.1 s.2.2.1 s.2.2.2.1 s.2.2.2.2.1 s.2.2.2.2.2.1 s.2.2.2.2.2.2.1 s.2.2.2.2.2.2.2.1 s.2.2.2.2.2.2.2.2.1 s.2.2.2.2.2.2.2.2.2) n (y3, y4, mm, mu, mv, md, mk, my, mq, mw) = some out → ∀ {H : Heap} {locs : List Loc} {ls : Array Slot}, va_P D vwCl [(hMo, .inr (6, [.ref hMn, .ref hMr, .ref hMa, .ref hMp, .int mc, .ref hMt, .int ml, .int ms, .ref hMd, .ref hMk, .ref hMy, .int mm, .ref hMl, .ref hMw, .long mu, .long mv, .ref hMi, .ref hMx, .int me])), (hMn, .inl (cI, 22, .inl mn)), (hMd, .inl (cI, 20, .inl md)), (hMk, .inl (cI, 40, .inl mk)), (hMy, .inl (cZ, 20, .inl my)), (hMl, .inl (cI, 80, .inl mq)), (hMw, .inl (cJ, 420, .inr (.inl mw)))] H → va_D A [(hMo, .inr (6, [.ref hMn, .ref hMr, .ref hMa, .ref hMp, .int mc, .ref hMt, .int ml, .int ms, .ref hMd, .ref hMk, .ref hMy, .int mm, .ref hMl, .ref hMw, .long mu, .long mv, .ref hMi, .ref hMx, .int me])), (hMn, .inl (cI, 22, .inl mn)), (hMd, .inl (cI, 20, .inl md)), (hMk, .inl (cI, 40, .inl mk)), (hMy, .inl (cZ, 20, .inl my)), (hMl, .inl (cI, 80, .inl mq)), (hMw, .inl (cJ, 420, .inr (.inl mw)))] → va_S A s.heap H locs → lv_has ls 5 [(0, .ref hMo), (1, .int y1), (2, .int y2), (3, .int y3), (4, .int y4)] → (∀ (H : Heap) (locs : List Loc) (ls : Array Slot), va_P D vwCl [(hMo, .inr (6, [.ref hMn, .ref hMr, .ref hMa, .ref hMp, .int mc, .ref hMt, .int ml, .int ms, .ref hMd, .ref hMk, .ref hMy, .int out.2.1, .ref hMl, .ref hMw, .long out.2.2.1, .long out.2.2.2.1, .ref hMi, .ref hMx, .int me])), (hMn, .inl (cI, 22, .inl mn)), (hMd, .inl (cI, 20, .inl out.2.2.2.2.1)), (hMk, .inl (cI, 40, .inl out.2.2.2.2.2.1)), (hMy, .inl (cZ, 20, .inl out.2.2.2.2.2.2.1)), (hMl, .inl (cI, 80, .inl out.2.2.2.2.2.2.2.1)), (hMw, .inl (cJ, 420, .inr (.inl out.2.2.2.2.2.2.2.2)))] H → va_D A [(hMo, .inr (6, [.ref hMn, .ref hMr, .ref hMa, .ref hMp, .int mc, .ref hMt, .int ml, .int ms, .ref hMd, .ref hMk, .ref hMy, .int out.2.1, .ref hMl, .ref hMw, .long out.2.2.1, .long out.2.2.2.1, .ref hMi, .ref hMx, .int me])), (hMn, .inl (cI, 22, .inl mn)), (hMd, .inl (cI, 20, .inl out.2.2.2.2.1)), (hMk, .inl (cI, 40, .inl out.2.2.2.2.2.1)), (hMy, .inl (cZ, 20, .inl out.2.2.2.2.2.2.1)), (hMl, .inl (cI, 80, .inl out.2.2.2.2.2.2.2.1)), (hMw, .inl (cJ, 420, .inr (.inl out.2.2.2.2.2.2.2.2)))] → va_S A s.heap H locs → lv_has ls 5 [(0, .ref hMo), (1, .int y1), (2, .int y2), (3, .int out.1)] → W p l e { frames := 7, cells := 0, slots := 0, locals := 164 } s m args below meth c H locs 0 0 Q (F0 m 63 ls [])) → W p l e { frames := 7, cells := 0, slots := 0, locals := 164 } s m args below meth c H locs 0 0 Q (F0 m 23 ls []) := by
  have hx := F.1
  have hb := F.2.1
  have hown := F.2.2.2.1
  have hts := F.2.2.2.2
  have hK := hG.1.1
  intro n
  induction n with
  | zero =>
    intro y3 y4 mm mu mv md mk my mq mw out ho
    exact (fp_l0 ho).elim
  | succ n ih =>
    intro y3 y4 mm mu mv md mk my mq mw out ho H locs ls hP hD hS hl hex
    obtain ⟨o, hf, ho⟩ := fp_l ho
    have hf : f_X6_alike_23 mn y1 y2 y3 y4 mm mu mv md mk my mq mw = some o := hf
    rw [f_X6_alike_23] at hf
    refine lv_iload hx hb dX6_alike_23 (lv_at hl 4 rfl) ?_
    refine lv_iconst (v := (4 : Int32)) hx hb dX6_alike_25 (by decide) ?_
    refine lv_icmp_ge (tgt := 63) hx hb dX6_alike_26 (by decide) (fun c215 => ?_) (fun c215 => ?_)
    · have hf := fp_t hf c215
      obtain rfl := Option.some.inj hf
      have ho := fp_inr ho
      obtain rfl := Option.some.inj ho
      exact hex _ _ _ hP hD hS (lv_sub hl [0, 1, 2, 3] rfl)
    · have hf := fp_f hf c215
      refine lv_iload_n hx hb dX6_alike_29 rfl (lv_at hl 3 rfl) ?_
      refine lv_if_eq (tgt := 55) hx hb dX6_alike_30 (by decide) (fun c216 => ?_) (fun c216 => ?_)
      · have hf := fp_t hf c216
        refine lv_iconst (v := (0 : Int32)) hx hb dX6_alike_55 (by decide) ?_
        refine lv_istore_n (lv' := [(3, .int (0 : Int32)), (0, .ref hMo), (1, .int y1), (2, .int y2), (4, .int y4)]) hx hb dX6_alike_56 rfl hl (by decide) rfl (fun ls hl => ?_)
        refine lv_iinc (v := (y4 + (1 : Int32))) (lv' := [(4, .int (y4 + (1 : Int32))), (3, .int (0 : Int32)), (0, .ref hMo), (1, .int y1), (2, .int y2)]) hx hb dX6_alike_57 hl (k := 4) rfl rfl (by decide) rfl (fun ls hl => ?_)
        refine lv_goto (tgt := 23) hx hb dX6_alike_60 (by decide) ?_
        obtain rfl := Option.some.inj hf
        exact ih _ (fp_inl ho) hP hD hS (lv_sub hl [2, 3, 4, 1, 0] rfl) hex
      · have hf := fp_f hf c216
        refine lv_aload_n hx hb dX6_alike_33 rfl (lv_at hl 0 rfl) ?_
        refine lv_iload_n hx hb dX6_alike_34 rfl (lv_at hl 1 rfl) ?_
        refine lv_iload hx hb dX6_alike_35 (lv_at hl 4 rfl) ?_
        obtain ⟨r217, er217, hf⟩ := fp_b hf
        refine kc_rwL (w2 := [(hMo, .inr (6, [.ref hMn, .ref hMr, .ref hMa, .ref hMp, .int mc, .ref hMt, .int ml, .int ms, .ref hMd, .ref hMk, .ref hMy, .int r217.2.1, .ref hMl, .ref hMw, .long r217.2.2.1, .long r217.2.2.2.1, .ref hMi, .ref hMx, .int me])), (hMn, .inl (cI, 22, .inl mn)), (hMd, .inl (cI, 20, .inl r217.2.2.2.2.1)), (hMk, .inl (cI, 40, .inl r217.2.2.2.2.2.1)), (hMy, .inl (cZ, 20, .inl r217.2.2.2.2.2.2.1)), (hMl, .inl (cI, 80, .inl r217.2.2.2.2.2.2.2.1)), (hMw, .inl (cJ, 420, .inr (.inl r217.2.2.2.2.2.2.2.2)))]) (RwL.runV (c_X6_lostOf (l := l) (D := D) (cI := cI) (cJ := cJ) (cZ := cZ) (cQ := cQ) (qs := qs) er217) F (cwV 2 hts gX6_alike_X6_lostOf rfl rfl rfl yd_X6_lostOf ⟨Nat.le_of_ble_eq_true rfl, Nat.le_of_ble_eq_true rfl⟩) hG hP hD hS hA [0, 1, 2, 3, 4, 5, 6] (by decide) rfl 6 rfl rfl rfl hl.1 rfl (Nat.le_of_ble_eq_true rfl) dX6_alike_37 ⟨Nat.zero_le _, Nat.zero_le _⟩) hP hD hS hA [0, 1, 2, 3, 4, 5, 6] [] [0, 1, 2, 3, 4, 5, 6] rfl (wr := []) rfl (by decide) (by decide) rfl (by decide) (fun H locs hP hD hS => ?_)
        refine lv_aload_n hx hb dX6_alike_40 rfl (lv_at hl 0 rfl) ?_
        refine lv_iload_n hx hb dX6_alike_41 rfl (lv_at hl 2 rfl) ?_
        refine lv_iload hx hb dX6_alike_42 (lv_at hl 4 rfl) ?_
        obtain ⟨r218, er218, hf⟩ := fp_b hf
        refine kc_rwL (w2 := [(hMo, .inr (6, [.ref hMn, .ref hMr, .ref hMa, .ref hMp, .int mc, .ref hMt, .int ml, .int ms, .ref hMd, .ref hMk, .ref hMy, .int r218.2.1, .ref hMl, .ref hMw, .long r218.2.2.1, .long r218.2.2.2.1, .ref hMi, .ref hMx, .int me])), (hMn, .inl (cI, 22, .inl mn)), (hMd, .inl (cI, 20, .inl r218.2.2.2.2.1)), (hMk, .inl (cI, 40, .inl r218.2.2.2.2.2.1)), (hMy, .inl (cZ, 20, .inl r218.2.2.2.2.2.2.1)), (hMl, .inl (cI, 80, .inl r218.2.2.2.2.2.2.2.1)), (hMw, .inl (cJ, 420, .inr (.inl r218.2.2.2.2.2.2.2.2)))]) (RwL.runV (c_X6_lostOf (l := l) (D := D) (cI := cI) (cJ := cJ) (cZ := cZ) (cQ := cQ) (qs := qs) er218) F (cwV 2 hts gX6_alike_X6_lostOf rfl rfl rfl yd_X6_lostOf ⟨Nat.le_of_ble_eq_true rfl, Nat.le_of_ble_eq_true rfl⟩) hG hP hD hS hA [0, 1, 2, 3, 4, 5, 6] (by decide) rfl 6 rfl rfl rfl hl.1 rfl (Nat.le_of_ble_eq_true rfl) dX6_alike_44 ⟨Nat.zero_le _, Nat.zero_le _⟩) hP hD hS hA [0, 1, 2, 3, 4, 5, 6] [] [0, 1, 2, 3, 4, 5, 6] rfl (wr := []) rfl (by decide) (by decide) rfl (by decide) (fun H locs hP hD hS => ?_)
        refine W.lcmp hx hb dX6_alike_47 ?_
        refine lv_if_ne (tgt := 55) hx hb dX6_alike_48 (by decide) (fun c219 => ?_) (fun c219 => ?_)
        · have hf := fp_f hf c219
          refine lv_iconst (v := (0 : Int32)) hx hb dX6_alike_55 (by decide) ?_
          refine lv_istore_n (lv' := [(3, .int (0 : Int32)), (0, .ref hMo), (1, .int y1), (2, .int y2), (4, .int y4)]) hx hb dX6_alike_56 rfl hl (by decide) rfl (fun ls hl => ?_)
          refine lv_iinc (v := (y4 + (1 : Int32))) (lv' := [(4, .int (y4 + (1 : Int32))), (3, .int (0 : Int32)), (0, .ref hMo), (1, .int y1), (2, .int y2)]) hx hb dX6_alike_57 hl (k := 4) rfl rfl (by decide) rfl (fun ls hl => ?_)
          refine lv_goto (tgt := 23) hx hb dX6_alike_60 (by decide) ?_
          obtain rfl := Option.some.inj hf
          exact ih _ (fp_inl ho) hP hD hS (lv_sub hl [2, 3, 4, 1, 0] rfl) hex
        · have hf := fp_t hf c219
          refine lv_iconst (v := (1 : Int32)) hx hb dX6_alike_51 (by decide) ?_
          refine lv_goto (tgt := 56) hx hb dX6_alike_52 (by decide) ?_
          refine lv_istore_n (lv' := [(3, .int (1 : Int32)), (0, .ref hMo), (1, .int y1), (2, .int y2), (4, .int y4)]) hx hb dX6_alike_56 rfl hl (by decide) rfl (fun ls hl => ?_)
          refine lv_iinc (v := (y4 + (1 : Int32))) (lv' := [(4, .int (y4 + (1 : Int32))), (3, .int (1 : Int32)), (0, .ref hMo), (1, .int y1), (2, .int y2)]) hx hb dX6_alike_57 hl (k := 4) rfl rfl (by decide) rfl (fun ls hl => ?_)
          refine lv_goto (tgt := 23) hx hb dX6_alike_60 (by decide) ?_
          obtain rfl := Option.some.inj hf
          exact ih _ (fp_inl ho) hP hD hS (lv_sub hl [2, 3, 4, 1, 0] rfl) hex
def f_X6_alike (mm : Int32) (mu : Int64) (mv : Int64) (mn : Nat → Int32) (md : Nat → Int32) (mk : Nat → Int32) (my : Nat → Int32) (mq : Nat → Int32) (mw : Nat → Int64) (x1 : Int32) (x2 : Int32) : Option (Int32 × Int32 × Int64 × Int64 × (Nat → Int32) × (Nat → Int32) × (Nat → Int32) × (Nat → Int32) × (Nat → Int64)) :=
  Option.bind (f_X6_isPort mn x1) (fun r211 => (if r211 = 0 then some ((-1 : Int32), mm, mu, mv, md, mk, my, mq, mw) else Option.bind (f_X6_isPort mn x2) (fun r213 => (if r213 = 0 then some ((-1 : Int32), mm, mu, mv, md, mk, my, mq, mw) else Option.bind (lpf (fun s => f_X6_alike_23 mn x1 x2 s.1 s.2.1 s.2.2.1 s.2.2.2.1 s.2.2.2.2.1 s.2.2.2.2.2.1 s.2.2.2.2.2.2.1 s.2.2.2.2.2.2.2.1 s.2.2.2.2.2.2.2.2.1 s.2.2.2.2.2.2.2.2.2) 1000 ((1 : Int32), (0 : Int32), mm, mu, mv, md, mk, my, mq, mw)) (fun o220 => (if o220.1 = 0 then some ((0 : Int32), o220.2.1, o220.2.2.1, o220.2.2.2.1, o220.2.2.2.2.1, o220.2.2.2.2.2.1, o220.2.2.2.2.2.2.1, o220.2.2.2.2.2.2.2.1, o220.2.2.2.2.2.2.2.2) else some ((1 : Int32), o220.2.1, o220.2.2.1, o220.2.2.2.1, o220.2.2.2.2.1, o220.2.2.2.2.2.1, o220.2.2.2.2.2.2.1, o220.2.2.2.2.2.2.2.1, o220.2.2.2.2.2.2.2.2)))))))
set_option maxHeartbeats 4000000 in
set_option maxRecDepth 100000 in
theorem b_X6_alike {p : Program} {l : Launch} {e : Env} {s : State} {m : MethodId} {args : Array Value} {below : List Frame} {meth : Method} {c : Code} {Q : State → Prop} {A : Nat → Prop} {H : Heap} {locs : List Loc} {D : va_G} {cI cJ cZ cQ : ClassId} {qs : Nat × Nat × Nat} {hMo hMn hMr hMa hMp hMt hMd hMk hMy hMl hMw hMi hMx : Nat} {mc : Int32} {ml : Int32} {ms : Int32} {mm : Int32} {mu : Int64} {mv : Int64} {me : Int32} {mn : Nat → Int32} {md : Nat → Int32} {mk : Nat → Int32} {my : Nat → Int32} {mq : Nat → Int32} {mw : Nat → Int64} {x1 : Int32} {x2 : Int32} {out : Int32 × Int32 × Int64 × Int64 × (Nat → Int32) × (Nat → Int32) × (Nat → Int32) × (Nat → Int32) × (Nat → Int64)} (F : CallFix p m c cX6_alike 5 s args wsX6_alike RX6) (hG : kW D (ty4 cI cJ cZ cQ) qs A s s.heap) (hA : ∀ q : Nat, s.heap.size ≤ q → A q) (hP : va_P D vwCl [(hMo, .inr (6, [.ref hMn, .ref hMr, .ref hMa, .ref hMp, .int mc, .ref hMt, .int ml, .int ms, .ref hMd, .ref hMk, .ref hMy, .int mm, .ref hMl, .ref hMw, .long mu, .long mv, .ref hMi, .ref hMx, .int me])), (hMn, .inl (cI, 22, .inl mn)), (hMd, .inl (cI, 20, .inl md)), (hMk, .inl (cI, 40, .inl mk)), (hMy, .inl (cZ, 20, .inl my)), (hMl, .inl (cI, 80, .inl mq)), (hMw, .inl (cJ, 420, .inr (.inl mw)))] H) (hD : va_D A [(hMo, .inr (6, [.ref hMn, .ref hMr, .ref hMa, .ref hMp, .int mc, .ref hMt, .int ml, .int ms, .ref hMd, .ref hMk, .ref hMy, .int mm, .ref hMl, .ref hMw, .long mu, .long mv, .ref hMi, .ref hMx, .int me])), (hMn, .inl (cI, 22, .inl mn)), (hMd, .inl (cI, 20, .inl md)), (hMk, .inl (cI, 40, .inl mk)), (hMy, .inl (cZ, 20, .inl my)), (hMl, .inl (cI, 80, .inl mq)), (hMw, .inl (cJ, 420, .inr (.inl mw)))]) (hS : va_S A s.heap H locs) (hf : f_X6_alike mm mu mv mn md mk my mq mw x1 x2 = some out) (hret : ∀ (pc : Nat) (H : Heap) (locs : List Loc) (ls : Array Slot), decode cX6_alike pc = .ok (.ireturn, 1) → narrow .int (.int out.1) = .int out.1 → va_P D vwCl [(hMo, .inr (6, [.ref hMn, .ref hMr, .ref hMa, .ref hMp, .int mc, .ref hMt, .int ml, .int ms, .ref hMd, .ref hMk, .ref hMy, .int out.2.1, .ref hMl, .ref hMw, .long out.2.2.1, .long out.2.2.2.1, .ref hMi, .ref hMx, .int me])), (hMn, .inl (cI, 22, .inl mn)), (hMd, .inl (cI, 20, .inl out.2.2.2.2.1)), (hMk, .inl (cI, 40, .inl out.2.2.2.2.2.1)), (hMy, .inl (cZ, 20, .inl out.2.2.2.2.2.2.1)), (hMl, .inl (cI, 80, .inl out.2.2.2.2.2.2.2.1)), (hMw, .inl (cJ, 420, .inr (.inl out.2.2.2.2.2.2.2.2)))] H → va_D A [(hMo, .inr (6, [.ref hMn, .ref hMr, .ref hMa, .ref hMp, .int mc, .ref hMt, .int ml, .int ms, .ref hMd, .ref hMk, .ref hMy, .int out.2.1, .ref hMl, .ref hMw, .long out.2.2.1, .long out.2.2.2.1, .ref hMi, .ref hMx, .int me])), (hMn, .inl (cI, 22, .inl mn)), (hMd, .inl (cI, 20, .inl out.2.2.2.2.1)), (hMk, .inl (cI, 40, .inl out.2.2.2.2.2.1)), (hMy, .inl (cZ, 20, .inl out.2.2.2.2.2.2.1)), (hMl, .inl (cI, 80, .inl out.2.2.2.2.2.2.2.1)), (hMw, .inl (cJ, 420, .inr (.inl out.2.2.2.2.2.2.2.2)))] → va_S A s.heap H locs → W p l e { frames := 7, cells := 0, slots := 0, locals := 164 } s m args below meth c H locs 0 0 Q (F0 m pc ls [.int out.1])) {ls : Array Slot} (hl : lv_has ls 5 [(0, .ref hMo), (1, .int x1), (2, .int x2)]) : W p l e { frames := 7, cells := 0, slots := 0, locals := 164 } s m args below meth c H locs 0 0 Q (F0 m 0 ls []) := by
  have hx := F.1
  have hb := F.2.1
  have hown := F.2.2.2.1
  have hts := F.2.2.2.2
  have hK := hG.1.1
  rw [f_X6_alike] at hf
  refine lv_aload_n hx hb dX6_alike_0 rfl (lv_at hl 0 rfl) ?_
  refine lv_iload_n hx hb dX6_alike_1 rfl (lv_at hl 1 rfl) ?_
  obtain ⟨r211, er211, hf⟩ := fp_b hf
  refine RoI.callV (c_X6_isPort (l := l) (D := D) (cI := cI) (cJ := cJ) (cZ := cZ) (cQ := cQ) (qs := qs) er211) F (cwV 1 hts gX6_alike_X6_isPort rfl rfl rfl yd_X6_isPort ⟨Nat.le_of_ble_eq_true rfl, Nat.le_of_ble_eq_true rfl⟩) (hG.r hS) hP [0, 1] rfl 6 rfl rfl rfl hl.1 rfl (Nat.le_of_ble_eq_true rfl) dX6_alike_2 ⟨Nat.zero_le _, Nat.zero_le _⟩ ?_
  refine lv_if_eq (tgt := 16) hx hb dX6_alike_5 (by decide) (fun c212 => ?_) (fun c212 => ?_)
  · have hf := fp_t hf c212
    refine lv_iconst (v := (-1 : Int32)) hx hb dX6_alike_16 (by decide) ?_
    obtain rfl := Option.some.inj hf
    exact hret _ _ _ _ dX6_alike_17 (vp_nar_int _) hP hD hS
  · have hf := fp_f hf c212
    refine lv_aload_n hx hb dX6_alike_8 rfl (lv_at hl 0 rfl) ?_
    refine lv_iload_n hx hb dX6_alike_9 rfl (lv_at hl 2 rfl) ?_
    obtain ⟨r213, er213, hf⟩ := fp_b hf
    refine RoI.callV (c_X6_isPort (l := l) (D := D) (cI := cI) (cJ := cJ) (cZ := cZ) (cQ := cQ) (qs := qs) er213) F (cwV 1 hts gX6_alike_X6_isPort rfl rfl rfl yd_X6_isPort ⟨Nat.le_of_ble_eq_true rfl, Nat.le_of_ble_eq_true rfl⟩) (hG.r hS) hP [0, 1] rfl 6 rfl rfl rfl hl.1 rfl (Nat.le_of_ble_eq_true rfl) dX6_alike_10 ⟨Nat.zero_le _, Nat.zero_le _⟩ ?_
    refine lv_if_ne (tgt := 18) hx hb dX6_alike_13 (by decide) (fun c214 => ?_) (fun c214 => ?_)
    · have hf := fp_f hf c214
      refine lv_iconst (v := (1 : Int32)) hx hb dX6_alike_18 (by decide) ?_
      refine lv_istore_n (lv' := [(3, .int (1 : Int32)), (0, .ref hMo), (1, .int x1), (2, .int x2)]) hx hb dX6_alike_19 rfl hl (by decide) rfl (fun ls hl => ?_)
      refine lv_iconst (v := (0 : Int32)) hx hb dX6_alike_20 (by decide) ?_
      refine lv_istore (lv' := [(4, .int (0 : Int32)), (3, .int (1 : Int32)), (0, .ref hMo), (1, .int x1), (2, .int x2)]) hx hb dX6_alike_21 hl (by decide) rfl (fun ls hl => ?_)
      obtain ⟨o220, eo220, hf⟩ := fp_b hf
      refine lp_X6_alike_23 F hG hA _ _ eo220 hP hD hS (lv_sub hl [2, 3, 4, 1, 0] rfl) (fun H locs ls hP hD hS hl => ?_)
      refine lv_iload_n hx hb dX6_alike_63 rfl (lv_at hl 3 rfl) ?_
      refine lv_if_eq (tgt := 71) hx hb dX6_alike_64 (by decide) (fun c221 => ?_) (fun c221 => ?_)
      · have hf := fp_t hf c221
        refine lv_iconst (v := (0 : Int32)) hx hb dX6_alike_71 (by decide) ?_
        obtain rfl := Option.some.inj hf
        exact hret _ _ _ _ dX6_alike_72 (vp_nar_int _) hP hD hS
      · have hf := fp_f hf c221
        refine lv_iconst (v := (1 : Int32)) hx hb dX6_alike_67 (by decide) ?_
        refine lv_goto (tgt := 72) hx hb dX6_alike_68 (by decide) ?_
        obtain rfl := Option.some.inj hf
        exact hret _ _ _ _ dX6_alike_72 (vp_nar_int _) hP hD hS
    · have hf := fp_t hf c214
      refine lv_iconst (v := (-1 : Int32)) hx hb dX6_alike_16 (by decide) ?_
      obtain rfl := Option.some.inj hf
      exact hret _ _ _ _ dX6_alike_17 (vp_nar_int _) hP hD hS
set_option maxRecDepth 100000 in
theorem c_X6_alike {l : Launch} {D : va_G} {cI cJ cZ cQ : ClassId} {qs : Nat × Nat × Nat} {hMo hMn hMr hMa hMp hMt hMd hMk hMy hMl hMw hMi hMx : Nat} {mc : Int32} {ml : Int32} {ms : Int32} {mm : Int32} {mu : Int64} {mv : Int64} {me : Int32} {mn : Nat → Int32} {md : Nat → Int32} {mk : Nat → Int32} {my : Nat → Int32} {mq : Nat → Int32} {mw : Nat → Int64} {x1 : Int32} {x2 : Int32} {out : Int32 × Int32 × Int64 × Int64 × (Nat → Int32) × (Nat → Int32) × (Nat → Int32) × (Nat → Int32) × (Nat → Int64)} (hf : f_X6_alike mm mu mv mn md mk my mq mw x1 x2 = some out) : RwI l yX6_alike wsX6_alike { frames := 7, cells := 0, slots := 0, locals := 164 } D (ty4 cI cJ cZ cQ) qs [.ref hMo, .int x1, .int x2] [(hMo, .inr (6, [.ref hMn, .ref hMr, .ref hMa, .ref hMp, .int mc, .ref hMt, .int ml, .int ms, .ref hMd, .ref hMk, .ref hMy, .int mm, .ref hMl, .ref hMw, .long mu, .long mv, .ref hMi, .ref hMx, .int me])), (hMn, .inl (cI, 22, .inl mn)), (hMd, .inl (cI, 20, .inl md)), (hMk, .inl (cI, 40, .inl mk)), (hMy, .inl (cZ, 20, .inl my)), (hMl, .inl (cI, 80, .inl mq)), (hMw, .inl (cJ, 420, .inr (.inl mw)))] [(hMo, .inr (6, [.ref hMn, .ref hMr, .ref hMa, .ref hMp, .int mc, .ref hMt, .int ml, .int ms, .ref hMd, .ref hMk, .ref hMy, .int out.2.1, .ref hMl, .ref hMw, .long out.2.2.1, .long out.2.2.2.1, .ref hMi, .ref hMx, .int me])), (hMn, .inl (cI, 22, .inl mn)), (hMd, .inl (cI, 20, .inl out.2.2.2.2.1)), (hMk, .inl (cI, 40, .inl out.2.2.2.2.2.1)), (hMy, .inl (cZ, 20, .inl out.2.2.2.2.2.2.1)), (hMl, .inl (cI, 80, .inl out.2.2.2.2.2.2.2.1)), (hMw, .inl (cJ, 420, .inr (.inl out.2.2.2.2.2.2.2.2)))] out.1 :=
  RwI.of (own := RX6) (by decide +kernel) rfl rfl (Nat.le_of_ble_eq_true rfl) (fun F hG hA hP hD hS hret ls hl => b_X6_alike F hG hA hP hD hS hf hret hl)
-- method X6_ones
theorem yd_X6_ones : yX6_ones.cls ≠ "java/lang/invoke/MethodHandle" ∧ yX6_ones.cls ≠ "java/lang/invoke/VarHandle" ∧ (parseMethodDescriptor yX6_ones.desc).map (fun d => d.parameters.length) = some 1 := by decide +kernel
def f_X6_ones_4 (y0 : Int32) (y1 : Int32) (y2 : Int32) : Option ((Int32 × Int32) ⊕ (Int32)) :=
  (if (4 : Int32) ≤ y2 then some (Sum.inr y1) else some (Sum.inl ((y1 + ((y0 >>> (y2 &&& 31)) &&& (1 : Int32))), (y2 + (1 : Int32)))))
set_option maxHeartbeats 4000000 in
set_option maxRecDepth 100000 in
theorem lp_X6_ones_4 {p : Program} {l : Launch} {e : Env} {s : State} {m : MethodId} {args : Array Value} {below : List Frame} {meth : Method} {c : Code} {Q : State → Prop} {D : va_G} {cI cJ cZ cQ : ClassId} {qs : Nat × Nat × Nat}  {y0 : Int32}  (F : CallFix p m c cX6_ones 3 s args wsX6_ones RX6) (hG : kR D (ty4 cI cJ cZ cQ) qs s s.heap) (hP : va_P D vwCl [] s.heap) :
    ∀ (n : Nat) {y1 : Int32} {y2 : Int32} (out : Int32), lpf (fun s => f_X6_ones_4 y0 s.1 s.2) n (y1, y2) = some out → ∀ {ls : Array Slot}, lv_has ls 3 [(0, .int y0), (1, .int y1), (2, .int y2)] → (∀ ls : Array Slot, lv_has ls 3 [(0, .int y0), (1, .int out)] → W p l e { frames := 0, cells := 0, slots := 0, locals := 0 } s m args below meth c s.heap [] 0 0 Q (F0 m 23 ls [])) → W p l e { frames := 0, cells := 0, slots := 0, locals := 0 } s m args below meth c s.heap [] 0 0 Q (F0 m 4 ls []) := by
  have hx := F.1
  have hb := F.2.1
  have hown := F.2.2.2.1
  have hts := F.2.2.2.2
  have hK := hG.1.1
  intro n
  induction n with
  | zero =>
    intro y1 y2 out ho
    exact (fp_l0 ho).elim
  | succ n ih =>
    intro y1 y2 out ho ls hl hex
    obtain ⟨o, hf, ho⟩ := fp_l ho
    have hf : f_X6_ones_4 y0 y1 y2 = some o := hf
    rw [f_X6_ones_4] at hf
    refine lv_iload_n hx hb dX6_ones_4 rfl (lv_at hl 2 rfl) ?_
    refine lv_iconst (v := (4 : Int32)) hx hb dX6_ones_5 (by decide) ?_
    refine lv_icmp_ge (tgt := 23) hx hb dX6_ones_6 (by decide) (fun c222 => ?_) (fun c222 => ?_)
    · have hf := fp_t hf c222
      obtain rfl := Option.some.inj hf
      have ho := fp_inr ho
      obtain rfl := Option.some.inj ho
      exact hex _ (lv_sub hl [0, 1] rfl)
    · have hf := fp_f hf c222
      refine lv_iload_n hx hb dX6_ones_9 rfl (lv_at hl 1 rfl) ?_
      refine lv_iload_n hx hb dX6_ones_10 rfl (lv_at hl 0 rfl) ?_
      refine lv_iload_n hx hb dX6_ones_11 rfl (lv_at hl 2 rfl) ?_
      refine lv_ishr hx hb dX6_ones_12 ?_
      refine lv_iconst (v := (1 : Int32)) hx hb dX6_ones_13 (by decide) ?_
      refine lv_iand hx hb dX6_ones_14 ?_
      refine lv_iadd hx hb dX6_ones_15 ?_
      refine lv_istore_n (lv' := [(1, .int (y1 + ((y0 >>> (y2 &&& 31)) &&& (1 : Int32)))), (0, .int y0), (2, .int y2)]) hx hb dX6_ones_16 rfl hl (by decide) rfl (fun ls hl => ?_)
      refine lv_iinc (v := (y2 + (1 : Int32))) (lv' := [(2, .int (y2 + (1 : Int32))), (1, .int (y1 + ((y0 >>> (y2 &&& 31)) &&& (1 : Int32)))), (0, .int y0)]) hx hb dX6_ones_17 hl (k := 2) rfl rfl (by decide) rfl (fun ls hl => ?_)
      refine lv_goto (tgt := 4) hx hb dX6_ones_20 (by decide) ?_
      obtain rfl := Option.some.inj hf
      exact ih _ (fp_inl ho) (lv_sub hl [2, 1, 0] rfl) hex
def f_X6_ones (x0 : Int32) : Option (Int32) :=
  Option.bind (lpf (fun s => f_X6_ones_4 x0 s.1 s.2) 1000 ((0 : Int32), (0 : Int32))) (fun o223 => some o223)
set_option maxHeartbeats 4000000 in
set_option maxRecDepth 100000 in
theorem b_X6_ones {p : Program} {l : Launch} {e : Env} {s : State} {m : MethodId} {args : Array Value} {below : List Frame} {meth : Method} {c : Code} {Q : State → Prop} {D : va_G} {cI cJ cZ cQ : ClassId} {qs : Nat × Nat × Nat}  {x0 : Int32} {out : Int32} (F : CallFix p m c cX6_ones 3 s args wsX6_ones RX6) (hG : kR D (ty4 cI cJ cZ cQ) qs s s.heap) (hP : va_P D vwCl [] s.heap) (hf : f_X6_ones x0 = some out) (hret : ∀ (pc : Nat) (ls : Array Slot), decode cX6_ones pc = .ok (.ireturn, 1) → narrow .int (.int out) = .int out → W p l e { frames := 0, cells := 0, slots := 0, locals := 0 } s m args below meth c s.heap [] 0 0 Q (F0 m pc ls [.int out])) {ls : Array Slot} (hl : lv_has ls 3 [(0, .int x0)]) : W p l e { frames := 0, cells := 0, slots := 0, locals := 0 } s m args below meth c s.heap [] 0 0 Q (F0 m 0 ls []) := by
  have hx := F.1
  have hb := F.2.1
  have hown := F.2.2.2.1
  have hts := F.2.2.2.2
  have hK := hG.1.1
  rw [f_X6_ones] at hf
  refine lv_iconst (v := (0 : Int32)) hx hb dX6_ones_0 (by decide) ?_
  refine lv_istore_n (lv' := [(1, .int (0 : Int32)), (0, .int x0)]) hx hb dX6_ones_1 rfl hl (by decide) rfl (fun ls hl => ?_)
  refine lv_iconst (v := (0 : Int32)) hx hb dX6_ones_2 (by decide) ?_
  refine lv_istore_n (lv' := [(2, .int (0 : Int32)), (1, .int (0 : Int32)), (0, .int x0)]) hx hb dX6_ones_3 rfl hl (by decide) rfl (fun ls hl => ?_)
  obtain ⟨o223, eo223, hf⟩ := fp_b hf
  refine lp_X6_ones_4 F hG hP _ _ eo223 (lv_sub hl [2, 1, 0] rfl) (fun ls hl => ?_)
  refine lv_iload_n hx hb dX6_ones_23 rfl (lv_at hl 1 rfl) ?_
  obtain rfl := Option.some.inj hf
  exact hret _ _ dX6_ones_24 (vp_nar_int _)
set_option maxRecDepth 100000 in
theorem c_X6_ones {l : Launch} {D : va_G} {cI cJ cZ cQ : ClassId} {qs : Nat × Nat × Nat}  {x0 : Int32} {out : Int32} (hf : f_X6_ones x0 = some out) : RoI l yX6_ones wsX6_ones { frames := 0, cells := 0, slots := 0, locals := 0 } D (ty4 cI cJ cZ cQ) qs [.int x0] [] out :=
  RoI.of (own := RX6) (by decide +kernel) rfl rfl (Nat.le_of_ble_eq_true rfl) (fun F hG hP hret ls hl => b_X6_ones F hG hP hf hret hl)
-- method X6_best
theorem yd_X6_best : yX6_best.cls = RX6 ∧ yX6_best.cls ≠ "java/lang/invoke/MethodHandle" ∧ yX6_best.cls ≠ "java/lang/invoke/VarHandle" ∧ (parseMethodDescriptor yX6_best.desc).map (fun d => d.parameters.length) = some 3 := by decide +kernel
theorem kw_X6_best_1 : Cond.constantLong RX6 190 (-1) ∈ wsX6_best := List.mem_of_getElem? (i := 1) rfl
theorem ku_X6_best_X6 : ∀ w ∈ u_ws RX6 TX6 19, w ∈ wsX6_best := by decide +kernel
theorem kw_X6_best_2 : Cond.fieldLink RX6 7 "MirrorSharesModel" "now" "[I" ∈ wsX6_best := List.mem_of_getElem? (i := 2) rfl
theorem kw_X6_best_3 : Cond.fieldLink RX6 16 "MirrorSharesModel" "aside" "[I" ∈ wsX6_best := List.mem_of_getElem? (i := 3) rfl
theorem kw_X6_best_4 : Cond.fieldLink RX6 146 "MirrorSharesModel" "above" "J" ∈ wsX6_best := List.mem_of_getElem? (i := 4) rfl
theorem kw_X6_best_5 : Cond.fieldLink RX6 150 "MirrorSharesModel" "below" "J" ∈ wsX6_best := List.mem_of_getElem? (i := 5) rfl
def f_X6_best_75 (mm : Int32) (mu : Int64) (mv : Int64) (mn : Nat → Int32) (md : Nat → Int32) (mk : Nat → Int32) (my : Nat → Int32) (mq : Nat → Int32) (mw : Nat → Int64) (y1 : Int32) (y2 : Int32) (y3 : Int32) (y4 : Int32) (y5 : Int64) (y7 : Int64) (y9 : Int32) (y10 : Int32) (y11 : Int32) (ma : Nat → Int32) : Option ((Int32 × (Nat → Int32)) ⊕ ((Nat → Int32))) :=
  (if y9 ≤ y11 then some (Sum.inr ma) else Option.bind (f_X6_doorCell mn y11) (fun r234 => chk (aix ((2 : Int32) + r234) 22) (some (Sum.inl ((y11 + (1 : Int32)), (upd ma (Int32.toNatClampNeg ((2 : Int32) + r234)) ((7 : Int32) - ((y10 >>> (y11 &&& 31)) &&& (1 : Int32)))))))))
set_option maxHeartbeats 4000000 in
set_option maxRecDepth 100000 in
theorem lp_X6_best_75 {p : Program} {l : Launch} {e : Env} {s : State} {m : MethodId} {args : Array Value} {below : List Frame} {meth : Method} {c : Code} {Q : State → Prop} {A : Nat → Prop} {D : va_G} {cI cJ cZ cQ : ClassId} {qs : Nat × Nat × Nat} {hMo hMn hMr hMa hMp hMt hMd hMk hMy hMl hMw hMi hMx : Nat} {mm : Int32} {mu : Int64} {mv : Int64} {mn : Nat → Int32} {md : Nat → Int32} {mk : Nat → Int32} {my : Nat → Int32} {mq : Nat → Int32} {mw : Nat → Int64} {y1 : Int32} {y2 : Int32} {y3 : Int32} {y4 : Int32} {y5 : Int64} {y7 : Int64} {y9 : Int32} {y10 : Int32} {mc : Int32} {ml : Int32} {ms : Int32} {me : Int32} (F : CallFix p m c cX6_best 13 s args wsX6_best RX6) (hG : kW D (ty4 cI cJ cZ cQ) qs A s s.heap) (hA : ∀ q : Nat, s.heap.size ≤ q → A q) :
    ∀ (n : Nat) {y11 : Int32} {ma : Nat → Int32} (out : (Nat → Int32)), lpf (fun s => f_X6_best_75 mm mu mv mn md mk my mq mw y1 y2 y3 y4 y5 y7 y9 y10 s.1 s.2) n (y11, ma) = some out → ∀ {H : Heap} {locs : List Loc} {ls : Array Slot}, va_P D vwCl [(hMo, .inr (6, [.ref hMn, .ref hMr, .ref hMa, .ref hMp, .int mc, .ref hMt, .int ml, .int ms, .ref hMd, .ref hMk, .ref hMy, .int mm, .ref hMl, .ref hMw, .long mu, .long mv, .ref hMi, .ref hMx, .int me])), (hMn, .inl (cI, 22, .inl mn)), (hMa, .inl (cI, 22, .inl ma)), (hMd, .inl (cI, 20, .inl md)), (hMk, .inl (cI, 40, .inl mk)), (hMy, .inl (cZ, 20, .inl my)), (hMl, .inl (cI, 80, .inl mq)), (hMw, .inl (cJ, 420, .inr (.inl mw)))] H → va_D A [(hMo, .inr (6, [.ref hMn, .ref hMr, .ref hMa, .ref hMp, .int mc, .ref hMt, .int ml, .int ms, .ref hMd, .ref hMk, .ref hMy, .int mm, .ref hMl, .ref hMw, .long mu, .long mv, .ref hMi, .ref hMx, .int me])), (hMn, .inl (cI, 22, .inl mn)), (hMa, .inl (cI, 22, .inl ma)), (hMd, .inl (cI, 20, .inl md)), (hMk, .inl (cI, 40, .inl mk)), (hMy, .inl (cZ, 20, .inl my)), (hMl, .inl (cI, 80, .inl mq)), (hMw, .inl (cJ, 420, .inr (.inl mw)))] → va_S A s.heap H locs → lv_has ls 13 [(0, .ref hMo), (1, .int y1), (2, .int y2), (3, .int y3), (4, .int y4), (5, .long y5), (7, .long y7), (9, .int y9), (10, .int y10), (11, .int y11)] → (∀ (H : Heap) (locs : List Loc) (ls : Array Slot), va_P D vwCl [(hMo, .inr (6, [.ref hMn, .ref hMr, .ref hMa, .ref hMp, .int mc, .ref hMt, .int ml, .int ms, .ref hMd, .ref hMk, .ref hMy, .int mm, .ref hMl, .ref hMw, .long mu, .long mv, .ref hMi, .ref hMx, .int me])), (hMn, .inl (cI, 22, .inl mn)), (hMa, .inl (cI, 22, .inl out)), (hMd, .inl (cI, 20, .inl md)), (hMk, .inl (cI, 40, .inl mk)), (hMy, .inl (cZ, 20, .inl my)), (hMl, .inl (cI, 80, .inl mq)), (hMw, .inl (cJ, 420, .inr (.inl mw)))] H → va_D A [(hMo, .inr (6, [.ref hMn, .ref hMr, .ref hMa, .ref hMp, .int mc, .ref hMt, .int ml, .int ms, .ref hMd, .ref hMk, .ref hMy, .int mm, .ref hMl, .ref hMw, .long mu, .long mv, .ref hMi, .ref hMx, .int me])), (hMn, .inl (cI, 22, .inl mn)), (hMa, .inl (cI, 22, .inl out)), (hMd, .inl (cI, 20, .inl md)), (hMk, .inl (cI, 40, .inl mk)), (hMy, .inl (cZ, 20, .inl my)), (hMl, .inl (cI, 80, .inl mq)), (hMw, .inl (cJ, 420, .inr (.inl mw)))] → va_S A s.heap H locs → lv_has ls 13 [(0, .ref hMo), (1, .int y1), (2, .int y2), (3, .int y3), (4, .int y4), (5, .long y5), (7, .long y7), (9, .int y9), (10, .int y10)] → W p l e { frames := 6, cells := 0, slots := 0, locals := 142 } s m args below meth c H locs 0 0 Q (F0 m 114 ls [])) → W p l e { frames := 6, cells := 0, slots := 0, locals := 142 } s m args below meth c H locs 0 0 Q (F0 m 75 ls []) := by
  have hx := F.1
  have hb := F.2.1
  have hown := F.2.2.2.1
  have hts := F.2.2.2.2
  have hK := hG.1.1
  intro n
  induction n with
  | zero =>
    intro y11 ma out ho
    exact (fp_l0 ho).elim
  | succ n ih =>
    intro y11 ma out ho H locs ls hP hD hS hl hex
    obtain ⟨o, hf, ho⟩ := fp_l ho
    have hf : f_X6_best_75 mm mu mv mn md mk my mq mw y1 y2 y3 y4 y5 y7 y9 y10 y11 ma = some o := hf
    rw [f_X6_best_75] at hf
    refine lv_iload hx hb dX6_best_75 (lv_at hl 9 rfl) ?_
    refine lv_iload hx hb dX6_best_77 (lv_at hl 7 rfl) ?_
    refine lv_icmp_ge (tgt := 114) hx hb dX6_best_79 (by decide) (fun c233 => ?_) (fun c233 => ?_)
    · have hf := fp_t hf c233
      obtain rfl := Option.some.inj hf
      have ho := fp_inr ho
      obtain rfl := Option.some.inj ho
      exact hex _ _ _ hP hD hS (lv_sub hl [0, 1, 2, 3, 4, 5, 6, 7, 8] rfl)
    · have hf := fp_f hf c233
      refine lv_aload_n hx hb dX6_best_82 rfl (lv_at hl 0 rfl) ?_
      refine va_get (D := D) (ci := 6) (v := .ref hMa) (C := RX6) (T := TX6) (N := 19) hx hb hts ku_X6_best_X6 hown hK hP 0 rfl rfl 2 (by decide) (hts _ kw_X6_best_3) (fun _ h9 => h9) rfl dX6_best_83 ?_
      refine lv_iconst (v := (2 : Int32)) hx hb dX6_best_86 (by decide) ?_
      refine lv_aload_n hx hb dX6_best_87 rfl (lv_at hl 0 rfl) ?_
      refine va_get (D := D) (ci := 6) (v := .ref hMn) (C := RX6) (T := TX6) (N := 19) hx hb hts ku_X6_best_X6 hown hK hP 0 rfl rfl 0 (by decide) (hts _ kw_X6_best_2) (fun _ h9 => h9) rfl dX6_best_88 ?_
      refine lv_iload hx hb dX6_best_91 (lv_at hl 9 rfl) ?_
      obtain ⟨r234, er234, hf⟩ := fp_b hf
      refine RoI.callS (c_X6_doorCell (l := l) (D := D) (cI := cI) (cJ := cJ) (cZ := cZ) (cQ := cQ) (qs := qs) er234) F (va_cwS 2 hts gX6_best_X6_doorCell rfl rfl rfl yd_X6_doorCell ⟨Nat.le_of_ble_eq_true rfl, Nat.le_of_ble_eq_true rfl⟩) (hG.r hS) hP [1] rfl rfl hl.1 rfl (Nat.le_of_ble_eq_true rfl) dX6_best_93 ⟨Nat.zero_le _, Nat.zero_le _⟩ ?_
      refine lv_iadd hx hb dX6_best_96 ?_
      refine lv_bipush (v := (7 : Int32)) hx hb dX6_best_97 (by decide) ?_
      refine lv_iload hx hb dX6_best_99 (lv_at hl 8 rfl) ?_
      refine lv_iload hx hb dX6_best_101 (lv_at hl 9 rfl) ?_
      refine lv_ishr hx hb dX6_best_103 ?_
      refine lv_iconst (v := (1 : Int32)) hx hb dX6_best_104 (by decide) ?_
      refine lv_iand hx hb dX6_best_105 ?_
      refine lv_isub hx hb dX6_best_106 ?_
      obtain ⟨k235, hf⟩ := fp_c hf
      refine va_iast hx hb hK hP hD hS 2 0 rfl rfl k235 dX6_best_107 (fun H locs hP hD hS => ?_)
      have hP : va_P D vwCl [(hMo, .inr (6, [.ref hMn, .ref hMr, .ref hMa, .ref hMp, .int mc, .ref hMt, .int ml, .int ms, .ref hMd, .ref hMk, .ref hMy, .int mm, .ref hMl, .ref hMw, .long mu, .long mv, .ref hMi, .ref hMx, .int me])), (hMn, .inl (cI, 22, .inl mn)), (hMa, .inl (cI, 22, .inl (upd ma (Int32.toNatClampNeg ((2 : Int32) + r234)) ((7 : Int32) - ((y10 >>> (y11 &&& 31)) &&& (1 : Int32)))))), (hMd, .inl (cI, 20, .inl md)), (hMk, .inl (cI, 40, .inl mk)), (hMy, .inl (cZ, 20, .inl my)), (hMl, .inl (cI, 80, .inl mq)), (hMw, .inl (cJ, 420, .inr (.inl mw)))] H := hP
      have hD : va_D A [(hMo, .inr (6, [.ref hMn, .ref hMr, .ref hMa, .ref hMp, .int mc, .ref hMt, .int ml, .int ms, .ref hMd, .ref hMk, .ref hMy, .int mm, .ref hMl, .ref hMw, .long mu, .long mv, .ref hMi, .ref hMx, .int me])), (hMn, .inl (cI, 22, .inl mn)), (hMa, .inl (cI, 22, .inl (upd ma (Int32.toNatClampNeg ((2 : Int32) + r234)) ((7 : Int32) - ((y10 >>> (y11 &&& 31)) &&& (1 : Int32)))))), (hMd, .inl (cI, 20, .inl md)), (hMk, .inl (cI, 40, .inl mk)), (hMy, .inl (cZ, 20, .inl my)), (hMl, .inl (cI, 80, .inl mq)), (hMw, .inl (cJ, 420, .inr (.inl mw)))] := hD
      refine lv_iinc (v := (y11 + (1 : Int32))) (lv' := [(11, .int (y11 + (1 : Int32))), (0, .ref hMo), (1, .int y1), (2, .int y2), (3, .int y3), (4, .int y4), (5, .long y5), (7, .long y7), (9, .int y9), (10, .int y10)]) hx hb dX6_best_108 hl (k := 9) rfl rfl (by decide) rfl (fun ls hl => ?_)
      refine lv_goto (tgt := 75) hx hb dX6_best_111 (by decide) ?_
      obtain rfl := Option.some.inj hf
      exact ih _ (fp_inl ho) hP hD hS (lv_sub hl [1, 2, 3, 4, 5, 6, 7, 8, 9, 0] rfl) hex
def f_X6_best_50 (mn : Nat → Int32) (y1 : Int32) (y2 : Int32) (y3 : Int32) (y9 : Int32) (y4 : Int32) (y5 : Int64) (y7 : Int64) (y10 : Int32) (mm : Int32) (mu : Int64) (mv : Int64) (ma : Nat → Int32) (md : Nat → Int32) (mk : Nat → Int32) (my : Nat → Int32) (mq : Nat → Int32) (mw : Nat → Int64) : Option ((Int32 × Int64 × Int64 × Int32 × Int32 × Int64 × Int64 × (Nat → Int32) × (Nat → Int32) × (Nat → Int32) × (Nat → Int32) × (Nat → Int32) × (Nat → Int64)) ⊕ (Int32 × Int64 × Int64 × Int32 × Int64 × Int64 × (Nat → Int32) × (Nat → Int32) × (Nat → Int32) × (Nat → Int32) × (Nat → Int32) × (Nat → Int64))) :=
  (if ((1 : Int32) <<< (y9 &&& 31)) ≤ y10 then some (Sum.inr (y4, y5, y7, mm, mu, mv, ma, md, mk, my, mq, mw)) else Option.bind (f_X6_copies 22 22 mn ma (0 : Int32) (0 : Int32)) (fun r232 => Option.bind (lpf (fun s => f_X6_best_75 mm mu mv mn md mk my mq mw y1 y2 y3 y4 y5 y7 y9 y10 s.1 s.2) 1000 ((0 : Int32), r232)) (fun o236 => Option.bind (f_X6_shares mm mu mv md mk my mq mw o236 y1 y2) (fun r237 => (if 0 < (lg_cmp ((r237.2.1 * y7) - (y5 * r237.2.2.1)) (0 : Int64)) then some (Sum.inl (y10, r237.2.1, r237.2.2.1, (y10 + (1 : Int32)), r237.1, r237.2.1, r237.2.2.1, o236, r237.2.2.2.1, r237.2.2.2.2.1, r237.2.2.2.2.2.1, r237.2.2.2.2.2.2.1, r237.2.2.2.2.2.2.2)) else (if (lg_cmp ((r237.2.1 * y7) - (y5 * r237.2.2.1)) (0 : Int64)) = 0 then Option.bind (f_X6_ones y10) (fun r240 => Option.bind (f_X6_ones y4) (fun r241 => (if r241 ≤ r240 then some (Sum.inl (y4, y5, y7, (y10 + (1 : Int32)), r237.1, r237.2.1, r237.2.2.1, o236, r237.2.2.2.1, r237.2.2.2.2.1, r237.2.2.2.2.2.1, r237.2.2.2.2.2.2.1, r237.2.2.2.2.2.2.2)) else some (Sum.inl (y10, r237.2.1, r237.2.2.1, (y10 + (1 : Int32)), r237.1, r237.2.1, r237.2.2.1, o236, r237.2.2.2.1, r237.2.2.2.2.1, r237.2.2.2.2.2.1, r237.2.2.2.2.2.2.1, r237.2.2.2.2.2.2.2))))) else some (Sum.inl (y4, y5, y7, (y10 + (1 : Int32)), r237.1, r237.2.1, r237.2.2.1, o236, r237.2.2.2.1, r237.2.2.2.2.1, r237.2.2.2.2.2.1, r237.2.2.2.2.2.2.1, r237.2.2.2.2.2.2.2))))))))
set_option maxHeartbeats 4000000 in
set_option maxRecDepth 100000 in
theorem lp_X6_best_50 {p : Program} {l : Launch} {e : Env} {s : State} {m : MethodId} {args : Array Value} {below : List Frame} {meth : Method} {c : Code} {Q : State → Prop} {A : Nat → Prop} {D : va_G} {cI cJ cZ cQ : ClassId} {qs : Nat × Nat × Nat} {hMo hMn hMr hMa hMp hMt hMd hMk hMy hMl hMw hMi hMx : Nat} {mn : Nat → Int32} {y1 : Int32} {y2 : Int32} {y3 : Int32} {y9 : Int32} {mc : Int32} {ml : Int32} {ms : Int32} {me : Int32} (F : CallFix p m c cX6_best 13 s args wsX6_best RX6) (hG : kW D (ty4 cI cJ cZ cQ) qs A s s.heap) (hA : ∀ q : Nat, s.heap.size ≤ q → A q) :
    ∀ (n : Nat) {y4 : Int32} {y5 : Int64} {y7 : Int64} {y10 : Int32} {mm : Int32} {mu : Int64} {mv : Int64} {ma : Nat → Int32} {md : Nat → Int32} {mk : Nat → Int32} {my : Nat → Int32} {mq : Nat → Int32} {mw : Nat → Int64} (out : Int32 × Int64 × Int64 × Int32 × Int64 × Int64 × (Nat → Int32) × (Nat → Int32) × (Nat → Int32) × (Nat → Int32) × (Nat → Int32) × (Nat → Int64)), lpf (fun s => f_X6_best_50 mn y1 y2 y3 y9 s.1 s.2.1 s.2.2.1 s.2.2.2.1 s.2.2.2.2.1 s.2.2.2.2.2.1 s.2.2.2.2.2.2.1 s.2.2.2.2.2.2.2.1 s.2.2.2.2.2.2.2.2.1 s.2.2.2.2.2.2.2.2.2.1 s.2.2.2.2.2.2.2.2.2.2.1 s.2.2.2.2.2.2.2.2.2.2.2.1 s.2.2.2.2.2.2.2.2.2.2.2.2) n (y4, y5, y7, y10, mm, mu, mv, ma, md, mk, my, mq, mw) = some out → ∀ {H : Heap} {locs : List Loc} {ls : Array Slot}, va_P D vwCl [(hMo, .inr (6, [.ref hMn, .ref hMr, .ref hMa, .ref hMp, .int mc, .ref hMt, .int ml, .int ms, .ref hMd, .ref hMk, .ref hMy, .int mm, .ref hMl, .ref hMw, .long mu, .long mv, .ref hMi, .ref hMx, .int me])), (hMn, .inl (cI, 22, .inl mn)), (hMa, .inl (cI, 22, .inl ma)), (hMd, .inl (cI, 20, .inl md)), (hMk, .inl (cI, 40, .inl mk)), (hMy, .inl (cZ, 20, .inl my)), (hMl, .inl (cI, 80, .inl mq)), (hMw, .inl (cJ, 420, .inr (.inl mw)))] H → va_D A [(hMo, .inr (6, [.ref hMn, .ref hMr, .ref hMa, .ref hMp, .int mc, .ref hMt, .int ml, .int ms, .ref hMd, .ref hMk, .ref hMy, .int mm, .ref hMl, .ref hMw, .long mu, .long mv, .ref hMi, .ref hMx, .int me])), (hMn, .inl (cI, 22, .inl mn)), (hMa, .inl (cI, 22, .inl ma)), (hMd, .inl (cI, 20, .inl md)), (hMk, .inl (cI, 40, .inl mk)), (hMy, .inl (cZ, 20, .inl my)), (hMl, .inl (cI, 80, .inl mq)), (hMw, .inl (cJ, 420, .inr (.inl mw)))] → va_S A s.heap H locs → lv_has ls 13 [(0, .ref hMo), (1, .int y1), (2, .int y2), (3, .int y3), (4, .int y4), (5, .long y5), (7, .long y7), (9, .int y9), (10, .int y10)] → (∀ (H : Heap) (locs : List Loc) (ls : Array Slot), va_P D vwCl [(hMo, .inr (6, [.ref hMn, .ref hMr, .ref hMa, .ref hMp, .int mc, .ref hMt, .int ml, .int ms, .ref hMd, .ref hMk, .ref hMy, .int out.2.2.2.1, .ref hMl, .ref hMw, .long out.2.2.2.2.1, .long out.2.2.2.2.2.1, .ref hMi, .ref hMx, .int me])), (hMn, .inl (cI, 22, .inl mn)), (hMa, .inl (cI, 22, .inl out.2.2.2.2.2.2.1)), (hMd, .inl (cI, 20, .inl out.2.2.2.2.2.2.2.1)), (hMk, .inl (cI, 40, .inl out.2.2.2.2.2.2.2.2.1)), (hMy, .inl (cZ, 20, .inl out.2.2.2.2.2.2.2.2.2.1)), (hMl, .inl (cI, 80, .inl out.2.2.2.2.2.2.2.2.2.2.1)), (hMw, .inl (cJ, 420, .inr (.inl out.2.2.2.2.2.2.2.2.2.2.2)))] H → va_D A [(hMo, .inr (6, [.ref hMn, .ref hMr, .ref hMa, .ref hMp, .int mc, .ref hMt, .int ml, .int ms, .ref hMd, .ref hMk, .ref hMy, .int out.2.2.2.1, .ref hMl, .ref hMw, .long out.2.2.2.2.1, .long out.2.2.2.2.2.1, .ref hMi, .ref hMx, .int me])), (hMn, .inl (cI, 22, .inl mn)), (hMa, .inl (cI, 22, .inl out.2.2.2.2.2.2.1)), (hMd, .inl (cI, 20, .inl out.2.2.2.2.2.2.2.1)), (hMk, .inl (cI, 40, .inl out.2.2.2.2.2.2.2.2.1)), (hMy, .inl (cZ, 20, .inl out.2.2.2.2.2.2.2.2.2.1)), (hMl, .inl (cI, 80, .inl out.2.2.2.2.2.2.2.2.2.2.1)), (hMw, .inl (cJ, 420, .inr (.inl out.2.2.2.2.2.2.2.2.2.2.2)))] → va_S A s.heap H locs → lv_has ls 13 [(0, .ref hMo), (1, .int y1), (2, .int y2), (3, .int y3), (4, .int out.1), (5, .long out.2.1), (7, .long out.2.2.1), (9, .int y9)] → W p l e { frames := 6, cells := 0, slots := 0, locals := 142 } s m args below meth c H locs 0 0 Q (F0 m 190 ls [])) → W p l e { frames := 6, cells := 0, slots := 0, locals := 142 } s m args below meth c H locs 0 0 Q (F0 m 50 ls []) := by
  have hx := F.1
  have hb := F.2.1
  have hown := F.2.2.2.1
  have hts := F.2.2.2.2
  have hK := hG.1.1
  intro n
  induction n with
  | zero =>
    intro y4 y5 y7 y10 mm mu mv ma md mk my mq mw out ho
    exact (fp_l0 ho).elim
  | succ n ih =>
    intro y4 y5 y7 y10 mm mu mv ma md mk my mq mw out ho H locs ls hP hD hS hl hex
    obtain ⟨o, hf, ho⟩ := fp_l ho
    have hf : f_X6_best_50 mn y1 y2 y3 y9 y4 y5 y7 y10 mm mu mv ma md mk my mq mw = some o := hf
    rw [f_X6_best_50] at hf
    refine lv_iload hx hb dX6_best_50 (lv_at hl 8 rfl) ?_
    refine lv_iconst (v := (1 : Int32)) hx hb dX6_best_52 (by decide) ?_
    refine lv_iload hx hb dX6_best_53 (lv_at hl 7 rfl) ?_
    refine lv_ishl hx hb dX6_best_55 ?_
    refine lv_icmp_ge (tgt := 190) hx hb dX6_best_56 (by decide) (fun c231 => ?_) (fun c231 => ?_)
    · have hf := fp_t hf c231
      obtain rfl := Option.some.inj hf
      have ho := fp_inr ho
      obtain rfl := Option.some.inj ho
      exact hex _ _ _ hP hD hS (lv_sub hl [0, 1, 2, 3, 4, 5, 6, 7] rfl)
    · have hf := fp_f hf c231
      refine lv_aload_n hx hb dX6_best_59 rfl (lv_at hl 0 rfl) ?_
      refine va_get (D := D) (ci := 6) (v := .ref hMn) (C := RX6) (T := TX6) (N := 19) hx hb hts ku_X6_best_X6 hown hK hP 0 rfl rfl 0 (by decide) (hts _ kw_X6_best_2) (fun _ h9 => h9) rfl dX6_best_60 ?_
      refine lv_iconst (v := (0 : Int32)) hx hb dX6_best_63 (by decide) ?_
      refine lv_aload_n hx hb dX6_best_64 rfl (lv_at hl 0 rfl) ?_
      refine va_get (D := D) (ci := 6) (v := .ref hMa) (C := RX6) (T := TX6) (N := 19) hx hb hts ku_X6_best_X6 hown hK hP 0 rfl rfl 2 (by decide) (hts _ kw_X6_best_3) (fun _ h9 => h9) rfl dX6_best_65 ?_
      refine lv_iconst (v := (0 : Int32)) hx hb dX6_best_68 (by decide) ?_
      obtain ⟨r232, er232, hf⟩ := fp_b hf
      refine kc_rwV (w2 := [(hMo, .inr (6, [.ref hMn, .ref hMr, .ref hMa, .ref hMp, .int mc, .ref hMt, .int ml, .int ms, .ref hMd, .ref hMk, .ref hMy, .int mm, .ref hMl, .ref hMw, .long mu, .long mv, .ref hMi, .ref hMx, .int me])), (hMn, .inl (cI, 22, .inl mn)), (hMa, .inl (cI, 22, .inl r232)), (hMd, .inl (cI, 20, .inl md)), (hMk, .inl (cI, 40, .inl mk)), (hMy, .inl (cZ, 20, .inl my)), (hMl, .inl (cI, 80, .inl mq)), (hMw, .inl (cJ, 420, .inr (.inl mw)))]) (RwV.runS (c_X6_copies (l := l) (D := D) (cI := cI) (cJ := cJ) (cZ := cZ) (cQ := cQ) (qs := qs) er232) F (va_cwS 4 hts gX6_best_X6_copies rfl rfl rfl yd_X6_copies ⟨Nat.le_of_ble_eq_true rfl, Nat.le_of_ble_eq_true rfl⟩) hG hP hD hS hA [1, 2] (by decide) rfl rfl hl.1 rfl (Nat.le_of_ble_eq_true rfl) dX6_best_69 ⟨Nat.zero_le _, Nat.zero_le _⟩) hP hD hS hA [1, 2] [0, 3, 4, 5, 6, 7] [0, 6, 7, 1, 2, 3, 4, 5] rfl (wr := [(hMo, .inr (6, [.ref hMn, .ref hMr, .ref hMa, .ref hMp, .int mc, .ref hMt, .int ml, .int ms, .ref hMd, .ref hMk, .ref hMy, .int mm, .ref hMl, .ref hMw, .long mu, .long mv, .ref hMi, .ref hMx, .int me])), (hMd, .inl (cI, 20, .inl md)), (hMk, .inl (cI, 40, .inl mk)), (hMy, .inl (cZ, 20, .inl my)), (hMl, .inl (cI, 80, .inl mq)), (hMw, .inl (cJ, 420, .inr (.inl mw)))]) rfl (by decide) (by decide) rfl (by decide) (fun H locs hP hD hS => ?_)
      refine lv_iconst (v := (0 : Int32)) hx hb dX6_best_72 (by decide) ?_
      refine lv_istore (lv' := [(11, .int (0 : Int32)), (0, .ref hMo), (1, .int y1), (2, .int y2), (3, .int y3), (4, .int y4), (5, .long y5), (7, .long y7), (9, .int y9), (10, .int y10)]) hx hb dX6_best_73 hl (by decide) rfl (fun ls hl => ?_)
      obtain ⟨o236, eo236, hf⟩ := fp_b hf
      refine lp_X6_best_75 F hG hA _ _ eo236 hP hD hS (lv_sub hl [1, 2, 3, 4, 5, 6, 7, 8, 9, 0] rfl) (fun H locs ls hP hD hS hl => ?_)
      refine lv_aload_n hx hb dX6_best_114 rfl (lv_at hl 0 rfl) ?_
      refine lv_aload_n hx hb dX6_best_115 rfl (lv_at hl 0 rfl) ?_
      refine va_get (D := D) (ci := 6) (v := .ref hMa) (C := RX6) (T := TX6) (N := 19) hx hb hts ku_X6_best_X6 hown hK hP 0 rfl rfl 2 (by decide) (hts _ kw_X6_best_3) (fun _ h9 => h9) rfl dX6_best_116 ?_
      refine lv_iload_n hx hb dX6_best_119 rfl (lv_at hl 1 rfl) ?_
      refine lv_iload_n hx hb dX6_best_120 rfl (lv_at hl 2 rfl) ?_
      obtain ⟨r237, er237, hf⟩ := fp_b hf
      refine kc_rwV (w2 := [(hMo, .inr (6, [.ref hMn, .ref hMr, .ref hMa, .ref hMp, .int mc, .ref hMt, .int ml, .int ms, .ref hMd, .ref hMk, .ref hMy, .int r237.1, .ref hMl, .ref hMw, .long r237.2.1, .long r237.2.2.1, .ref hMi, .ref hMx, .int me])), (hMn, .inl (cI, 22, .inl mn)), (hMa, .inl (cI, 22, .inl o236)), (hMd, .inl (cI, 20, .inl r237.2.2.2.1)), (hMk, .inl (cI, 40, .inl r237.2.2.2.2.1)), (hMy, .inl (cZ, 20, .inl r237.2.2.2.2.2.1)), (hMl, .inl (cI, 80, .inl r237.2.2.2.2.2.2.1)), (hMw, .inl (cJ, 420, .inr (.inl r237.2.2.2.2.2.2.2)))]) (RwV.runV (c_X6_shares (l := l) (D := D) (cI := cI) (cJ := cJ) (cZ := cZ) (cQ := cQ) (qs := qs) er237) F (cwV 3 hts gX6_best_X6_shares rfl rfl rfl yd_X6_shares ⟨Nat.le_of_ble_eq_true rfl, Nat.le_of_ble_eq_true rfl⟩) hG hP hD hS hA [0, 3, 4, 5, 6, 7, 2] (by decide) rfl 6 rfl rfl rfl hl.1 rfl (Nat.le_of_ble_eq_true rfl) dX6_best_121 ⟨Nat.zero_le _, Nat.zero_le _⟩) hP hD hS hA [0, 3, 4, 5, 6, 7, 2] [1] [1, 0, 7, 2, 3, 4, 5, 6] rfl (wr := [(hMn, .inl (cI, 22, .inl mn))]) rfl (by decide) (by decide) rfl (by decide) (fun H locs hP hD hS => ?_)
      refine lv_aload_n hx hb dX6_best_124 rfl (lv_at hl 0 rfl) ?_
      refine va_get (D := D) (ci := 6) (v := .long r237.2.1) (C := RX6) (T := TX6) (N := 19) hx hb hts ku_X6_best_X6 hown hK hP 0 rfl rfl 14 (by decide) (hts _ kw_X6_best_4) (fun _ h9 => h9) rfl dX6_best_125 ?_
      refine lv_lload hx hb dX6_best_128 (lv_at hl 6 rfl) ?_
      refine lv_lmul hx hb dX6_best_130 ?_
      refine lv_lload hx hb dX6_best_131 (lv_at hl 5 rfl) ?_
      refine lv_aload_n hx hb dX6_best_133 rfl (lv_at hl 0 rfl) ?_
      refine va_get (D := D) (ci := 6) (v := .long r237.2.2.1) (C := RX6) (T := TX6) (N := 19) hx hb hts ku_X6_best_X6 hown hK hP 0 rfl rfl 15 (by decide) (hts _ kw_X6_best_5) (fun _ h9 => h9) rfl dX6_best_134 ?_
      refine lv_lmul hx hb dX6_best_137 ?_
      refine lv_lsub hx hb dX6_best_138 ?_
      refine lv_lstore (lv' := [(11, .long ((r237.2.1 * y7) - (y5 * r237.2.2.1))), (0, .ref hMo), (1, .int y1), (2, .int y2), (3, .int y3), (4, .int y4), (5, .long y5), (7, .long y7), (9, .int y9), (10, .int y10)]) hx hb dX6_best_139 hl (by decide) rfl (fun ls hl => ?_)
      refine lv_lload hx hb dX6_best_141 (lv_at hl 0 rfl) ?_
      refine lv_lconst (v := 0) hx hb dX6_best_143 (by decide) ?_
      refine W.lcmp hx hb dX6_best_144 ?_
      refine lv_if_gt (tgt := 168) hx hb dX6_best_145 (by decide) (fun c238 => ?_) (fun c238 => ?_)
      · have hf := fp_t hf c238
        refine lv_iload hx hb dX6_best_168 (lv_at hl 9 rfl) ?_
        refine lv_istore (lv' := [(4, .int y10), (11, .long ((r237.2.1 * y7) - (y5 * r237.2.2.1))), (0, .ref hMo), (1, .int y1), (2, .int y2), (3, .int y3), (5, .long y5), (7, .long y7), (9, .int y9), (10, .int y10)]) hx hb dX6_best_170 hl (by decide) rfl (fun ls hl => ?_)
        refine lv_aload_n hx hb dX6_best_172 rfl (lv_at hl 2 rfl) ?_
        refine va_get (D := D) (ci := 6) (v := .long r237.2.1) (C := RX6) (T := TX6) (N := 19) hx hb hts ku_X6_best_X6 hown hK hP 0 rfl rfl 14 (by decide) (hts _ kw_X6_best_4) (fun _ h9 => h9) rfl dX6_best_173 ?_
        refine lv_lstore (lv' := [(5, .long r237.2.1), (4, .int y10), (11, .long ((r237.2.1 * y7) - (y5 * r237.2.2.1))), (0, .ref hMo), (1, .int y1), (2, .int y2), (3, .int y3), (7, .long y7), (9, .int y9), (10, .int y10)]) hx hb dX6_best_176 hl (by decide) rfl (fun ls hl => ?_)
        refine lv_aload_n hx hb dX6_best_178 rfl (lv_at hl 3 rfl) ?_
        refine va_get (D := D) (ci := 6) (v := .long r237.2.2.1) (C := RX6) (T := TX6) (N := 19) hx hb hts ku_X6_best_X6 hown hK hP 0 rfl rfl 15 (by decide) (hts _ kw_X6_best_5) (fun _ h9 => h9) rfl dX6_best_179 ?_
        refine lv_lstore (lv' := [(7, .long r237.2.2.1), (5, .long r237.2.1), (4, .int y10), (11, .long ((r237.2.1 * y7) - (y5 * r237.2.2.1))), (0, .ref hMo), (1, .int y1), (2, .int y2), (3, .int y3), (9, .int y9), (10, .int y10)]) hx hb dX6_best_182 hl (by decide) rfl (fun ls hl => ?_)
        refine lv_iinc (v := (y10 + (1 : Int32))) (lv' := [(10, .int (y10 + (1 : Int32))), (7, .long r237.2.2.1), (5, .long r237.2.1), (4, .int y10), (11, .long ((r237.2.1 * y7) - (y5 * r237.2.2.1))), (0, .ref hMo), (1, .int y1), (2, .int y2), (3, .int y3), (9, .int y9)]) hx hb dX6_best_184 hl (k := 9) rfl rfl (by decide) rfl (fun ls hl => ?_)
        refine lv_goto (tgt := 50) hx hb dX6_best_187 (by decide) ?_
        obtain rfl := Option.some.inj hf
        exact ih _ (fp_inl ho) hP hD hS (lv_sub hl [5, 6, 7, 8, 3, 2, 1, 9, 0] rfl) hex
      · have hf := fp_f hf c238
        refine lv_lload hx hb dX6_best_148 (lv_at hl 0 rfl) ?_
        refine lv_lconst (v := 0) hx hb dX6_best_150 (by decide) ?_
        refine W.lcmp hx hb dX6_best_151 ?_
        refine lv_if_ne (tgt := 184) hx hb dX6_best_152 (by decide) (fun c239 => ?_) (fun c239 => ?_)
        · have hf := fp_f hf c239
          refine lv_iinc (v := (y10 + (1 : Int32))) (lv' := [(10, .int (y10 + (1 : Int32))), (11, .long ((r237.2.1 * y7) - (y5 * r237.2.2.1))), (0, .ref hMo), (1, .int y1), (2, .int y2), (3, .int y3), (4, .int y4), (5, .long y5), (7, .long y7), (9, .int y9)]) hx hb dX6_best_184 hl (k := 9) rfl rfl (by decide) rfl (fun ls hl => ?_)
          refine lv_goto (tgt := 50) hx hb dX6_best_187 (by decide) ?_
          obtain rfl := Option.some.inj hf
          exact ih _ (fp_inl ho) hP hD hS (lv_sub hl [2, 3, 4, 5, 6, 7, 8, 9, 0] rfl) hex
        · have hf := fp_t hf c239
          refine lv_iload hx hb dX6_best_155 (lv_at hl 9 rfl) ?_
          obtain ⟨r240, er240, hf⟩ := fp_b hf
          refine RoI.callS (c_X6_ones (l := l) (D := D) (cI := cI) (cJ := cJ) (cZ := cZ) (cQ := cQ) (qs := qs) er240) F (va_cwS 1 hts gX6_best_X6_ones rfl rfl rfl yd_X6_ones ⟨Nat.le_of_ble_eq_true rfl, Nat.le_of_ble_eq_true rfl⟩) (hG.r hS) hP [] rfl rfl hl.1 rfl (Nat.le_of_ble_eq_true rfl) dX6_best_157 ⟨Nat.zero_le _, Nat.zero_le _⟩ ?_
          refine lv_iload hx hb dX6_best_160 (lv_at hl 5 rfl) ?_
          obtain ⟨r241, er241, hf⟩ := fp_b hf
          refine RoI.callS (c_X6_ones (l := l) (D := D) (cI := cI) (cJ := cJ) (cZ := cZ) (cQ := cQ) (qs := qs) er241) F (va_cwS 1 hts gX6_best_X6_ones rfl rfl rfl yd_X6_ones ⟨Nat.le_of_ble_eq_true rfl, Nat.le_of_ble_eq_true rfl⟩) (hG.r hS) hP [] rfl rfl hl.1 rfl (Nat.le_of_ble_eq_true rfl) dX6_best_162 ⟨Nat.zero_le _, Nat.zero_le _⟩ ?_
          refine lv_icmp_ge (tgt := 184) hx hb dX6_best_165 (by decide) (fun c242 => ?_) (fun c242 => ?_)
          · have hf := fp_t hf c242
            refine lv_iinc (v := (y10 + (1 : Int32))) (lv' := [(10, .int (y10 + (1 : Int32))), (11, .long ((r237.2.1 * y7) - (y5 * r237.2.2.1))), (0, .ref hMo), (1, .int y1), (2, .int y2), (3, .int y3), (4, .int y4), (5, .long y5), (7, .long y7), (9, .int y9)]) hx hb dX6_best_184 hl (k := 9) rfl rfl (by decide) rfl (fun ls hl => ?_)
            refine lv_goto (tgt := 50) hx hb dX6_best_187 (by decide) ?_
            obtain rfl := Option.some.inj hf
            exact ih _ (fp_inl ho) hP hD hS (lv_sub hl [2, 3, 4, 5, 6, 7, 8, 9, 0] rfl) hex
          · have hf := fp_f hf c242
            refine lv_iload hx hb dX6_best_168 (lv_at hl 9 rfl) ?_
            refine lv_istore (lv' := [(4, .int y10), (11, .long ((r237.2.1 * y7) - (y5 * r237.2.2.1))), (0, .ref hMo), (1, .int y1), (2, .int y2), (3, .int y3), (5, .long y5), (7, .long y7), (9, .int y9), (10, .int y10)]) hx hb dX6_best_170 hl (by decide) rfl (fun ls hl => ?_)
            refine lv_aload_n hx hb dX6_best_172 rfl (lv_at hl 2 rfl) ?_
            refine va_get (D := D) (ci := 6) (v := .long r237.2.1) (C := RX6) (T := TX6) (N := 19) hx hb hts ku_X6_best_X6 hown hK hP 0 rfl rfl 14 (by decide) (hts _ kw_X6_best_4) (fun _ h9 => h9) rfl dX6_best_173 ?_
            refine lv_lstore (lv' := [(5, .long r237.2.1), (4, .int y10), (11, .long ((r237.2.1 * y7) - (y5 * r237.2.2.1))), (0, .ref hMo), (1, .int y1), (2, .int y2), (3, .int y3), (7, .long y7), (9, .int y9), (10, .int y10)]) hx hb dX6_best_176 hl (by decide) rfl (fun ls hl => ?_)
            refine lv_aload_n hx hb dX6_best_178 rfl (lv_at hl 3 rfl) ?_
            refine va_get (D := D) (ci := 6) (v := .long r237.2.2.1) (C := RX6) (T := TX6) (N := 19) hx hb hts ku_X6_best_X6 hown hK hP 0 rfl rfl 15 (by decide) (hts _ kw_X6_best_5) (fun _ h9 => h9) rfl dX6_best_179 ?_
            refine lv_lstore (lv' := [(7, .long r237.2.2.1), (5, .long r237.2.1), (4, .int y10), (11, .long ((r237.2.1 * y7) - (y5 * r237.2.2.1))), (0, .ref hMo), (1, .int y1), (2, .int y2), (3, .int y3), (9, .int y9), (10, .int y10)]) hx hb dX6_best_182 hl (by decide) rfl (fun ls hl => ?_)
            refine lv_iinc (v := (y10 + (1 : Int32))) (lv' := [(10, .int (y10 + (1 : Int32))), (7, .long r237.2.2.1), (5, .long r237.2.1), (4, .int y10), (11, .long ((r237.2.1 * y7) - (y5 * r237.2.2.1))), (0, .ref hMo), (1, .int y1), (2, .int y2), (3, .int y3), (9, .int y9)]) hx hb dX6_best_184 hl (k := 9) rfl rfl (by decide) rfl (fun ls hl => ?_)
            refine lv_goto (tgt := 50) hx hb dX6_best_187 (by decide) ?_
            obtain rfl := Option.some.inj hf
            exact ih _ (fp_inl ho) hP hD hS (lv_sub hl [5, 6, 7, 8, 3, 2, 1, 9, 0] rfl) hex
def f_X6_best (mm : Int32) (mu : Int64) (mv : Int64) (mn : Nat → Int32) (ma : Nat → Int32) (md : Nat → Int32) (mk : Nat → Int32) (my : Nat → Int32) (mq : Nat → Int32) (mw : Nat → Int64) (x1 : Int32) (x2 : Int32) (x3 : Int32) : Option (Int32 × Int32 × Int64 × Int64 × (Nat → Int32) × (Nat → Int32) × (Nat → Int32) × (Nat → Int32) × (Nat → Int32) × (Nat → Int64)) :=
  Option.bind (f_X6_isPort mn x1) (fun r224 => (if r224 = 0 then some ((-1 : Int32), mm, mu, mv, ma, md, mk, my, mq, mw) else Option.bind (f_X6_isPort mn x2) (fun r226 => (if r226 = 0 then some ((-1 : Int32), mm, mu, mv, ma, md, mk, my, mq, mw) else Option.bind (f_X6_in x3 (0 : Int32) (2 : Int32)) (fun r228 => (if r228 = 0 then some ((-1 : Int32), mm, mu, mv, ma, md, mk, my, mq, mw) else Option.bind (f_X6_doors mn) (fun r230 => Option.bind (lpf (fun s => f_X6_best_50 mn x1 x2 x3 r230 s.1 s.2.1 s.2.2.1 s.2.2.2.1 s.2.2.2.2.1 s.2.2.2.2.2.1 s.2.2.2.2.2.2.1 s.2.2.2.2.2.2.2.1 s.2.2.2.2.2.2.2.2.1 s.2.2.2.2.2.2.2.2.2.1 s.2.2.2.2.2.2.2.2.2.2.1 s.2.2.2.2.2.2.2.2.2.2.2.1 s.2.2.2.2.2.2.2.2.2.2.2.2) 1000 ((0 : Int32), (-1 : Int64), (1 : Int64), (0 : Int32), mm, mu, mv, ma, md, mk, my, mq, mw)) (fun o243 => (if x3 = 0 then some (o243.1, o243.2.2.2.1, o243.2.2.2.2.1, o243.2.2.2.2.2.1, o243.2.2.2.2.2.2.1, o243.2.2.2.2.2.2.2.1, o243.2.2.2.2.2.2.2.2.1, o243.2.2.2.2.2.2.2.2.2.1, o243.2.2.2.2.2.2.2.2.2.2.1, o243.2.2.2.2.2.2.2.2.2.2.2) else (if x3 = (1 : Int32) then some ((Int64.toInt32 o243.2.1), o243.2.2.2.1, o243.2.2.2.2.1, o243.2.2.2.2.2.1, o243.2.2.2.2.2.2.1, o243.2.2.2.2.2.2.2.1, o243.2.2.2.2.2.2.2.2.1, o243.2.2.2.2.2.2.2.2.2.1, o243.2.2.2.2.2.2.2.2.2.2.1, o243.2.2.2.2.2.2.2.2.2.2.2) else some ((Int64.toInt32 o243.2.2.1), o243.2.2.2.1, o243.2.2.2.2.1, o243.2.2.2.2.2.1, o243.2.2.2.2.2.2.1, o243.2.2.2.2.2.2.2.1, o243.2.2.2.2.2.2.2.2.1, o243.2.2.2.2.2.2.2.2.2.1, o243.2.2.2.2.2.2.2.2.2.2.1, o243.2.2.2.2.2.2.2.2.2.2.2)))))))))))
set_option maxHeartbeats 4000000 in
set_option maxRecDepth 100000 in
theorem b_X6_best {p : Program} {l : Launch} {e : Env} {s : State} {m : MethodId} {args : Array Value} {below : List Frame} {meth : Method} {c : Code} {Q : State → Prop} {A : Nat → Prop} {H : Heap} {locs : List Loc} {D : va_G} {cI cJ cZ cQ : ClassId} {qs : Nat × Nat × Nat} {hMo hMn hMr hMa hMp hMt hMd hMk hMy hMl hMw hMi hMx : Nat} {mc : Int32} {ml : Int32} {ms : Int32} {mm : Int32} {mu : Int64} {mv : Int64} {me : Int32} {mn : Nat → Int32} {ma : Nat → Int32} {md : Nat → Int32} {mk : Nat → Int32} {my : Nat → Int32} {mq : Nat → Int32} {mw : Nat → Int64} {x1 : Int32} {x2 : Int32} {x3 : Int32} {out : Int32 × Int32 × Int64 × Int64 × (Nat → Int32) × (Nat → Int32) × (Nat → Int32) × (Nat → Int32) × (Nat → Int32) × (Nat → Int64)} (F : CallFix p m c cX6_best 13 s args wsX6_best RX6) (hG : kW D (ty4 cI cJ cZ cQ) qs A s s.heap) (hA : ∀ q : Nat, s.heap.size ≤ q → A q) (hP : va_P D vwCl [(hMo, .inr (6, [.ref hMn, .ref hMr, .ref hMa, .ref hMp, .int mc, .ref hMt, .int ml, .int ms, .ref hMd, .ref hMk, .ref hMy, .int mm, .ref hMl, .ref hMw, .long mu, .long mv, .ref hMi, .ref hMx, .int me])), (hMn, .inl (cI, 22, .inl mn)), (hMa, .inl (cI, 22, .inl ma)), (hMd, .inl (cI, 20, .inl md)), (hMk, .inl (cI, 40, .inl mk)), (hMy, .inl (cZ, 20, .inl my)), (hMl, .inl (cI, 80, .inl mq)), (hMw, .inl (cJ, 420, .inr (.inl mw)))] H) (hD : va_D A [(hMo, .inr (6, [.ref hMn, .ref hMr, .ref hMa, .ref hMp, .int mc, .ref hMt, .int ml, .int ms, .ref hMd, .ref hMk, .ref hMy, .int mm, .ref hMl, .ref hMw, .long mu, .long mv, .ref hMi, .ref hMx, .int me])), (hMn, .inl (cI, 22, .inl mn)), (hMa, .inl (cI, 22, .inl ma)), (hMd, .inl (cI, 20, .inl md)), (hMk, .inl (cI, 40, .inl mk)), (hMy, .inl (cZ, 20, .inl my)), (hMl, .inl (cI, 80, .inl mq)), (hMw, .inl (cJ, 420, .inr (.inl mw)))]) (hS : va_S A s.heap H locs) (hf : f_X6_best mm mu mv mn ma md mk my mq mw x1 x2 x3 = some out) (hret : ∀ (pc : Nat) (H : Heap) (locs : List Loc) (ls : Array Slot), decode cX6_best pc = .ok (.ireturn, 1) → narrow .int (.int out.1) = .int out.1 → va_P D vwCl [(hMo, .inr (6, [.ref hMn, .ref hMr, .ref hMa, .ref hMp, .int mc, .ref hMt, .int ml, .int ms, .ref hMd, .ref hMk, .ref hMy, .int out.2.1, .ref hMl, .ref hMw, .long out.2.2.1, .long out.2.2.2.1, .ref hMi, .ref hMx, .int me])), (hMn, .inl (cI, 22, .inl mn)), (hMa, .inl (cI, 22, .inl out.2.2.2.2.1)), (hMd, .inl (cI, 20, .inl out.2.2.2.2.2.1)), (hMk, .inl (cI, 40, .inl out.2.2.2.2.2.2.1)), (hMy, .inl (cZ, 20, .inl out.2.2.2.2.2.2.2.1)), (hMl, .inl (cI, 80, .inl out.2.2.2.2.2.2.2.2.1)), (hMw, .inl (cJ, 420, .inr (.inl out.2.2.2.2.2.2.2.2.2)))] H → va_D A [(hMo, .inr (6, [.ref hMn, .ref hMr, .ref hMa, .ref hMp, .int mc, .ref hMt, .int ml, .int ms, .ref hMd, .ref hMk, .ref hMy, .int out.2.1, .ref hMl, .ref hMw, .long out.2.2.1, .long out.2.2.2.1, .ref hMi, .ref hMx, .int me])), (hMn, .inl (cI, 22, .inl mn)), (hMa, .inl (cI, 22, .inl out.2.2.2.2.1)), (hMd, .inl (cI, 20, .inl out.2.2.2.2.2.1)), (hMk, .inl (cI, 40, .inl out.2.2.2.2.2.2.1)), (hMy, .inl (cZ, 20, .inl out.2.2.2.2.2.2.2.1)), (hMl, .inl (cI, 80, .inl out.2.2.2.2.2.2.2.2.1)), (hMw, .inl (cJ, 420, .inr (.inl out.2.2.2.2.2.2.2.2.2)))] → va_S A s.heap H locs → W p l e { frames := 6, cells := 0, slots := 0, locals := 142 } s m args below meth c H locs 0 0 Q (F0 m pc ls [.int out.1])) {ls : Array Slot} (hl : lv_has ls 13 [(0, .ref hMo), (1, .int x1), (2, .int x2), (3, .int x3)]) : W p l e { frames := 6, cells := 0, slots := 0, locals := 142 } s m args below meth c H locs 0 0 Q (F0 m 0 ls []) := by
  have hx := F.1
  have hb := F.2.1
  have hown := F.2.2.2.1
  have hts := F.2.2.2.2
  have hK := hG.1.1
  rw [f_X6_best] at hf
  refine lv_aload_n hx hb dX6_best_0 rfl (lv_at hl 0 rfl) ?_
  refine lv_iload_n hx hb dX6_best_1 rfl (lv_at hl 1 rfl) ?_
  obtain ⟨r224, er224, hf⟩ := fp_b hf
  refine RoI.callV (c_X6_isPort (l := l) (D := D) (cI := cI) (cJ := cJ) (cZ := cZ) (cQ := cQ) (qs := qs) er224) F (cwV 1 hts gX6_best_X6_isPort rfl rfl rfl yd_X6_isPort ⟨Nat.le_of_ble_eq_true rfl, Nat.le_of_ble_eq_true rfl⟩) (hG.r hS) hP [0, 1] rfl 6 rfl rfl rfl hl.1 rfl (Nat.le_of_ble_eq_true rfl) dX6_best_2 ⟨Nat.zero_le _, Nat.zero_le _⟩ ?_
  refine lv_if_eq (tgt := 25) hx hb dX6_best_5 (by decide) (fun c225 => ?_) (fun c225 => ?_)
  · have hf := fp_t hf c225
    refine lv_iconst (v := (-1 : Int32)) hx hb dX6_best_25 (by decide) ?_
    obtain rfl := Option.some.inj hf
    exact hret _ _ _ _ dX6_best_26 (vp_nar_int _) hP hD hS
  · have hf := fp_f hf c225
    refine lv_aload_n hx hb dX6_best_8 rfl (lv_at hl 0 rfl) ?_
    refine lv_iload_n hx hb dX6_best_9 rfl (lv_at hl 2 rfl) ?_
    obtain ⟨r226, er226, hf⟩ := fp_b hf
    refine RoI.callV (c_X6_isPort (l := l) (D := D) (cI := cI) (cJ := cJ) (cZ := cZ) (cQ := cQ) (qs := qs) er226) F (cwV 1 hts gX6_best_X6_isPort rfl rfl rfl yd_X6_isPort ⟨Nat.le_of_ble_eq_true rfl, Nat.le_of_ble_eq_true rfl⟩) (hG.r hS) hP [0, 1] rfl 6 rfl rfl rfl hl.1 rfl (Nat.le_of_ble_eq_true rfl) dX6_best_10 ⟨Nat.zero_le _, Nat.zero_le _⟩ ?_
    refine lv_if_eq (tgt := 25) hx hb dX6_best_13 (by decide) (fun c227 => ?_) (fun c227 => ?_)
    · have hf := fp_t hf c227
      refine lv_iconst (v := (-1 : Int32)) hx hb dX6_best_25 (by decide) ?_
      obtain rfl := Option.some.inj hf
      exact hret _ _ _ _ dX6_best_26 (vp_nar_int _) hP hD hS
    · have hf := fp_f hf c227
      refine lv_iload_n hx hb dX6_best_16 rfl (lv_at hl 3 rfl) ?_
      refine lv_iconst (v := (0 : Int32)) hx hb dX6_best_17 (by decide) ?_
      refine lv_iconst (v := (2 : Int32)) hx hb dX6_best_18 (by decide) ?_
      obtain ⟨r228, er228, hf⟩ := fp_b hf
      refine RoI.callS (c_X6_in (l := l) (D := D) (cI := cI) (cJ := cJ) (cZ := cZ) (cQ := cQ) (qs := qs) er228) F (va_cwS 3 hts gX6_best_X6_in rfl rfl rfl yd_X6_in ⟨Nat.le_of_ble_eq_true rfl, Nat.le_of_ble_eq_true rfl⟩) (hG.r hS) hP [] rfl rfl hl.1 rfl (Nat.le_of_ble_eq_true rfl) dX6_best_19 ⟨Nat.zero_le _, Nat.zero_le _⟩ ?_
      refine lv_if_ne (tgt := 27) hx hb dX6_best_22 (by decide) (fun c229 => ?_) (fun c229 => ?_)
      · have hf := fp_f hf c229
        refine lv_iconst (v := (0 : Int32)) hx hb dX6_best_27 (by decide) ?_
        refine lv_istore (lv' := [(4, .int (0 : Int32)), (0, .ref hMo), (1, .int x1), (2, .int x2), (3, .int x3)]) hx hb dX6_best_28 hl (by decide) rfl (fun ls hl => ?_)
        refine lv_ldc2 hx hb hown (hts _ kw_X6_best_1) dX6_best_30 ?_
        refine lv_lstore (lv' := [(5, .long (-1 : Int64)), (4, .int (0 : Int32)), (0, .ref hMo), (1, .int x1), (2, .int x2), (3, .int x3)]) hx hb dX6_best_33 hl (by decide) rfl (fun ls hl => ?_)
        refine lv_lconst (v := 1) hx hb dX6_best_35 (by decide) ?_
        refine lv_lstore (lv' := [(7, .long (1 : Int64)), (5, .long (-1 : Int64)), (4, .int (0 : Int32)), (0, .ref hMo), (1, .int x1), (2, .int x2), (3, .int x3)]) hx hb dX6_best_36 hl (by decide) rfl (fun ls hl => ?_)
        refine lv_aload_n hx hb dX6_best_38 rfl (lv_at hl 3 rfl) ?_
        refine va_get (D := D) (ci := 6) (v := .ref hMn) (C := RX6) (T := TX6) (N := 19) hx hb hts ku_X6_best_X6 hown hK hP 0 rfl rfl 0 (by decide) (hts _ kw_X6_best_2) (fun _ h9 => h9) rfl dX6_best_39 ?_
        obtain ⟨r230, er230, hf⟩ := fp_b hf
        refine RoI.callS (c_X6_doors (l := l) (D := D) (cI := cI) (cJ := cJ) (cZ := cZ) (cQ := cQ) (qs := qs) er230) F (va_cwS 1 hts gX6_best_X6_doors rfl rfl rfl yd_X6_doors ⟨Nat.le_of_ble_eq_true rfl, Nat.le_of_ble_eq_true rfl⟩) (hG.r hS) hP [1] rfl rfl hl.1 rfl (Nat.le_of_ble_eq_true rfl) dX6_best_42 ⟨Nat.zero_le _, Nat.zero_le _⟩ ?_
        refine lv_istore (lv' := [(9, .int r230), (7, .long (1 : Int64)), (5, .long (-1 : Int64)), (4, .int (0 : Int32)), (0, .ref hMo), (1, .int x1), (2, .int x2), (3, .int x3)]) hx hb dX6_best_45 hl (by decide) rfl (fun ls hl => ?_)
        refine lv_iconst (v := (0 : Int32)) hx hb dX6_best_47 (by decide) ?_
        refine lv_istore (lv' := [(10, .int (0 : Int32)), (9, .int r230), (7, .long (1 : Int64)), (5, .long (-1 : Int64)), (4, .int (0 : Int32)), (0, .ref hMo), (1, .int x1), (2, .int x2), (3, .int x3)]) hx hb dX6_best_48 hl (by decide) rfl (fun ls hl => ?_)
        obtain ⟨o243, eo243, hf⟩ := fp_b hf
        refine lp_X6_best_50 F hG hA _ _ eo243 hP hD hS (lv_sub hl [5, 6, 7, 8, 4, 3, 2, 1, 0] rfl) (fun H locs ls hP hD hS hl => ?_)
        refine lv_iload_n hx hb dX6_best_190 rfl (lv_at hl 3 rfl) ?_
        refine lv_if_ne (tgt := 199) hx hb dX6_best_191 (by decide) (fun c244 => ?_) (fun c244 => ?_)
        · have hf := fp_f hf c244
          refine lv_iload_n hx hb dX6_best_199 rfl (lv_at hl 3 rfl) ?_
          refine lv_iconst (v := (1 : Int32)) hx hb dX6_best_200 (by decide) ?_
          refine lv_icmp_ne (tgt := 209) hx hb dX6_best_201 (by decide) (fun c245 => ?_) (fun c245 => ?_)
          · have hf := fp_f hf c245
            refine lv_lload hx hb dX6_best_209 (lv_at hl 6 rfl) ?_
            refine lv_l2i (v := (Int64.toInt32 o243.2.2.1)) hx hb dX6_best_211 rfl ?_
            obtain rfl := Option.some.inj hf
            exact hret _ _ _ _ dX6_best_212 (vp_nar_int _) hP hD hS
          · have hf := fp_t hf c245
            refine lv_lload hx hb dX6_best_204 (lv_at hl 5 rfl) ?_
            refine lv_goto (tgt := 211) hx hb dX6_best_206 (by decide) ?_
            refine lv_l2i (v := (Int64.toInt32 o243.2.1)) hx hb dX6_best_211 rfl ?_
            obtain rfl := Option.some.inj hf
            exact hret _ _ _ _ dX6_best_212 (vp_nar_int _) hP hD hS
        · have hf := fp_t hf c244
          refine lv_iload hx hb dX6_best_194 (lv_at hl 4 rfl) ?_
          refine lv_goto (tgt := 212) hx hb dX6_best_196 (by decide) ?_
          obtain rfl := Option.some.inj hf
          exact hret _ _ _ _ dX6_best_212 (vp_nar_int _) hP hD hS
      · have hf := fp_t hf c229
        refine lv_iconst (v := (-1 : Int32)) hx hb dX6_best_25 (by decide) ?_
        obtain rfl := Option.some.inj hf
        exact hret _ _ _ _ dX6_best_26 (vp_nar_int _) hP hD hS
set_option maxRecDepth 100000 in
theorem c_X6_best {l : Launch} {D : va_G} {cI cJ cZ cQ : ClassId} {qs : Nat × Nat × Nat} {hMo hMn hMr hMa hMp hMt hMd hMk hMy hMl hMw hMi hMx : Nat} {mc : Int32} {ml : Int32} {ms : Int32} {mm : Int32} {mu : Int64} {mv : Int64} {me : Int32} {mn : Nat → Int32} {ma : Nat → Int32} {md : Nat → Int32} {mk : Nat → Int32} {my : Nat → Int32} {mq : Nat → Int32} {mw : Nat → Int64} {x1 : Int32} {x2 : Int32} {x3 : Int32} {out : Int32 × Int32 × Int64 × Int64 × (Nat → Int32) × (Nat → Int32) × (Nat → Int32) × (Nat → Int32) × (Nat → Int32) × (Nat → Int64)} (hf : f_X6_best mm mu mv mn ma md mk my mq mw x1 x2 x3 = some out) : RwI l yX6_best wsX6_best { frames := 6, cells := 0, slots := 0, locals := 142 } D (ty4 cI cJ cZ cQ) qs [.ref hMo, .int x1, .int x2, .int x3] [(hMo, .inr (6, [.ref hMn, .ref hMr, .ref hMa, .ref hMp, .int mc, .ref hMt, .int ml, .int ms, .ref hMd, .ref hMk, .ref hMy, .int mm, .ref hMl, .ref hMw, .long mu, .long mv, .ref hMi, .ref hMx, .int me])), (hMn, .inl (cI, 22, .inl mn)), (hMa, .inl (cI, 22, .inl ma)), (hMd, .inl (cI, 20, .inl md)), (hMk, .inl (cI, 40, .inl mk)), (hMy, .inl (cZ, 20, .inl my)), (hMl, .inl (cI, 80, .inl mq)), (hMw, .inl (cJ, 420, .inr (.inl mw)))] [(hMo, .inr (6, [.ref hMn, .ref hMr, .ref hMa, .ref hMp, .int mc, .ref hMt, .int ml, .int ms, .ref hMd, .ref hMk, .ref hMy, .int out.2.1, .ref hMl, .ref hMw, .long out.2.2.1, .long out.2.2.2.1, .ref hMi, .ref hMx, .int me])), (hMn, .inl (cI, 22, .inl mn)), (hMa, .inl (cI, 22, .inl out.2.2.2.2.1)), (hMd, .inl (cI, 20, .inl out.2.2.2.2.2.1)), (hMk, .inl (cI, 40, .inl out.2.2.2.2.2.2.1)), (hMy, .inl (cZ, 20, .inl out.2.2.2.2.2.2.2.1)), (hMl, .inl (cI, 80, .inl out.2.2.2.2.2.2.2.2.1)), (hMw, .inl (cJ, 420, .inr (.inl out.2.2.2.2.2.2.2.2.2)))] out.1 :=
  RwI.of (own := RX6) (by decide +kernel) rfl rfl (Nat.le_of_ble_eq_true rfl) (fun F hG hA hP hD hS hret ls hl => b_X6_best F hG hA hP hD hS hf hret hl)
-- method X6_found
theorem yd_X6_found : yX6_found.cls = RX6 ∧ yX6_found.cls ≠ "java/lang/invoke/MethodHandle" ∧ yX6_found.cls ≠ "java/lang/invoke/VarHandle" ∧ (parseMethodDescriptor yX6_found.desc).map (fun d => d.parameters.length) = some 5 := by decide +kernel
theorem ku_X6_found_X6 : ∀ w ∈ u_ws RX6 TX6 19, w ∈ wsX6_found := by decide +kernel
theorem kw_X6_found_1 : Cond.fieldLink RX6 7 "MirrorSharesModel" "now" "[I" ∈ wsX6_found := List.mem_of_getElem? (i := 1) rfl
theorem kw_X6_found_2 : Cond.fieldLink RX6 16 "MirrorSharesModel" "aside" "[I" ∈ wsX6_found := List.mem_of_getElem? (i := 2) rfl
theorem kw_X6_found_3 : Cond.fieldLink RX6 146 "MirrorSharesModel" "above" "J" ∈ wsX6_found := List.mem_of_getElem? (i := 3) rfl
theorem kw_X6_found_4 : Cond.fieldLink RX6 150 "MirrorSharesModel" "below" "J" ∈ wsX6_found := List.mem_of_getElem? (i := 4) rfl
def f_X6_found_76 (mn : Nat → Int32) (y1 : Int32) (y2 : Int32) (y3 : Int32) (y4 : Int32) (y5 : Int32) (y8 : Int32) (y6 : Int32) (y7 : Int32) (y9 : Int32) (mm : Int32) (mu : Int64) (mv : Int64) (ma : Nat → Int32) (md : Nat → Int32) (mk : Nat → Int32) (my : Nat → Int32) (mq : Nat → Int32) (mw : Nat → Int64) : Option ((Int32 × Int32 × Int32 × Int32 × Int64 × Int64 × (Nat → Int32) × (Nat → Int32) × (Nat → Int32) × (Nat → Int32) × (Nat → Int32) × (Nat → Int64)) ⊕ (Int32 × Int32 × Int32 × Int64 × Int64 × (Nat → Int32) × (Nat → Int32) × (Nat → Int32) × (Nat → Int32) × (Nat → Int32) × (Nat → Int64))) :=
  (if (3 : Int32) ≤ y9 then some (Sum.inr (y6, y7, mm, mu, mv, ma, md, mk, my, mq, mw)) else chk (aix ((2 : Int32) + y8) 22) ((if (mn (Int32.toNatClampNeg ((2 : Int32) + y8))) = 0 then Option.bind (f_X6_copies 22 22 mn ma (0 : Int32) (0 : Int32)) (fun r261 => Option.bind (f_X6_shares mm mu mv md mk my mq mw (upd r261 (Int32.toNatClampNeg ((2 : Int32) + y8)) y9) y1 y2) (fun r262 => (if (lg_cmp (r262.2.1 * (Int32.toInt64 y4)) (r262.2.2.1 * (Int32.toInt64 y3))) = 0 then (if y7 = (-4 : Int32) then some (Sum.inl ((y6 + (1 : Int32)), ((((2 : Int32) * y8) + y9) - (1 : Int32)), (y9 + (1 : Int32)), r262.1, r262.2.1, r262.2.2.1, (upd r261 (Int32.toNatClampNeg ((2 : Int32) + y8)) y9), r262.2.2.2.1, r262.2.2.2.2.1, r262.2.2.2.2.2.1, r262.2.2.2.2.2.2.1, r262.2.2.2.2.2.2.2)) else some (Sum.inl ((y6 + (1 : Int32)), y7, (y9 + (1 : Int32)), r262.1, r262.2.1, r262.2.2.1, (upd r261 (Int32.toNatClampNeg ((2 : Int32) + y8)) y9), r262.2.2.2.1, r262.2.2.2.2.1, r262.2.2.2.2.2.1, r262.2.2.2.2.2.2.1, r262.2.2.2.2.2.2.2))) else some (Sum.inl (y6, y7, (y9 + (1 : Int32)), r262.1, r262.2.1, r262.2.2.1, (upd r261 (Int32.toNatClampNeg ((2 : Int32) + y8)) y9), r262.2.2.2.1, r262.2.2.2.2.1, r262.2.2.2.2.2.1, r262.2.2.2.2.2.2.1, r262.2.2.2.2.2.2.2))))) else some (Sum.inr (y6, y7, mm, mu, mv, ma, md, mk, my, mq, mw)))))
set_option maxHeartbeats 4000000 in
set_option maxRecDepth 100000 in
theorem lp_X6_found_76 {p : Program} {l : Launch} {e : Env} {s : State} {m : MethodId} {args : Array Value} {below : List Frame} {meth : Method} {c : Code} {Q : State → Prop} {A : Nat → Prop} {D : va_G} {cI cJ cZ cQ : ClassId} {qs : Nat × Nat × Nat} {hMo hMn hMr hMa hMp hMt hMd hMk hMy hMl hMw hMi hMx : Nat} {mn : Nat → Int32} {y1 : Int32} {y2 : Int32} {y3 : Int32} {y4 : Int32} {y5 : Int32} {y8 : Int32} {mc : Int32} {ml : Int32} {ms : Int32} {me : Int32} (F : CallFix p m c cX6_found 10 s args wsX6_found RX6) (hG : kW D (ty4 cI cJ cZ cQ) qs A s s.heap) (hA : ∀ q : Nat, s.heap.size ≤ q → A q) :
    ∀ (n : Nat) {y6 : Int32} {y7 : Int32} {y9 : Int32} {mm : Int32} {mu : Int64} {mv : Int64} {ma : Nat → Int32} {md : Nat → Int32} {mk : Nat → Int32} {my : Nat → Int32} {mq : Nat → Int32} {mw : Nat → Int64} (out : Int32 × Int32 × Int32 × Int64 × Int64 × (Nat → Int32) × (Nat → Int32) × (Nat → Int32) × (Nat → Int32) × (Nat → Int32) × (Nat → Int64)), lpf (fun s => f_X6_found_76 mn y1 y2 y3 y4 y5 y8 s.1 s.2.1 s.2.2.1 s.2.2.2.1 s.2.2.2.2.1 s.2.2.2.2.2.1 s.2.2.2.2.2.2.1 s.2.2.2.2.2.2.2.1 s.2.2.2.2.2.2.2.2.1 s.2.2.2.2.2.2.2.2.2.1 s.2.2.2.2.2.2.2.2.2.2.1 s.2.2.2.2.2.2.2.2.2.2.2) n (y6, y7, y9, mm, mu, mv, ma, md, mk, my, mq, mw) = some out → ∀ {H : Heap} {locs : List Loc} {ls : Array Slot}, va_P D vwCl [(hMo, .inr (6, [.ref hMn, .ref hMr, .ref hMa, .ref hMp, .int mc, .ref hMt, .int ml, .int ms, .ref hMd, .ref hMk, .ref hMy, .int mm, .ref hMl, .ref hMw, .long mu, .long mv, .ref hMi, .ref hMx, .int me])), (hMn, .inl (cI, 22, .inl mn)), (hMa, .inl (cI, 22, .inl ma)), (hMd, .inl (cI, 20, .inl md)), (hMk, .inl (cI, 40, .inl mk)), (hMy, .inl (cZ, 20, .inl my)), (hMl, .inl (cI, 80, .inl mq)), (hMw, .inl (cJ, 420, .inr (.inl mw)))] H → va_D A [(hMo, .inr (6, [.ref hMn, .ref hMr, .ref hMa, .ref hMp, .int mc, .ref hMt, .int ml, .int ms, .ref hMd, .ref hMk, .ref hMy, .int mm, .ref hMl, .ref hMw, .long mu, .long mv, .ref hMi, .ref hMx, .int me])), (hMn, .inl (cI, 22, .inl mn)), (hMa, .inl (cI, 22, .inl ma)), (hMd, .inl (cI, 20, .inl md)), (hMk, .inl (cI, 40, .inl mk)), (hMy, .inl (cZ, 20, .inl my)), (hMl, .inl (cI, 80, .inl mq)), (hMw, .inl (cJ, 420, .inr (.inl mw)))] → va_S A s.heap H locs → lv_has ls 10 [(0, .ref hMo), (1, .int y1), (2, .int y2), (3, .int y3), (4, .int y4), (5, .int y5), (6, .int y6), (7, .int y7), (8, .int y8), (9, .int y9)] → (∀ (H : Heap) (locs : List Loc) (ls : Array Slot), va_P D vwCl [(hMo, .inr (6, [.ref hMn, .ref hMr, .ref hMa, .ref hMp, .int mc, .ref hMt, .int ml, .int ms, .ref hMd, .ref hMk, .ref hMy, .int out.2.2.1, .ref hMl, .ref hMw, .long out.2.2.2.1, .long out.2.2.2.2.1, .ref hMi, .ref hMx, .int me])), (hMn, .inl (cI, 22, .inl mn)), (hMa, .inl (cI, 22, .inl out.2.2.2.2.2.1)), (hMd, .inl (cI, 20, .inl out.2.2.2.2.2.2.1)), (hMk, .inl (cI, 40, .inl out.2.2.2.2.2.2.2.1)), (hMy, .inl (cZ, 20, .inl out.2.2.2.2.2.2.2.2.1)), (hMl, .inl (cI, 80, .inl out.2.2.2.2.2.2.2.2.2.1)), (hMw, .inl (cJ, 420, .inr (.inl out.2.2.2.2.2.2.2.2.2.2)))] H → va_D A [(hMo, .inr (6, [.ref hMn, .ref hMr, .ref hMa, .ref hMp, .int mc, .ref hMt, .int ml, .int ms, .ref hMd, .ref hMk, .ref hMy, .int out.2.2.1, .ref hMl, .ref hMw, .long out.2.2.2.1, .long out.2.2.2.2.1, .ref hMi, .ref hMx, .int me])), (hMn, .inl (cI, 22, .inl mn)), (hMa, .inl (cI, 22, .inl out.2.2.2.2.2.1)), (hMd, .inl (cI, 20, .inl out.2.2.2.2.2.2.1)), (hMk, .inl (cI, 40, .inl out.2.2.2.2.2.2.2.1)), (hMy, .inl (cZ, 20, .inl out.2.2.2.2.2.2.2.2.1)), (hMl, .inl (cI, 80, .inl out.2.2.2.2.2.2.2.2.2.1)), (hMw, .inl (cJ, 420, .inr (.inl out.2.2.2.2.2.2.2.2.2.2)))] → va_S A s.heap H locs → lv_has ls 10 [(0, .ref hMo), (1, .int y1), (2, .int y2), (3, .int y3), (4, .int y4), (5, .int y5), (6, .int out.1), (7, .int out.2.1), (8, .int y8)] → W p l e { frames := 6, cells := 0, slots := 0, locals := 142 } s m args below meth c H locs 0 0 Q (F0 m 179 ls [])) → W p l e { frames := 6, cells := 0, slots := 0, locals := 142 } s m args below meth c H locs 0 0 Q (F0 m 76 ls []) := by
  have hx := F.1
  have hb := F.2.1
  have hown := F.2.2.2.1
  have hts := F.2.2.2.2
  have hK := hG.1.1
  intro n
  induction n with
  | zero =>
    intro y6 y7 y9 mm mu mv ma md mk my mq mw out ho
    exact (fp_l0 ho).elim
  | succ n ih =>
    intro y6 y7 y9 mm mu mv ma md mk my mq mw out ho H locs ls hP hD hS hl hex
    obtain ⟨o, hf, ho⟩ := fp_l ho
    have hf : f_X6_found_76 mn y1 y2 y3 y4 y5 y8 y6 y7 y9 mm mu mv ma md mk my mq mw = some o := hf
    rw [f_X6_found_76] at hf
    refine lv_iload hx hb dX6_found_76 (lv_at hl 9 rfl) ?_
    refine lv_iconst (v := (3 : Int32)) hx hb dX6_found_78 (by decide) ?_
    refine lv_icmp_ge (tgt := 179) hx hb dX6_found_79 (by decide) (fun c258 => ?_) (fun c258 => ?_)
    · have hf := fp_t hf c258
      obtain rfl := Option.some.inj hf
      have ho := fp_inr ho
      obtain rfl := Option.some.inj ho
      exact hex _ _ _ hP hD hS (lv_sub hl [0, 1, 2, 3, 4, 5, 6, 7, 8] rfl)
    · have hf := fp_f hf c258
      refine lv_aload_n hx hb dX6_found_82 rfl (lv_at hl 0 rfl) ?_
      refine va_get (D := D) (ci := 6) (v := .ref hMn) (C := RX6) (T := TX6) (N := 19) hx hb hts ku_X6_found_X6 hown hK hP 0 rfl rfl 0 (by decide) (hts _ kw_X6_found_1) (fun _ h9 => h9) rfl dX6_found_83 ?_
      refine lv_iconst (v := (2 : Int32)) hx hb dX6_found_86 (by decide) ?_
      refine lv_iload hx hb dX6_found_87 (lv_at hl 8 rfl) ?_
      refine lv_iadd hx hb dX6_found_89 ?_
      obtain ⟨k259, hf⟩ := fp_c hf
      refine va_iald hx hb hK hP 1 0 rfl rfl k259 dX6_found_90 ?_
      refine lv_if_ne (tgt := 179) hx hb dX6_found_91 (by decide) (fun c260 => ?_) (fun c260 => ?_)
      · have hf := fp_f hf c260
        obtain rfl := Option.some.inj hf
        have ho := fp_inr ho
        obtain rfl := Option.some.inj ho
        exact hex _ _ _ hP hD hS (lv_sub hl [0, 1, 2, 3, 4, 5, 6, 7, 8] rfl)
      · have hf := fp_t hf c260
        refine lv_aload_n hx hb dX6_found_94 rfl (lv_at hl 0 rfl) ?_
        refine va_get (D := D) (ci := 6) (v := .ref hMn) (C := RX6) (T := TX6) (N := 19) hx hb hts ku_X6_found_X6 hown hK hP 0 rfl rfl 0 (by decide) (hts _ kw_X6_found_1) (fun _ h9 => h9) rfl dX6_found_95 ?_
        refine lv_iconst (v := (0 : Int32)) hx hb dX6_found_98 (by decide) ?_
        refine lv_aload_n hx hb dX6_found_99 rfl (lv_at hl 0 rfl) ?_
        refine va_get (D := D) (ci := 6) (v := .ref hMa) (C := RX6) (T := TX6) (N := 19) hx hb hts ku_X6_found_X6 hown hK hP 0 rfl rfl 2 (by decide) (hts _ kw_X6_found_2) (fun _ h9 => h9) rfl dX6_found_100 ?_
        refine lv_iconst (v := (0 : Int32)) hx hb dX6_found_103 (by decide) ?_
        obtain ⟨r261, er261, hf⟩ := fp_b hf
        refine kc_rwV (w2 := [(hMo, .inr (6, [.ref hMn, .ref hMr, .ref hMa, .ref hMp, .int mc, .ref hMt, .int ml, .int ms, .ref hMd, .ref hMk, .ref hMy, .int mm, .ref hMl, .ref hMw, .long mu, .long mv, .ref hMi, .ref hMx, .int me])), (hMn, .inl (cI, 22, .inl mn)), (hMa, .inl (cI, 22, .inl r261)), (hMd, .inl (cI, 20, .inl md)), (hMk, .inl (cI, 40, .inl mk)), (hMy, .inl (cZ, 20, .inl my)), (hMl, .inl (cI, 80, .inl mq)), (hMw, .inl (cJ, 420, .inr (.inl mw)))]) (RwV.runS (c_X6_copies (l := l) (D := D) (cI := cI) (cJ := cJ) (cZ := cZ) (cQ := cQ) (qs := qs) er261) F (va_cwS 4 hts gX6_found_X6_copies rfl rfl rfl yd_X6_copies ⟨Nat.le_of_ble_eq_true rfl, Nat.le_of_ble_eq_true rfl⟩) hG hP hD hS hA [1, 2] (by decide) rfl rfl hl.1 rfl (Nat.le_of_ble_eq_true rfl) dX6_found_104 ⟨Nat.zero_le _, Nat.zero_le _⟩) hP hD hS hA [1, 2] [0, 3, 4, 5, 6, 7] [0, 6, 7, 1, 2, 3, 4, 5] rfl (wr := [(hMo, .inr (6, [.ref hMn, .ref hMr, .ref hMa, .ref hMp, .int mc, .ref hMt, .int ml, .int ms, .ref hMd, .ref hMk, .ref hMy, .int mm, .ref hMl, .ref hMw, .long mu, .long mv, .ref hMi, .ref hMx, .int me])), (hMd, .inl (cI, 20, .inl md)), (hMk, .inl (cI, 40, .inl mk)), (hMy, .inl (cZ, 20, .inl my)), (hMl, .inl (cI, 80, .inl mq)), (hMw, .inl (cJ, 420, .inr (.inl mw)))]) rfl (by decide) (by decide) rfl (by decide) (fun H locs hP hD hS => ?_)
        refine lv_aload_n hx hb dX6_found_107 rfl (lv_at hl 0 rfl) ?_
        refine va_get (D := D) (ci := 6) (v := .ref hMa) (C := RX6) (T := TX6) (N := 19) hx hb hts ku_X6_found_X6 hown hK hP 0 rfl rfl 2 (by decide) (hts _ kw_X6_found_2) (fun _ h9 => h9) rfl dX6_found_108 ?_
        refine lv_iconst (v := (2 : Int32)) hx hb dX6_found_111 (by decide) ?_
        refine lv_iload hx hb dX6_found_112 (lv_at hl 8 rfl) ?_
        refine lv_iadd hx hb dX6_found_114 ?_
        refine lv_iload hx hb dX6_found_115 (lv_at hl 9 rfl) ?_
        refine va_iast hx hb hK hP hD hS 2 0 rfl rfl k259 dX6_found_117 (fun H locs hP hD hS => ?_)
        have hP : va_P D vwCl [(hMo, .inr (6, [.ref hMn, .ref hMr, .ref hMa, .ref hMp, .int mc, .ref hMt, .int ml, .int ms, .ref hMd, .ref hMk, .ref hMy, .int mm, .ref hMl, .ref hMw, .long mu, .long mv, .ref hMi, .ref hMx, .int me])), (hMn, .inl (cI, 22, .inl mn)), (hMa, .inl (cI, 22, .inl (upd r261 (Int32.toNatClampNeg ((2 : Int32) + y8)) y9))), (hMd, .inl (cI, 20, .inl md)), (hMk, .inl (cI, 40, .inl mk)), (hMy, .inl (cZ, 20, .inl my)), (hMl, .inl (cI, 80, .inl mq)), (hMw, .inl (cJ, 420, .inr (.inl mw)))] H := hP
        have hD : va_D A [(hMo, .inr (6, [.ref hMn, .ref hMr, .ref hMa, .ref hMp, .int mc, .ref hMt, .int ml, .int ms, .ref hMd, .ref hMk, .ref hMy, .int mm, .ref hMl, .ref hMw, .long mu, .long mv, .ref hMi, .ref hMx, .int me])), (hMn, .inl (cI, 22, .inl mn)), (hMa, .inl (cI, 22, .inl (upd r261 (Int32.toNatClampNeg ((2 : Int32) + y8)) y9))), (hMd, .inl (cI, 20, .inl md)), (hMk, .inl (cI, 40, .inl mk)), (hMy, .inl (cZ, 20, .inl my)), (hMl, .inl (cI, 80, .inl mq)), (hMw, .inl (cJ, 420, .inr (.inl mw)))] := hD
        refine lv_aload_n hx hb dX6_found_118 rfl (lv_at hl 0 rfl) ?_
        refine lv_aload_n hx hb dX6_found_119 rfl (lv_at hl 0 rfl) ?_
        refine va_get (D := D) (ci := 6) (v := .ref hMa) (C := RX6) (T := TX6) (N := 19) hx hb hts ku_X6_found_X6 hown hK hP 0 rfl rfl 2 (by decide) (hts _ kw_X6_found_2) (fun _ h9 => h9) rfl dX6_found_120 ?_
        refine lv_iload_n hx hb dX6_found_123 rfl (lv_at hl 1 rfl) ?_
        refine lv_iload_n hx hb dX6_found_124 rfl (lv_at hl 2 rfl) ?_
        obtain ⟨r262, er262, hf⟩ := fp_b hf
        refine kc_rwV (w2 := [(hMo, .inr (6, [.ref hMn, .ref hMr, .ref hMa, .ref hMp, .int mc, .ref hMt, .int ml, .int ms, .ref hMd, .ref hMk, .ref hMy, .int r262.1, .ref hMl, .ref hMw, .long r262.2.1, .long r262.2.2.1, .ref hMi, .ref hMx, .int me])), (hMn, .inl (cI, 22, .inl mn)), (hMa, .inl (cI, 22, .inl (upd r261 (Int32.toNatClampNeg ((2 : Int32) + y8)) y9))), (hMd, .inl (cI, 20, .inl r262.2.2.2.1)), (hMk, .inl (cI, 40, .inl r262.2.2.2.2.1)), (hMy, .inl (cZ, 20, .inl r262.2.2.2.2.2.1)), (hMl, .inl (cI, 80, .inl r262.2.2.2.2.2.2.1)), (hMw, .inl (cJ, 420, .inr (.inl r262.2.2.2.2.2.2.2)))]) (RwV.runV (c_X6_shares (l := l) (D := D) (cI := cI) (cJ := cJ) (cZ := cZ) (cQ := cQ) (qs := qs) er262) F (cwV 3 hts gX6_found_X6_shares rfl rfl rfl yd_X6_shares ⟨Nat.le_of_ble_eq_true rfl, Nat.le_of_ble_eq_true rfl⟩) hG hP hD hS hA [0, 3, 4, 5, 6, 7, 2] (by decide) rfl 6 rfl rfl rfl hl.1 rfl (Nat.le_of_ble_eq_true rfl) dX6_found_125 ⟨Nat.zero_le _, Nat.zero_le _⟩) hP hD hS hA [0, 3, 4, 5, 6, 7, 2] [1] [1, 0, 7, 2, 3, 4, 5, 6] rfl (wr := [(hMn, .inl (cI, 22, .inl mn))]) rfl (by decide) (by decide) rfl (by decide) (fun H locs hP hD hS => ?_)
        refine lv_aload_n hx hb dX6_found_128 rfl (lv_at hl 0 rfl) ?_
        refine va_get (D := D) (ci := 6) (v := .long r262.2.1) (C := RX6) (T := TX6) (N := 19) hx hb hts ku_X6_found_X6 hown hK hP 0 rfl rfl 14 (by decide) (hts _ kw_X6_found_3) (fun _ h9 => h9) rfl dX6_found_129 ?_
        refine lv_iload hx hb dX6_found_132 (lv_at hl 4 rfl) ?_
        refine lv_i2l (v := (Int32.toInt64 y4)) hx hb dX6_found_134 rfl ?_
        refine lv_lmul hx hb dX6_found_135 ?_
        refine lv_aload_n hx hb dX6_found_136 rfl (lv_at hl 0 rfl) ?_
        refine va_get (D := D) (ci := 6) (v := .long r262.2.2.1) (C := RX6) (T := TX6) (N := 19) hx hb hts ku_X6_found_X6 hown hK hP 0 rfl rfl 15 (by decide) (hts _ kw_X6_found_4) (fun _ h9 => h9) rfl dX6_found_137 ?_
        refine lv_iload_n hx hb dX6_found_140 rfl (lv_at hl 3 rfl) ?_
        refine lv_i2l (v := (Int32.toInt64 y3)) hx hb dX6_found_141 rfl ?_
        refine lv_lmul hx hb dX6_found_142 ?_
        refine W.lcmp hx hb dX6_found_143 ?_
        refine lv_if_ne (tgt := 173) hx hb dX6_found_144 (by decide) (fun c263 => ?_) (fun c263 => ?_)
        · have hf := fp_f hf c263
          refine lv_iinc (v := (y9 + (1 : Int32))) (lv' := [(9, .int (y9 + (1 : Int32))), (0, .ref hMo), (1, .int y1), (2, .int y2), (3, .int y3), (4, .int y4), (5, .int y5), (6, .int y6), (7, .int y7), (8, .int y8)]) hx hb dX6_found_173 hl (k := 9) rfl rfl (by decide) rfl (fun ls hl => ?_)
          refine lv_goto (tgt := 76) hx hb dX6_found_176 (by decide) ?_
          obtain rfl := Option.some.inj hf
          exact ih _ (fp_inl ho) hP hD hS (lv_sub hl [1, 2, 3, 4, 5, 6, 7, 8, 9, 0] rfl) hex
        · have hf := fp_t hf c263
          refine lv_iinc (v := (y6 + (1 : Int32))) (lv' := [(6, .int (y6 + (1 : Int32))), (0, .ref hMo), (1, .int y1), (2, .int y2), (3, .int y3), (4, .int y4), (5, .int y5), (7, .int y7), (8, .int y8), (9, .int y9)]) hx hb dX6_found_147 hl (k := 6) rfl rfl (by decide) rfl (fun ls hl => ?_)
          refine lv_iload hx hb dX6_found_150 (lv_at hl 7 rfl) ?_
          refine lv_bipush (v := (-4 : Int32)) hx hb dX6_found_152 (by decide) ?_
          refine lv_icmp_ne (tgt := 169) hx hb dX6_found_154 (by decide) (fun c264 => ?_) (fun c264 => ?_)
          · have hf := fp_f hf c264
            refine lv_iload hx hb dX6_found_169 (lv_at hl 7 rfl) ?_
            refine lv_istore (lv' := [(7, .int y7), (6, .int (y6 + (1 : Int32))), (0, .ref hMo), (1, .int y1), (2, .int y2), (3, .int y3), (4, .int y4), (5, .int y5), (8, .int y8), (9, .int y9)]) hx hb dX6_found_171 hl (by decide) rfl (fun ls hl => ?_)
            refine lv_iinc (v := (y9 + (1 : Int32))) (lv' := [(9, .int (y9 + (1 : Int32))), (7, .int y7), (6, .int (y6 + (1 : Int32))), (0, .ref hMo), (1, .int y1), (2, .int y2), (3, .int y3), (4, .int y4), (5, .int y5), (8, .int y8)]) hx hb dX6_found_173 hl (k := 9) rfl rfl (by decide) rfl (fun ls hl => ?_)
            refine lv_goto (tgt := 76) hx hb dX6_found_176 (by decide) ?_
            obtain rfl := Option.some.inj hf
            exact ih _ (fp_inl ho) hP hD hS (lv_sub hl [3, 4, 5, 6, 7, 8, 2, 1, 9, 0] rfl) hex
          · have hf := fp_t hf c264
            refine lv_iconst (v := (2 : Int32)) hx hb dX6_found_157 (by decide) ?_
            refine lv_iload hx hb dX6_found_158 (lv_at hl 8 rfl) ?_
            refine lv_imul hx hb dX6_found_160 ?_
            refine lv_iload hx hb dX6_found_161 (lv_at hl 9 rfl) ?_
            refine lv_iadd hx hb dX6_found_163 ?_
            refine lv_iconst (v := (1 : Int32)) hx hb dX6_found_164 (by decide) ?_
            refine lv_isub hx hb dX6_found_165 ?_
            refine lv_goto (tgt := 171) hx hb dX6_found_166 (by decide) ?_
            refine lv_istore (lv' := [(7, .int ((((2 : Int32) * y8) + y9) - (1 : Int32))), (6, .int (y6 + (1 : Int32))), (0, .ref hMo), (1, .int y1), (2, .int y2), (3, .int y3), (4, .int y4), (5, .int y5), (8, .int y8), (9, .int y9)]) hx hb dX6_found_171 hl (by decide) rfl (fun ls hl => ?_)
            refine lv_iinc (v := (y9 + (1 : Int32))) (lv' := [(9, .int (y9 + (1 : Int32))), (7, .int ((((2 : Int32) * y8) + y9) - (1 : Int32))), (6, .int (y6 + (1 : Int32))), (0, .ref hMo), (1, .int y1), (2, .int y2), (3, .int y3), (4, .int y4), (5, .int y5), (8, .int y8)]) hx hb dX6_found_173 hl (k := 9) rfl rfl (by decide) rfl (fun ls hl => ?_)
            refine lv_goto (tgt := 76) hx hb dX6_found_176 (by decide) ?_
            obtain rfl := Option.some.inj hf
            exact ih _ (fp_inl ho) hP hD hS (lv_sub hl [3, 4, 5, 6, 7, 8, 2, 1, 9, 0] rfl) hex
def f_X6_found_61 (mn : Nat → Int32) (y1 : Int32) (y2 : Int32) (y3 : Int32) (y4 : Int32) (y5 : Int32) (y6 : Int32) (y7 : Int32) (y8 : Int32) (mm : Int32) (mu : Int64) (mv : Int64) (ma : Nat → Int32) (md : Nat → Int32) (mk : Nat → Int32) (my : Nat → Int32) (mq : Nat → Int32) (mw : Nat → Int64) : Option ((Int32 × Int32 × Int32 × Int32 × Int64 × Int64 × (Nat → Int32) × (Nat → Int32) × (Nat → Int32) × (Nat → Int32) × (Nat → Int32) × (Nat → Int64)) ⊕ (Int32 × Int32 × Int32 × Int64 × Int64 × (Nat → Int32) × (Nat → Int32) × (Nat → Int32) × (Nat → Int32) × (Nat → Int32) × (Nat → Int64))) :=
  Option.bind (f_X6_cells mn) (fun r256 => (if r256 ≤ y8 then some (Sum.inr (y6, y7, mm, mu, mv, ma, md, mk, my, mq, mw)) else Option.bind (lpf (fun s => f_X6_found_76 mn y1 y2 y3 y4 y5 y8 s.1 s.2.1 s.2.2.1 s.2.2.2.1 s.2.2.2.2.1 s.2.2.2.2.2.1 s.2.2.2.2.2.2.1 s.2.2.2.2.2.2.2.1 s.2.2.2.2.2.2.2.2.1 s.2.2.2.2.2.2.2.2.2.1 s.2.2.2.2.2.2.2.2.2.2.1 s.2.2.2.2.2.2.2.2.2.2.2) 1000 (y6, y7, (1 : Int32), mm, mu, mv, ma, md, mk, my, mq, mw)) (fun o265 => some (Sum.inl (o265.1, o265.2.1, (y8 + (1 : Int32)), o265.2.2.1, o265.2.2.2.1, o265.2.2.2.2.1, o265.2.2.2.2.2.1, o265.2.2.2.2.2.2.1, o265.2.2.2.2.2.2.2.1, o265.2.2.2.2.2.2.2.2.1, o265.2.2.2.2.2.2.2.2.2.1, o265.2.2.2.2.2.2.2.2.2.2)))))
set_option maxHeartbeats 4000000 in
set_option maxRecDepth 100000 in
theorem lp_X6_found_61 {p : Program} {l : Launch} {e : Env} {s : State} {m : MethodId} {args : Array Value} {below : List Frame} {meth : Method} {c : Code} {Q : State → Prop} {A : Nat → Prop} {D : va_G} {cI cJ cZ cQ : ClassId} {qs : Nat × Nat × Nat} {hMo hMn hMr hMa hMp hMt hMd hMk hMy hMl hMw hMi hMx : Nat} {mn : Nat → Int32} {y1 : Int32} {y2 : Int32} {y3 : Int32} {y4 : Int32} {y5 : Int32} {mc : Int32} {ml : Int32} {ms : Int32} {me : Int32} (F : CallFix p m c cX6_found 10 s args wsX6_found RX6) (hG : kW D (ty4 cI cJ cZ cQ) qs A s s.heap) (hA : ∀ q : Nat, s.heap.size ≤ q → A q) :
    ∀ (n : Nat) {y6 : Int32} {y7 : Int32} {y8 : Int32} {mm : Int32} {mu : Int64} {mv : Int64} {ma : Nat → Int32} {md : Nat → Int32} {mk : Nat → Int32} {my : Nat → Int32} {mq : Nat → Int32} {mw : Nat → Int64} (out : Int32 × Int32 × Int32 × Int64 × Int64 × (Nat → Int32) × (Nat → Int32) × (Nat → Int32) × (Nat → Int32) × (Nat → Int32) × (Nat → Int64)), lpf (fun s => f_X6_found_61 mn y1 y2 y3 y4 y5 s.1 s.2.1 s.2.2.1 s.2.2.2.1 s.2.2.2.2.1 s.2.2.2.2.2.1 s.2.2.2.2.2.2.1 s.2.2.2.2.2.2.2.1 s.2.2.2.2.2.2.2.2.1 s.2.2.2.2.2.2.2.2.2.1 s.2.2.2.2.2.2.2.2.2.2.1 s.2.2.2.2.2.2.2.2.2.2.2) n (y6, y7, y8, mm, mu, mv, ma, md, mk, my, mq, mw) = some out → ∀ {H : Heap} {locs : List Loc} {ls : Array Slot}, va_P D vwCl [(hMo, .inr (6, [.ref hMn, .ref hMr, .ref hMa, .ref hMp, .int mc, .ref hMt, .int ml, .int ms, .ref hMd, .ref hMk, .ref hMy, .int mm, .ref hMl, .ref hMw, .long mu, .long mv, .ref hMi, .ref hMx, .int me])), (hMn, .inl (cI, 22, .inl mn)), (hMa, .inl (cI, 22, .inl ma)), (hMd, .inl (cI, 20, .inl md)), (hMk, .inl (cI, 40, .inl mk)), (hMy, .inl (cZ, 20, .inl my)), (hMl, .inl (cI, 80, .inl mq)), (hMw, .inl (cJ, 420, .inr (.inl mw)))] H → va_D A [(hMo, .inr (6, [.ref hMn, .ref hMr, .ref hMa, .ref hMp, .int mc, .ref hMt, .int ml, .int ms, .ref hMd, .ref hMk, .ref hMy, .int mm, .ref hMl, .ref hMw, .long mu, .long mv, .ref hMi, .ref hMx, .int me])), (hMn, .inl (cI, 22, .inl mn)), (hMa, .inl (cI, 22, .inl ma)), (hMd, .inl (cI, 20, .inl md)), (hMk, .inl (cI, 40, .inl mk)), (hMy, .inl (cZ, 20, .inl my)), (hMl, .inl (cI, 80, .inl mq)), (hMw, .inl (cJ, 420, .inr (.inl mw)))] → va_S A s.heap H locs → lv_has ls 10 [(0, .ref hMo), (1, .int y1), (2, .int y2), (3, .int y3), (4, .int y4), (5, .int y5), (6, .int y6), (7, .int y7), (8, .int y8)] → (∀ (H : Heap) (locs : List Loc) (ls : Array Slot), va_P D vwCl [(hMo, .inr (6, [.ref hMn, .ref hMr, .ref hMa, .ref hMp, .int mc, .ref hMt, .int ml, .int ms, .ref hMd, .ref hMk, .ref hMy, .int out.2.2.1, .ref hMl, .ref hMw, .long out.2.2.2.1, .long out.2.2.2.2.1, .ref hMi, .ref hMx, .int me])), (hMn, .inl (cI, 22, .inl mn)), (hMa, .inl (cI, 22, .inl out.2.2.2.2.2.1)), (hMd, .inl (cI, 20, .inl out.2.2.2.2.2.2.1)), (hMk, .inl (cI, 40, .inl out.2.2.2.2.2.2.2.1)), (hMy, .inl (cZ, 20, .inl out.2.2.2.2.2.2.2.2.1)), (hMl, .inl (cI, 80, .inl out.2.2.2.2.2.2.2.2.2.1)), (hMw, .inl (cJ, 420, .inr (.inl out.2.2.2.2.2.2.2.2.2.2)))] H → va_D A [(hMo, .inr (6, [.ref hMn, .ref hMr, .ref hMa, .ref hMp, .int mc, .ref hMt, .int ml, .int ms, .ref hMd, .ref hMk, .ref hMy, .int out.2.2.1, .ref hMl, .ref hMw, .long out.2.2.2.1, .long out.2.2.2.2.1, .ref hMi, .ref hMx, .int me])), (hMn, .inl (cI, 22, .inl mn)), (hMa, .inl (cI, 22, .inl out.2.2.2.2.2.1)), (hMd, .inl (cI, 20, .inl out.2.2.2.2.2.2.1)), (hMk, .inl (cI, 40, .inl out.2.2.2.2.2.2.2.1)), (hMy, .inl (cZ, 20, .inl out.2.2.2.2.2.2.2.2.1)), (hMl, .inl (cI, 80, .inl out.2.2.2.2.2.2.2.2.2.1)), (hMw, .inl (cJ, 420, .inr (.inl out.2.2.2.2.2.2.2.2.2.2)))] → va_S A s.heap H locs → lv_has ls 10 [(0, .ref hMo), (1, .int y1), (2, .int y2), (3, .int y3), (4, .int y4), (5, .int y5), (6, .int out.1), (7, .int out.2.1)] → W p l e { frames := 6, cells := 0, slots := 0, locals := 142 } s m args below meth c H locs 0 0 Q (F0 m 185 ls [])) → W p l e { frames := 6, cells := 0, slots := 0, locals := 142 } s m args below meth c H locs 0 0 Q (F0 m 61 ls []) := by
  have hx := F.1
  have hb := F.2.1
  have hown := F.2.2.2.1
  have hts := F.2.2.2.2
  have hK := hG.1.1
  intro n
  induction n with
  | zero =>
    intro y6 y7 y8 mm mu mv ma md mk my mq mw out ho
    exact (fp_l0 ho).elim
  | succ n ih =>
    intro y6 y7 y8 mm mu mv ma md mk my mq mw out ho H locs ls hP hD hS hl hex
    obtain ⟨o, hf, ho⟩ := fp_l ho
    have hf : f_X6_found_61 mn y1 y2 y3 y4 y5 y6 y7 y8 mm mu mv ma md mk my mq mw = some o := hf
    rw [f_X6_found_61] at hf
    refine lv_iload hx hb dX6_found_61 (lv_at hl 8 rfl) ?_
    refine lv_aload_n hx hb dX6_found_63 rfl (lv_at hl 0 rfl) ?_
    refine va_get (D := D) (ci := 6) (v := .ref hMn) (C := RX6) (T := TX6) (N := 19) hx hb hts ku_X6_found_X6 hown hK hP 0 rfl rfl 0 (by decide) (hts _ kw_X6_found_1) (fun _ h9 => h9) rfl dX6_found_64 ?_
    obtain ⟨r256, er256, hf⟩ := fp_b hf
    refine RoI.callS (c_X6_cells (l := l) (D := D) (cI := cI) (cJ := cJ) (cZ := cZ) (cQ := cQ) (qs := qs) er256) F (va_cwS 1 hts gX6_found_X6_cells rfl rfl rfl yd_X6_cells ⟨Nat.le_of_ble_eq_true rfl, Nat.le_of_ble_eq_true rfl⟩) (hG.r hS) hP [1] rfl rfl hl.1 rfl (Nat.le_of_ble_eq_true rfl) dX6_found_67 ⟨Nat.zero_le _, Nat.zero_le _⟩ ?_
    refine lv_icmp_ge (tgt := 185) hx hb dX6_found_70 (by decide) (fun c257 => ?_) (fun c257 => ?_)
    · have hf := fp_t hf c257
      obtain rfl := Option.some.inj hf
      have ho := fp_inr ho
      obtain rfl := Option.some.inj ho
      exact hex _ _ _ hP hD hS (lv_sub hl [0, 1, 2, 3, 4, 5, 6, 7] rfl)
    · have hf := fp_f hf c257
      refine lv_iconst (v := (1 : Int32)) hx hb dX6_found_73 (by decide) ?_
      refine lv_istore (lv' := [(9, .int (1 : Int32)), (0, .ref hMo), (1, .int y1), (2, .int y2), (3, .int y3), (4, .int y4), (5, .int y5), (6, .int y6), (7, .int y7), (8, .int y8)]) hx hb dX6_found_74 hl (by decide) rfl (fun ls hl => ?_)
      obtain ⟨o265, eo265, hf⟩ := fp_b hf
      refine lp_X6_found_76 F hG hA _ _ eo265 hP hD hS (lv_sub hl [1, 2, 3, 4, 5, 6, 7, 8, 9, 0] rfl) (fun H locs ls hP hD hS hl => ?_)
      refine lv_iinc (v := (y8 + (1 : Int32))) (lv' := [(8, .int (y8 + (1 : Int32))), (0, .ref hMo), (1, .int y1), (2, .int y2), (3, .int y3), (4, .int y4), (5, .int y5), (6, .int o265.1), (7, .int o265.2.1)]) hx hb dX6_found_179 hl (k := 8) rfl rfl (by decide) rfl (fun ls hl => ?_)
      refine lv_goto (tgt := 61) hx hb dX6_found_182 (by decide) ?_
      obtain rfl := Option.some.inj hf
      exact ih _ (fp_inl ho) hP hD hS (lv_sub hl [1, 2, 3, 4, 5, 6, 7, 8, 0] rfl) hex
def f_X6_found (mm : Int32) (mu : Int64) (mv : Int64) (mn : Nat → Int32) (ma : Nat → Int32) (md : Nat → Int32) (mk : Nat → Int32) (my : Nat → Int32) (mq : Nat → Int32) (mw : Nat → Int64) (x1 : Int32) (x2 : Int32) (x3 : Int32) (x4 : Int32) (x5 : Int32) : Option (Int32 × Int32 × Int64 × Int64 × (Nat → Int32) × (Nat → Int32) × (Nat → Int32) × (Nat → Int32) × (Nat → Int32) × (Nat → Int64)) :=
  Option.bind (f_X6_isPort mn x1) (fun r246 => (if r246 = 0 then some ((-1 : Int32), mm, mu, mv, ma, md, mk, my, mq, mw) else Option.bind (f_X6_isPort mn x2) (fun r248 => (if r248 = 0 then some ((-1 : Int32), mm, mu, mv, ma, md, mk, my, mq, mw) else Option.bind (f_X6_in x3 (0 : Int32) (1000 : Int32)) (fun r250 => (if r250 = 0 then some ((-1 : Int32), mm, mu, mv, ma, md, mk, my, mq, mw) else Option.bind (f_X6_in x4 (1 : Int32) (1000 : Int32)) (fun r252 => (if r252 = 0 then some ((-1 : Int32), mm, mu, mv, ma, md, mk, my, mq, mw) else Option.bind (f_X6_in x5 (0 : Int32) (1 : Int32)) (fun r254 => (if r254 = 0 then some ((-1 : Int32), mm, mu, mv, ma, md, mk, my, mq, mw) else Option.bind (lpf (fun s => f_X6_found_61 mn x1 x2 x3 x4 x5 s.1 s.2.1 s.2.2.1 s.2.2.2.1 s.2.2.2.2.1 s.2.2.2.2.2.1 s.2.2.2.2.2.2.1 s.2.2.2.2.2.2.2.1 s.2.2.2.2.2.2.2.2.1 s.2.2.2.2.2.2.2.2.2.1 s.2.2.2.2.2.2.2.2.2.2.1 s.2.2.2.2.2.2.2.2.2.2.2) 1000 ((0 : Int32), (-4 : Int32), (0 : Int32), mm, mu, mv, ma, md, mk, my, mq, mw)) (fun o266 => (if x5 = 0 then some (o266.1, o266.2.2.1, o266.2.2.2.1, o266.2.2.2.2.1, o266.2.2.2.2.2.1, o266.2.2.2.2.2.2.1, o266.2.2.2.2.2.2.2.1, o266.2.2.2.2.2.2.2.2.1, o266.2.2.2.2.2.2.2.2.2.1, o266.2.2.2.2.2.2.2.2.2.2) else some (o266.2.1, o266.2.2.1, o266.2.2.2.1, o266.2.2.2.2.1, o266.2.2.2.2.2.1, o266.2.2.2.2.2.2.1, o266.2.2.2.2.2.2.2.1, o266.2.2.2.2.2.2.2.2.1, o266.2.2.2.2.2.2.2.2.2.1, o266.2.2.2.2.2.2.2.2.2.2)))))))))))))
set_option maxHeartbeats 4000000 in
set_option maxRecDepth 100000 in
theorem b_X6_found {p : Program} {l : Launch} {e : Env} {s : State} {m : MethodId} {args : Array Value} {below : List Frame} {meth : Method} {c : Code} {Q : State → Prop} {A : Nat → Prop} {H : Heap} {locs : List Loc} {D : va_G} {cI cJ cZ cQ : ClassId} {qs : Nat × Nat × Nat} {hMo hMn hMr hMa hMp hMt hMd hMk hMy hMl hMw hMi hMx : Nat} {mc : Int32} {ml : Int32} {ms : Int32} {mm : Int32} {mu : Int64} {mv : Int64} {me : Int32} {mn : Nat → Int32} {ma : Nat → Int32} {md : Nat → Int32} {mk : Nat → Int32} {my : Nat → Int32} {mq : Nat → Int32} {mw : Nat → Int64} {x1 : Int32} {x2 : Int32} {x3 : Int32} {x4 : Int32} {x5 : Int32} {out : Int32 × Int32 × Int64 × Int64 × (Nat → Int32) × (Nat → Int32) × (Nat → Int32) × (Nat → Int32) × (Nat → Int32) × (Nat → Int64)} (F : CallFix p m c cX6_found 10 s args wsX6_found RX6) (hG : kW D (ty4 cI cJ cZ cQ) qs A s s.heap) (hA : ∀ q : Nat, s.heap.size ≤ q → A q) (hP : va_P D vwCl [(hMo, .inr (6, [.ref hMn, .ref hMr, .ref hMa, .ref hMp, .int mc, .ref hMt, .int ml, .int ms, .ref hMd, .ref hMk, .ref hMy, .int mm, .ref hMl, .ref hMw, .long mu, .long mv, .ref hMi, .ref hMx, .int me])), (hMn, .inl (cI, 22, .inl mn)), (hMa, .inl (cI, 22, .inl ma)), (hMd, .inl (cI, 20, .inl md)), (hMk, .inl (cI, 40, .inl mk)), (hMy, .inl (cZ, 20, .inl my)), (hMl, .inl (cI, 80, .inl mq)), (hMw, .inl (cJ, 420, .inr (.inl mw)))] H) (hD : va_D A [(hMo, .inr (6, [.ref hMn, .ref hMr, .ref hMa, .ref hMp, .int mc, .ref hMt, .int ml, .int ms, .ref hMd, .ref hMk, .ref hMy, .int mm, .ref hMl, .ref hMw, .long mu, .long mv, .ref hMi, .ref hMx, .int me])), (hMn, .inl (cI, 22, .inl mn)), (hMa, .inl (cI, 22, .inl ma)), (hMd, .inl (cI, 20, .inl md)), (hMk, .inl (cI, 40, .inl mk)), (hMy, .inl (cZ, 20, .inl my)), (hMl, .inl (cI, 80, .inl mq)), (hMw, .inl (cJ, 420, .inr (.inl mw)))]) (hS : va_S A s.heap H locs) (hf : f_X6_found mm mu mv mn ma md mk my mq mw x1 x2 x3 x4 x5 = some out) (hret : ∀ (pc : Nat) (H : Heap) (locs : List Loc) (ls : Array Slot), decode cX6_found pc = .ok (.ireturn, 1) → narrow .int (.int out.1) = .int out.1 → va_P D vwCl [(hMo, .inr (6, [.ref hMn, .ref hMr, .ref hMa, .ref hMp, .int mc, .ref hMt, .int ml, .int ms, .ref hMd, .ref hMk, .ref hMy, .int out.2.1, .ref hMl, .ref hMw, .long out.2.2.1, .long out.2.2.2.1, .ref hMi, .ref hMx, .int me])), (hMn, .inl (cI, 22, .inl mn)), (hMa, .inl (cI, 22, .inl out.2.2.2.2.1)), (hMd, .inl (cI, 20, .inl out.2.2.2.2.2.1)), (hMk, .inl (cI, 40, .inl out.2.2.2.2.2.2.1)), (hMy, .inl (cZ, 20, .inl out.2.2.2.2.2.2.2.1)), (hMl, .inl (cI, 80, .inl out.2.2.2.2.2.2.2.2.1)), (hMw, .inl (cJ, 420, .inr (.inl out.2.2.2.2.2.2.2.2.2)))] H → va_D A [(hMo, .inr (6, [.ref hMn, .ref hMr, .ref hMa, .ref hMp, .int mc, .ref hMt, .int ml, .int ms, .ref hMd, .ref hMk, .ref hMy, .int out.2.1, .ref hMl, .ref hMw, .long out.2.2.1, .long out.2.2.2.1, .ref hMi, .ref hMx, .int me])), (hMn, .inl (cI, 22, .inl mn)), (hMa, .inl (cI, 22, .inl out.2.2.2.2.1)), (hMd, .inl (cI, 20, .inl out.2.2.2.2.2.1)), (hMk, .inl (cI, 40, .inl out.2.2.2.2.2.2.1)), (hMy, .inl (cZ, 20, .inl out.2.2.2.2.2.2.2.1)), (hMl, .inl (cI, 80, .inl out.2.2.2.2.2.2.2.2.1)), (hMw, .inl (cJ, 420, .inr (.inl out.2.2.2.2.2.2.2.2.2)))] → va_S A s.heap H locs → W p l e { frames := 6, cells := 0, slots := 0, locals := 142 } s m args below meth c H locs 0 0 Q (F0 m pc ls [.int out.1])) {ls : Array Slot} (hl : lv_has ls 10 [(0, .ref hMo), (1, .int x1), (2, .int x2), (3, .int x3), (4, .int x4), (5, .int x5)]) : W p l e { frames := 6, cells := 0, slots := 0, locals := 142 } s m args below meth c H locs 0 0 Q (F0 m 0 ls []) := by
  have hx := F.1
  have hb := F.2.1
  have hown := F.2.2.2.1
  have hts := F.2.2.2.2
  have hK := hG.1.1
  rw [f_X6_found] at hf
  refine lv_aload_n hx hb dX6_found_0 rfl (lv_at hl 0 rfl) ?_
  refine lv_iload_n hx hb dX6_found_1 rfl (lv_at hl 1 rfl) ?_
  obtain ⟨r246, er246, hf⟩ := fp_b hf
  refine RoI.callV (c_X6_isPort (l := l) (D := D) (cI := cI) (cJ := cJ) (cZ := cZ) (cQ := cQ) (qs := qs) er246) F (cwV 1 hts gX6_found_X6_isPort rfl rfl rfl yd_X6_isPort ⟨Nat.le_of_ble_eq_true rfl, Nat.le_of_ble_eq_true rfl⟩) (hG.r hS) hP [0, 1] rfl 6 rfl rfl rfl hl.1 rfl (Nat.le_of_ble_eq_true rfl) dX6_found_2 ⟨Nat.zero_le _, Nat.zero_le _⟩ ?_
  refine lv_if_eq (tgt := 49) hx hb dX6_found_5 (by decide) (fun c247 => ?_) (fun c247 => ?_)
  · have hf := fp_t hf c247
    refine lv_iconst (v := (-1 : Int32)) hx hb dX6_found_49 (by decide) ?_
    obtain rfl := Option.some.inj hf
    exact hret _ _ _ _ dX6_found_50 (vp_nar_int _) hP hD hS
  · have hf := fp_f hf c247
    refine lv_aload_n hx hb dX6_found_8 rfl (lv_at hl 0 rfl) ?_
    refine lv_iload_n hx hb dX6_found_9 rfl (lv_at hl 2 rfl) ?_
    obtain ⟨r248, er248, hf⟩ := fp_b hf
    refine RoI.callV (c_X6_isPort (l := l) (D := D) (cI := cI) (cJ := cJ) (cZ := cZ) (cQ := cQ) (qs := qs) er248) F (cwV 1 hts gX6_found_X6_isPort rfl rfl rfl yd_X6_isPort ⟨Nat.le_of_ble_eq_true rfl, Nat.le_of_ble_eq_true rfl⟩) (hG.r hS) hP [0, 1] rfl 6 rfl rfl rfl hl.1 rfl (Nat.le_of_ble_eq_true rfl) dX6_found_10 ⟨Nat.zero_le _, Nat.zero_le _⟩ ?_
    refine lv_if_eq (tgt := 49) hx hb dX6_found_13 (by decide) (fun c249 => ?_) (fun c249 => ?_)
    · have hf := fp_t hf c249
      refine lv_iconst (v := (-1 : Int32)) hx hb dX6_found_49 (by decide) ?_
      obtain rfl := Option.some.inj hf
      exact hret _ _ _ _ dX6_found_50 (vp_nar_int _) hP hD hS
    · have hf := fp_f hf c249
      refine lv_iload_n hx hb dX6_found_16 rfl (lv_at hl 3 rfl) ?_
      refine lv_iconst (v := (0 : Int32)) hx hb dX6_found_17 (by decide) ?_
      refine lv_sipush (v := (1000 : Int32)) hx hb dX6_found_18 (by decide) ?_
      obtain ⟨r250, er250, hf⟩ := fp_b hf
      refine RoI.callS (c_X6_in (l := l) (D := D) (cI := cI) (cJ := cJ) (cZ := cZ) (cQ := cQ) (qs := qs) er250) F (va_cwS 3 hts gX6_found_X6_in rfl rfl rfl yd_X6_in ⟨Nat.le_of_ble_eq_true rfl, Nat.le_of_ble_eq_true rfl⟩) (hG.r hS) hP [] rfl rfl hl.1 rfl (Nat.le_of_ble_eq_true rfl) dX6_found_21 ⟨Nat.zero_le _, Nat.zero_le _⟩ ?_
      refine lv_if_eq (tgt := 49) hx hb dX6_found_24 (by decide) (fun c251 => ?_) (fun c251 => ?_)
      · have hf := fp_t hf c251
        refine lv_iconst (v := (-1 : Int32)) hx hb dX6_found_49 (by decide) ?_
        obtain rfl := Option.some.inj hf
        exact hret _ _ _ _ dX6_found_50 (vp_nar_int _) hP hD hS
      · have hf := fp_f hf c251
        refine lv_iload hx hb dX6_found_27 (lv_at hl 4 rfl) ?_
        refine lv_iconst (v := (1 : Int32)) hx hb dX6_found_29 (by decide) ?_
        refine lv_sipush (v := (1000 : Int32)) hx hb dX6_found_30 (by decide) ?_
        obtain ⟨r252, er252, hf⟩ := fp_b hf
        refine RoI.callS (c_X6_in (l := l) (D := D) (cI := cI) (cJ := cJ) (cZ := cZ) (cQ := cQ) (qs := qs) er252) F (va_cwS 3 hts gX6_found_X6_in rfl rfl rfl yd_X6_in ⟨Nat.le_of_ble_eq_true rfl, Nat.le_of_ble_eq_true rfl⟩) (hG.r hS) hP [] rfl rfl hl.1 rfl (Nat.le_of_ble_eq_true rfl) dX6_found_33 ⟨Nat.zero_le _, Nat.zero_le _⟩ ?_
        refine lv_if_eq (tgt := 49) hx hb dX6_found_36 (by decide) (fun c253 => ?_) (fun c253 => ?_)
        · have hf := fp_t hf c253
          refine lv_iconst (v := (-1 : Int32)) hx hb dX6_found_49 (by decide) ?_
          obtain rfl := Option.some.inj hf
          exact hret _ _ _ _ dX6_found_50 (vp_nar_int _) hP hD hS
        · have hf := fp_f hf c253
          refine lv_iload hx hb dX6_found_39 (lv_at hl 5 rfl) ?_
          refine lv_iconst (v := (0 : Int32)) hx hb dX6_found_41 (by decide) ?_
          refine lv_iconst (v := (1 : Int32)) hx hb dX6_found_42 (by decide) ?_
          obtain ⟨r254, er254, hf⟩ := fp_b hf
          refine RoI.callS (c_X6_in (l := l) (D := D) (cI := cI) (cJ := cJ) (cZ := cZ) (cQ := cQ) (qs := qs) er254) F (va_cwS 3 hts gX6_found_X6_in rfl rfl rfl yd_X6_in ⟨Nat.le_of_ble_eq_true rfl, Nat.le_of_ble_eq_true rfl⟩) (hG.r hS) hP [] rfl rfl hl.1 rfl (Nat.le_of_ble_eq_true rfl) dX6_found_43 ⟨Nat.zero_le _, Nat.zero_le _⟩ ?_
          refine lv_if_ne (tgt := 51) hx hb dX6_found_46 (by decide) (fun c255 => ?_) (fun c255 => ?_)
          · have hf := fp_f hf c255
            refine lv_iconst (v := (0 : Int32)) hx hb dX6_found_51 (by decide) ?_
            refine lv_istore (lv' := [(6, .int (0 : Int32)), (0, .ref hMo), (1, .int x1), (2, .int x2), (3, .int x3), (4, .int x4), (5, .int x5)]) hx hb dX6_found_52 hl (by decide) rfl (fun ls hl => ?_)
            refine lv_bipush (v := (-4 : Int32)) hx hb dX6_found_54 (by decide) ?_
            refine lv_istore (lv' := [(7, .int (-4 : Int32)), (6, .int (0 : Int32)), (0, .ref hMo), (1, .int x1), (2, .int x2), (3, .int x3), (4, .int x4), (5, .int x5)]) hx hb dX6_found_56 hl (by decide) rfl (fun ls hl => ?_)
            refine lv_iconst (v := (0 : Int32)) hx hb dX6_found_58 (by decide) ?_
            refine lv_istore (lv' := [(8, .int (0 : Int32)), (7, .int (-4 : Int32)), (6, .int (0 : Int32)), (0, .ref hMo), (1, .int x1), (2, .int x2), (3, .int x3), (4, .int x4), (5, .int x5)]) hx hb dX6_found_59 hl (by decide) rfl (fun ls hl => ?_)
            obtain ⟨o266, eo266, hf⟩ := fp_b hf
            refine lp_X6_found_61 F hG hA _ _ eo266 hP hD hS (lv_sub hl [3, 4, 5, 6, 7, 8, 2, 1, 0] rfl) (fun H locs ls hP hD hS hl => ?_)
            refine lv_iload hx hb dX6_found_185 (lv_at hl 5 rfl) ?_
            refine lv_if_ne (tgt := 195) hx hb dX6_found_187 (by decide) (fun c267 => ?_) (fun c267 => ?_)
            · have hf := fp_f hf c267
              refine lv_iload hx hb dX6_found_195 (lv_at hl 7 rfl) ?_
              obtain rfl := Option.some.inj hf
              exact hret _ _ _ _ dX6_found_197 (vp_nar_int _) hP hD hS
            · have hf := fp_t hf c267
              refine lv_iload hx hb dX6_found_190 (lv_at hl 6 rfl) ?_
              refine lv_goto (tgt := 197) hx hb dX6_found_192 (by decide) ?_
              obtain rfl := Option.some.inj hf
              exact hret _ _ _ _ dX6_found_197 (vp_nar_int _) hP hD hS
          · have hf := fp_t hf c255
            refine lv_iconst (v := (-1 : Int32)) hx hb dX6_found_49 (by decide) ?_
            obtain rfl := Option.some.inj hf
            exact hret _ _ _ _ dX6_found_50 (vp_nar_int _) hP hD hS
set_option maxRecDepth 100000 in
theorem c_X6_found {l : Launch} {D : va_G} {cI cJ cZ cQ : ClassId} {qs : Nat × Nat × Nat} {hMo hMn hMr hMa hMp hMt hMd hMk hMy hMl hMw hMi hMx : Nat} {mc : Int32} {ml : Int32} {ms : Int32} {mm : Int32} {mu : Int64} {mv : Int64} {me : Int32} {mn : Nat → Int32} {ma : Nat → Int32} {md : Nat → Int32} {mk : Nat → Int32} {my : Nat → Int32} {mq : Nat → Int32} {mw : Nat → Int64} {x1 : Int32} {x2 : Int32} {x3 : Int32} {x4 : Int32} {x5 : Int32} {out : Int32 × Int32 × Int64 × Int64 × (Nat → Int32) × (Nat → Int32) × (Nat → Int32) × (Nat → Int32) × (Nat → Int32) × (Nat → Int64)} (hf : f_X6_found mm mu mv mn ma md mk my mq mw x1 x2 x3 x4 x5 = some out) : RwI l yX6_found wsX6_found { frames := 6, cells := 0, slots := 0, locals := 142 } D (ty4 cI cJ cZ cQ) qs [.ref hMo, .int x1, .int x2, .int x3, .int x4, .int x5] [(hMo, .inr (6, [.ref hMn, .ref hMr, .ref hMa, .ref hMp, .int mc, .ref hMt, .int ml, .int ms, .ref hMd, .ref hMk, .ref hMy, .int mm, .ref hMl, .ref hMw, .long mu, .long mv, .ref hMi, .ref hMx, .int me])), (hMn, .inl (cI, 22, .inl mn)), (hMa, .inl (cI, 22, .inl ma)), (hMd, .inl (cI, 20, .inl md)), (hMk, .inl (cI, 40, .inl mk)), (hMy, .inl (cZ, 20, .inl my)), (hMl, .inl (cI, 80, .inl mq)), (hMw, .inl (cJ, 420, .inr (.inl mw)))] [(hMo, .inr (6, [.ref hMn, .ref hMr, .ref hMa, .ref hMp, .int mc, .ref hMt, .int ml, .int ms, .ref hMd, .ref hMk, .ref hMy, .int out.2.1, .ref hMl, .ref hMw, .long out.2.2.1, .long out.2.2.2.1, .ref hMi, .ref hMx, .int me])), (hMn, .inl (cI, 22, .inl mn)), (hMa, .inl (cI, 22, .inl out.2.2.2.2.1)), (hMd, .inl (cI, 20, .inl out.2.2.2.2.2.1)), (hMk, .inl (cI, 40, .inl out.2.2.2.2.2.2.1)), (hMy, .inl (cZ, 20, .inl out.2.2.2.2.2.2.2.1)), (hMl, .inl (cI, 80, .inl out.2.2.2.2.2.2.2.2.1)), (hMw, .inl (cJ, 420, .inr (.inl out.2.2.2.2.2.2.2.2.2)))] out.1 :=
  RwI.of (own := RX6) (by decide +kernel) rfl rfl (Nat.le_of_ble_eq_true rfl) (fun F hG hA hP hD hS hret ls hl => b_X6_found F hG hA hP hD hS hf hret hl)
