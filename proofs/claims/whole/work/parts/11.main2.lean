-- method X5_share
theorem yd_X5_share : yX5_share.cls = RX5 ∧ yX5_share.cls ≠ "java/lang/invoke/MethodHandle" ∧ yX5_share.cls ≠ "java/lang/invoke/VarHandle" ∧ (parseMethodDescriptor yX5_share.desc).map (fun d => d.parameters.length) = some 3 := by decide +kernel
theorem ku_X5_share_X5 : ∀ w ∈ u_ws RX5 TX5 6, w ∈ wsX5_share := by decide +kernel
theorem kw_X5_share_1 : Cond.fieldLink RX5 43 "MirrorShares" "beam" "LMirrorShares$Beam;" ∈ wsX5_share := List.mem_of_getElem? (i := 1) rfl
theorem kw_X5_share_2 : Cond.fieldLink RX5 19 "MirrorShares" "room" "LMirrorShares$Room;" ∈ wsX5_share := List.mem_of_getElem? (i := 2) rfl
theorem ku_X5_share_X0 : ∀ w ∈ u_ws RX0 TX0 7, w ∈ wsX5_share := by decide +kernel
def f_X5_share (coR : Int32) (roR : Int32) (kdR : Nat → Int32) (bq : Int32) (bw : Int64) (bp : Nat → Int32) (bn : Nat → Int32) (br : Nat → Int32) (bs : Nat → Int64) (bM : Nat → Nat → Int64) (x1 : Int32) (x2 : Int32) (x3 : Int32) : Option (Int32 × Int32 × Int64 × (Nat → Int32) × (Nat → Int32) × (Nat → Int32) × (Nat → Int64) × (Nat → Nat → Int64)) :=
  Option.bind (f_X5_hasPorts coR roR x1 x2) (fun r1 => (if r1 = 0 then some ((-1 : Int32), bq, bw, bp, bn, br, bs, bM) else Option.bind (f_X5_isPart x3 (2 : Int32)) (fun r3 => (if r3 = 0 then some ((-1 : Int32), bq, bw, bp, bn, br, bs, bM) else Option.bind (f_X0_shine coR roR kdR bq bw bp bn br bs bM x1) (fun r5 => Option.bind (f_X0_outAt r5.2.2.2.2.2.1 x2) (fun r6 => Option.bind (f_X5_lowest r6 r5.2.1 x3) (fun r7 => some (r7, r5.1, r5.2.1, r5.2.2.1, r5.2.2.2.1, r5.2.2.2.2.1, r5.2.2.2.2.2.1, r5.2.2.2.2.2.2))))))))
set_option maxHeartbeats 4000000 in
set_option maxRecDepth 100000 in
theorem b_X5_share {p : Program} {l : Launch} {e : Env} {s : State} {m : MethodId} {args : Array Value} {below : List Frame} {meth : Method} {c : Code} {Q : State → Prop} {A : Nat → Prop} {H : Heap} {locs : List Loc} {D : va_G} {cI cJ cZ cQ : ClassId} {qs : Nat × Nat × Nat} {hMs hTo hRmR hRmT hPa hWa hBe hKdR hBp hBn hBr hBo hBs : Nat} {hBg : Nat → Nat} {coR : Int32} {roR : Int32} {kdR : Nat → Int32} {bq : Int32} {bw : Int64} {bp : Nat → Int32} {bn : Nat → Int32} {br : Nat → Int32} {bs : Nat → Int64} {bM : Nat → Nat → Int64} {x1 : Int32} {x2 : Int32} {x3 : Int32} {out : Int32 × Int32 × Int64 × (Nat → Int32) × (Nat → Int32) × (Nat → Int32) × (Nat → Int64) × (Nat → Nat → Int64)} (F : CallFix p m c cX5_share 4 s args wsX5_share RX5) (hG : kW D (ty4 cI cJ cZ cQ) qs A s s.heap) (hA : ∀ q : Nat, s.heap.size ≤ q → A q) (hP : va_P D vwCl ([(hMs, .inr (5, [.ref hTo, .ref hRmR, .ref hRmT, .ref hPa, .ref hWa, .ref hBe])), (hRmR, .inr (2, [.ref hKdR, .int coR, .int roR])), (hKdR, .inl (cI, 20, .inl kdR)), (hBe, .inr (0, [.ref hBp, .ref hBn, .ref hBr, .ref hBo, .ref hBs, .int bq, .long bw])), (hBp, .inl (cI, 10, .inl bp)), (hBn, .inl (cI, 60, .inl bn)), (hBr, .inl (cI, 20, .inl br)), (hBs, .inl (cJ, 60, .inr (.inl bs))), (hBo, .inl (cQ, 10, .inr (.inr (.inr (.inr (gr_o hBg))))))] ++ gr_c cJ hBg bM) H) (hD : va_D A ([(hMs, .inr (5, [.ref hTo, .ref hRmR, .ref hRmT, .ref hPa, .ref hWa, .ref hBe])), (hRmR, .inr (2, [.ref hKdR, .int coR, .int roR])), (hKdR, .inl (cI, 20, .inl kdR)), (hBe, .inr (0, [.ref hBp, .ref hBn, .ref hBr, .ref hBo, .ref hBs, .int bq, .long bw])), (hBp, .inl (cI, 10, .inl bp)), (hBn, .inl (cI, 60, .inl bn)), (hBr, .inl (cI, 20, .inl br)), (hBs, .inl (cJ, 60, .inr (.inl bs))), (hBo, .inl (cQ, 10, .inr (.inr (.inr (.inr (gr_o hBg))))))] ++ gr_c cJ hBg bM)) (hS : va_S A s.heap H locs) (hf : f_X5_share coR roR kdR bq bw bp bn br bs bM x1 x2 x3 = some out) (hret : ∀ (pc : Nat) (H : Heap) (locs : List Loc) (ls : Array Slot), decode cX5_share pc = .ok (.ireturn, 1) → narrow .int (.int out.1) = .int out.1 → va_P D vwCl ([(hMs, .inr (5, [.ref hTo, .ref hRmR, .ref hRmT, .ref hPa, .ref hWa, .ref hBe])), (hRmR, .inr (2, [.ref hKdR, .int coR, .int roR])), (hKdR, .inl (cI, 20, .inl kdR)), (hBe, .inr (0, [.ref hBp, .ref hBn, .ref hBr, .ref hBo, .ref hBs, .int out.2.1, .long out.2.2.1])), (hBp, .inl (cI, 10, .inl out.2.2.2.1)), (hBn, .inl (cI, 60, .inl out.2.2.2.2.1)), (hBr, .inl (cI, 20, .inl out.2.2.2.2.2.1)), (hBs, .inl (cJ, 60, .inr (.inl out.2.2.2.2.2.2.1))), (hBo, .inl (cQ, 10, .inr (.inr (.inr (.inr (gr_o hBg))))))] ++ gr_c cJ hBg out.2.2.2.2.2.2.2) H → va_D A ([(hMs, .inr (5, [.ref hTo, .ref hRmR, .ref hRmT, .ref hPa, .ref hWa, .ref hBe])), (hRmR, .inr (2, [.ref hKdR, .int coR, .int roR])), (hKdR, .inl (cI, 20, .inl kdR)), (hBe, .inr (0, [.ref hBp, .ref hBn, .ref hBr, .ref hBo, .ref hBs, .int out.2.1, .long out.2.2.1])), (hBp, .inl (cI, 10, .inl out.2.2.2.1)), (hBn, .inl (cI, 60, .inl out.2.2.2.2.1)), (hBr, .inl (cI, 20, .inl out.2.2.2.2.2.1)), (hBs, .inl (cJ, 60, .inr (.inl out.2.2.2.2.2.2.1))), (hBo, .inl (cQ, 10, .inr (.inr (.inr (.inr (gr_o hBg))))))] ++ gr_c cJ hBg out.2.2.2.2.2.2.2) → va_S A s.heap H locs → W p l e { frames := 6, cells := 0, slots := 0, locals := 139 } s m args below meth c H locs 0 0 Q (F0 m pc ls [.int out.1])) {ls : Array Slot} (hl : lv_has ls 4 [(0, .ref hMs), (1, .int x1), (2, .int x2), (3, .int x3)]) : W p l e { frames := 6, cells := 0, slots := 0, locals := 139 } s m args below meth c H locs 0 0 Q (F0 m 0 ls []) := by
  have hx := F.1
  have hb := F.2.1
  have hown := F.2.2.2.1
  have hts := F.2.2.2.2
  have hK := hG.1.1
  rw [f_X5_share] at hf
  refine lv_aload_n hx hb dX5_share_0 rfl (lv_at hl 0 rfl) ?_
  refine lv_iload_n hx hb dX5_share_1 rfl (lv_at hl 1 rfl) ?_
  refine lv_iload_n hx hb dX5_share_2 rfl (lv_at hl 2 rfl) ?_
  obtain ⟨r1, er1, hf⟩ := fp_b hf
  refine RoI.callV (c_X5_hasPorts (l := l) (D := D) (cI := cI) (cJ := cJ) (cZ := cZ) (cQ := cQ) (qs := qs) er1) F (cwV 2 hts gX5_share_X5_hasPorts rfl rfl rfl yd_X5_hasPorts ⟨Nat.le_of_ble_eq_true rfl, Nat.le_of_ble_eq_true rfl⟩) (hG.r hS) hP [0, 1] rfl 5 rfl rfl rfl hl.1 rfl (Nat.le_of_ble_eq_true rfl) dX5_share_3 ⟨Nat.zero_le _, Nat.zero_le _⟩ ?_
  refine lv_if_eq (tgt := 17) hx hb dX5_share_6 (by decide) (fun c2 => ?_) (fun c2 => ?_)
  · have hf := fp_t hf c2
    refine lv_iconst (v := (-1 : Int32)) hx hb dX5_share_17 (by decide) ?_
    cases hf
    exact hret _ _ _ _ dX5_share_18 (vp_nar_int _) hP hD hS
  · have hf := fp_f hf c2
    refine lv_iload_n hx hb dX5_share_9 rfl (lv_at hl 3 rfl) ?_
    refine lv_iconst (v := (2 : Int32)) hx hb dX5_share_10 (by decide) ?_
    obtain ⟨r3, er3, hf⟩ := fp_b hf
    refine RoI.callS (c_X5_isPart (l := l) (D := D) (cI := cI) (cJ := cJ) (cZ := cZ) (cQ := cQ) (qs := qs) er3) F (va_cwS 2 hts gX5_share_X5_isPart rfl rfl rfl yd_X5_isPart ⟨Nat.le_of_ble_eq_true rfl, Nat.le_of_ble_eq_true rfl⟩) (hG.r hS) hP [] rfl rfl hl.1 rfl (Nat.le_of_ble_eq_true rfl) dX5_share_11 ⟨Nat.zero_le _, Nat.zero_le _⟩ ?_
    refine lv_if_ne (tgt := 19) hx hb dX5_share_14 (by decide) (fun c4 => ?_) (fun c4 => ?_)
    · have hf := fp_f hf c4
      refine lv_aload_n hx hb dX5_share_19 rfl (lv_at hl 0 rfl) ?_
      refine va_get (D := D) (ci := 5) (v := .ref hBe) (C := RX5) (T := TX5) (N := 6) hx hb hts ku_X5_share_X5 hown hK hP 0 rfl rfl 5 (by decide) (hts _ kw_X5_share_1) (fun _ h9 => h9) rfl dX5_share_20 ?_
      refine lv_aload_n hx hb dX5_share_23 rfl (lv_at hl 0 rfl) ?_
      refine va_get (D := D) (ci := 5) (v := .ref hRmR) (C := RX5) (T := TX5) (N := 6) hx hb hts ku_X5_share_X5 hown hK hP 0 rfl rfl 1 (by decide) (hts _ kw_X5_share_2) (fun _ h9 => h9) rfl dX5_share_24 ?_
      refine lv_iload_n hx hb dX5_share_27 rfl (lv_at hl 1 rfl) ?_
      obtain ⟨r5, er5, hf⟩ := fp_b hf
      refine kc_rwV (w2 := ([(hMs, .inr (5, [.ref hTo, .ref hRmR, .ref hRmT, .ref hPa, .ref hWa, .ref hBe])), (hRmR, .inr (2, [.ref hKdR, .int coR, .int roR])), (hKdR, .inl (cI, 20, .inl kdR)), (hBe, .inr (0, [.ref hBp, .ref hBn, .ref hBr, .ref hBo, .ref hBs, .int r5.1, .long r5.2.1])), (hBp, .inl (cI, 10, .inl r5.2.2.1)), (hBn, .inl (cI, 60, .inl r5.2.2.2.1)), (hBr, .inl (cI, 20, .inl r5.2.2.2.2.1)), (hBs, .inl (cJ, 60, .inr (.inl r5.2.2.2.2.2.1))), (hBo, .inl (cQ, 10, .inr (.inr (.inr (.inr (gr_o hBg))))))] ++ gr_c cJ hBg r5.2.2.2.2.2.2)) (RwV.runV (c_X0_shine (l := l) (D := D) (cI := cI) (cJ := cJ) (cZ := cZ) (cQ := cQ) (qs := qs) er5) F (cwV 2 hts gX5_share_X0_shine rfl rfl rfl yd_X0_shine ⟨Nat.le_of_ble_eq_true rfl, Nat.le_of_ble_eq_true rfl⟩) hG hP hD hS hA [3, 1, 2, 4, 5, 6, 7, 8, 9, 10, 11, 12, 13, 14, 15, 16, 17, 18] (by decide) rfl 0 rfl rfl rfl hl.1 rfl (Nat.le_of_ble_eq_true rfl) dX5_share_28 ⟨Nat.zero_le _, Nat.zero_le _⟩) hP hD hS hA [3, 1, 2, 4, 5, 6, 7, 8, 9, 10, 11, 12, 13, 14, 15, 16, 17, 18] [0] [0, 2, 3, 1, 4, 5, 6, 7, 8, 9, 10, 11, 12, 13, 14, 15, 16, 17, 18] rfl (wr := [(hMs, .inr (5, [.ref hTo, .ref hRmR, .ref hRmT, .ref hPa, .ref hWa, .ref hBe]))]) rfl (by decide) (by decide) rfl (by decide) (fun H locs hP hD hS => ?_)
      refine lv_aload_n hx hb dX5_share_31 rfl (lv_at hl 0 rfl) ?_
      refine va_get (D := D) (ci := 5) (v := .ref hBe) (C := RX5) (T := TX5) (N := 6) hx hb hts ku_X5_share_X5 hown hK hP 0 rfl rfl 5 (by decide) (hts _ kw_X5_share_1) (fun _ h9 => h9) rfl dX5_share_32 ?_
      refine lv_iload_n hx hb dX5_share_35 rfl (lv_at hl 2 rfl) ?_
      obtain ⟨r6, er6, hf⟩ := fp_b hf
      refine RoL.callV (c_X0_outAt (l := l) (D := D) (cI := cI) (cJ := cJ) (cZ := cZ) (cQ := cQ) (qs := qs) er6) F (cwV 1 hts gX5_share_X0_outAt rfl rfl rfl yd_X0_outAt ⟨Nat.le_of_ble_eq_true rfl, Nat.le_of_ble_eq_true rfl⟩) (hG.r hS) hP [3, 7] rfl 0 rfl rfl rfl hl.1 rfl (Nat.le_of_ble_eq_true rfl) dX5_share_36 ⟨Nat.zero_le _, Nat.zero_le _⟩ ?_
      refine lv_aload_n hx hb dX5_share_39 rfl (lv_at hl 0 rfl) ?_
      refine va_get (D := D) (ci := 5) (v := .ref hBe) (C := RX5) (T := TX5) (N := 6) hx hb hts ku_X5_share_X5 hown hK hP 0 rfl rfl 5 (by decide) (hts _ kw_X5_share_1) (fun _ h9 => h9) rfl dX5_share_40 ?_
      refine va_getN (D := D) (ci := 0) (v := .long r5.2.1) (C := RX0) (T := TX0) (N := 7) (host := "MirrorShares") hx hb hts ku_X5_share_X0 hown hK hP 3 rfl rfl 6 (by decide) (nwf_6 hG.1) (fun _ h9 => h9) rfl dX5_share_43 ?_
      refine lv_iload_n hx hb dX5_share_46 rfl (lv_at hl 3 rfl) ?_
      obtain ⟨r7, er7, hf⟩ := fp_b hf
      refine RoI.callS (c_X5_lowest (l := l) (D := D) (cI := cI) (cJ := cJ) (cZ := cZ) (cQ := cQ) (qs := qs) er7) F (va_cwS 3 hts gX5_share_X5_lowest rfl rfl rfl yd_X5_lowest ⟨Nat.le_of_ble_eq_true rfl, Nat.le_of_ble_eq_true rfl⟩) (hG.r hS) hP [] rfl rfl hl.1 rfl (Nat.le_of_ble_eq_true rfl) dX5_share_47 ⟨Nat.zero_le _, Nat.zero_le _⟩ ?_
      cases hf
      exact hret _ _ _ _ dX5_share_50 (vp_nar_int _) hP hD hS
    · have hf := fp_t hf c4
      refine lv_iconst (v := (-1 : Int32)) hx hb dX5_share_17 (by decide) ?_
      cases hf
      exact hret _ _ _ _ dX5_share_18 (vp_nar_int _) hP hD hS
set_option maxRecDepth 100000 in
theorem c_X5_share {l : Launch} {D : va_G} {cI cJ cZ cQ : ClassId} {qs : Nat × Nat × Nat} {hMs hTo hRmR hRmT hPa hWa hBe hKdR hBp hBn hBr hBo hBs : Nat} {hBg : Nat → Nat} {coR : Int32} {roR : Int32} {kdR : Nat → Int32} {bq : Int32} {bw : Int64} {bp : Nat → Int32} {bn : Nat → Int32} {br : Nat → Int32} {bs : Nat → Int64} {bM : Nat → Nat → Int64} {x1 : Int32} {x2 : Int32} {x3 : Int32} {out : Int32 × Int32 × Int64 × (Nat → Int32) × (Nat → Int32) × (Nat → Int32) × (Nat → Int64) × (Nat → Nat → Int64)} (hf : f_X5_share coR roR kdR bq bw bp bn br bs bM x1 x2 x3 = some out) : RwI l yX5_share wsX5_share { frames := 6, cells := 0, slots := 0, locals := 139 } D (ty4 cI cJ cZ cQ) qs [.ref hMs, .int x1, .int x2, .int x3] ([(hMs, .inr (5, [.ref hTo, .ref hRmR, .ref hRmT, .ref hPa, .ref hWa, .ref hBe])), (hRmR, .inr (2, [.ref hKdR, .int coR, .int roR])), (hKdR, .inl (cI, 20, .inl kdR)), (hBe, .inr (0, [.ref hBp, .ref hBn, .ref hBr, .ref hBo, .ref hBs, .int bq, .long bw])), (hBp, .inl (cI, 10, .inl bp)), (hBn, .inl (cI, 60, .inl bn)), (hBr, .inl (cI, 20, .inl br)), (hBs, .inl (cJ, 60, .inr (.inl bs))), (hBo, .inl (cQ, 10, .inr (.inr (.inr (.inr (gr_o hBg))))))] ++ gr_c cJ hBg bM) ([(hMs, .inr (5, [.ref hTo, .ref hRmR, .ref hRmT, .ref hPa, .ref hWa, .ref hBe])), (hRmR, .inr (2, [.ref hKdR, .int coR, .int roR])), (hKdR, .inl (cI, 20, .inl kdR)), (hBe, .inr (0, [.ref hBp, .ref hBn, .ref hBr, .ref hBo, .ref hBs, .int out.2.1, .long out.2.2.1])), (hBp, .inl (cI, 10, .inl out.2.2.2.1)), (hBn, .inl (cI, 60, .inl out.2.2.2.2.1)), (hBr, .inl (cI, 20, .inl out.2.2.2.2.2.1)), (hBs, .inl (cJ, 60, .inr (.inl out.2.2.2.2.2.2.1))), (hBo, .inl (cQ, 10, .inr (.inr (.inr (.inr (gr_o hBg))))))] ++ gr_c cJ hBg out.2.2.2.2.2.2.2) out.1 :=
  RwI.of (own := RX5) (by decide +kernel) rfl rfl (Nat.le_of_ble_eq_true rfl) (fun F hG hA hP hD hS hret ls hl => b_X5_share F hG hA hP hD hS hf hret hl)
-- method X5_lost
theorem yd_X5_lost : yX5_lost.cls = RX5 ∧ yX5_lost.cls ≠ "java/lang/invoke/MethodHandle" ∧ yX5_lost.cls ≠ "java/lang/invoke/VarHandle" ∧ (parseMethodDescriptor yX5_lost.desc).map (fun d => d.parameters.length) = some 2 := by decide +kernel
theorem ku_X5_lost_X5 : ∀ w ∈ u_ws RX5 TX5 6, w ∈ wsX5_lost := by decide +kernel
theorem kw_X5_lost_1 : Cond.fieldLink RX5 19 "MirrorShares" "room" "LMirrorShares$Room;" ∈ wsX5_lost := List.mem_of_getElem? (i := 1) rfl
theorem kw_X5_lost_2 : Cond.fieldLink RX5 43 "MirrorShares" "beam" "LMirrorShares$Beam;" ∈ wsX5_lost := List.mem_of_getElem? (i := 2) rfl
theorem ku_X5_lost_X0 : ∀ w ∈ u_ws RX0 TX0 7, w ∈ wsX5_lost := by decide +kernel
def f_X5_lost (coR : Int32) (roR : Int32) (kdR : Nat → Int32) (bq : Int32) (bw : Int64) (bp : Nat → Int32) (bn : Nat → Int32) (br : Nat → Int32) (bs : Nat → Int64) (bM : Nat → Nat → Int64) (x1 : Int32) (x2 : Int32) : Option (Int32 × Int32 × Int64 × (Nat → Int32) × (Nat → Int32) × (Nat → Int32) × (Nat → Int64) × (Nat → Nat → Int64)) :=
  Option.bind (f_X2_hasPort coR roR x1) (fun r8 => (if r8 = 0 then some ((-1 : Int32), bq, bw, bp, bn, br, bs, bM) else Option.bind (f_X5_isPart x2 (4 : Int32)) (fun r10 => (if r10 = 0 then some ((-1 : Int32), bq, bw, bp, bn, br, bs, bM) else Option.bind (f_X0_shine coR roR kdR bq bw bp bn br bs bM x1) (fun r12 => Option.bind (if (2 : Int32) ≤ x2 then Option.bind (f_X0_caught r12.2.1 r12.2.2.2.2.2.1) (fun r17 => some r17) else Option.bind (f_X0_swallowed r12.2.2.2.2.2.1) (fun r18 => some r18)) (fun j13 => Option.bind (f_X5_lowest j13 r12.2.1 (x2 - ((x2 / (2 : Int32)) * (2 : Int32)))) (fun r15 => some (r15, r12.1, r12.2.1, r12.2.2.1, r12.2.2.2.1, r12.2.2.2.2.1, r12.2.2.2.2.2.1, r12.2.2.2.2.2.2))))))))
set_option maxHeartbeats 4000000 in
set_option maxRecDepth 100000 in
theorem b_X5_lost {p : Program} {l : Launch} {e : Env} {s : State} {m : MethodId} {args : Array Value} {below : List Frame} {meth : Method} {c : Code} {Q : State → Prop} {A : Nat → Prop} {H : Heap} {locs : List Loc} {D : va_G} {cI cJ cZ cQ : ClassId} {qs : Nat × Nat × Nat} {hMs hTo hRmR hRmT hPa hWa hBe hKdR hBp hBn hBr hBo hBs : Nat} {hBg : Nat → Nat} {coR : Int32} {roR : Int32} {kdR : Nat → Int32} {bq : Int32} {bw : Int64} {bp : Nat → Int32} {bn : Nat → Int32} {br : Nat → Int32} {bs : Nat → Int64} {bM : Nat → Nat → Int64} {x1 : Int32} {x2 : Int32} {out : Int32 × Int32 × Int64 × (Nat → Int32) × (Nat → Int32) × (Nat → Int32) × (Nat → Int64) × (Nat → Nat → Int64)} (F : CallFix p m c cX5_lost 3 s args wsX5_lost RX5) (hG : kW D (ty4 cI cJ cZ cQ) qs A s s.heap) (hA : ∀ q : Nat, s.heap.size ≤ q → A q) (hP : va_P D vwCl ([(hMs, .inr (5, [.ref hTo, .ref hRmR, .ref hRmT, .ref hPa, .ref hWa, .ref hBe])), (hRmR, .inr (2, [.ref hKdR, .int coR, .int roR])), (hKdR, .inl (cI, 20, .inl kdR)), (hBe, .inr (0, [.ref hBp, .ref hBn, .ref hBr, .ref hBo, .ref hBs, .int bq, .long bw])), (hBp, .inl (cI, 10, .inl bp)), (hBn, .inl (cI, 60, .inl bn)), (hBr, .inl (cI, 20, .inl br)), (hBs, .inl (cJ, 60, .inr (.inl bs))), (hBo, .inl (cQ, 10, .inr (.inr (.inr (.inr (gr_o hBg))))))] ++ gr_c cJ hBg bM) H) (hD : va_D A ([(hMs, .inr (5, [.ref hTo, .ref hRmR, .ref hRmT, .ref hPa, .ref hWa, .ref hBe])), (hRmR, .inr (2, [.ref hKdR, .int coR, .int roR])), (hKdR, .inl (cI, 20, .inl kdR)), (hBe, .inr (0, [.ref hBp, .ref hBn, .ref hBr, .ref hBo, .ref hBs, .int bq, .long bw])), (hBp, .inl (cI, 10, .inl bp)), (hBn, .inl (cI, 60, .inl bn)), (hBr, .inl (cI, 20, .inl br)), (hBs, .inl (cJ, 60, .inr (.inl bs))), (hBo, .inl (cQ, 10, .inr (.inr (.inr (.inr (gr_o hBg))))))] ++ gr_c cJ hBg bM)) (hS : va_S A s.heap H locs) (hf : f_X5_lost coR roR kdR bq bw bp bn br bs bM x1 x2 = some out) (hret : ∀ (pc : Nat) (H : Heap) (locs : List Loc) (ls : Array Slot), decode cX5_lost pc = .ok (.ireturn, 1) → narrow .int (.int out.1) = .int out.1 → va_P D vwCl ([(hMs, .inr (5, [.ref hTo, .ref hRmR, .ref hRmT, .ref hPa, .ref hWa, .ref hBe])), (hRmR, .inr (2, [.ref hKdR, .int coR, .int roR])), (hKdR, .inl (cI, 20, .inl kdR)), (hBe, .inr (0, [.ref hBp, .ref hBn, .ref hBr, .ref hBo, .ref hBs, .int out.2.1, .long out.2.2.1])), (hBp, .inl (cI, 10, .inl out.2.2.2.1)), (hBn, .inl (cI, 60, .inl out.2.2.2.2.1)), (hBr, .inl (cI, 20, .inl out.2.2.2.2.2.1)), (hBs, .inl (cJ, 60, .inr (.inl out.2.2.2.2.2.2.1))), (hBo, .inl (cQ, 10, .inr (.inr (.inr (.inr (gr_o hBg))))))] ++ gr_c cJ hBg out.2.2.2.2.2.2.2) H → va_D A ([(hMs, .inr (5, [.ref hTo, .ref hRmR, .ref hRmT, .ref hPa, .ref hWa, .ref hBe])), (hRmR, .inr (2, [.ref hKdR, .int coR, .int roR])), (hKdR, .inl (cI, 20, .inl kdR)), (hBe, .inr (0, [.ref hBp, .ref hBn, .ref hBr, .ref hBo, .ref hBs, .int out.2.1, .long out.2.2.1])), (hBp, .inl (cI, 10, .inl out.2.2.2.1)), (hBn, .inl (cI, 60, .inl out.2.2.2.2.1)), (hBr, .inl (cI, 20, .inl out.2.2.2.2.2.1)), (hBs, .inl (cJ, 60, .inr (.inl out.2.2.2.2.2.2.1))), (hBo, .inl (cQ, 10, .inr (.inr (.inr (.inr (gr_o hBg))))))] ++ gr_c cJ hBg out.2.2.2.2.2.2.2) → va_S A s.heap H locs → W p l e { frames := 6, cells := 0, slots := 0, locals := 139 } s m args below meth c H locs 0 0 Q (F0 m pc ls [.int out.1])) {ls : Array Slot} (hl : lv_has ls 3 [(0, .ref hMs), (1, .int x1), (2, .int x2)]) : W p l e { frames := 6, cells := 0, slots := 0, locals := 139 } s m args below meth c H locs 0 0 Q (F0 m 0 ls []) := by
  have hx := F.1
  have hb := F.2.1
  have hown := F.2.2.2.1
  have hts := F.2.2.2.2
  have hK := hG.1.1
  rw [f_X5_lost] at hf
  refine lv_aload_n hx hb dX5_lost_0 rfl (lv_at hl 0 rfl) ?_
  refine va_get (D := D) (ci := 5) (v := .ref hRmR) (C := RX5) (T := TX5) (N := 6) hx hb hts ku_X5_lost_X5 hown hK hP 0 rfl rfl 1 (by decide) (hts _ kw_X5_lost_1) (fun _ h9 => h9) rfl dX5_lost_1 ?_
  refine lv_iload_n hx hb dX5_lost_4 rfl (lv_at hl 1 rfl) ?_
  obtain ⟨r8, er8, hf⟩ := fp_b hf
  refine RoI.callV (c_X2_hasPort (l := l) (D := D) (cI := cI) (cJ := cJ) (cZ := cZ) (cQ := cQ) (qs := qs) er8) F (cwV 1 hts gX5_lost_X2_hasPort rfl rfl rfl yd_X2_hasPort ⟨Nat.le_of_ble_eq_true rfl, Nat.le_of_ble_eq_true rfl⟩) (hG.r hS) hP [1] rfl 2 rfl rfl rfl hl.1 rfl (Nat.le_of_ble_eq_true rfl) dX5_lost_5 ⟨Nat.zero_le _, Nat.zero_le _⟩ ?_
  refine lv_if_eq (tgt := 19) hx hb dX5_lost_8 (by decide) (fun c9 => ?_) (fun c9 => ?_)
  · have hf := fp_t hf c9
    refine lv_iconst (v := (-1 : Int32)) hx hb dX5_lost_19 (by decide) ?_
    cases hf
    exact hret _ _ _ _ dX5_lost_20 (vp_nar_int _) hP hD hS
  · have hf := fp_f hf c9
    refine lv_iload_n hx hb dX5_lost_11 rfl (lv_at hl 2 rfl) ?_
    refine lv_iconst (v := (4 : Int32)) hx hb dX5_lost_12 (by decide) ?_
    obtain ⟨r10, er10, hf⟩ := fp_b hf
    refine RoI.callS (c_X5_isPart (l := l) (D := D) (cI := cI) (cJ := cJ) (cZ := cZ) (cQ := cQ) (qs := qs) er10) F (va_cwS 2 hts gX5_lost_X5_isPart rfl rfl rfl yd_X5_isPart ⟨Nat.le_of_ble_eq_true rfl, Nat.le_of_ble_eq_true rfl⟩) (hG.r hS) hP [] rfl rfl hl.1 rfl (Nat.le_of_ble_eq_true rfl) dX5_lost_13 ⟨Nat.zero_le _, Nat.zero_le _⟩ ?_
    refine lv_if_ne (tgt := 21) hx hb dX5_lost_16 (by decide) (fun c11 => ?_) (fun c11 => ?_)
    · have hf := fp_f hf c11
      refine lv_aload_n hx hb dX5_lost_21 rfl (lv_at hl 0 rfl) ?_
      refine va_get (D := D) (ci := 5) (v := .ref hBe) (C := RX5) (T := TX5) (N := 6) hx hb hts ku_X5_lost_X5 hown hK hP 0 rfl rfl 5 (by decide) (hts _ kw_X5_lost_2) (fun _ h9 => h9) rfl dX5_lost_22 ?_
      refine lv_aload_n hx hb dX5_lost_25 rfl (lv_at hl 0 rfl) ?_
      refine va_get (D := D) (ci := 5) (v := .ref hRmR) (C := RX5) (T := TX5) (N := 6) hx hb hts ku_X5_lost_X5 hown hK hP 0 rfl rfl 1 (by decide) (hts _ kw_X5_lost_1) (fun _ h9 => h9) rfl dX5_lost_26 ?_
      refine lv_iload_n hx hb dX5_lost_29 rfl (lv_at hl 1 rfl) ?_
      obtain ⟨r12, er12, hf⟩ := fp_b hf
      refine kc_rwV (w2 := ([(hMs, .inr (5, [.ref hTo, .ref hRmR, .ref hRmT, .ref hPa, .ref hWa, .ref hBe])), (hRmR, .inr (2, [.ref hKdR, .int coR, .int roR])), (hKdR, .inl (cI, 20, .inl kdR)), (hBe, .inr (0, [.ref hBp, .ref hBn, .ref hBr, .ref hBo, .ref hBs, .int r12.1, .long r12.2.1])), (hBp, .inl (cI, 10, .inl r12.2.2.1)), (hBn, .inl (cI, 60, .inl r12.2.2.2.1)), (hBr, .inl (cI, 20, .inl r12.2.2.2.2.1)), (hBs, .inl (cJ, 60, .inr (.inl r12.2.2.2.2.2.1))), (hBo, .inl (cQ, 10, .inr (.inr (.inr (.inr (gr_o hBg))))))] ++ gr_c cJ hBg r12.2.2.2.2.2.2)) (RwV.runV (c_X0_shine (l := l) (D := D) (cI := cI) (cJ := cJ) (cZ := cZ) (cQ := cQ) (qs := qs) er12) F (cwV 2 hts gX5_lost_X0_shine rfl rfl rfl yd_X0_shine ⟨Nat.le_of_ble_eq_true rfl, Nat.le_of_ble_eq_true rfl⟩) hG hP hD hS hA [3, 1, 2, 4, 5, 6, 7, 8, 9, 10, 11, 12, 13, 14, 15, 16, 17, 18] (by decide) rfl 0 rfl rfl rfl hl.1 rfl (Nat.le_of_ble_eq_true rfl) dX5_lost_30 ⟨Nat.zero_le _, Nat.zero_le _⟩) hP hD hS hA [3, 1, 2, 4, 5, 6, 7, 8, 9, 10, 11, 12, 13, 14, 15, 16, 17, 18] [0] [0, 2, 3, 1, 4, 5, 6, 7, 8, 9, 10, 11, 12, 13, 14, 15, 16, 17, 18] rfl (wr := [(hMs, .inr (5, [.ref hTo, .ref hRmR, .ref hRmT, .ref hPa, .ref hWa, .ref hBe]))]) rfl (by decide) (by decide) rfl (by decide) (fun H locs hP hD hS => ?_)
      refine lv_iload_n hx hb dX5_lost_33 rfl (lv_at hl 2 rfl) ?_
      refine lv_iconst (v := (2 : Int32)) hx hb dX5_lost_34 (by decide) ?_
      obtain ⟨j13, ej13, hf⟩ := fp_b hf
      have hj14 : ∀ (H : Heap) (locs : List Loc) (ls : Array Slot), va_P D vwCl ([(hMs, .inr (5, [.ref hTo, .ref hRmR, .ref hRmT, .ref hPa, .ref hWa, .ref hBe])), (hRmR, .inr (2, [.ref hKdR, .int coR, .int roR])), (hKdR, .inl (cI, 20, .inl kdR)), (hBe, .inr (0, [.ref hBp, .ref hBn, .ref hBr, .ref hBo, .ref hBs, .int r12.1, .long r12.2.1])), (hBp, .inl (cI, 10, .inl r12.2.2.1)), (hBn, .inl (cI, 60, .inl r12.2.2.2.1)), (hBr, .inl (cI, 20, .inl r12.2.2.2.2.1)), (hBs, .inl (cJ, 60, .inr (.inl r12.2.2.2.2.2.1))), (hBo, .inl (cQ, 10, .inr (.inr (.inr (.inr (gr_o hBg))))))] ++ gr_c cJ hBg r12.2.2.2.2.2.2) H → va_D A ([(hMs, .inr (5, [.ref hTo, .ref hRmR, .ref hRmT, .ref hPa, .ref hWa, .ref hBe])), (hRmR, .inr (2, [.ref hKdR, .int coR, .int roR])), (hKdR, .inl (cI, 20, .inl kdR)), (hBe, .inr (0, [.ref hBp, .ref hBn, .ref hBr, .ref hBo, .ref hBs, .int r12.1, .long r12.2.1])), (hBp, .inl (cI, 10, .inl r12.2.2.1)), (hBn, .inl (cI, 60, .inl r12.2.2.2.1)), (hBr, .inl (cI, 20, .inl r12.2.2.2.2.1)), (hBs, .inl (cJ, 60, .inr (.inl r12.2.2.2.2.2.1))), (hBo, .inl (cQ, 10, .inr (.inr (.inr (.inr (gr_o hBg))))))] ++ gr_c cJ hBg r12.2.2.2.2.2.2) → va_S A s.heap H locs → lv_has ls 3 [(0, .ref hMs), (2, .int x2)] → W p l e { frames := 6, cells := 0, slots := 0, locals := 139 } s m args below meth c H locs 0 0 Q (F0 m 55 ls [.long j13]) := by
        intro H locs ls hP hD hS hl
        refine lv_aload_n hx hb dX5_lost_55 rfl (lv_at hl 0 rfl) ?_
        refine va_get (D := D) (ci := 5) (v := .ref hBe) (C := RX5) (T := TX5) (N := 6) hx hb hts ku_X5_lost_X5 hown hK hP 0 rfl rfl 5 (by decide) (hts _ kw_X5_lost_2) (fun _ h9 => h9) rfl dX5_lost_56 ?_
        refine va_getN (D := D) (ci := 0) (v := .long r12.2.1) (C := RX0) (T := TX0) (N := 7) (host := "MirrorShares") hx hb hts ku_X5_lost_X0 hown hK hP 3 rfl rfl 6 (by decide) (nwf_6 hG.1) (fun _ h9 => h9) rfl dX5_lost_59 ?_
        refine lv_iload_n hx hb dX5_lost_62 rfl (lv_at hl 1 rfl) ?_
        refine lv_iconst (v := (2 : Int32)) hx hb dX5_lost_63 (by decide) ?_
        refine lv_irem hx hb dX5_lost_64 (by decide) ?_
        obtain ⟨r15, er15, hf⟩ := fp_b hf
        refine RoI.callS (c_X5_lowest (l := l) (D := D) (cI := cI) (cJ := cJ) (cZ := cZ) (cQ := cQ) (qs := qs) er15) F (va_cwS 3 hts gX5_lost_X5_lowest rfl rfl rfl yd_X5_lowest ⟨Nat.le_of_ble_eq_true rfl, Nat.le_of_ble_eq_true rfl⟩) (hG.r hS) hP [] rfl rfl hl.1 rfl (Nat.le_of_ble_eq_true rfl) dX5_lost_65 ⟨Nat.zero_le _, Nat.zero_le _⟩ ?_
        cases hf
        exact hret _ _ _ _ dX5_lost_68 (vp_nar_int _) hP hD hS
      replace hf := ej13
      refine lv_icmp_ge (tgt := 48) hx hb dX5_lost_35 (by decide) (fun c16 => ?_) (fun c16 => ?_)
      · have hf := fp_t hf c16
        refine lv_aload_n hx hb dX5_lost_48 rfl (lv_at hl 0 rfl) ?_
        refine va_get (D := D) (ci := 5) (v := .ref hBe) (C := RX5) (T := TX5) (N := 6) hx hb hts ku_X5_lost_X5 hown hK hP 0 rfl rfl 5 (by decide) (hts _ kw_X5_lost_2) (fun _ h9 => h9) rfl dX5_lost_49 ?_
        obtain ⟨r17, er17, hf⟩ := fp_b hf
        refine RoL.callV (c_X0_caught (l := l) (D := D) (cI := cI) (cJ := cJ) (cZ := cZ) (cQ := cQ) (qs := qs) er17) F (cwV 0 hts gX5_lost_X0_caught rfl rfl rfl yd_X0_caught ⟨Nat.le_of_ble_eq_true rfl, Nat.le_of_ble_eq_true rfl⟩) (hG.r hS) hP [3, 7] rfl 0 rfl rfl rfl hl.1 rfl (Nat.le_of_ble_eq_true rfl) dX5_lost_52 ⟨Nat.zero_le _, Nat.zero_le _⟩ ?_
        cases hf
        exact hj14 _ _ _ hP hD hS (lv_sub hl [0, 2] rfl)
      · have hf := fp_f hf c16
        refine lv_aload_n hx hb dX5_lost_38 rfl (lv_at hl 0 rfl) ?_
        refine va_get (D := D) (ci := 5) (v := .ref hBe) (C := RX5) (T := TX5) (N := 6) hx hb hts ku_X5_lost_X5 hown hK hP 0 rfl rfl 5 (by decide) (hts _ kw_X5_lost_2) (fun _ h9 => h9) rfl dX5_lost_39 ?_
        obtain ⟨r18, er18, hf⟩ := fp_b hf
        refine RoL.callV (c_X0_swallowed (l := l) (D := D) (cI := cI) (cJ := cJ) (cZ := cZ) (cQ := cQ) (qs := qs) er18) F (cwV 0 hts gX5_lost_X0_swallowed rfl rfl rfl yd_X0_swallowed ⟨Nat.le_of_ble_eq_true rfl, Nat.le_of_ble_eq_true rfl⟩) (hG.r hS) hP [3, 7] rfl 0 rfl rfl rfl hl.1 rfl (Nat.le_of_ble_eq_true rfl) dX5_lost_42 ⟨Nat.zero_le _, Nat.zero_le _⟩ ?_
        refine lv_goto (tgt := 55) hx hb dX5_lost_45 (by decide) ?_
        cases hf
        exact hj14 _ _ _ hP hD hS (lv_sub hl [0, 2] rfl)
    · have hf := fp_t hf c11
      refine lv_iconst (v := (-1 : Int32)) hx hb dX5_lost_19 (by decide) ?_
      cases hf
      exact hret _ _ _ _ dX5_lost_20 (vp_nar_int _) hP hD hS
set_option maxRecDepth 100000 in
theorem c_X5_lost {l : Launch} {D : va_G} {cI cJ cZ cQ : ClassId} {qs : Nat × Nat × Nat} {hMs hTo hRmR hRmT hPa hWa hBe hKdR hBp hBn hBr hBo hBs : Nat} {hBg : Nat → Nat} {coR : Int32} {roR : Int32} {kdR : Nat → Int32} {bq : Int32} {bw : Int64} {bp : Nat → Int32} {bn : Nat → Int32} {br : Nat → Int32} {bs : Nat → Int64} {bM : Nat → Nat → Int64} {x1 : Int32} {x2 : Int32} {out : Int32 × Int32 × Int64 × (Nat → Int32) × (Nat → Int32) × (Nat → Int32) × (Nat → Int64) × (Nat → Nat → Int64)} (hf : f_X5_lost coR roR kdR bq bw bp bn br bs bM x1 x2 = some out) : RwI l yX5_lost wsX5_lost { frames := 6, cells := 0, slots := 0, locals := 139 } D (ty4 cI cJ cZ cQ) qs [.ref hMs, .int x1, .int x2] ([(hMs, .inr (5, [.ref hTo, .ref hRmR, .ref hRmT, .ref hPa, .ref hWa, .ref hBe])), (hRmR, .inr (2, [.ref hKdR, .int coR, .int roR])), (hKdR, .inl (cI, 20, .inl kdR)), (hBe, .inr (0, [.ref hBp, .ref hBn, .ref hBr, .ref hBo, .ref hBs, .int bq, .long bw])), (hBp, .inl (cI, 10, .inl bp)), (hBn, .inl (cI, 60, .inl bn)), (hBr, .inl (cI, 20, .inl br)), (hBs, .inl (cJ, 60, .inr (.inl bs))), (hBo, .inl (cQ, 10, .inr (.inr (.inr (.inr (gr_o hBg))))))] ++ gr_c cJ hBg bM) ([(hMs, .inr (5, [.ref hTo, .ref hRmR, .ref hRmT, .ref hPa, .ref hWa, .ref hBe])), (hRmR, .inr (2, [.ref hKdR, .int coR, .int roR])), (hKdR, .inl (cI, 20, .inl kdR)), (hBe, .inr (0, [.ref hBp, .ref hBn, .ref hBr, .ref hBo, .ref hBs, .int out.2.1, .long out.2.2.1])), (hBp, .inl (cI, 10, .inl out.2.2.2.1)), (hBn, .inl (cI, 60, .inl out.2.2.2.2.1)), (hBr, .inl (cI, 20, .inl out.2.2.2.2.2.1)), (hBs, .inl (cJ, 60, .inr (.inl out.2.2.2.2.2.2.1))), (hBo, .inl (cQ, 10, .inr (.inr (.inr (.inr (gr_o hBg))))))] ++ gr_c cJ hBg out.2.2.2.2.2.2.2) out.1 :=
  RwI.of (own := RX5) (by decide +kernel) rfl rfl (Nat.le_of_ble_eq_true rfl) (fun F hG hA hP hD hS hret ls hl => b_X5_lost F hG hA hP hD hS hf hret hl)
-- method X5_bits
theorem yd_X5_bits : yX5_bits.cls = RX5 ∧ yX5_bits.cls ≠ "java/lang/invoke/MethodHandle" ∧ yX5_bits.cls ≠ "java/lang/invoke/VarHandle" ∧ (parseMethodDescriptor yX5_bits.desc).map (fun d => d.parameters.length) = some 2 := by decide +kernel
theorem ku_X5_bits_X5 : ∀ w ∈ u_ws RX5 TX5 6, w ∈ wsX5_bits := by decide +kernel
theorem kw_X5_bits_1 : Cond.fieldLink RX5 43 "MirrorShares" "beam" "LMirrorShares$Beam;" ∈ wsX5_bits := List.mem_of_getElem? (i := 1) rfl
theorem kw_X5_bits_2 : Cond.fieldLink RX5 19 "MirrorShares" "room" "LMirrorShares$Room;" ∈ wsX5_bits := List.mem_of_getElem? (i := 2) rfl
theorem ku_X5_bits_X0 : ∀ w ∈ u_ws RX0 TX0 7, w ∈ wsX5_bits := by decide +kernel
def f_X5_bits (coR : Int32) (roR : Int32) (kdR : Nat → Int32) (bq : Int32) (bw : Int64) (bp : Nat → Int32) (bn : Nat → Int32) (br : Nat → Int32) (bs : Nat → Int64) (bM : Nat → Nat → Int64) (x1 : Int32) (x2 : Int32) : Option (Int32 × Int32 × Int64 × (Nat → Int32) × (Nat → Int32) × (Nat → Int32) × (Nat → Int64) × (Nat → Nat → Int64)) :=
  Option.bind (f_X5_hasPorts coR roR x1 x2) (fun r19 => (if r19 = 0 then some ((-1 : Int32), bq, bw, bp, bn, br, bs, bM) else Option.bind (f_X0_shine coR roR kdR bq bw bp bn br bs bM x1) (fun r21 => Option.bind (f_X0_outAt r21.2.2.2.2.2.1 x2) (fun r22 => Option.bind (f_X5_lowest r22 r21.2.1 (0 : Int32)) (fun r23 => Option.bind (f_X0_outAt r21.2.2.2.2.2.1 x2) (fun r24 => Option.bind (f_X5_lowest r24 r21.2.1 (1 : Int32)) (fun r25 => Option.bind (f_X5_floatBits r23 r25) (fun r26 => some (r26, r21.1, r21.2.1, r21.2.2.1, r21.2.2.2.1, r21.2.2.2.2.1, r21.2.2.2.2.2.1, r21.2.2.2.2.2.2)))))))))
set_option maxHeartbeats 4000000 in
set_option maxRecDepth 100000 in
theorem b_X5_bits {p : Program} {l : Launch} {e : Env} {s : State} {m : MethodId} {args : Array Value} {below : List Frame} {meth : Method} {c : Code} {Q : State → Prop} {A : Nat → Prop} {H : Heap} {locs : List Loc} {D : va_G} {cI cJ cZ cQ : ClassId} {qs : Nat × Nat × Nat} {hMs hTo hRmR hRmT hPa hWa hBe hKdR hBp hBn hBr hBo hBs : Nat} {hBg : Nat → Nat} {coR : Int32} {roR : Int32} {kdR : Nat → Int32} {bq : Int32} {bw : Int64} {bp : Nat → Int32} {bn : Nat → Int32} {br : Nat → Int32} {bs : Nat → Int64} {bM : Nat → Nat → Int64} {x1 : Int32} {x2 : Int32} {out : Int32 × Int32 × Int64 × (Nat → Int32) × (Nat → Int32) × (Nat → Int32) × (Nat → Int64) × (Nat → Nat → Int64)} (F : CallFix p m c cX5_bits 5 s args wsX5_bits RX5) (hG : kW D (ty4 cI cJ cZ cQ) qs A s s.heap) (hA : ∀ q : Nat, s.heap.size ≤ q → A q) (hP : va_P D vwCl ([(hMs, .inr (5, [.ref hTo, .ref hRmR, .ref hRmT, .ref hPa, .ref hWa, .ref hBe])), (hRmR, .inr (2, [.ref hKdR, .int coR, .int roR])), (hKdR, .inl (cI, 20, .inl kdR)), (hBe, .inr (0, [.ref hBp, .ref hBn, .ref hBr, .ref hBo, .ref hBs, .int bq, .long bw])), (hBp, .inl (cI, 10, .inl bp)), (hBn, .inl (cI, 60, .inl bn)), (hBr, .inl (cI, 20, .inl br)), (hBs, .inl (cJ, 60, .inr (.inl bs))), (hBo, .inl (cQ, 10, .inr (.inr (.inr (.inr (gr_o hBg))))))] ++ gr_c cJ hBg bM) H) (hD : va_D A ([(hMs, .inr (5, [.ref hTo, .ref hRmR, .ref hRmT, .ref hPa, .ref hWa, .ref hBe])), (hRmR, .inr (2, [.ref hKdR, .int coR, .int roR])), (hKdR, .inl (cI, 20, .inl kdR)), (hBe, .inr (0, [.ref hBp, .ref hBn, .ref hBr, .ref hBo, .ref hBs, .int bq, .long bw])), (hBp, .inl (cI, 10, .inl bp)), (hBn, .inl (cI, 60, .inl bn)), (hBr, .inl (cI, 20, .inl br)), (hBs, .inl (cJ, 60, .inr (.inl bs))), (hBo, .inl (cQ, 10, .inr (.inr (.inr (.inr (gr_o hBg))))))] ++ gr_c cJ hBg bM)) (hS : va_S A s.heap H locs) (hf : f_X5_bits coR roR kdR bq bw bp bn br bs bM x1 x2 = some out) (hret : ∀ (pc : Nat) (H : Heap) (locs : List Loc) (ls : Array Slot), decode cX5_bits pc = .ok (.ireturn, 1) → narrow .int (.int out.1) = .int out.1 → va_P D vwCl ([(hMs, .inr (5, [.ref hTo, .ref hRmR, .ref hRmT, .ref hPa, .ref hWa, .ref hBe])), (hRmR, .inr (2, [.ref hKdR, .int coR, .int roR])), (hKdR, .inl (cI, 20, .inl kdR)), (hBe, .inr (0, [.ref hBp, .ref hBn, .ref hBr, .ref hBo, .ref hBs, .int out.2.1, .long out.2.2.1])), (hBp, .inl (cI, 10, .inl out.2.2.2.1)), (hBn, .inl (cI, 60, .inl out.2.2.2.2.1)), (hBr, .inl (cI, 20, .inl out.2.2.2.2.2.1)), (hBs, .inl (cJ, 60, .inr (.inl out.2.2.2.2.2.2.1))), (hBo, .inl (cQ, 10, .inr (.inr (.inr (.inr (gr_o hBg))))))] ++ gr_c cJ hBg out.2.2.2.2.2.2.2) H → va_D A ([(hMs, .inr (5, [.ref hTo, .ref hRmR, .ref hRmT, .ref hPa, .ref hWa, .ref hBe])), (hRmR, .inr (2, [.ref hKdR, .int coR, .int roR])), (hKdR, .inl (cI, 20, .inl kdR)), (hBe, .inr (0, [.ref hBp, .ref hBn, .ref hBr, .ref hBo, .ref hBs, .int out.2.1, .long out.2.2.1])), (hBp, .inl (cI, 10, .inl out.2.2.2.1)), (hBn, .inl (cI, 60, .inl out.2.2.2.2.1)), (hBr, .inl (cI, 20, .inl out.2.2.2.2.2.1)), (hBs, .inl (cJ, 60, .inr (.inl out.2.2.2.2.2.2.1))), (hBo, .inl (cQ, 10, .inr (.inr (.inr (.inr (gr_o hBg))))))] ++ gr_c cJ hBg out.2.2.2.2.2.2.2) → va_S A s.heap H locs → W p l e { frames := 6, cells := 0, slots := 0, locals := 139 } s m args below meth c H locs 0 0 Q (F0 m pc ls [.int out.1])) {ls : Array Slot} (hl : lv_has ls 5 [(0, .ref hMs), (1, .int x1), (2, .int x2)]) : W p l e { frames := 6, cells := 0, slots := 0, locals := 139 } s m args below meth c H locs 0 0 Q (F0 m 0 ls []) := by
  have hx := F.1
  have hb := F.2.1
  have hown := F.2.2.2.1
  have hts := F.2.2.2.2
  have hK := hG.1.1
  rw [f_X5_bits] at hf
  refine lv_aload_n hx hb dX5_bits_0 rfl (lv_at hl 0 rfl) ?_
  refine lv_iload_n hx hb dX5_bits_1 rfl (lv_at hl 1 rfl) ?_
  refine lv_iload_n hx hb dX5_bits_2 rfl (lv_at hl 2 rfl) ?_
  obtain ⟨r19, er19, hf⟩ := fp_b hf
  refine RoI.callV (c_X5_hasPorts (l := l) (D := D) (cI := cI) (cJ := cJ) (cZ := cZ) (cQ := cQ) (qs := qs) er19) F (cwV 2 hts gX5_bits_X5_hasPorts rfl rfl rfl yd_X5_hasPorts ⟨Nat.le_of_ble_eq_true rfl, Nat.le_of_ble_eq_true rfl⟩) (hG.r hS) hP [0, 1] rfl 5 rfl rfl rfl hl.1 rfl (Nat.le_of_ble_eq_true rfl) dX5_bits_3 ⟨Nat.zero_le _, Nat.zero_le _⟩ ?_
  refine lv_if_ne (tgt := 11) hx hb dX5_bits_6 (by decide) (fun c20 => ?_) (fun c20 => ?_)
  · have hf := fp_f hf c20
    refine lv_aload_n hx hb dX5_bits_11 rfl (lv_at hl 0 rfl) ?_
    refine va_get (D := D) (ci := 5) (v := .ref hBe) (C := RX5) (T := TX5) (N := 6) hx hb hts ku_X5_bits_X5 hown hK hP 0 rfl rfl 5 (by decide) (hts _ kw_X5_bits_1) (fun _ h9 => h9) rfl dX5_bits_12 ?_
    refine lv_aload_n hx hb dX5_bits_15 rfl (lv_at hl 0 rfl) ?_
    refine va_get (D := D) (ci := 5) (v := .ref hRmR) (C := RX5) (T := TX5) (N := 6) hx hb hts ku_X5_bits_X5 hown hK hP 0 rfl rfl 1 (by decide) (hts _ kw_X5_bits_2) (fun _ h9 => h9) rfl dX5_bits_16 ?_
    refine lv_iload_n hx hb dX5_bits_19 rfl (lv_at hl 1 rfl) ?_
    obtain ⟨r21, er21, hf⟩ := fp_b hf
    refine kc_rwV (w2 := ([(hMs, .inr (5, [.ref hTo, .ref hRmR, .ref hRmT, .ref hPa, .ref hWa, .ref hBe])), (hRmR, .inr (2, [.ref hKdR, .int coR, .int roR])), (hKdR, .inl (cI, 20, .inl kdR)), (hBe, .inr (0, [.ref hBp, .ref hBn, .ref hBr, .ref hBo, .ref hBs, .int r21.1, .long r21.2.1])), (hBp, .inl (cI, 10, .inl r21.2.2.1)), (hBn, .inl (cI, 60, .inl r21.2.2.2.1)), (hBr, .inl (cI, 20, .inl r21.2.2.2.2.1)), (hBs, .inl (cJ, 60, .inr (.inl r21.2.2.2.2.2.1))), (hBo, .inl (cQ, 10, .inr (.inr (.inr (.inr (gr_o hBg))))))] ++ gr_c cJ hBg r21.2.2.2.2.2.2)) (RwV.runV (c_X0_shine (l := l) (D := D) (cI := cI) (cJ := cJ) (cZ := cZ) (cQ := cQ) (qs := qs) er21) F (cwV 2 hts gX5_bits_X0_shine rfl rfl rfl yd_X0_shine ⟨Nat.le_of_ble_eq_true rfl, Nat.le_of_ble_eq_true rfl⟩) hG hP hD hS hA [3, 1, 2, 4, 5, 6, 7, 8, 9, 10, 11, 12, 13, 14, 15, 16, 17, 18] (by decide) rfl 0 rfl rfl rfl hl.1 rfl (Nat.le_of_ble_eq_true rfl) dX5_bits_20 ⟨Nat.zero_le _, Nat.zero_le _⟩) hP hD hS hA [3, 1, 2, 4, 5, 6, 7, 8, 9, 10, 11, 12, 13, 14, 15, 16, 17, 18] [0] [0, 2, 3, 1, 4, 5, 6, 7, 8, 9, 10, 11, 12, 13, 14, 15, 16, 17, 18] rfl (wr := [(hMs, .inr (5, [.ref hTo, .ref hRmR, .ref hRmT, .ref hPa, .ref hWa, .ref hBe]))]) rfl (by decide) (by decide) rfl (by decide) (fun H locs hP hD hS => ?_)
    refine lv_aload_n hx hb dX5_bits_23 rfl (lv_at hl 0 rfl) ?_
    refine va_get (D := D) (ci := 5) (v := .ref hBe) (C := RX5) (T := TX5) (N := 6) hx hb hts ku_X5_bits_X5 hown hK hP 0 rfl rfl 5 (by decide) (hts _ kw_X5_bits_1) (fun _ h9 => h9) rfl dX5_bits_24 ?_
    refine lv_iload_n hx hb dX5_bits_27 rfl (lv_at hl 2 rfl) ?_
    obtain ⟨r22, er22, hf⟩ := fp_b hf
    refine RoL.callV (c_X0_outAt (l := l) (D := D) (cI := cI) (cJ := cJ) (cZ := cZ) (cQ := cQ) (qs := qs) er22) F (cwV 1 hts gX5_bits_X0_outAt rfl rfl rfl yd_X0_outAt ⟨Nat.le_of_ble_eq_true rfl, Nat.le_of_ble_eq_true rfl⟩) (hG.r hS) hP [3, 7] rfl 0 rfl rfl rfl hl.1 rfl (Nat.le_of_ble_eq_true rfl) dX5_bits_28 ⟨Nat.zero_le _, Nat.zero_le _⟩ ?_
    refine lv_aload_n hx hb dX5_bits_31 rfl (lv_at hl 0 rfl) ?_
    refine va_get (D := D) (ci := 5) (v := .ref hBe) (C := RX5) (T := TX5) (N := 6) hx hb hts ku_X5_bits_X5 hown hK hP 0 rfl rfl 5 (by decide) (hts _ kw_X5_bits_1) (fun _ h9 => h9) rfl dX5_bits_32 ?_
    refine va_getN (D := D) (ci := 0) (v := .long r21.2.1) (C := RX0) (T := TX0) (N := 7) (host := "MirrorShares") hx hb hts ku_X5_bits_X0 hown hK hP 3 rfl rfl 6 (by decide) (nwf_6 hG.1) (fun _ h9 => h9) rfl dX5_bits_35 ?_
    refine lv_iconst (v := (0 : Int32)) hx hb dX5_bits_38 (by decide) ?_
    obtain ⟨r23, er23, hf⟩ := fp_b hf
    refine RoI.callS (c_X5_lowest (l := l) (D := D) (cI := cI) (cJ := cJ) (cZ := cZ) (cQ := cQ) (qs := qs) er23) F (va_cwS 3 hts gX5_bits_X5_lowest rfl rfl rfl yd_X5_lowest ⟨Nat.le_of_ble_eq_true rfl, Nat.le_of_ble_eq_true rfl⟩) (hG.r hS) hP [] rfl rfl hl.1 rfl (Nat.le_of_ble_eq_true rfl) dX5_bits_39 ⟨Nat.zero_le _, Nat.zero_le _⟩ ?_
    refine lv_istore_n (lv' := [(3, .int r23), (0, .ref hMs), (1, .int x1), (2, .int x2)]) hx hb dX5_bits_42 rfl hl (by decide) rfl (fun ls hl => ?_)
    refine lv_aload_n hx hb dX5_bits_43 rfl (lv_at hl 1 rfl) ?_
    refine va_get (D := D) (ci := 5) (v := .ref hBe) (C := RX5) (T := TX5) (N := 6) hx hb hts ku_X5_bits_X5 hown hK hP 0 rfl rfl 5 (by decide) (hts _ kw_X5_bits_1) (fun _ h9 => h9) rfl dX5_bits_44 ?_
    refine lv_iload_n hx hb dX5_bits_47 rfl (lv_at hl 3 rfl) ?_
    obtain ⟨r24, er24, hf⟩ := fp_b hf
    refine RoL.callV (c_X0_outAt (l := l) (D := D) (cI := cI) (cJ := cJ) (cZ := cZ) (cQ := cQ) (qs := qs) er24) F (cwV 1 hts gX5_bits_X0_outAt rfl rfl rfl yd_X0_outAt ⟨Nat.le_of_ble_eq_true rfl, Nat.le_of_ble_eq_true rfl⟩) (hG.r hS) hP [3, 7] rfl 0 rfl rfl rfl hl.1 rfl (Nat.le_of_ble_eq_true rfl) dX5_bits_48 ⟨Nat.zero_le _, Nat.zero_le _⟩ ?_
    refine lv_aload_n hx hb dX5_bits_51 rfl (lv_at hl 1 rfl) ?_
    refine va_get (D := D) (ci := 5) (v := .ref hBe) (C := RX5) (T := TX5) (N := 6) hx hb hts ku_X5_bits_X5 hown hK hP 0 rfl rfl 5 (by decide) (hts _ kw_X5_bits_1) (fun _ h9 => h9) rfl dX5_bits_52 ?_
    refine va_getN (D := D) (ci := 0) (v := .long r21.2.1) (C := RX0) (T := TX0) (N := 7) (host := "MirrorShares") hx hb hts ku_X5_bits_X0 hown hK hP 3 rfl rfl 6 (by decide) (nwf_6 hG.1) (fun _ h9 => h9) rfl dX5_bits_55 ?_
    refine lv_iconst (v := (1 : Int32)) hx hb dX5_bits_58 (by decide) ?_
    obtain ⟨r25, er25, hf⟩ := fp_b hf
    refine RoI.callS (c_X5_lowest (l := l) (D := D) (cI := cI) (cJ := cJ) (cZ := cZ) (cQ := cQ) (qs := qs) er25) F (va_cwS 3 hts gX5_bits_X5_lowest rfl rfl rfl yd_X5_lowest ⟨Nat.le_of_ble_eq_true rfl, Nat.le_of_ble_eq_true rfl⟩) (hG.r hS) hP [] rfl rfl hl.1 rfl (Nat.le_of_ble_eq_true rfl) dX5_bits_59 ⟨Nat.zero_le _, Nat.zero_le _⟩ ?_
    refine lv_istore (lv' := [(4, .int r25), (3, .int r23), (0, .ref hMs), (1, .int x1), (2, .int x2)]) hx hb dX5_bits_62 hl (by decide) rfl (fun ls hl => ?_)
    refine lv_iload_n hx hb dX5_bits_64 rfl (lv_at hl 1 rfl) ?_
    refine lv_iload hx hb dX5_bits_65 (lv_at hl 0 rfl) ?_
    obtain ⟨r26, er26, hf⟩ := fp_b hf
    refine RoI.callS (c_X5_floatBits (l := l) (D := D) (cI := cI) (cJ := cJ) (cZ := cZ) (cQ := cQ) (qs := qs) er26) F (va_cwS 2 hts gX5_bits_X5_floatBits rfl rfl rfl yd_X5_floatBits ⟨Nat.le_of_ble_eq_true rfl, Nat.le_of_ble_eq_true rfl⟩) (hG.r hS) hP [] rfl rfl hl.1 rfl (Nat.le_of_ble_eq_true rfl) dX5_bits_67 ⟨Nat.zero_le _, Nat.zero_le _⟩ ?_
    cases hf
    exact hret _ _ _ _ dX5_bits_70 (vp_nar_int _) hP hD hS
  · have hf := fp_t hf c20
    refine lv_iconst (v := (-1 : Int32)) hx hb dX5_bits_9 (by decide) ?_
    cases hf
    exact hret _ _ _ _ dX5_bits_10 (vp_nar_int _) hP hD hS
set_option maxRecDepth 100000 in
theorem c_X5_bits {l : Launch} {D : va_G} {cI cJ cZ cQ : ClassId} {qs : Nat × Nat × Nat} {hMs hTo hRmR hRmT hPa hWa hBe hKdR hBp hBn hBr hBo hBs : Nat} {hBg : Nat → Nat} {coR : Int32} {roR : Int32} {kdR : Nat → Int32} {bq : Int32} {bw : Int64} {bp : Nat → Int32} {bn : Nat → Int32} {br : Nat → Int32} {bs : Nat → Int64} {bM : Nat → Nat → Int64} {x1 : Int32} {x2 : Int32} {out : Int32 × Int32 × Int64 × (Nat → Int32) × (Nat → Int32) × (Nat → Int32) × (Nat → Int64) × (Nat → Nat → Int64)} (hf : f_X5_bits coR roR kdR bq bw bp bn br bs bM x1 x2 = some out) : RwI l yX5_bits wsX5_bits { frames := 6, cells := 0, slots := 0, locals := 139 } D (ty4 cI cJ cZ cQ) qs [.ref hMs, .int x1, .int x2] ([(hMs, .inr (5, [.ref hTo, .ref hRmR, .ref hRmT, .ref hPa, .ref hWa, .ref hBe])), (hRmR, .inr (2, [.ref hKdR, .int coR, .int roR])), (hKdR, .inl (cI, 20, .inl kdR)), (hBe, .inr (0, [.ref hBp, .ref hBn, .ref hBr, .ref hBo, .ref hBs, .int bq, .long bw])), (hBp, .inl (cI, 10, .inl bp)), (hBn, .inl (cI, 60, .inl bn)), (hBr, .inl (cI, 20, .inl br)), (hBs, .inl (cJ, 60, .inr (.inl bs))), (hBo, .inl (cQ, 10, .inr (.inr (.inr (.inr (gr_o hBg))))))] ++ gr_c cJ hBg bM) ([(hMs, .inr (5, [.ref hTo, .ref hRmR, .ref hRmT, .ref hPa, .ref hWa, .ref hBe])), (hRmR, .inr (2, [.ref hKdR, .int coR, .int roR])), (hKdR, .inl (cI, 20, .inl kdR)), (hBe, .inr (0, [.ref hBp, .ref hBn, .ref hBr, .ref hBo, .ref hBs, .int out.2.1, .long out.2.2.1])), (hBp, .inl (cI, 10, .inl out.2.2.2.1)), (hBn, .inl (cI, 60, .inl out.2.2.2.2.1)), (hBr, .inl (cI, 20, .inl out.2.2.2.2.2.1)), (hBs, .inl (cJ, 60, .inr (.inl out.2.2.2.2.2.2.1))), (hBo, .inl (cQ, 10, .inr (.inr (.inr (.inr (gr_o hBg))))))] ++ gr_c cJ hBg out.2.2.2.2.2.2.2) out.1 :=
  RwI.of (own := RX5) (by decide +kernel) rfl rfl (Nat.le_of_ble_eq_true rfl) (fun F hG hA hP hD hS hret ls hl => b_X5_bits F hG hA hP hD hS hf hret hl)
-- method X5_lit
theorem yd_X5_lit : yX5_lit.cls = RX5 ∧ yX5_lit.cls ≠ "java/lang/invoke/MethodHandle" ∧ yX5_lit.cls ≠ "java/lang/invoke/VarHandle" ∧ (parseMethodDescriptor yX5_lit.desc).map (fun d => d.parameters.length) = some 1 := by decide +kernel
theorem ku_X5_lit_X5 : ∀ w ∈ u_ws RX5 TX5 6, w ∈ wsX5_lit := by decide +kernel
theorem kw_X5_lit_1 : Cond.fieldLink RX5 19 "MirrorShares" "room" "LMirrorShares$Room;" ∈ wsX5_lit := List.mem_of_getElem? (i := 1) rfl
theorem kw_X5_lit_2 : Cond.fieldLink RX5 36 "MirrorShares" "walk" "LMirrorShares$Walk;" ∈ wsX5_lit := List.mem_of_getElem? (i := 2) rfl
theorem ku_X5_lit_X4 : ∀ w ∈ u_ws RX4 TX4 5, w ∈ wsX5_lit := by decide +kernel
def f_X5_lit (coR : Int32) (roR : Int32) (kdR : Nat → Int32) (ww : Int32) (wl : Int32) (wq : Nat → Int32) (wt : Nat → Int32) (wp : Nat → Int32) (x1 : Int32) : Option (Int32 × Int32 × Int32 × (Nat → Int32) × (Nat → Int32) × (Nat → Int32)) :=
  Option.bind (f_X2_hasPort coR roR x1) (fun r27 => (if r27 = 0 then some ((-1 : Int32), ww, wl, wq, wt, wp) else Option.bind (f_X4_goFrom coR roR kdR ww wl wq wt wp x1) (fun r29 => some (r29.2.1, r29.1, r29.2.1, r29.2.2.1, r29.2.2.2.1, r29.2.2.2.2))))
set_option maxHeartbeats 4000000 in
set_option maxRecDepth 100000 in
theorem b_X5_lit {p : Program} {l : Launch} {e : Env} {s : State} {m : MethodId} {args : Array Value} {below : List Frame} {meth : Method} {c : Code} {Q : State → Prop} {A : Nat → Prop} {H : Heap} {locs : List Loc} {D : va_G} {cI cJ cZ cQ : ClassId} {qs : Nat × Nat × Nat} {hMs hTo hRmR hRmT hPa hWa hBe hKdR hWq hWt hWp : Nat} {coR : Int32} {roR : Int32} {kdR : Nat → Int32} {ww : Int32} {wl : Int32} {wq : Nat → Int32} {wt : Nat → Int32} {wp : Nat → Int32} {x1 : Int32} {out : Int32 × Int32 × Int32 × (Nat → Int32) × (Nat → Int32) × (Nat → Int32)} (F : CallFix p m c cX5_lit 2 s args wsX5_lit RX5) (hG : kW D (ty4 cI cJ cZ cQ) qs A s s.heap) (hA : ∀ q : Nat, s.heap.size ≤ q → A q) (hP : va_P D vwCl [(hMs, .inr (5, [.ref hTo, .ref hRmR, .ref hRmT, .ref hPa, .ref hWa, .ref hBe])), (hRmR, .inr (2, [.ref hKdR, .int coR, .int roR])), (hKdR, .inl (cI, 20, .inl kdR)), (hWa, .inr (4, [.ref hWq, .ref hWt, .ref hWp, .int ww, .int wl])), (hWq, .inl (cI, 80, .inl wq)), (hWt, .inl (cI, 80, .inl wt)), (hWp, .inl (cI, 18, .inl wp))] H) (hD : va_D A [(hMs, .inr (5, [.ref hTo, .ref hRmR, .ref hRmT, .ref hPa, .ref hWa, .ref hBe])), (hRmR, .inr (2, [.ref hKdR, .int coR, .int roR])), (hKdR, .inl (cI, 20, .inl kdR)), (hWa, .inr (4, [.ref hWq, .ref hWt, .ref hWp, .int ww, .int wl])), (hWq, .inl (cI, 80, .inl wq)), (hWt, .inl (cI, 80, .inl wt)), (hWp, .inl (cI, 18, .inl wp))]) (hS : va_S A s.heap H locs) (hf : f_X5_lit coR roR kdR ww wl wq wt wp x1 = some out) (hret : ∀ (pc : Nat) (H : Heap) (locs : List Loc) (ls : Array Slot), decode cX5_lit pc = .ok (.ireturn, 1) → narrow .int (.int out.1) = .int out.1 → va_P D vwCl [(hMs, .inr (5, [.ref hTo, .ref hRmR, .ref hRmT, .ref hPa, .ref hWa, .ref hBe])), (hRmR, .inr (2, [.ref hKdR, .int coR, .int roR])), (hKdR, .inl (cI, 20, .inl kdR)), (hWa, .inr (4, [.ref hWq, .ref hWt, .ref hWp, .int out.2.1, .int out.2.2.1])), (hWq, .inl (cI, 80, .inl out.2.2.2.1)), (hWt, .inl (cI, 80, .inl out.2.2.2.2.1)), (hWp, .inl (cI, 18, .inl out.2.2.2.2.2))] H → va_D A [(hMs, .inr (5, [.ref hTo, .ref hRmR, .ref hRmT, .ref hPa, .ref hWa, .ref hBe])), (hRmR, .inr (2, [.ref hKdR, .int coR, .int roR])), (hKdR, .inl (cI, 20, .inl kdR)), (hWa, .inr (4, [.ref hWq, .ref hWt, .ref hWp, .int out.2.1, .int out.2.2.1])), (hWq, .inl (cI, 80, .inl out.2.2.2.1)), (hWt, .inl (cI, 80, .inl out.2.2.2.2.1)), (hWp, .inl (cI, 18, .inl out.2.2.2.2.2))] → va_S A s.heap H locs → W p l e { frames := 4, cells := 0, slots := 0, locals := 98 } s m args below meth c H locs 0 0 Q (F0 m pc ls [.int out.1])) {ls : Array Slot} (hl : lv_has ls 2 [(0, .ref hMs), (1, .int x1)]) : W p l e { frames := 4, cells := 0, slots := 0, locals := 98 } s m args below meth c H locs 0 0 Q (F0 m 0 ls []) := by
  have hx := F.1
  have hb := F.2.1
  have hown := F.2.2.2.1
  have hts := F.2.2.2.2
  have hK := hG.1.1
  rw [f_X5_lit] at hf
  refine lv_aload_n hx hb dX5_lit_0 rfl (lv_at hl 0 rfl) ?_
  refine va_get (D := D) (ci := 5) (v := .ref hRmR) (C := RX5) (T := TX5) (N := 6) hx hb hts ku_X5_lit_X5 hown hK hP 0 rfl rfl 1 (by decide) (hts _ kw_X5_lit_1) (fun _ h9 => h9) rfl dX5_lit_1 ?_
  refine lv_iload_n hx hb dX5_lit_4 rfl (lv_at hl 1 rfl) ?_
  obtain ⟨r27, er27, hf⟩ := fp_b hf
  refine RoI.callV (c_X2_hasPort (l := l) (D := D) (cI := cI) (cJ := cJ) (cZ := cZ) (cQ := cQ) (qs := qs) er27) F (cwV 1 hts gX5_lit_X2_hasPort rfl rfl rfl yd_X2_hasPort ⟨Nat.le_of_ble_eq_true rfl, Nat.le_of_ble_eq_true rfl⟩) (hG.r hS) hP [1] rfl 2 rfl rfl rfl hl.1 rfl (Nat.le_of_ble_eq_true rfl) dX5_lit_5 ⟨Nat.zero_le _, Nat.zero_le _⟩ ?_
  refine lv_if_ne (tgt := 13) hx hb dX5_lit_8 (by decide) (fun c28 => ?_) (fun c28 => ?_)
  · have hf := fp_f hf c28
    refine lv_aload_n hx hb dX5_lit_13 rfl (lv_at hl 0 rfl) ?_
    refine va_get (D := D) (ci := 5) (v := .ref hWa) (C := RX5) (T := TX5) (N := 6) hx hb hts ku_X5_lit_X5 hown hK hP 0 rfl rfl 4 (by decide) (hts _ kw_X5_lit_2) (fun _ h9 => h9) rfl dX5_lit_14 ?_
    refine lv_aload_n hx hb dX5_lit_17 rfl (lv_at hl 0 rfl) ?_
    refine va_get (D := D) (ci := 5) (v := .ref hRmR) (C := RX5) (T := TX5) (N := 6) hx hb hts ku_X5_lit_X5 hown hK hP 0 rfl rfl 1 (by decide) (hts _ kw_X5_lit_1) (fun _ h9 => h9) rfl dX5_lit_18 ?_
    refine lv_iload_n hx hb dX5_lit_21 rfl (lv_at hl 1 rfl) ?_
    obtain ⟨r29, er29, hf⟩ := fp_b hf
    refine kc_rwV (w2 := [(hMs, .inr (5, [.ref hTo, .ref hRmR, .ref hRmT, .ref hPa, .ref hWa, .ref hBe])), (hRmR, .inr (2, [.ref hKdR, .int coR, .int roR])), (hKdR, .inl (cI, 20, .inl kdR)), (hWa, .inr (4, [.ref hWq, .ref hWt, .ref hWp, .int r29.1, .int r29.2.1])), (hWq, .inl (cI, 80, .inl r29.2.2.1)), (hWt, .inl (cI, 80, .inl r29.2.2.2.1)), (hWp, .inl (cI, 18, .inl r29.2.2.2.2))]) (RwV.runV (c_X4_goFrom (l := l) (D := D) (cI := cI) (cJ := cJ) (cZ := cZ) (cQ := cQ) (qs := qs) er29) F (cwV 2 hts gX5_lit_X4_goFrom rfl rfl rfl yd_X4_goFrom ⟨Nat.le_of_ble_eq_true rfl, Nat.le_of_ble_eq_true rfl⟩) hG hP hD hS hA [3, 1, 2, 4, 5, 6] (by decide) rfl 4 rfl rfl rfl hl.1 rfl (Nat.le_of_ble_eq_true rfl) dX5_lit_22 ⟨Nat.zero_le _, Nat.zero_le _⟩) hP hD hS hA [3, 1, 2, 4, 5, 6] [0] [0, 2, 3, 1, 4, 5, 6] rfl (wr := [(hMs, .inr (5, [.ref hTo, .ref hRmR, .ref hRmT, .ref hPa, .ref hWa, .ref hBe]))]) rfl (by decide) (by decide) rfl (by decide) (fun H locs hP hD hS => ?_)
    refine lv_aload_n hx hb dX5_lit_25 rfl (lv_at hl 0 rfl) ?_
    refine va_get (D := D) (ci := 5) (v := .ref hWa) (C := RX5) (T := TX5) (N := 6) hx hb hts ku_X5_lit_X5 hown hK hP 0 rfl rfl 4 (by decide) (hts _ kw_X5_lit_2) (fun _ h9 => h9) rfl dX5_lit_26 ?_
    refine va_getN (D := D) (ci := 4) (v := .int r29.2.1) (C := RX4) (T := TX4) (N := 5) (host := "MirrorShares") hx hb hts ku_X5_lit_X4 hown hK hP 3 rfl rfl 4 (by decide) (nwf_5 hG.1) (fun _ h9 => h9) rfl dX5_lit_29 ?_
    cases hf
    exact hret _ _ _ _ dX5_lit_32 (vp_nar_int _) hP hD hS
  · have hf := fp_t hf c28
    refine lv_iconst (v := (-1 : Int32)) hx hb dX5_lit_11 (by decide) ?_
    cases hf
    exact hret _ _ _ _ dX5_lit_12 (vp_nar_int _) hP hD hS
set_option maxRecDepth 100000 in
theorem c_X5_lit {l : Launch} {D : va_G} {cI cJ cZ cQ : ClassId} {qs : Nat × Nat × Nat} {hMs hTo hRmR hRmT hPa hWa hBe hKdR hWq hWt hWp : Nat} {coR : Int32} {roR : Int32} {kdR : Nat → Int32} {ww : Int32} {wl : Int32} {wq : Nat → Int32} {wt : Nat → Int32} {wp : Nat → Int32} {x1 : Int32} {out : Int32 × Int32 × Int32 × (Nat → Int32) × (Nat → Int32) × (Nat → Int32)} (hf : f_X5_lit coR roR kdR ww wl wq wt wp x1 = some out) : RwI l yX5_lit wsX5_lit { frames := 4, cells := 0, slots := 0, locals := 98 } D (ty4 cI cJ cZ cQ) qs [.ref hMs, .int x1] [(hMs, .inr (5, [.ref hTo, .ref hRmR, .ref hRmT, .ref hPa, .ref hWa, .ref hBe])), (hRmR, .inr (2, [.ref hKdR, .int coR, .int roR])), (hKdR, .inl (cI, 20, .inl kdR)), (hWa, .inr (4, [.ref hWq, .ref hWt, .ref hWp, .int ww, .int wl])), (hWq, .inl (cI, 80, .inl wq)), (hWt, .inl (cI, 80, .inl wt)), (hWp, .inl (cI, 18, .inl wp))] [(hMs, .inr (5, [.ref hTo, .ref hRmR, .ref hRmT, .ref hPa, .ref hWa, .ref hBe])), (hRmR, .inr (2, [.ref hKdR, .int coR, .int roR])), (hKdR, .inl (cI, 20, .inl kdR)), (hWa, .inr (4, [.ref hWq, .ref hWt, .ref hWp, .int out.2.1, .int out.2.2.1])), (hWq, .inl (cI, 80, .inl out.2.2.2.1)), (hWt, .inl (cI, 80, .inl out.2.2.2.2.1)), (hWp, .inl (cI, 18, .inl out.2.2.2.2.2))] out.1 :=
  RwI.of (own := RX5) (by decide +kernel) rfl rfl (Nat.le_of_ble_eq_true rfl) (fun F hG hA hP hD hS hret ls hl => b_X5_lit F hG hA hP hD hS hf hret hl)
-- method X5_far
theorem yd_X5_far : yX5_far.cls = RX5 ∧ yX5_far.cls ≠ "java/lang/invoke/MethodHandle" ∧ yX5_far.cls ≠ "java/lang/invoke/VarHandle" ∧ (parseMethodDescriptor yX5_far.desc).map (fun d => d.parameters.length) = some 2 := by decide +kernel
theorem ku_X5_far_X5 : ∀ w ∈ u_ws RX5 TX5 6, w ∈ wsX5_far := by decide +kernel
theorem kw_X5_far_1 : Cond.fieldLink RX5 36 "MirrorShares" "walk" "LMirrorShares$Walk;" ∈ wsX5_far := List.mem_of_getElem? (i := 1) rfl
theorem kw_X5_far_2 : Cond.fieldLink RX5 19 "MirrorShares" "room" "LMirrorShares$Room;" ∈ wsX5_far := List.mem_of_getElem? (i := 2) rfl
def f_X5_far (coR : Int32) (roR : Int32) (kdR : Nat → Int32) (ww : Int32) (wl : Int32) (wq : Nat → Int32) (wt : Nat → Int32) (wp : Nat → Int32) (x1 : Int32) (x2 : Int32) : Option (Int32 × Int32 × Int32 × (Nat → Int32) × (Nat → Int32) × (Nat → Int32)) :=
  Option.bind (f_X5_hasPorts coR roR x1 x2) (fun r30 => (if r30 = 0 then some ((-1 : Int32), ww, wl, wq, wt, wp) else Option.bind (f_X4_goFrom coR roR kdR ww wl wq wt wp x1) (fun r32 => Option.bind (f_X4_fewestTo r32.2.2.2.2 x2) (fun r33 => some (r33, r32.1, r32.2.1, r32.2.2.1, r32.2.2.2.1, r32.2.2.2.2)))))
set_option maxHeartbeats 4000000 in
set_option maxRecDepth 100000 in
theorem b_X5_far {p : Program} {l : Launch} {e : Env} {s : State} {m : MethodId} {args : Array Value} {below : List Frame} {meth : Method} {c : Code} {Q : State → Prop} {A : Nat → Prop} {H : Heap} {locs : List Loc} {D : va_G} {cI cJ cZ cQ : ClassId} {qs : Nat × Nat × Nat} {hMs hTo hRmR hRmT hPa hWa hBe hKdR hWq hWt hWp : Nat} {coR : Int32} {roR : Int32} {kdR : Nat → Int32} {ww : Int32} {wl : Int32} {wq : Nat → Int32} {wt : Nat → Int32} {wp : Nat → Int32} {x1 : Int32} {x2 : Int32} {out : Int32 × Int32 × Int32 × (Nat → Int32) × (Nat → Int32) × (Nat → Int32)} (F : CallFix p m c cX5_far 3 s args wsX5_far RX5) (hG : kW D (ty4 cI cJ cZ cQ) qs A s s.heap) (hA : ∀ q : Nat, s.heap.size ≤ q → A q) (hP : va_P D vwCl [(hMs, .inr (5, [.ref hTo, .ref hRmR, .ref hRmT, .ref hPa, .ref hWa, .ref hBe])), (hRmR, .inr (2, [.ref hKdR, .int coR, .int roR])), (hKdR, .inl (cI, 20, .inl kdR)), (hWa, .inr (4, [.ref hWq, .ref hWt, .ref hWp, .int ww, .int wl])), (hWq, .inl (cI, 80, .inl wq)), (hWt, .inl (cI, 80, .inl wt)), (hWp, .inl (cI, 18, .inl wp))] H) (hD : va_D A [(hMs, .inr (5, [.ref hTo, .ref hRmR, .ref hRmT, .ref hPa, .ref hWa, .ref hBe])), (hRmR, .inr (2, [.ref hKdR, .int coR, .int roR])), (hKdR, .inl (cI, 20, .inl kdR)), (hWa, .inr (4, [.ref hWq, .ref hWt, .ref hWp, .int ww, .int wl])), (hWq, .inl (cI, 80, .inl wq)), (hWt, .inl (cI, 80, .inl wt)), (hWp, .inl (cI, 18, .inl wp))]) (hS : va_S A s.heap H locs) (hf : f_X5_far coR roR kdR ww wl wq wt wp x1 x2 = some out) (hret : ∀ (pc : Nat) (H : Heap) (locs : List Loc) (ls : Array Slot), decode cX5_far pc = .ok (.ireturn, 1) → narrow .int (.int out.1) = .int out.1 → va_P D vwCl [(hMs, .inr (5, [.ref hTo, .ref hRmR, .ref hRmT, .ref hPa, .ref hWa, .ref hBe])), (hRmR, .inr (2, [.ref hKdR, .int coR, .int roR])), (hKdR, .inl (cI, 20, .inl kdR)), (hWa, .inr (4, [.ref hWq, .ref hWt, .ref hWp, .int out.2.1, .int out.2.2.1])), (hWq, .inl (cI, 80, .inl out.2.2.2.1)), (hWt, .inl (cI, 80, .inl out.2.2.2.2.1)), (hWp, .inl (cI, 18, .inl out.2.2.2.2.2))] H → va_D A [(hMs, .inr (5, [.ref hTo, .ref hRmR, .ref hRmT, .ref hPa, .ref hWa, .ref hBe])), (hRmR, .inr (2, [.ref hKdR, .int coR, .int roR])), (hKdR, .inl (cI, 20, .inl kdR)), (hWa, .inr (4, [.ref hWq, .ref hWt, .ref hWp, .int out.2.1, .int out.2.2.1])), (hWq, .inl (cI, 80, .inl out.2.2.2.1)), (hWt, .inl (cI, 80, .inl out.2.2.2.2.1)), (hWp, .inl (cI, 18, .inl out.2.2.2.2.2))] → va_S A s.heap H locs → W p l e { frames := 4, cells := 0, slots := 0, locals := 98 } s m args below meth c H locs 0 0 Q (F0 m pc ls [.int out.1])) {ls : Array Slot} (hl : lv_has ls 3 [(0, .ref hMs), (1, .int x1), (2, .int x2)]) : W p l e { frames := 4, cells := 0, slots := 0, locals := 98 } s m args below meth c H locs 0 0 Q (F0 m 0 ls []) := by
  have hx := F.1
  have hb := F.2.1
  have hown := F.2.2.2.1
  have hts := F.2.2.2.2
  have hK := hG.1.1
  rw [f_X5_far] at hf
  refine lv_aload_n hx hb dX5_far_0 rfl (lv_at hl 0 rfl) ?_
  refine lv_iload_n hx hb dX5_far_1 rfl (lv_at hl 1 rfl) ?_
  refine lv_iload_n hx hb dX5_far_2 rfl (lv_at hl 2 rfl) ?_
  obtain ⟨r30, er30, hf⟩ := fp_b hf
  refine RoI.callV (c_X5_hasPorts (l := l) (D := D) (cI := cI) (cJ := cJ) (cZ := cZ) (cQ := cQ) (qs := qs) er30) F (cwV 2 hts gX5_far_X5_hasPorts rfl rfl rfl yd_X5_hasPorts ⟨Nat.le_of_ble_eq_true rfl, Nat.le_of_ble_eq_true rfl⟩) (hG.r hS) hP [0, 1] rfl 5 rfl rfl rfl hl.1 rfl (Nat.le_of_ble_eq_true rfl) dX5_far_3 ⟨Nat.zero_le _, Nat.zero_le _⟩ ?_
  refine lv_if_ne (tgt := 11) hx hb dX5_far_6 (by decide) (fun c31 => ?_) (fun c31 => ?_)
  · have hf := fp_f hf c31
    refine lv_aload_n hx hb dX5_far_11 rfl (lv_at hl 0 rfl) ?_
    refine va_get (D := D) (ci := 5) (v := .ref hWa) (C := RX5) (T := TX5) (N := 6) hx hb hts ku_X5_far_X5 hown hK hP 0 rfl rfl 4 (by decide) (hts _ kw_X5_far_1) (fun _ h9 => h9) rfl dX5_far_12 ?_
    refine lv_aload_n hx hb dX5_far_15 rfl (lv_at hl 0 rfl) ?_
    refine va_get (D := D) (ci := 5) (v := .ref hRmR) (C := RX5) (T := TX5) (N := 6) hx hb hts ku_X5_far_X5 hown hK hP 0 rfl rfl 1 (by decide) (hts _ kw_X5_far_2) (fun _ h9 => h9) rfl dX5_far_16 ?_
    refine lv_iload_n hx hb dX5_far_19 rfl (lv_at hl 1 rfl) ?_
    obtain ⟨r32, er32, hf⟩ := fp_b hf
    refine kc_rwV (w2 := [(hMs, .inr (5, [.ref hTo, .ref hRmR, .ref hRmT, .ref hPa, .ref hWa, .ref hBe])), (hRmR, .inr (2, [.ref hKdR, .int coR, .int roR])), (hKdR, .inl (cI, 20, .inl kdR)), (hWa, .inr (4, [.ref hWq, .ref hWt, .ref hWp, .int r32.1, .int r32.2.1])), (hWq, .inl (cI, 80, .inl r32.2.2.1)), (hWt, .inl (cI, 80, .inl r32.2.2.2.1)), (hWp, .inl (cI, 18, .inl r32.2.2.2.2))]) (RwV.runV (c_X4_goFrom (l := l) (D := D) (cI := cI) (cJ := cJ) (cZ := cZ) (cQ := cQ) (qs := qs) er32) F (cwV 2 hts gX5_far_X4_goFrom rfl rfl rfl yd_X4_goFrom ⟨Nat.le_of_ble_eq_true rfl, Nat.le_of_ble_eq_true rfl⟩) hG hP hD hS hA [3, 1, 2, 4, 5, 6] (by decide) rfl 4 rfl rfl rfl hl.1 rfl (Nat.le_of_ble_eq_true rfl) dX5_far_20 ⟨Nat.zero_le _, Nat.zero_le _⟩) hP hD hS hA [3, 1, 2, 4, 5, 6] [0] [0, 2, 3, 1, 4, 5, 6] rfl (wr := [(hMs, .inr (5, [.ref hTo, .ref hRmR, .ref hRmT, .ref hPa, .ref hWa, .ref hBe]))]) rfl (by decide) (by decide) rfl (by decide) (fun H locs hP hD hS => ?_)
    refine lv_aload_n hx hb dX5_far_23 rfl (lv_at hl 0 rfl) ?_
    refine va_get (D := D) (ci := 5) (v := .ref hWa) (C := RX5) (T := TX5) (N := 6) hx hb hts ku_X5_far_X5 hown hK hP 0 rfl rfl 4 (by decide) (hts _ kw_X5_far_1) (fun _ h9 => h9) rfl dX5_far_24 ?_
    refine lv_iload_n hx hb dX5_far_27 rfl (lv_at hl 2 rfl) ?_
    obtain ⟨r33, er33, hf⟩ := fp_b hf
    refine RoI.callV (c_X4_fewestTo (l := l) (D := D) (cI := cI) (cJ := cJ) (cZ := cZ) (cQ := cQ) (qs := qs) er33) F (cwV 1 hts gX5_far_X4_fewestTo rfl rfl rfl yd_X4_fewestTo ⟨Nat.le_of_ble_eq_true rfl, Nat.le_of_ble_eq_true rfl⟩) (hG.r hS) hP [3, 6] rfl 4 rfl rfl rfl hl.1 rfl (Nat.le_of_ble_eq_true rfl) dX5_far_28 ⟨Nat.zero_le _, Nat.zero_le _⟩ ?_
    cases hf
    exact hret _ _ _ _ dX5_far_31 (vp_nar_int _) hP hD hS
  · have hf := fp_t hf c31
    refine lv_iconst (v := (-1 : Int32)) hx hb dX5_far_9 (by decide) ?_
    cases hf
    exact hret _ _ _ _ dX5_far_10 (vp_nar_int _) hP hD hS
set_option maxRecDepth 100000 in
theorem c_X5_far {l : Launch} {D : va_G} {cI cJ cZ cQ : ClassId} {qs : Nat × Nat × Nat} {hMs hTo hRmR hRmT hPa hWa hBe hKdR hWq hWt hWp : Nat} {coR : Int32} {roR : Int32} {kdR : Nat → Int32} {ww : Int32} {wl : Int32} {wq : Nat → Int32} {wt : Nat → Int32} {wp : Nat → Int32} {x1 : Int32} {x2 : Int32} {out : Int32 × Int32 × Int32 × (Nat → Int32) × (Nat → Int32) × (Nat → Int32)} (hf : f_X5_far coR roR kdR ww wl wq wt wp x1 x2 = some out) : RwI l yX5_far wsX5_far { frames := 4, cells := 0, slots := 0, locals := 98 } D (ty4 cI cJ cZ cQ) qs [.ref hMs, .int x1, .int x2] [(hMs, .inr (5, [.ref hTo, .ref hRmR, .ref hRmT, .ref hPa, .ref hWa, .ref hBe])), (hRmR, .inr (2, [.ref hKdR, .int coR, .int roR])), (hKdR, .inl (cI, 20, .inl kdR)), (hWa, .inr (4, [.ref hWq, .ref hWt, .ref hWp, .int ww, .int wl])), (hWq, .inl (cI, 80, .inl wq)), (hWt, .inl (cI, 80, .inl wt)), (hWp, .inl (cI, 18, .inl wp))] [(hMs, .inr (5, [.ref hTo, .ref hRmR, .ref hRmT, .ref hPa, .ref hWa, .ref hBe])), (hRmR, .inr (2, [.ref hKdR, .int coR, .int roR])), (hKdR, .inl (cI, 20, .inl kdR)), (hWa, .inr (4, [.ref hWq, .ref hWt, .ref hWp, .int out.2.1, .int out.2.2.1])), (hWq, .inl (cI, 80, .inl out.2.2.2.1)), (hWt, .inl (cI, 80, .inl out.2.2.2.2.1)), (hWp, .inl (cI, 18, .inl out.2.2.2.2.2))] out.1 :=
  RwI.of (own := RX5) (by decide +kernel) rfl rfl (Nat.le_of_ble_eq_true rfl) (fun F hG hA hP hD hS hret ls hl => b_X5_far F hG hA hP hD hS hf hret hl)
-- method X5_alike
theorem yd_X5_alike : yX5_alike.cls = RX5 ∧ yX5_alike.cls ≠ "java/lang/invoke/MethodHandle" ∧ yX5_alike.cls ≠ "java/lang/invoke/VarHandle" ∧ (parseMethodDescriptor yX5_alike.desc).map (fun d => d.parameters.length) = some 2 := by decide +kernel
theorem ku_X5_alike_X5 : ∀ w ∈ u_ws RX5 TX5 6, w ∈ wsX5_alike := by decide +kernel
theorem kw_X5_alike_1 : Cond.fieldLink RX5 43 "MirrorShares" "beam" "LMirrorShares$Beam;" ∈ wsX5_alike := List.mem_of_getElem? (i := 1) rfl
theorem kw_X5_alike_2 : Cond.fieldLink RX5 19 "MirrorShares" "room" "LMirrorShares$Room;" ∈ wsX5_alike := List.mem_of_getElem? (i := 2) rfl
theorem ku_X5_alike_X0 : ∀ w ∈ u_ws RX0 TX0 7, w ∈ wsX5_alike := by decide +kernel
def f_X5_alike (coR : Int32) (roR : Int32) (kdR : Nat → Int32) (bq : Int32) (bw : Int64) (bp : Nat → Int32) (bn : Nat → Int32) (br : Nat → Int32) (bs : Nat → Int64) (bM : Nat → Nat → Int64) (x1 : Int32) (x2 : Int32) : Option (Int32 × Int32 × Int64 × (Nat → Int32) × (Nat → Int32) × (Nat → Int32) × (Nat → Int64) × (Nat → Nat → Int64)) :=
  Option.bind (f_X5_hasPorts coR roR x1 x2) (fun r34 => (if r34 = 0 then some ((-1 : Int32), bq, bw, bp, bn, br, bs, bM) else Option.bind (f_X0_shine coR roR kdR bq bw bp bn br bs bM x1) (fun r36 => Option.bind (f_X0_swallowed r36.2.2.2.2.2.1) (fun r37 => Option.bind (f_X0_caught r36.2.1 r36.2.2.2.2.2.1) (fun r38 => Option.bind (f_X0_shine coR roR kdR r36.1 r36.2.1 r36.2.2.1 r36.2.2.2.1 r36.2.2.2.2.1 r36.2.2.2.2.2.1 r36.2.2.2.2.2.2 x2) (fun r39 => Option.bind (f_X0_swallowed r39.2.2.2.2.2.1) (fun r40 => Option.bind (f_X5_compareFractions r37 r36.2.1 r40 r39.2.1) (fun r41 => (if r41 = 0 then Option.bind (f_X0_caught r39.2.1 r39.2.2.2.2.2.1) (fun r44 => Option.bind (f_X5_compareFractions r38 r36.2.1 r44 r39.2.1) (fun r45 => (if r45 = 0 then some ((1 : Int32), r39.1, r39.2.1, r39.2.2.1, r39.2.2.2.1, r39.2.2.2.2.1, r39.2.2.2.2.2.1, r39.2.2.2.2.2.2) else some ((0 : Int32), r39.1, r39.2.1, r39.2.2.1, r39.2.2.2.1, r39.2.2.2.2.1, r39.2.2.2.2.2.1, r39.2.2.2.2.2.2)))) else some ((0 : Int32), r39.1, r39.2.1, r39.2.2.1, r39.2.2.2.1, r39.2.2.2.2.1, r39.2.2.2.2.2.1, r39.2.2.2.2.2.2))))))))))
set_option maxHeartbeats 4000000 in
set_option maxRecDepth 100000 in
theorem b_X5_alike {p : Program} {l : Launch} {e : Env} {s : State} {m : MethodId} {args : Array Value} {below : List Frame} {meth : Method} {c : Code} {Q : State → Prop} {A : Nat → Prop} {H : Heap} {locs : List Loc} {D : va_G} {cI cJ cZ cQ : ClassId} {qs : Nat × Nat × Nat} {hMs hTo hRmR hRmT hPa hWa hBe hKdR hBp hBn hBr hBo hBs : Nat} {hBg : Nat → Nat} {coR : Int32} {roR : Int32} {kdR : Nat → Int32} {bq : Int32} {bw : Int64} {bp : Nat → Int32} {bn : Nat → Int32} {br : Nat → Int32} {bs : Nat → Int64} {bM : Nat → Nat → Int64} {x1 : Int32} {x2 : Int32} {out : Int32 × Int32 × Int64 × (Nat → Int32) × (Nat → Int32) × (Nat → Int32) × (Nat → Int64) × (Nat → Nat → Int64)} (F : CallFix p m c cX5_alike 10 s args wsX5_alike RX5) (hG : kW D (ty4 cI cJ cZ cQ) qs A s s.heap) (hA : ∀ q : Nat, s.heap.size ≤ q → A q) (hP : va_P D vwCl ([(hMs, .inr (5, [.ref hTo, .ref hRmR, .ref hRmT, .ref hPa, .ref hWa, .ref hBe])), (hRmR, .inr (2, [.ref hKdR, .int coR, .int roR])), (hKdR, .inl (cI, 20, .inl kdR)), (hBe, .inr (0, [.ref hBp, .ref hBn, .ref hBr, .ref hBo, .ref hBs, .int bq, .long bw])), (hBp, .inl (cI, 10, .inl bp)), (hBn, .inl (cI, 60, .inl bn)), (hBr, .inl (cI, 20, .inl br)), (hBs, .inl (cJ, 60, .inr (.inl bs))), (hBo, .inl (cQ, 10, .inr (.inr (.inr (.inr (gr_o hBg))))))] ++ gr_c cJ hBg bM) H) (hD : va_D A ([(hMs, .inr (5, [.ref hTo, .ref hRmR, .ref hRmT, .ref hPa, .ref hWa, .ref hBe])), (hRmR, .inr (2, [.ref hKdR, .int coR, .int roR])), (hKdR, .inl (cI, 20, .inl kdR)), (hBe, .inr (0, [.ref hBp, .ref hBn, .ref hBr, .ref hBo, .ref hBs, .int bq, .long bw])), (hBp, .inl (cI, 10, .inl bp)), (hBn, .inl (cI, 60, .inl bn)), (hBr, .inl (cI, 20, .inl br)), (hBs, .inl (cJ, 60, .inr (.inl bs))), (hBo, .inl (cQ, 10, .inr (.inr (.inr (.inr (gr_o hBg))))))] ++ gr_c cJ hBg bM)) (hS : va_S A s.heap H locs) (hf : f_X5_alike coR roR kdR bq bw bp bn br bs bM x1 x2 = some out) (hret : ∀ (pc : Nat) (H : Heap) (locs : List Loc) (ls : Array Slot), decode cX5_alike pc = .ok (.ireturn, 1) → narrow .int (.int out.1) = .int out.1 → va_P D vwCl ([(hMs, .inr (5, [.ref hTo, .ref hRmR, .ref hRmT, .ref hPa, .ref hWa, .ref hBe])), (hRmR, .inr (2, [.ref hKdR, .int coR, .int roR])), (hKdR, .inl (cI, 20, .inl kdR)), (hBe, .inr (0, [.ref hBp, .ref hBn, .ref hBr, .ref hBo, .ref hBs, .int out.2.1, .long out.2.2.1])), (hBp, .inl (cI, 10, .inl out.2.2.2.1)), (hBn, .inl (cI, 60, .inl out.2.2.2.2.1)), (hBr, .inl (cI, 20, .inl out.2.2.2.2.2.1)), (hBs, .inl (cJ, 60, .inr (.inl out.2.2.2.2.2.2.1))), (hBo, .inl (cQ, 10, .inr (.inr (.inr (.inr (gr_o hBg))))))] ++ gr_c cJ hBg out.2.2.2.2.2.2.2) H → va_D A ([(hMs, .inr (5, [.ref hTo, .ref hRmR, .ref hRmT, .ref hPa, .ref hWa, .ref hBe])), (hRmR, .inr (2, [.ref hKdR, .int coR, .int roR])), (hKdR, .inl (cI, 20, .inl kdR)), (hBe, .inr (0, [.ref hBp, .ref hBn, .ref hBr, .ref hBo, .ref hBs, .int out.2.1, .long out.2.2.1])), (hBp, .inl (cI, 10, .inl out.2.2.2.1)), (hBn, .inl (cI, 60, .inl out.2.2.2.2.1)), (hBr, .inl (cI, 20, .inl out.2.2.2.2.2.1)), (hBs, .inl (cJ, 60, .inr (.inl out.2.2.2.2.2.2.1))), (hBo, .inl (cQ, 10, .inr (.inr (.inr (.inr (gr_o hBg))))))] ++ gr_c cJ hBg out.2.2.2.2.2.2.2) → va_S A s.heap H locs → W p l e { frames := 6, cells := 0, slots := 0, locals := 139 } s m args below meth c H locs 0 0 Q (F0 m pc ls [.int out.1])) {ls : Array Slot} (hl : lv_has ls 10 [(0, .ref hMs), (1, .int x1), (2, .int x2)]) : W p l e { frames := 6, cells := 0, slots := 0, locals := 139 } s m args below meth c H locs 0 0 Q (F0 m 0 ls []) := by
  have hx := F.1
  have hb := F.2.1
  have hown := F.2.2.2.1
  have hts := F.2.2.2.2
  have hK := hG.1.1
  rw [f_X5_alike] at hf
  refine lv_aload_n hx hb dX5_alike_0 rfl (lv_at hl 0 rfl) ?_
  refine lv_iload_n hx hb dX5_alike_1 rfl (lv_at hl 1 rfl) ?_
  refine lv_iload_n hx hb dX5_alike_2 rfl (lv_at hl 2 rfl) ?_
  obtain ⟨r34, er34, hf⟩ := fp_b hf
  refine RoI.callV (c_X5_hasPorts (l := l) (D := D) (cI := cI) (cJ := cJ) (cZ := cZ) (cQ := cQ) (qs := qs) er34) F (cwV 2 hts gX5_alike_X5_hasPorts rfl rfl rfl yd_X5_hasPorts ⟨Nat.le_of_ble_eq_true rfl, Nat.le_of_ble_eq_true rfl⟩) (hG.r hS) hP [0, 1] rfl 5 rfl rfl rfl hl.1 rfl (Nat.le_of_ble_eq_true rfl) dX5_alike_3 ⟨Nat.zero_le _, Nat.zero_le _⟩ ?_
  refine lv_if_ne (tgt := 11) hx hb dX5_alike_6 (by decide) (fun c35 => ?_) (fun c35 => ?_)
  · have hf := fp_f hf c35
    refine lv_aload_n hx hb dX5_alike_11 rfl (lv_at hl 0 rfl) ?_
    refine va_get (D := D) (ci := 5) (v := .ref hBe) (C := RX5) (T := TX5) (N := 6) hx hb hts ku_X5_alike_X5 hown hK hP 0 rfl rfl 5 (by decide) (hts _ kw_X5_alike_1) (fun _ h9 => h9) rfl dX5_alike_12 ?_
    refine lv_aload_n hx hb dX5_alike_15 rfl (lv_at hl 0 rfl) ?_
    refine va_get (D := D) (ci := 5) (v := .ref hRmR) (C := RX5) (T := TX5) (N := 6) hx hb hts ku_X5_alike_X5 hown hK hP 0 rfl rfl 1 (by decide) (hts _ kw_X5_alike_2) (fun _ h9 => h9) rfl dX5_alike_16 ?_
    refine lv_iload_n hx hb dX5_alike_19 rfl (lv_at hl 1 rfl) ?_
    obtain ⟨r36, er36, hf⟩ := fp_b hf
    refine kc_rwV (w2 := ([(hMs, .inr (5, [.ref hTo, .ref hRmR, .ref hRmT, .ref hPa, .ref hWa, .ref hBe])), (hRmR, .inr (2, [.ref hKdR, .int coR, .int roR])), (hKdR, .inl (cI, 20, .inl kdR)), (hBe, .inr (0, [.ref hBp, .ref hBn, .ref hBr, .ref hBo, .ref hBs, .int r36.1, .long r36.2.1])), (hBp, .inl (cI, 10, .inl r36.2.2.1)), (hBn, .inl (cI, 60, .inl r36.2.2.2.1)), (hBr, .inl (cI, 20, .inl r36.2.2.2.2.1)), (hBs, .inl (cJ, 60, .inr (.inl r36.2.2.2.2.2.1))), (hBo, .inl (cQ, 10, .inr (.inr (.inr (.inr (gr_o hBg))))))] ++ gr_c cJ hBg r36.2.2.2.2.2.2)) (RwV.runV (c_X0_shine (l := l) (D := D) (cI := cI) (cJ := cJ) (cZ := cZ) (cQ := cQ) (qs := qs) er36) F (cwV 2 hts gX5_alike_X0_shine rfl rfl rfl yd_X0_shine ⟨Nat.le_of_ble_eq_true rfl, Nat.le_of_ble_eq_true rfl⟩) hG hP hD hS hA [3, 1, 2, 4, 5, 6, 7, 8, 9, 10, 11, 12, 13, 14, 15, 16, 17, 18] (by decide) rfl 0 rfl rfl rfl hl.1 rfl (Nat.le_of_ble_eq_true rfl) dX5_alike_20 ⟨Nat.zero_le _, Nat.zero_le _⟩) hP hD hS hA [3, 1, 2, 4, 5, 6, 7, 8, 9, 10, 11, 12, 13, 14, 15, 16, 17, 18] [0] [0, 2, 3, 1, 4, 5, 6, 7, 8, 9, 10, 11, 12, 13, 14, 15, 16, 17, 18] rfl (wr := [(hMs, .inr (5, [.ref hTo, .ref hRmR, .ref hRmT, .ref hPa, .ref hWa, .ref hBe]))]) rfl (by decide) (by decide) rfl (by decide) (fun H locs hP hD hS => ?_)
    refine lv_aload_n hx hb dX5_alike_23 rfl (lv_at hl 0 rfl) ?_
    refine va_get (D := D) (ci := 5) (v := .ref hBe) (C := RX5) (T := TX5) (N := 6) hx hb hts ku_X5_alike_X5 hown hK hP 0 rfl rfl 5 (by decide) (hts _ kw_X5_alike_1) (fun _ h9 => h9) rfl dX5_alike_24 ?_
    obtain ⟨r37, er37, hf⟩ := fp_b hf
    refine RoL.callV (c_X0_swallowed (l := l) (D := D) (cI := cI) (cJ := cJ) (cZ := cZ) (cQ := cQ) (qs := qs) er37) F (cwV 0 hts gX5_alike_X0_swallowed rfl rfl rfl yd_X0_swallowed ⟨Nat.le_of_ble_eq_true rfl, Nat.le_of_ble_eq_true rfl⟩) (hG.r hS) hP [3, 7] rfl 0 rfl rfl rfl hl.1 rfl (Nat.le_of_ble_eq_true rfl) dX5_alike_27 ⟨Nat.zero_le _, Nat.zero_le _⟩ ?_
    refine lv_lstore_n (lv' := [(3, .long r37), (0, .ref hMs), (1, .int x1), (2, .int x2)]) hx hb dX5_alike_30 rfl hl (by decide) rfl (fun ls hl => ?_)
    refine lv_aload_n hx hb dX5_alike_31 rfl (lv_at hl 1 rfl) ?_
    refine va_get (D := D) (ci := 5) (v := .ref hBe) (C := RX5) (T := TX5) (N := 6) hx hb hts ku_X5_alike_X5 hown hK hP 0 rfl rfl 5 (by decide) (hts _ kw_X5_alike_1) (fun _ h9 => h9) rfl dX5_alike_32 ?_
    obtain ⟨r38, er38, hf⟩ := fp_b hf
    refine RoL.callV (c_X0_caught (l := l) (D := D) (cI := cI) (cJ := cJ) (cZ := cZ) (cQ := cQ) (qs := qs) er38) F (cwV 0 hts gX5_alike_X0_caught rfl rfl rfl yd_X0_caught ⟨Nat.le_of_ble_eq_true rfl, Nat.le_of_ble_eq_true rfl⟩) (hG.r hS) hP [3, 7] rfl 0 rfl rfl rfl hl.1 rfl (Nat.le_of_ble_eq_true rfl) dX5_alike_35 ⟨Nat.zero_le _, Nat.zero_le _⟩ ?_
    refine lv_lstore (lv' := [(5, .long r38), (3, .long r37), (0, .ref hMs), (1, .int x1), (2, .int x2)]) hx hb dX5_alike_38 hl (by decide) rfl (fun ls hl => ?_)
    refine lv_aload_n hx hb dX5_alike_40 rfl (lv_at hl 2 rfl) ?_
    refine va_get (D := D) (ci := 5) (v := .ref hBe) (C := RX5) (T := TX5) (N := 6) hx hb hts ku_X5_alike_X5 hown hK hP 0 rfl rfl 5 (by decide) (hts _ kw_X5_alike_1) (fun _ h9 => h9) rfl dX5_alike_41 ?_
    refine va_getN (D := D) (ci := 0) (v := .long r36.2.1) (C := RX0) (T := TX0) (N := 7) (host := "MirrorShares") hx hb hts ku_X5_alike_X0 hown hK hP 3 rfl rfl 6 (by decide) (nwf_6 hG.1) (fun _ h9 => h9) rfl dX5_alike_44 ?_
    refine lv_lstore (lv' := [(7, .long r36.2.1), (5, .long r38), (3, .long r37), (0, .ref hMs), (1, .int x1), (2, .int x2)]) hx hb dX5_alike_47 hl (by decide) rfl (fun ls hl => ?_)
    refine lv_aload_n hx hb dX5_alike_49 rfl (lv_at hl 3 rfl) ?_
    refine va_get (D := D) (ci := 5) (v := .ref hBe) (C := RX5) (T := TX5) (N := 6) hx hb hts ku_X5_alike_X5 hown hK hP 0 rfl rfl 5 (by decide) (hts _ kw_X5_alike_1) (fun _ h9 => h9) rfl dX5_alike_50 ?_
    refine lv_aload_n hx hb dX5_alike_53 rfl (lv_at hl 3 rfl) ?_
    refine va_get (D := D) (ci := 5) (v := .ref hRmR) (C := RX5) (T := TX5) (N := 6) hx hb hts ku_X5_alike_X5 hown hK hP 0 rfl rfl 1 (by decide) (hts _ kw_X5_alike_2) (fun _ h9 => h9) rfl dX5_alike_54 ?_
    refine lv_iload_n hx hb dX5_alike_57 rfl (lv_at hl 5 rfl) ?_
    obtain ⟨r39, er39, hf⟩ := fp_b hf
    refine kc_rwV (w2 := ([(hMs, .inr (5, [.ref hTo, .ref hRmR, .ref hRmT, .ref hPa, .ref hWa, .ref hBe])), (hRmR, .inr (2, [.ref hKdR, .int coR, .int roR])), (hKdR, .inl (cI, 20, .inl kdR)), (hBe, .inr (0, [.ref hBp, .ref hBn, .ref hBr, .ref hBo, .ref hBs, .int r39.1, .long r39.2.1])), (hBp, .inl (cI, 10, .inl r39.2.2.1)), (hBn, .inl (cI, 60, .inl r39.2.2.2.1)), (hBr, .inl (cI, 20, .inl r39.2.2.2.2.1)), (hBs, .inl (cJ, 60, .inr (.inl r39.2.2.2.2.2.1))), (hBo, .inl (cQ, 10, .inr (.inr (.inr (.inr (gr_o hBg))))))] ++ gr_c cJ hBg r39.2.2.2.2.2.2)) (RwV.runV (c_X0_shine (l := l) (D := D) (cI := cI) (cJ := cJ) (cZ := cZ) (cQ := cQ) (qs := qs) er39) F (cwV 2 hts gX5_alike_X0_shine rfl rfl rfl yd_X0_shine ⟨Nat.le_of_ble_eq_true rfl, Nat.le_of_ble_eq_true rfl⟩) hG hP hD hS hA [3, 1, 2, 4, 5, 6, 7, 8, 9, 10, 11, 12, 13, 14, 15, 16, 17, 18] (by decide) rfl 0 rfl rfl rfl hl.1 rfl (Nat.le_of_ble_eq_true rfl) dX5_alike_58 ⟨Nat.zero_le _, Nat.zero_le _⟩) hP hD hS hA [3, 1, 2, 4, 5, 6, 7, 8, 9, 10, 11, 12, 13, 14, 15, 16, 17, 18] [0] [0, 2, 3, 1, 4, 5, 6, 7, 8, 9, 10, 11, 12, 13, 14, 15, 16, 17, 18] rfl (wr := [(hMs, .inr (5, [.ref hTo, .ref hRmR, .ref hRmT, .ref hPa, .ref hWa, .ref hBe]))]) rfl (by decide) (by decide) rfl (by decide) (fun H locs hP hD hS => ?_)
    refine lv_lload_n hx hb dX5_alike_61 rfl (lv_at hl 2 rfl) ?_
    refine lv_lload hx hb dX5_alike_62 (lv_at hl 0 rfl) ?_
    refine lv_aload_n hx hb dX5_alike_64 rfl (lv_at hl 3 rfl) ?_
    refine va_get (D := D) (ci := 5) (v := .ref hBe) (C := RX5) (T := TX5) (N := 6) hx hb hts ku_X5_alike_X5 hown hK hP 0 rfl rfl 5 (by decide) (hts _ kw_X5_alike_1) (fun _ h9 => h9) rfl dX5_alike_65 ?_
    obtain ⟨r40, er40, hf⟩ := fp_b hf
    refine RoL.callV (c_X0_swallowed (l := l) (D := D) (cI := cI) (cJ := cJ) (cZ := cZ) (cQ := cQ) (qs := qs) er40) F (cwV 0 hts gX5_alike_X0_swallowed rfl rfl rfl yd_X0_swallowed ⟨Nat.le_of_ble_eq_true rfl, Nat.le_of_ble_eq_true rfl⟩) (hG.r hS) hP [3, 7] rfl 0 rfl rfl rfl hl.1 rfl (Nat.le_of_ble_eq_true rfl) dX5_alike_68 ⟨Nat.zero_le _, Nat.zero_le _⟩ ?_
    refine lv_aload_n hx hb dX5_alike_71 rfl (lv_at hl 3 rfl) ?_
    refine va_get (D := D) (ci := 5) (v := .ref hBe) (C := RX5) (T := TX5) (N := 6) hx hb hts ku_X5_alike_X5 hown hK hP 0 rfl rfl 5 (by decide) (hts _ kw_X5_alike_1) (fun _ h9 => h9) rfl dX5_alike_72 ?_
    refine va_getN (D := D) (ci := 0) (v := .long r39.2.1) (C := RX0) (T := TX0) (N := 7) (host := "MirrorShares") hx hb hts ku_X5_alike_X0 hown hK hP 3 rfl rfl 6 (by decide) (nwf_6 hG.1) (fun _ h9 => h9) rfl dX5_alike_75 ?_
    obtain ⟨r41, er41, hf⟩ := fp_b hf
    refine RoI.callS (c_X5_compareFractions (l := l) (D := D) (cI := cI) (cJ := cJ) (cZ := cZ) (cQ := cQ) (qs := qs) er41) F (va_cwS 4 hts gX5_alike_X5_compareFractions rfl rfl rfl yd_X5_compareFractions ⟨Nat.le_of_ble_eq_true rfl, Nat.le_of_ble_eq_true rfl⟩) (hG.r hS) hP [] rfl rfl hl.1 rfl (Nat.le_of_ble_eq_true rfl) dX5_alike_78 ⟨Nat.zero_le _, Nat.zero_le _⟩ ?_
    refine lv_if_ne (tgt := 112) hx hb dX5_alike_81 (by decide) (fun c42 => ?_) (fun c42 => ?_)
    · have hf := fp_f hf c42
      refine lv_iconst (v := (0 : Int32)) hx hb dX5_alike_112 (by decide) ?_
      refine lv_istore (lv' := [(9, .int (0 : Int32)), (7, .long r36.2.1), (5, .long r38), (3, .long r37), (0, .ref hMs), (1, .int x1), (2, .int x2)]) hx hb dX5_alike_113 hl (by decide) rfl (fun ls hl => ?_)
      refine lv_iload hx hb dX5_alike_115 (lv_at hl 0 rfl) ?_
      refine lv_if_eq (tgt := 124) hx hb dX5_alike_117 (by decide) (fun c43 => ?_) (fun c43 => absurd (by decide) c43)
      refine lv_iconst (v := (0 : Int32)) hx hb dX5_alike_124 (by decide) ?_
      cases hf
      exact hret _ _ _ _ dX5_alike_125 (vp_nar_int _) hP hD hS
    · have hf := fp_t hf c42
      refine lv_lload hx hb dX5_alike_84 (lv_at hl 1 rfl) ?_
      refine lv_lload hx hb dX5_alike_86 (lv_at hl 0 rfl) ?_
      refine lv_aload_n hx hb dX5_alike_88 rfl (lv_at hl 3 rfl) ?_
      refine va_get (D := D) (ci := 5) (v := .ref hBe) (C := RX5) (T := TX5) (N := 6) hx hb hts ku_X5_alike_X5 hown hK hP 0 rfl rfl 5 (by decide) (hts _ kw_X5_alike_1) (fun _ h9 => h9) rfl dX5_alike_89 ?_
      obtain ⟨r44, er44, hf⟩ := fp_b hf
      refine RoL.callV (c_X0_caught (l := l) (D := D) (cI := cI) (cJ := cJ) (cZ := cZ) (cQ := cQ) (qs := qs) er44) F (cwV 0 hts gX5_alike_X0_caught rfl rfl rfl yd_X0_caught ⟨Nat.le_of_ble_eq_true rfl, Nat.le_of_ble_eq_true rfl⟩) (hG.r hS) hP [3, 7] rfl 0 rfl rfl rfl hl.1 rfl (Nat.le_of_ble_eq_true rfl) dX5_alike_92 ⟨Nat.zero_le _, Nat.zero_le _⟩ ?_
      refine lv_aload_n hx hb dX5_alike_95 rfl (lv_at hl 3 rfl) ?_
      refine va_get (D := D) (ci := 5) (v := .ref hBe) (C := RX5) (T := TX5) (N := 6) hx hb hts ku_X5_alike_X5 hown hK hP 0 rfl rfl 5 (by decide) (hts _ kw_X5_alike_1) (fun _ h9 => h9) rfl dX5_alike_96 ?_
      refine va_getN (D := D) (ci := 0) (v := .long r39.2.1) (C := RX0) (T := TX0) (N := 7) (host := "MirrorShares") hx hb hts ku_X5_alike_X0 hown hK hP 3 rfl rfl 6 (by decide) (nwf_6 hG.1) (fun _ h9 => h9) rfl dX5_alike_99 ?_
      obtain ⟨r45, er45, hf⟩ := fp_b hf
      refine RoI.callS (c_X5_compareFractions (l := l) (D := D) (cI := cI) (cJ := cJ) (cZ := cZ) (cQ := cQ) (qs := qs) er45) F (va_cwS 4 hts gX5_alike_X5_compareFractions rfl rfl rfl yd_X5_compareFractions ⟨Nat.le_of_ble_eq_true rfl, Nat.le_of_ble_eq_true rfl⟩) (hG.r hS) hP [] rfl rfl hl.1 rfl (Nat.le_of_ble_eq_true rfl) dX5_alike_102 ⟨Nat.zero_le _, Nat.zero_le _⟩ ?_
      refine lv_if_ne (tgt := 112) hx hb dX5_alike_105 (by decide) (fun c46 => ?_) (fun c46 => ?_)
      · have hf := fp_f hf c46
        refine lv_iconst (v := (0 : Int32)) hx hb dX5_alike_112 (by decide) ?_
        refine lv_istore (lv' := [(9, .int (0 : Int32)), (7, .long r36.2.1), (5, .long r38), (3, .long r37), (0, .ref hMs), (1, .int x1), (2, .int x2)]) hx hb dX5_alike_113 hl (by decide) rfl (fun ls hl => ?_)
        refine lv_iload hx hb dX5_alike_115 (lv_at hl 0 rfl) ?_
        refine lv_if_eq (tgt := 124) hx hb dX5_alike_117 (by decide) (fun c47 => ?_) (fun c47 => absurd (by decide) c47)
        refine lv_iconst (v := (0 : Int32)) hx hb dX5_alike_124 (by decide) ?_
        cases hf
        exact hret _ _ _ _ dX5_alike_125 (vp_nar_int _) hP hD hS
      · have hf := fp_t hf c46
        refine lv_iconst (v := (1 : Int32)) hx hb dX5_alike_108 (by decide) ?_
        refine lv_goto (tgt := 113) hx hb dX5_alike_109 (by decide) ?_
        refine lv_istore (lv' := [(9, .int (1 : Int32)), (7, .long r36.2.1), (5, .long r38), (3, .long r37), (0, .ref hMs), (1, .int x1), (2, .int x2)]) hx hb dX5_alike_113 hl (by decide) rfl (fun ls hl => ?_)
        refine lv_iload hx hb dX5_alike_115 (lv_at hl 0 rfl) ?_
        refine lv_if_eq (tgt := 124) hx hb dX5_alike_117 (by decide) (fun c48 => absurd c48 (by decide)) (fun c48 => ?_)
        refine lv_iconst (v := (1 : Int32)) hx hb dX5_alike_120 (by decide) ?_
        refine lv_goto (tgt := 125) hx hb dX5_alike_121 (by decide) ?_
        cases hf
        exact hret _ _ _ _ dX5_alike_125 (vp_nar_int _) hP hD hS
  · have hf := fp_t hf c35
    refine lv_iconst (v := (-1 : Int32)) hx hb dX5_alike_9 (by decide) ?_
    cases hf
    exact hret _ _ _ _ dX5_alike_10 (vp_nar_int _) hP hD hS
set_option maxRecDepth 100000 in
theorem c_X5_alike {l : Launch} {D : va_G} {cI cJ cZ cQ : ClassId} {qs : Nat × Nat × Nat} {hMs hTo hRmR hRmT hPa hWa hBe hKdR hBp hBn hBr hBo hBs : Nat} {hBg : Nat → Nat} {coR : Int32} {roR : Int32} {kdR : Nat → Int32} {bq : Int32} {bw : Int64} {bp : Nat → Int32} {bn : Nat → Int32} {br : Nat → Int32} {bs : Nat → Int64} {bM : Nat → Nat → Int64} {x1 : Int32} {x2 : Int32} {out : Int32 × Int32 × Int64 × (Nat → Int32) × (Nat → Int32) × (Nat → Int32) × (Nat → Int64) × (Nat → Nat → Int64)} (hf : f_X5_alike coR roR kdR bq bw bp bn br bs bM x1 x2 = some out) : RwI l yX5_alike wsX5_alike { frames := 6, cells := 0, slots := 0, locals := 139 } D (ty4 cI cJ cZ cQ) qs [.ref hMs, .int x1, .int x2] ([(hMs, .inr (5, [.ref hTo, .ref hRmR, .ref hRmT, .ref hPa, .ref hWa, .ref hBe])), (hRmR, .inr (2, [.ref hKdR, .int coR, .int roR])), (hKdR, .inl (cI, 20, .inl kdR)), (hBe, .inr (0, [.ref hBp, .ref hBn, .ref hBr, .ref hBo, .ref hBs, .int bq, .long bw])), (hBp, .inl (cI, 10, .inl bp)), (hBn, .inl (cI, 60, .inl bn)), (hBr, .inl (cI, 20, .inl br)), (hBs, .inl (cJ, 60, .inr (.inl bs))), (hBo, .inl (cQ, 10, .inr (.inr (.inr (.inr (gr_o hBg))))))] ++ gr_c cJ hBg bM) ([(hMs, .inr (5, [.ref hTo, .ref hRmR, .ref hRmT, .ref hPa, .ref hWa, .ref hBe])), (hRmR, .inr (2, [.ref hKdR, .int coR, .int roR])), (hKdR, .inl (cI, 20, .inl kdR)), (hBe, .inr (0, [.ref hBp, .ref hBn, .ref hBr, .ref hBo, .ref hBs, .int out.2.1, .long out.2.2.1])), (hBp, .inl (cI, 10, .inl out.2.2.2.1)), (hBn, .inl (cI, 60, .inl out.2.2.2.2.1)), (hBr, .inl (cI, 20, .inl out.2.2.2.2.2.1)), (hBs, .inl (cJ, 60, .inr (.inl out.2.2.2.2.2.2.1))), (hBo, .inl (cQ, 10, .inr (.inr (.inr (.inr (gr_o hBg))))))] ++ gr_c cJ hBg out.2.2.2.2.2.2.2) out.1 :=
  RwI.of (own := RX5) (by decide +kernel) rfl rfl (Nat.le_of_ble_eq_true rfl) (fun F hG hA hP hD hS hret ls hl => b_X5_alike F hG hA hP hD hS hf hret hl)
-- method X5_best
theorem yd_X5_best : yX5_best.cls = RX5 ∧ yX5_best.cls ≠ "java/lang/invoke/MethodHandle" ∧ yX5_best.cls ≠ "java/lang/invoke/VarHandle" ∧ (parseMethodDescriptor yX5_best.desc).map (fun d => d.parameters.length) = some 3 := by decide +kernel
theorem ku_X5_best_X5 : ∀ w ∈ u_ws RX5 TX5 6, w ∈ wsX5_best := by decide +kernel
theorem kw_X5_best_1 : Cond.fieldLink RX5 19 "MirrorShares" "room" "LMirrorShares$Room;" ∈ wsX5_best := List.mem_of_getElem? (i := 1) rfl
theorem kw_X5_best_2 : Cond.constantLong RX5 181 (-1) ∈ wsX5_best := List.mem_of_getElem? (i := 2) rfl
theorem kw_X5_best_3 : Cond.fieldLink RX5 43 "MirrorShares" "beam" "LMirrorShares$Beam;" ∈ wsX5_best := List.mem_of_getElem? (i := 3) rfl
theorem kw_X5_best_4 : Cond.fieldLink RX5 23 "MirrorShares" "trial" "LMirrorShares$Room;" ∈ wsX5_best := List.mem_of_getElem? (i := 4) rfl
theorem ku_X5_best_X0 : ∀ w ∈ u_ws RX0 TX0 7, w ∈ wsX5_best := by decide +kernel
def f_X5_best_48 (coR : Int32) (roR : Int32) (kdR : Nat → Int32) (y1 : Int32) (y2 : Int32) (y3 : Int32) (y4 : Int32) (y5 : Int32) (y6 : Int64) (y8 : Int64) (y10 : Int32) (coT : Int32) (roT : Int32) (kdT : Nat → Int32) (bq : Int32) (bw : Int64) (bp : Nat → Int32) (bn : Nat → Int32) (br : Nat → Int32) (bs : Nat → Int64) (bM : Nat → Nat → Int64) : Option ((Int32 × Int64 × Int64 × Int32 × Int32 × Int32 × (Nat → Int32) × Int32 × Int64 × (Nat → Int32) × (Nat → Int32) × (Nat → Int32) × (Nat → Int64) × (Nat → Nat → Int64)) ⊕ (Int32 × Int64 × Int64 × Int32 × Int32 × (Nat → Int32) × Int32 × Int64 × (Nat → Int32) × (Nat → Int32) × (Nat → Int32) × (Nat → Int64) × (Nat → Nat → Int64))) :=
  (if y4 ≤ y10 then some (Sum.inr (y5, y6, y8, coT, roT, kdT, bq, bw, bp, bn, br, bs, bM)) else Option.bind (f_X5_openOnly coR roR kdR coT roT kdT y10) (fun r55 => Option.bind (f_X0_shine r55.1 r55.2.1 r55.2.2 bq bw bp bn br bs bM y1) (fun r56 => Option.bind (f_X0_outAt r56.2.2.2.2.2.1 y2) (fun r57 => Option.bind (f_X5_compareFractions r57 r56.2.1 y6 y8) (fun r58 => (if 0 < r58 then Option.bind (f_X0_outAt r56.2.2.2.2.2.1 y2) (fun r60 => some (Sum.inl (y10, r60, r56.2.1, (y10 + (1 : Int32)), r55.1, r55.2.1, r55.2.2, r56.1, r56.2.1, r56.2.2.1, r56.2.2.2.1, r56.2.2.2.2.1, r56.2.2.2.2.2.1, r56.2.2.2.2.2.2))) else (if r58 = 0 then Option.bind (f_J6_bitCount_0f7a4 y10) (fun r62 => Option.bind (f_J6_bitCount_0f7a4 y5) (fun r63 => (if r63 ≤ r62 then some (Sum.inl (y5, y6, y8, (y10 + (1 : Int32)), r55.1, r55.2.1, r55.2.2, r56.1, r56.2.1, r56.2.2.1, r56.2.2.2.1, r56.2.2.2.2.1, r56.2.2.2.2.2.1, r56.2.2.2.2.2.2)) else Option.bind (f_X0_outAt r56.2.2.2.2.2.1 y2) (fun r65 => some (Sum.inl (y10, r65, r56.2.1, (y10 + (1 : Int32)), r55.1, r55.2.1, r55.2.2, r56.1, r56.2.1, r56.2.2.1, r56.2.2.2.1, r56.2.2.2.2.1, r56.2.2.2.2.2.1, r56.2.2.2.2.2.2)))))) else some (Sum.inl (y5, y6, y8, (y10 + (1 : Int32)), r55.1, r55.2.1, r55.2.2, r56.1, r56.2.1, r56.2.2.1, r56.2.2.2.1, r56.2.2.2.2.1, r56.2.2.2.2.2.1, r56.2.2.2.2.2.2)))))))))
set_option maxHeartbeats 4000000 in
set_option maxRecDepth 100000 in
theorem lp_X5_best_48 {p : Program} {l : Launch} {e : Env} {s : State} {m : MethodId} {args : Array Value} {below : List Frame} {meth : Method} {c : Code} {Q : State → Prop} {A : Nat → Prop} {D : va_G} {cI cJ cZ cQ : ClassId} {qs : Nat × Nat × Nat} {hMs hTo hRmR hRmT hPa hWa hBe hKdR hKdT hBp hBn hBr hBo hBs : Nat} {hBg : Nat → Nat} {coR : Int32} {roR : Int32} {kdR : Nat → Int32} {y1 : Int32} {y2 : Int32} {y3 : Int32} {y4 : Int32} (F : CallFix p m c cX5_best 12 s args wsX5_best RX5) (hG : kW D (ty4 cI cJ cZ cQ) qs A s s.heap) (hA : ∀ q : Nat, s.heap.size ≤ q → A q) :
    ∀ (n : Nat) {y5 : Int32} {y6 : Int64} {y8 : Int64} {y10 : Int32} {coT : Int32} {roT : Int32} {kdT : Nat → Int32} {bq : Int32} {bw : Int64} {bp : Nat → Int32} {bn : Nat → Int32} {br : Nat → Int32} {bs : Nat → Int64} {bM : Nat → Nat → Int64} (out : Int32 × Int64 × Int64 × Int32 × Int32 × (Nat → Int32) × Int32 × Int64 × (Nat → Int32) × (Nat → Int32) × (Nat → Int32) × (Nat → Int64) × (Nat → Nat → Int64)), lpf (fun s => f_X5_best_48 coR roR kdR y1 y2 y3 y4 s.1 s.2.1 s.2.2.1 s.2.2.2.1 s.2.2.2.2.1 s.2.2.2.2.2.1 s.2.2.2.2.2.2.1 s.2.2.2.2.2.2.2.1 s.2.2.2.2.2.2.2.2.1 s.2.2.2.2.2.2.2.2.2.1 s.2.2.2.2.2.2.2.2.2.2.1 s.2.2.2.2.2.2.2.2.2.2.2.1 s.2.2.2.2.2.2.2.2.2.2.2.2.1 s.2.2.2.2.2.2.2.2.2.2.2.2.2) n (y5, y6, y8, y10, coT, roT, kdT, bq, bw, bp, bn, br, bs, bM) = some out → ∀ {H : Heap} {locs : List Loc} {ls : Array Slot}, va_P D vwCl ([(hMs, .inr (5, [.ref hTo, .ref hRmR, .ref hRmT, .ref hPa, .ref hWa, .ref hBe])), (hRmR, .inr (2, [.ref hKdR, .int coR, .int roR])), (hKdR, .inl (cI, 20, .inl kdR)), (hRmT, .inr (2, [.ref hKdT, .int coT, .int roT])), (hKdT, .inl (cI, 20, .inl kdT)), (hBe, .inr (0, [.ref hBp, .ref hBn, .ref hBr, .ref hBo, .ref hBs, .int bq, .long bw])), (hBp, .inl (cI, 10, .inl bp)), (hBn, .inl (cI, 60, .inl bn)), (hBr, .inl (cI, 20, .inl br)), (hBs, .inl (cJ, 60, .inr (.inl bs))), (hBo, .inl (cQ, 10, .inr (.inr (.inr (.inr (gr_o hBg))))))] ++ gr_c cJ hBg bM) H → va_D A ([(hMs, .inr (5, [.ref hTo, .ref hRmR, .ref hRmT, .ref hPa, .ref hWa, .ref hBe])), (hRmR, .inr (2, [.ref hKdR, .int coR, .int roR])), (hKdR, .inl (cI, 20, .inl kdR)), (hRmT, .inr (2, [.ref hKdT, .int coT, .int roT])), (hKdT, .inl (cI, 20, .inl kdT)), (hBe, .inr (0, [.ref hBp, .ref hBn, .ref hBr, .ref hBo, .ref hBs, .int bq, .long bw])), (hBp, .inl (cI, 10, .inl bp)), (hBn, .inl (cI, 60, .inl bn)), (hBr, .inl (cI, 20, .inl br)), (hBs, .inl (cJ, 60, .inr (.inl bs))), (hBo, .inl (cQ, 10, .inr (.inr (.inr (.inr (gr_o hBg))))))] ++ gr_c cJ hBg bM) → va_S A s.heap H locs → lv_has ls 12 [(0, .ref hMs), (1, .int y1), (2, .int y2), (3, .int y3), (4, .int y4), (5, .int y5), (6, .long y6), (8, .long y8), (10, .int y10)] → (∀ (H : Heap) (locs : List Loc) (ls : Array Slot), va_P D vwCl ([(hMs, .inr (5, [.ref hTo, .ref hRmR, .ref hRmT, .ref hPa, .ref hWa, .ref hBe])), (hRmR, .inr (2, [.ref hKdR, .int coR, .int roR])), (hKdR, .inl (cI, 20, .inl kdR)), (hRmT, .inr (2, [.ref hKdT, .int out.2.2.2.1, .int out.2.2.2.2.1])), (hKdT, .inl (cI, 20, .inl out.2.2.2.2.2.1)), (hBe, .inr (0, [.ref hBp, .ref hBn, .ref hBr, .ref hBo, .ref hBs, .int out.2.2.2.2.2.2.1, .long out.2.2.2.2.2.2.2.1])), (hBp, .inl (cI, 10, .inl out.2.2.2.2.2.2.2.2.1)), (hBn, .inl (cI, 60, .inl out.2.2.2.2.2.2.2.2.2.1)), (hBr, .inl (cI, 20, .inl out.2.2.2.2.2.2.2.2.2.2.1)), (hBs, .inl (cJ, 60, .inr (.inl out.2.2.2.2.2.2.2.2.2.2.2.1))), (hBo, .inl (cQ, 10, .inr (.inr (.inr (.inr (gr_o hBg))))))] ++ gr_c cJ hBg out.2.2.2.2.2.2.2.2.2.2.2.2) H → va_D A ([(hMs, .inr (5, [.ref hTo, .ref hRmR, .ref hRmT, .ref hPa, .ref hWa, .ref hBe])), (hRmR, .inr (2, [.ref hKdR, .int coR, .int roR])), (hKdR, .inl (cI, 20, .inl kdR)), (hRmT, .inr (2, [.ref hKdT, .int out.2.2.2.1, .int out.2.2.2.2.1])), (hKdT, .inl (cI, 20, .inl out.2.2.2.2.2.1)), (hBe, .inr (0, [.ref hBp, .ref hBn, .ref hBr, .ref hBo, .ref hBs, .int out.2.2.2.2.2.2.1, .long out.2.2.2.2.2.2.2.1])), (hBp, .inl (cI, 10, .inl out.2.2.2.2.2.2.2.2.1)), (hBn, .inl (cI, 60, .inl out.2.2.2.2.2.2.2.2.2.1)), (hBr, .inl (cI, 20, .inl out.2.2.2.2.2.2.2.2.2.2.1)), (hBs, .inl (cJ, 60, .inr (.inl out.2.2.2.2.2.2.2.2.2.2.2.1))), (hBo, .inl (cQ, 10, .inr (.inr (.inr (.inr (gr_o hBg))))))] ++ gr_c cJ hBg out.2.2.2.2.2.2.2.2.2.2.2.2) → va_S A s.heap H locs → lv_has ls 12 [(0, .ref hMs), (1, .int y1), (2, .int y2), (3, .int y3), (4, .int y4), (5, .int out.1), (6, .long out.2.1), (8, .long out.2.2.1)] → W p l e { frames := 6, cells := 0, slots := 0, locals := 139 } s m args below meth c H locs 0 0 Q (F0 m 149 ls [])) → W p l e { frames := 6, cells := 0, slots := 0, locals := 139 } s m args below meth c H locs 0 0 Q (F0 m 48 ls []) := by
  have hx := F.1
  have hb := F.2.1
  have hown := F.2.2.2.1
  have hts := F.2.2.2.2
  have hK := hG.1.1
  intro n
  induction n with
  | zero =>
    intro y5 y6 y8 y10 coT roT kdT bq bw bp bn br bs bM out ho
    exact (fp_l0 ho).elim
  | succ n ih =>
    intro y5 y6 y8 y10 coT roT kdT bq bw bp bn br bs bM out ho H locs ls hP hD hS hl hex
    obtain ⟨o, hf, ho⟩ := fp_l ho
    have hf : f_X5_best_48 coR roR kdR y1 y2 y3 y4 y5 y6 y8 y10 coT roT kdT bq bw bp bn br bs bM = some o := hf
    rw [f_X5_best_48] at hf
    refine lv_iload hx hb dX5_best_48 (lv_at hl 8 rfl) ?_
    refine lv_iload hx hb dX5_best_50 (lv_at hl 4 rfl) ?_
    refine lv_icmp_ge (tgt := 149) hx hb dX5_best_52 (by decide) (fun c54 => ?_) (fun c54 => ?_)
    · have hf := fp_t hf c54
      cases hf
      have ho := fp_inr ho
      cases ho
      exact hex _ _ _ hP hD hS (lv_sub hl [0, 1, 2, 3, 4, 5, 6, 7] rfl)
    · have hf := fp_f hf c54
      refine lv_aload_n hx hb dX5_best_55 rfl (lv_at hl 0 rfl) ?_
      refine lv_iload hx hb dX5_best_56 (lv_at hl 8 rfl) ?_
      obtain ⟨r55, er55, hf⟩ := fp_b hf
      refine kc_rwV (w2 := ([(hMs, .inr (5, [.ref hTo, .ref hRmR, .ref hRmT, .ref hPa, .ref hWa, .ref hBe])), (hRmR, .inr (2, [.ref hKdR, .int coR, .int roR])), (hKdR, .inl (cI, 20, .inl kdR)), (hRmT, .inr (2, [.ref hKdT, .int r55.1, .int r55.2.1])), (hKdT, .inl (cI, 20, .inl r55.2.2)), (hBe, .inr (0, [.ref hBp, .ref hBn, .ref hBr, .ref hBo, .ref hBs, .int bq, .long bw])), (hBp, .inl (cI, 10, .inl bp)), (hBn, .inl (cI, 60, .inl bn)), (hBr, .inl (cI, 20, .inl br)), (hBs, .inl (cJ, 60, .inr (.inl bs))), (hBo, .inl (cQ, 10, .inr (.inr (.inr (.inr (gr_o hBg))))))] ++ gr_c cJ hBg bM)) (RwV.runV (c_X5_openOnly (l := l) (D := D) (cI := cI) (cJ := cJ) (cZ := cZ) (cQ := cQ) (qs := qs) er55) F (cwV 1 hts gX5_best_X5_openOnly rfl rfl rfl yd_X5_openOnly ⟨Nat.le_of_ble_eq_true rfl, Nat.le_of_ble_eq_true rfl⟩) hG hP hD hS hA [0, 1, 2, 3, 4] (by decide) rfl 5 rfl rfl rfl hl.1 rfl (Nat.le_of_ble_eq_true rfl) dX5_best_58 ⟨Nat.zero_le _, Nat.zero_le _⟩) hP hD hS hA [0, 1, 2, 3, 4] [5, 6, 7, 8, 9, 10, 11, 12, 13, 14, 15, 16, 17, 18, 19, 20] [16, 17, 18, 19, 20, 0, 1, 2, 3, 4, 5, 6, 7, 8, 9, 10, 11, 12, 13, 14, 15] rfl (wr := ([(hBe, .inr (0, [.ref hBp, .ref hBn, .ref hBr, .ref hBo, .ref hBs, .int bq, .long bw])), (hBp, .inl (cI, 10, .inl bp)), (hBn, .inl (cI, 60, .inl bn)), (hBr, .inl (cI, 20, .inl br)), (hBs, .inl (cJ, 60, .inr (.inl bs))), (hBo, .inl (cQ, 10, .inr (.inr (.inr (.inr (gr_o hBg))))))] ++ gr_c cJ hBg bM)) rfl (by decide) (by decide) rfl (by decide) (fun H locs hP hD hS => ?_)
      refine lv_aload_n hx hb dX5_best_61 rfl (lv_at hl 0 rfl) ?_
      refine va_get (D := D) (ci := 5) (v := .ref hBe) (C := RX5) (T := TX5) (N := 6) hx hb hts ku_X5_best_X5 hown hK hP 0 rfl rfl 5 (by decide) (hts _ kw_X5_best_3) (fun _ h9 => h9) rfl dX5_best_62 ?_
      refine lv_aload_n hx hb dX5_best_65 rfl (lv_at hl 0 rfl) ?_
      refine va_get (D := D) (ci := 5) (v := .ref hRmT) (C := RX5) (T := TX5) (N := 6) hx hb hts ku_X5_best_X5 hown hK hP 0 rfl rfl 2 (by decide) (hts _ kw_X5_best_4) (fun _ h9 => h9) rfl dX5_best_66 ?_
      refine lv_iload_n hx hb dX5_best_69 rfl (lv_at hl 1 rfl) ?_
      obtain ⟨r56, er56, hf⟩ := fp_b hf
      refine kc_rwV (w2 := ([(hMs, .inr (5, [.ref hTo, .ref hRmR, .ref hRmT, .ref hPa, .ref hWa, .ref hBe])), (hRmR, .inr (2, [.ref hKdR, .int coR, .int roR])), (hKdR, .inl (cI, 20, .inl kdR)), (hRmT, .inr (2, [.ref hKdT, .int r55.1, .int r55.2.1])), (hKdT, .inl (cI, 20, .inl r55.2.2)), (hBe, .inr (0, [.ref hBp, .ref hBn, .ref hBr, .ref hBo, .ref hBs, .int r56.1, .long r56.2.1])), (hBp, .inl (cI, 10, .inl r56.2.2.1)), (hBn, .inl (cI, 60, .inl r56.2.2.2.1)), (hBr, .inl (cI, 20, .inl r56.2.2.2.2.1)), (hBs, .inl (cJ, 60, .inr (.inl r56.2.2.2.2.2.1))), (hBo, .inl (cQ, 10, .inr (.inr (.inr (.inr (gr_o hBg))))))] ++ gr_c cJ hBg r56.2.2.2.2.2.2)) (RwV.runV (c_X0_shine (l := l) (D := D) (cI := cI) (cJ := cJ) (cZ := cZ) (cQ := cQ) (qs := qs) er56) F (cwV 2 hts gX5_best_X0_shine rfl rfl rfl yd_X0_shine ⟨Nat.le_of_ble_eq_true rfl, Nat.le_of_ble_eq_true rfl⟩) hG hP hD hS hA [5, 3, 4, 6, 7, 8, 9, 10, 11, 12, 13, 14, 15, 16, 17, 18, 19, 20] (by decide) rfl 0 rfl rfl rfl hl.1 rfl (Nat.le_of_ble_eq_true rfl) dX5_best_70 ⟨Nat.zero_le _, Nat.zero_le _⟩) hP hD hS hA [5, 3, 4, 6, 7, 8, 9, 10, 11, 12, 13, 14, 15, 16, 17, 18, 19, 20] [0, 1, 2] [0, 1, 2, 4, 5, 3, 6, 7, 8, 9, 10, 11, 12, 13, 14, 15, 16, 17, 18, 19, 20] rfl (wr := [(hMs, .inr (5, [.ref hTo, .ref hRmR, .ref hRmT, .ref hPa, .ref hWa, .ref hBe])), (hRmR, .inr (2, [.ref hKdR, .int coR, .int roR])), (hKdR, .inl (cI, 20, .inl kdR))]) rfl (by decide) (by decide) rfl (by decide) (fun H locs hP hD hS => ?_)
      refine lv_aload_n hx hb dX5_best_73 rfl (lv_at hl 0 rfl) ?_
      refine va_get (D := D) (ci := 5) (v := .ref hBe) (C := RX5) (T := TX5) (N := 6) hx hb hts ku_X5_best_X5 hown hK hP 0 rfl rfl 5 (by decide) (hts _ kw_X5_best_3) (fun _ h9 => h9) rfl dX5_best_74 ?_
      refine lv_iload_n hx hb dX5_best_77 rfl (lv_at hl 2 rfl) ?_
      obtain ⟨r57, er57, hf⟩ := fp_b hf
      refine RoL.callV (c_X0_outAt (l := l) (D := D) (cI := cI) (cJ := cJ) (cZ := cZ) (cQ := cQ) (qs := qs) er57) F (cwV 1 hts gX5_best_X0_outAt rfl rfl rfl yd_X0_outAt ⟨Nat.le_of_ble_eq_true rfl, Nat.le_of_ble_eq_true rfl⟩) (hG.r hS) hP [5, 9] rfl 0 rfl rfl rfl hl.1 rfl (Nat.le_of_ble_eq_true rfl) dX5_best_78 ⟨Nat.zero_le _, Nat.zero_le _⟩ ?_
      refine lv_aload_n hx hb dX5_best_81 rfl (lv_at hl 0 rfl) ?_
      refine va_get (D := D) (ci := 5) (v := .ref hBe) (C := RX5) (T := TX5) (N := 6) hx hb hts ku_X5_best_X5 hown hK hP 0 rfl rfl 5 (by decide) (hts _ kw_X5_best_3) (fun _ h9 => h9) rfl dX5_best_82 ?_
      refine va_getN (D := D) (ci := 0) (v := .long r56.2.1) (C := RX0) (T := TX0) (N := 7) (host := "MirrorShares") hx hb hts ku_X5_best_X0 hown hK hP 5 rfl rfl 6 (by decide) (nwf_6 hG.1) (fun _ h9 => h9) rfl dX5_best_85 ?_
      refine lv_lload hx hb dX5_best_88 (lv_at hl 6 rfl) ?_
      refine lv_lload hx hb dX5_best_90 (lv_at hl 7 rfl) ?_
      obtain ⟨r58, er58, hf⟩ := fp_b hf
      refine RoI.callS (c_X5_compareFractions (l := l) (D := D) (cI := cI) (cJ := cJ) (cZ := cZ) (cQ := cQ) (qs := qs) er58) F (va_cwS 4 hts gX5_best_X5_compareFractions rfl rfl rfl yd_X5_compareFractions ⟨Nat.le_of_ble_eq_true rfl, Nat.le_of_ble_eq_true rfl⟩) (hG.r hS) hP [] rfl rfl hl.1 rfl (Nat.le_of_ble_eq_true rfl) dX5_best_92 ⟨Nat.zero_le _, Nat.zero_le _⟩ ?_
      refine lv_istore (lv' := [(11, .int r58), (0, .ref hMs), (1, .int y1), (2, .int y2), (3, .int y3), (4, .int y4), (5, .int y5), (6, .long y6), (8, .long y8), (10, .int y10)]) hx hb dX5_best_95 hl (by decide) rfl (fun ls hl => ?_)
      refine lv_iload hx hb dX5_best_97 (lv_at hl 0 rfl) ?_
      refine lv_if_gt (tgt := 120) hx hb dX5_best_99 (by decide) (fun c59 => ?_) (fun c59 => ?_)
      · have hf := fp_t hf c59
        refine lv_iload hx hb dX5_best_120 (lv_at hl 9 rfl) ?_
        refine lv_istore (lv' := [(5, .int y10), (11, .int r58), (0, .ref hMs), (1, .int y1), (2, .int y2), (3, .int y3), (4, .int y4), (6, .long y6), (8, .long y8), (10, .int y10)]) hx hb dX5_best_122 hl (by decide) rfl (fun ls hl => ?_)
        refine lv_aload_n hx hb dX5_best_124 rfl (lv_at hl 2 rfl) ?_
        refine va_get (D := D) (ci := 5) (v := .ref hBe) (C := RX5) (T := TX5) (N := 6) hx hb hts ku_X5_best_X5 hown hK hP 0 rfl rfl 5 (by decide) (hts _ kw_X5_best_3) (fun _ h9 => h9) rfl dX5_best_125 ?_
        refine lv_iload_n hx hb dX5_best_128 rfl (lv_at hl 4 rfl) ?_
        obtain ⟨r60, er60, hf⟩ := fp_b hf
        refine RoL.callV (c_X0_outAt (l := l) (D := D) (cI := cI) (cJ := cJ) (cZ := cZ) (cQ := cQ) (qs := qs) er60) F (cwV 1 hts gX5_best_X0_outAt rfl rfl rfl yd_X0_outAt ⟨Nat.le_of_ble_eq_true rfl, Nat.le_of_ble_eq_true rfl⟩) (hG.r hS) hP [5, 9] rfl 0 rfl rfl rfl hl.1 rfl (Nat.le_of_ble_eq_true rfl) dX5_best_129 ⟨Nat.zero_le _, Nat.zero_le _⟩ ?_
        refine lv_lstore (lv' := [(6, .long r60), (5, .int y10), (11, .int r58), (0, .ref hMs), (1, .int y1), (2, .int y2), (3, .int y3), (4, .int y4), (8, .long y8), (10, .int y10)]) hx hb dX5_best_132 hl (by decide) rfl (fun ls hl => ?_)
        refine lv_aload_n hx hb dX5_best_134 rfl (lv_at hl 3 rfl) ?_
        refine va_get (D := D) (ci := 5) (v := .ref hBe) (C := RX5) (T := TX5) (N := 6) hx hb hts ku_X5_best_X5 hown hK hP 0 rfl rfl 5 (by decide) (hts _ kw_X5_best_3) (fun _ h9 => h9) rfl dX5_best_135 ?_
        refine va_getN (D := D) (ci := 0) (v := .long r56.2.1) (C := RX0) (T := TX0) (N := 7) (host := "MirrorShares") hx hb hts ku_X5_best_X0 hown hK hP 5 rfl rfl 6 (by decide) (nwf_6 hG.1) (fun _ h9 => h9) rfl dX5_best_138 ?_
        refine lv_lstore (lv' := [(8, .long r56.2.1), (6, .long r60), (5, .int y10), (11, .int r58), (0, .ref hMs), (1, .int y1), (2, .int y2), (3, .int y3), (4, .int y4), (10, .int y10)]) hx hb dX5_best_141 hl (by decide) rfl (fun ls hl => ?_)
        refine lv_iinc (v := (y10 + (1 : Int32))) (lv' := [(10, .int (y10 + (1 : Int32))), (8, .long r56.2.1), (6, .long r60), (5, .int y10), (11, .int r58), (0, .ref hMs), (1, .int y1), (2, .int y2), (3, .int y3), (4, .int y4)]) hx hb dX5_best_143 hl (k := 9) rfl rfl (by decide) rfl (fun ls hl => ?_)
        refine lv_goto (tgt := 48) hx hb dX5_best_146 (by decide) ?_
        cases hf
        exact ih _ (fp_inl ho) hP hD hS (lv_sub hl [5, 6, 7, 8, 9, 3, 2, 1, 0] rfl) hex
      · have hf := fp_f hf c59
        refine lv_iload hx hb dX5_best_102 (lv_at hl 0 rfl) ?_
        refine lv_if_ne (tgt := 143) hx hb dX5_best_104 (by decide) (fun c61 => ?_) (fun c61 => ?_)
        · have hf := fp_f hf c61
          refine lv_iinc (v := (y10 + (1 : Int32))) (lv' := [(10, .int (y10 + (1 : Int32))), (11, .int r58), (0, .ref hMs), (1, .int y1), (2, .int y2), (3, .int y3), (4, .int y4), (5, .int y5), (6, .long y6), (8, .long y8)]) hx hb dX5_best_143 hl (k := 9) rfl rfl (by decide) rfl (fun ls hl => ?_)
          refine lv_goto (tgt := 48) hx hb dX5_best_146 (by decide) ?_
          cases hf
          exact ih _ (fp_inl ho) hP hD hS (lv_sub hl [2, 3, 4, 5, 6, 7, 8, 9, 0] rfl) hex
        · have hf := fp_t hf c61
          refine lv_iload hx hb dX5_best_107 (lv_at hl 9 rfl) ?_
          obtain ⟨r62, er62, hf⟩ := fp_b hf
          refine RoI.callS (c_J6_bitCount_0f7a4 (l := l) (D := D) (cI := cI) (cJ := cJ) (cZ := cZ) (cQ := cQ) (qs := qs) er62) F (va_cwS 1 hts gX5_best_J6_bitCount_0f7a4 rfl rfl rfl yd_J6_bitCount_0f7a4 ⟨Nat.le_of_ble_eq_true rfl, Nat.le_of_ble_eq_true rfl⟩) (hG.r hS) hP [] rfl rfl hl.1 rfl (Nat.le_of_ble_eq_true rfl) dX5_best_109 ⟨Nat.zero_le _, Nat.zero_le _⟩ ?_
          refine lv_iload hx hb dX5_best_112 (lv_at hl 6 rfl) ?_
          obtain ⟨r63, er63, hf⟩ := fp_b hf
          refine RoI.callS (c_J6_bitCount_0f7a4 (l := l) (D := D) (cI := cI) (cJ := cJ) (cZ := cZ) (cQ := cQ) (qs := qs) er63) F (va_cwS 1 hts gX5_best_J6_bitCount_0f7a4 rfl rfl rfl yd_J6_bitCount_0f7a4 ⟨Nat.le_of_ble_eq_true rfl, Nat.le_of_ble_eq_true rfl⟩) (hG.r hS) hP [] rfl rfl hl.1 rfl (Nat.le_of_ble_eq_true rfl) dX5_best_114 ⟨Nat.zero_le _, Nat.zero_le _⟩ ?_
          refine lv_icmp_ge (tgt := 143) hx hb dX5_best_117 (by decide) (fun c64 => ?_) (fun c64 => ?_)
          · have hf := fp_t hf c64
            refine lv_iinc (v := (y10 + (1 : Int32))) (lv' := [(10, .int (y10 + (1 : Int32))), (11, .int r58), (0, .ref hMs), (1, .int y1), (2, .int y2), (3, .int y3), (4, .int y4), (5, .int y5), (6, .long y6), (8, .long y8)]) hx hb dX5_best_143 hl (k := 9) rfl rfl (by decide) rfl (fun ls hl => ?_)
            refine lv_goto (tgt := 48) hx hb dX5_best_146 (by decide) ?_
            cases hf
            exact ih _ (fp_inl ho) hP hD hS (lv_sub hl [2, 3, 4, 5, 6, 7, 8, 9, 0] rfl) hex
          · have hf := fp_f hf c64
            refine lv_iload hx hb dX5_best_120 (lv_at hl 9 rfl) ?_
            refine lv_istore (lv' := [(5, .int y10), (11, .int r58), (0, .ref hMs), (1, .int y1), (2, .int y2), (3, .int y3), (4, .int y4), (6, .long y6), (8, .long y8), (10, .int y10)]) hx hb dX5_best_122 hl (by decide) rfl (fun ls hl => ?_)
            refine lv_aload_n hx hb dX5_best_124 rfl (lv_at hl 2 rfl) ?_
            refine va_get (D := D) (ci := 5) (v := .ref hBe) (C := RX5) (T := TX5) (N := 6) hx hb hts ku_X5_best_X5 hown hK hP 0 rfl rfl 5 (by decide) (hts _ kw_X5_best_3) (fun _ h9 => h9) rfl dX5_best_125 ?_
            refine lv_iload_n hx hb dX5_best_128 rfl (lv_at hl 4 rfl) ?_
            obtain ⟨r65, er65, hf⟩ := fp_b hf
            refine RoL.callV (c_X0_outAt (l := l) (D := D) (cI := cI) (cJ := cJ) (cZ := cZ) (cQ := cQ) (qs := qs) er65) F (cwV 1 hts gX5_best_X0_outAt rfl rfl rfl yd_X0_outAt ⟨Nat.le_of_ble_eq_true rfl, Nat.le_of_ble_eq_true rfl⟩) (hG.r hS) hP [5, 9] rfl 0 rfl rfl rfl hl.1 rfl (Nat.le_of_ble_eq_true rfl) dX5_best_129 ⟨Nat.zero_le _, Nat.zero_le _⟩ ?_
            refine lv_lstore (lv' := [(6, .long r65), (5, .int y10), (11, .int r58), (0, .ref hMs), (1, .int y1), (2, .int y2), (3, .int y3), (4, .int y4), (8, .long y8), (10, .int y10)]) hx hb dX5_best_132 hl (by decide) rfl (fun ls hl => ?_)
            refine lv_aload_n hx hb dX5_best_134 rfl (lv_at hl 3 rfl) ?_
            refine va_get (D := D) (ci := 5) (v := .ref hBe) (C := RX5) (T := TX5) (N := 6) hx hb hts ku_X5_best_X5 hown hK hP 0 rfl rfl 5 (by decide) (hts _ kw_X5_best_3) (fun _ h9 => h9) rfl dX5_best_135 ?_
            refine va_getN (D := D) (ci := 0) (v := .long r56.2.1) (C := RX0) (T := TX0) (N := 7) (host := "MirrorShares") hx hb hts ku_X5_best_X0 hown hK hP 5 rfl rfl 6 (by decide) (nwf_6 hG.1) (fun _ h9 => h9) rfl dX5_best_138 ?_
            refine lv_lstore (lv' := [(8, .long r56.2.1), (6, .long r65), (5, .int y10), (11, .int r58), (0, .ref hMs), (1, .int y1), (2, .int y2), (3, .int y3), (4, .int y4), (10, .int y10)]) hx hb dX5_best_141 hl (by decide) rfl (fun ls hl => ?_)
            refine lv_iinc (v := (y10 + (1 : Int32))) (lv' := [(10, .int (y10 + (1 : Int32))), (8, .long r56.2.1), (6, .long r65), (5, .int y10), (11, .int r58), (0, .ref hMs), (1, .int y1), (2, .int y2), (3, .int y3), (4, .int y4)]) hx hb dX5_best_143 hl (k := 9) rfl rfl (by decide) rfl (fun ls hl => ?_)
            refine lv_goto (tgt := 48) hx hb dX5_best_146 (by decide) ?_
            cases hf
            exact ih _ (fp_inl ho) hP hD hS (lv_sub hl [5, 6, 7, 8, 9, 3, 2, 1, 0] rfl) hex
def f_X5_best (coR : Int32) (roR : Int32) (kdR : Nat → Int32) (coT : Int32) (roT : Int32) (kdT : Nat → Int32) (bq : Int32) (bw : Int64) (bp : Nat → Int32) (bn : Nat → Int32) (br : Nat → Int32) (bs : Nat → Int64) (bM : Nat → Nat → Int64) (x1 : Int32) (x2 : Int32) (x3 : Int32) : Option (Int32 × Int32 × Int32 × (Nat → Int32) × Int32 × Int64 × (Nat → Int32) × (Nat → Int32) × (Nat → Int32) × (Nat → Int64) × (Nat → Nat → Int64)) :=
  Option.bind (f_X5_hasPorts coR roR x1 x2) (fun r49 => (if r49 = 0 then some ((-1 : Int32), coT, roT, kdT, bq, bw, bp, bn, br, bs, bM) else Option.bind (f_X5_isPart x3 (3 : Int32)) (fun r51 => (if r51 = 0 then some ((-1 : Int32), coT, roT, kdT, bq, bw, bp, bn, br, bs, bM) else Option.bind (f_X2_countKinds coR roR kdR (6 : Int32) (7 : Int32)) (fun r53 => Option.bind (lpf (fun s => f_X5_best_48 coR roR kdR x1 x2 x3 ((1 : Int32) <<< (r53 &&& 31)) s.1 s.2.1 s.2.2.1 s.2.2.2.1 s.2.2.2.2.1 s.2.2.2.2.2.1 s.2.2.2.2.2.2.1 s.2.2.2.2.2.2.2.1 s.2.2.2.2.2.2.2.2.1 s.2.2.2.2.2.2.2.2.2.1 s.2.2.2.2.2.2.2.2.2.2.1 s.2.2.2.2.2.2.2.2.2.2.2.1 s.2.2.2.2.2.2.2.2.2.2.2.2.1 s.2.2.2.2.2.2.2.2.2.2.2.2.2) 1000 ((0 : Int32), (-1 : Int64), (1 : Int64), (0 : Int32), coT, roT, kdT, bq, bw, bp, bn, br, bs, bM)) (fun o66 => (if x3 = 0 then some (o66.1, o66.2.2.2.1, o66.2.2.2.2.1, o66.2.2.2.2.2.1, o66.2.2.2.2.2.2.1, o66.2.2.2.2.2.2.2.1, o66.2.2.2.2.2.2.2.2.1, o66.2.2.2.2.2.2.2.2.2.1, o66.2.2.2.2.2.2.2.2.2.2.1, o66.2.2.2.2.2.2.2.2.2.2.2.1, o66.2.2.2.2.2.2.2.2.2.2.2.2) else Option.bind (f_X5_lowest o66.2.1 o66.2.2.1 (x3 - (1 : Int32))) (fun r68 => some (r68, o66.2.2.2.1, o66.2.2.2.2.1, o66.2.2.2.2.2.1, o66.2.2.2.2.2.2.1, o66.2.2.2.2.2.2.2.1, o66.2.2.2.2.2.2.2.2.1, o66.2.2.2.2.2.2.2.2.2.1, o66.2.2.2.2.2.2.2.2.2.2.1, o66.2.2.2.2.2.2.2.2.2.2.2.1, o66.2.2.2.2.2.2.2.2.2.2.2.2)))))))))
set_option maxHeartbeats 4000000 in
set_option maxRecDepth 100000 in
theorem b_X5_best {p : Program} {l : Launch} {e : Env} {s : State} {m : MethodId} {args : Array Value} {below : List Frame} {meth : Method} {c : Code} {Q : State → Prop} {A : Nat → Prop} {H : Heap} {locs : List Loc} {D : va_G} {cI cJ cZ cQ : ClassId} {qs : Nat × Nat × Nat} {hMs hTo hRmR hRmT hPa hWa hBe hKdR hKdT hBp hBn hBr hBo hBs : Nat} {hBg : Nat → Nat} {coR : Int32} {roR : Int32} {kdR : Nat → Int32} {coT : Int32} {roT : Int32} {kdT : Nat → Int32} {bq : Int32} {bw : Int64} {bp : Nat → Int32} {bn : Nat → Int32} {br : Nat → Int32} {bs : Nat → Int64} {bM : Nat → Nat → Int64} {x1 : Int32} {x2 : Int32} {x3 : Int32} {out : Int32 × Int32 × Int32 × (Nat → Int32) × Int32 × Int64 × (Nat → Int32) × (Nat → Int32) × (Nat → Int32) × (Nat → Int64) × (Nat → Nat → Int64)} (F : CallFix p m c cX5_best 12 s args wsX5_best RX5) (hG : kW D (ty4 cI cJ cZ cQ) qs A s s.heap) (hA : ∀ q : Nat, s.heap.size ≤ q → A q) (hP : va_P D vwCl ([(hMs, .inr (5, [.ref hTo, .ref hRmR, .ref hRmT, .ref hPa, .ref hWa, .ref hBe])), (hRmR, .inr (2, [.ref hKdR, .int coR, .int roR])), (hKdR, .inl (cI, 20, .inl kdR)), (hRmT, .inr (2, [.ref hKdT, .int coT, .int roT])), (hKdT, .inl (cI, 20, .inl kdT)), (hBe, .inr (0, [.ref hBp, .ref hBn, .ref hBr, .ref hBo, .ref hBs, .int bq, .long bw])), (hBp, .inl (cI, 10, .inl bp)), (hBn, .inl (cI, 60, .inl bn)), (hBr, .inl (cI, 20, .inl br)), (hBs, .inl (cJ, 60, .inr (.inl bs))), (hBo, .inl (cQ, 10, .inr (.inr (.inr (.inr (gr_o hBg))))))] ++ gr_c cJ hBg bM) H) (hD : va_D A ([(hMs, .inr (5, [.ref hTo, .ref hRmR, .ref hRmT, .ref hPa, .ref hWa, .ref hBe])), (hRmR, .inr (2, [.ref hKdR, .int coR, .int roR])), (hKdR, .inl (cI, 20, .inl kdR)), (hRmT, .inr (2, [.ref hKdT, .int coT, .int roT])), (hKdT, .inl (cI, 20, .inl kdT)), (hBe, .inr (0, [.ref hBp, .ref hBn, .ref hBr, .ref hBo, .ref hBs, .int bq, .long bw])), (hBp, .inl (cI, 10, .inl bp)), (hBn, .inl (cI, 60, .inl bn)), (hBr, .inl (cI, 20, .inl br)), (hBs, .inl (cJ, 60, .inr (.inl bs))), (hBo, .inl (cQ, 10, .inr (.inr (.inr (.inr (gr_o hBg))))))] ++ gr_c cJ hBg bM)) (hS : va_S A s.heap H locs) (hf : f_X5_best coR roR kdR coT roT kdT bq bw bp bn br bs bM x1 x2 x3 = some out) (hret : ∀ (pc : Nat) (H : Heap) (locs : List Loc) (ls : Array Slot), decode cX5_best pc = .ok (.ireturn, 1) → narrow .int (.int out.1) = .int out.1 → va_P D vwCl ([(hMs, .inr (5, [.ref hTo, .ref hRmR, .ref hRmT, .ref hPa, .ref hWa, .ref hBe])), (hRmR, .inr (2, [.ref hKdR, .int coR, .int roR])), (hKdR, .inl (cI, 20, .inl kdR)), (hRmT, .inr (2, [.ref hKdT, .int out.2.1, .int out.2.2.1])), (hKdT, .inl (cI, 20, .inl out.2.2.2.1)), (hBe, .inr (0, [.ref hBp, .ref hBn, .ref hBr, .ref hBo, .ref hBs, .int out.2.2.2.2.1, .long out.2.2.2.2.2.1])), (hBp, .inl (cI, 10, .inl out.2.2.2.2.2.2.1)), (hBn, .inl (cI, 60, .inl out.2.2.2.2.2.2.2.1)), (hBr, .inl (cI, 20, .inl out.2.2.2.2.2.2.2.2.1)), (hBs, .inl (cJ, 60, .inr (.inl out.2.2.2.2.2.2.2.2.2.1))), (hBo, .inl (cQ, 10, .inr (.inr (.inr (.inr (gr_o hBg))))))] ++ gr_c cJ hBg out.2.2.2.2.2.2.2.2.2.2) H → va_D A ([(hMs, .inr (5, [.ref hTo, .ref hRmR, .ref hRmT, .ref hPa, .ref hWa, .ref hBe])), (hRmR, .inr (2, [.ref hKdR, .int coR, .int roR])), (hKdR, .inl (cI, 20, .inl kdR)), (hRmT, .inr (2, [.ref hKdT, .int out.2.1, .int out.2.2.1])), (hKdT, .inl (cI, 20, .inl out.2.2.2.1)), (hBe, .inr (0, [.ref hBp, .ref hBn, .ref hBr, .ref hBo, .ref hBs, .int out.2.2.2.2.1, .long out.2.2.2.2.2.1])), (hBp, .inl (cI, 10, .inl out.2.2.2.2.2.2.1)), (hBn, .inl (cI, 60, .inl out.2.2.2.2.2.2.2.1)), (hBr, .inl (cI, 20, .inl out.2.2.2.2.2.2.2.2.1)), (hBs, .inl (cJ, 60, .inr (.inl out.2.2.2.2.2.2.2.2.2.1))), (hBo, .inl (cQ, 10, .inr (.inr (.inr (.inr (gr_o hBg))))))] ++ gr_c cJ hBg out.2.2.2.2.2.2.2.2.2.2) → va_S A s.heap H locs → W p l e { frames := 6, cells := 0, slots := 0, locals := 139 } s m args below meth c H locs 0 0 Q (F0 m pc ls [.int out.1])) {ls : Array Slot} (hl : lv_has ls 12 [(0, .ref hMs), (1, .int x1), (2, .int x2), (3, .int x3)]) : W p l e { frames := 6, cells := 0, slots := 0, locals := 139 } s m args below meth c H locs 0 0 Q (F0 m 0 ls []) := by
  have hx := F.1
  have hb := F.2.1
  have hown := F.2.2.2.1
  have hts := F.2.2.2.2
  have hK := hG.1.1
  rw [f_X5_best] at hf
  refine lv_aload_n hx hb dX5_best_0 rfl (lv_at hl 0 rfl) ?_
  refine lv_iload_n hx hb dX5_best_1 rfl (lv_at hl 1 rfl) ?_
  refine lv_iload_n hx hb dX5_best_2 rfl (lv_at hl 2 rfl) ?_
  obtain ⟨r49, er49, hf⟩ := fp_b hf
  refine RoI.callV (c_X5_hasPorts (l := l) (D := D) (cI := cI) (cJ := cJ) (cZ := cZ) (cQ := cQ) (qs := qs) er49) F (cwV 2 hts gX5_best_X5_hasPorts rfl rfl rfl yd_X5_hasPorts ⟨Nat.le_of_ble_eq_true rfl, Nat.le_of_ble_eq_true rfl⟩) (hG.r hS) hP [0, 1] rfl 5 rfl rfl rfl hl.1 rfl (Nat.le_of_ble_eq_true rfl) dX5_best_3 ⟨Nat.zero_le _, Nat.zero_le _⟩ ?_
  refine lv_if_eq (tgt := 17) hx hb dX5_best_6 (by decide) (fun c50 => ?_) (fun c50 => ?_)
  · have hf := fp_t hf c50
    refine lv_iconst (v := (-1 : Int32)) hx hb dX5_best_17 (by decide) ?_
    cases hf
    exact hret _ _ _ _ dX5_best_18 (vp_nar_int _) hP hD hS
  · have hf := fp_f hf c50
    refine lv_iload_n hx hb dX5_best_9 rfl (lv_at hl 3 rfl) ?_
    refine lv_iconst (v := (3 : Int32)) hx hb dX5_best_10 (by decide) ?_
    obtain ⟨r51, er51, hf⟩ := fp_b hf
    refine RoI.callS (c_X5_isPart (l := l) (D := D) (cI := cI) (cJ := cJ) (cZ := cZ) (cQ := cQ) (qs := qs) er51) F (va_cwS 2 hts gX5_best_X5_isPart rfl rfl rfl yd_X5_isPart ⟨Nat.le_of_ble_eq_true rfl, Nat.le_of_ble_eq_true rfl⟩) (hG.r hS) hP [] rfl rfl hl.1 rfl (Nat.le_of_ble_eq_true rfl) dX5_best_11 ⟨Nat.zero_le _, Nat.zero_le _⟩ ?_
    refine lv_if_ne (tgt := 19) hx hb dX5_best_14 (by decide) (fun c52 => ?_) (fun c52 => ?_)
    · have hf := fp_f hf c52
      refine lv_iconst (v := (1 : Int32)) hx hb dX5_best_19 (by decide) ?_
      refine lv_aload_n hx hb dX5_best_20 rfl (lv_at hl 0 rfl) ?_
      refine va_get (D := D) (ci := 5) (v := .ref hRmR) (C := RX5) (T := TX5) (N := 6) hx hb hts ku_X5_best_X5 hown hK hP 0 rfl rfl 1 (by decide) (hts _ kw_X5_best_1) (fun _ h9 => h9) rfl dX5_best_21 ?_
      refine lv_bipush (v := (6 : Int32)) hx hb dX5_best_24 (by decide) ?_
      refine lv_bipush (v := (7 : Int32)) hx hb dX5_best_26 (by decide) ?_
      obtain ⟨r53, er53, hf⟩ := fp_b hf
      refine RoI.callV (c_X2_countKinds (l := l) (D := D) (cI := cI) (cJ := cJ) (cZ := cZ) (cQ := cQ) (qs := qs) er53) F (cwV 2 hts gX5_best_X2_countKinds rfl rfl rfl yd_X2_countKinds ⟨Nat.le_of_ble_eq_true rfl, Nat.le_of_ble_eq_true rfl⟩) (hG.r hS) hP [1, 2] rfl 2 rfl rfl rfl hl.1 rfl (Nat.le_of_ble_eq_true rfl) dX5_best_28 ⟨Nat.zero_le _, Nat.zero_le _⟩ ?_
      refine lv_ishl hx hb dX5_best_31 ?_
      refine lv_istore (lv' := [(4, .int ((1 : Int32) <<< (r53 &&& 31))), (0, .ref hMs), (1, .int x1), (2, .int x2), (3, .int x3)]) hx hb dX5_best_32 hl (by decide) rfl (fun ls hl => ?_)
      refine lv_iconst (v := (0 : Int32)) hx hb dX5_best_34 (by decide) ?_
      refine lv_istore (lv' := [(5, .int (0 : Int32)), (4, .int ((1 : Int32) <<< (r53 &&& 31))), (0, .ref hMs), (1, .int x1), (2, .int x2), (3, .int x3)]) hx hb dX5_best_35 hl (by decide) rfl (fun ls hl => ?_)
      refine lv_ldc2 hx hb hown (hts _ kw_X5_best_2) dX5_best_37 ?_
      refine lv_lstore (lv' := [(6, .long (-1 : Int64)), (5, .int (0 : Int32)), (4, .int ((1 : Int32) <<< (r53 &&& 31))), (0, .ref hMs), (1, .int x1), (2, .int x2), (3, .int x3)]) hx hb dX5_best_40 hl (by decide) rfl (fun ls hl => ?_)
      refine lv_lconst (v := 1) hx hb dX5_best_42 (by decide) ?_
      refine lv_lstore (lv' := [(8, .long (1 : Int64)), (6, .long (-1 : Int64)), (5, .int (0 : Int32)), (4, .int ((1 : Int32) <<< (r53 &&& 31))), (0, .ref hMs), (1, .int x1), (2, .int x2), (3, .int x3)]) hx hb dX5_best_43 hl (by decide) rfl (fun ls hl => ?_)
      refine lv_iconst (v := (0 : Int32)) hx hb dX5_best_45 (by decide) ?_
      refine lv_istore (lv' := [(10, .int (0 : Int32)), (8, .long (1 : Int64)), (6, .long (-1 : Int64)), (5, .int (0 : Int32)), (4, .int ((1 : Int32) <<< (r53 &&& 31))), (0, .ref hMs), (1, .int x1), (2, .int x2), (3, .int x3)]) hx hb dX5_best_46 hl (by decide) rfl (fun ls hl => ?_)
      obtain ⟨o66, eo66, hf⟩ := fp_b hf
      refine lp_X5_best_48 F hG hA _ _ eo66 hP hD hS (lv_sub hl [5, 6, 7, 8, 4, 3, 2, 1, 0] rfl) (fun H locs ls hP hD hS hl => ?_)
      refine lv_iload_n hx hb dX5_best_149 rfl (lv_at hl 3 rfl) ?_
      refine lv_if_ne (tgt := 158) hx hb dX5_best_150 (by decide) (fun c67 => ?_) (fun c67 => ?_)
      · have hf := fp_f hf c67
        refine lv_lload hx hb dX5_best_158 (lv_at hl 6 rfl) ?_
        refine lv_lload hx hb dX5_best_160 (lv_at hl 7 rfl) ?_
        refine lv_iload_n hx hb dX5_best_162 rfl (lv_at hl 3 rfl) ?_
        refine lv_iconst (v := (1 : Int32)) hx hb dX5_best_163 (by decide) ?_
        refine lv_isub hx hb dX5_best_164 ?_
        obtain ⟨r68, er68, hf⟩ := fp_b hf
        refine RoI.callS (c_X5_lowest (l := l) (D := D) (cI := cI) (cJ := cJ) (cZ := cZ) (cQ := cQ) (qs := qs) er68) F (va_cwS 3 hts gX5_best_X5_lowest rfl rfl rfl yd_X5_lowest ⟨Nat.le_of_ble_eq_true rfl, Nat.le_of_ble_eq_true rfl⟩) (hG.r hS) hP [] rfl rfl hl.1 rfl (Nat.le_of_ble_eq_true rfl) dX5_best_165 ⟨Nat.zero_le _, Nat.zero_le _⟩ ?_
        cases hf
        exact hret _ _ _ _ dX5_best_168 (vp_nar_int _) hP hD hS
      · have hf := fp_t hf c67
        refine lv_iload hx hb dX5_best_153 (lv_at hl 5 rfl) ?_
        refine lv_goto (tgt := 168) hx hb dX5_best_155 (by decide) ?_
        cases hf
        exact hret _ _ _ _ dX5_best_168 (vp_nar_int _) hP hD hS
    · have hf := fp_t hf c52
      refine lv_iconst (v := (-1 : Int32)) hx hb dX5_best_17 (by decide) ?_
      cases hf
      exact hret _ _ _ _ dX5_best_18 (vp_nar_int _) hP hD hS
set_option maxRecDepth 100000 in
theorem c_X5_best {l : Launch} {D : va_G} {cI cJ cZ cQ : ClassId} {qs : Nat × Nat × Nat} {hMs hTo hRmR hRmT hPa hWa hBe hKdR hKdT hBp hBn hBr hBo hBs : Nat} {hBg : Nat → Nat} {coR : Int32} {roR : Int32} {kdR : Nat → Int32} {coT : Int32} {roT : Int32} {kdT : Nat → Int32} {bq : Int32} {bw : Int64} {bp : Nat → Int32} {bn : Nat → Int32} {br : Nat → Int32} {bs : Nat → Int64} {bM : Nat → Nat → Int64} {x1 : Int32} {x2 : Int32} {x3 : Int32} {out : Int32 × Int32 × Int32 × (Nat → Int32) × Int32 × Int64 × (Nat → Int32) × (Nat → Int32) × (Nat → Int32) × (Nat → Int64) × (Nat → Nat → Int64)} (hf : f_X5_best coR roR kdR coT roT kdT bq bw bp bn br bs bM x1 x2 x3 = some out) : RwI l yX5_best wsX5_best { frames := 6, cells := 0, slots := 0, locals := 139 } D (ty4 cI cJ cZ cQ) qs [.ref hMs, .int x1, .int x2, .int x3] ([(hMs, .inr (5, [.ref hTo, .ref hRmR, .ref hRmT, .ref hPa, .ref hWa, .ref hBe])), (hRmR, .inr (2, [.ref hKdR, .int coR, .int roR])), (hKdR, .inl (cI, 20, .inl kdR)), (hRmT, .inr (2, [.ref hKdT, .int coT, .int roT])), (hKdT, .inl (cI, 20, .inl kdT)), (hBe, .inr (0, [.ref hBp, .ref hBn, .ref hBr, .ref hBo, .ref hBs, .int bq, .long bw])), (hBp, .inl (cI, 10, .inl bp)), (hBn, .inl (cI, 60, .inl bn)), (hBr, .inl (cI, 20, .inl br)), (hBs, .inl (cJ, 60, .inr (.inl bs))), (hBo, .inl (cQ, 10, .inr (.inr (.inr (.inr (gr_o hBg))))))] ++ gr_c cJ hBg bM) ([(hMs, .inr (5, [.ref hTo, .ref hRmR, .ref hRmT, .ref hPa, .ref hWa, .ref hBe])), (hRmR, .inr (2, [.ref hKdR, .int coR, .int roR])), (hKdR, .inl (cI, 20, .inl kdR)), (hRmT, .inr (2, [.ref hKdT, .int out.2.1, .int out.2.2.1])), (hKdT, .inl (cI, 20, .inl out.2.2.2.1)), (hBe, .inr (0, [.ref hBp, .ref hBn, .ref hBr, .ref hBo, .ref hBs, .int out.2.2.2.2.1, .long out.2.2.2.2.2.1])), (hBp, .inl (cI, 10, .inl out.2.2.2.2.2.2.1)), (hBn, .inl (cI, 60, .inl out.2.2.2.2.2.2.2.1)), (hBr, .inl (cI, 20, .inl out.2.2.2.2.2.2.2.2.1)), (hBs, .inl (cJ, 60, .inr (.inl out.2.2.2.2.2.2.2.2.2.1))), (hBo, .inl (cQ, 10, .inr (.inr (.inr (.inr (gr_o hBg))))))] ++ gr_c cJ hBg out.2.2.2.2.2.2.2.2.2.2) out.1 :=
  RwI.of (own := RX5) (by decide +kernel) rfl rfl (Nat.le_of_ble_eq_true rfl) (fun F hG hA hP hD hS hret ls hl => b_X5_best F hG hA hP hD hS hf hret hl)
-- method X5_found
theorem yd_X5_found : yX5_found.cls = RX5 ∧ yX5_found.cls ≠ "java/lang/invoke/MethodHandle" ∧ yX5_found.cls ≠ "java/lang/invoke/VarHandle" ∧ (parseMethodDescriptor yX5_found.desc).map (fun d => d.parameters.length) = some 5 := by decide +kernel
theorem ku_X5_found_X5 : ∀ w ∈ u_ws RX5 TX5 6, w ∈ wsX5_found := by decide +kernel
theorem kw_X5_found_1 : Cond.fieldLink RX5 19 "MirrorShares" "room" "LMirrorShares$Room;" ∈ wsX5_found := List.mem_of_getElem? (i := 1) rfl
theorem kw_X5_found_2 : Cond.fieldLink RX5 43 "MirrorShares" "beam" "LMirrorShares$Beam;" ∈ wsX5_found := List.mem_of_getElem? (i := 2) rfl
theorem kw_X5_found_3 : Cond.fieldLink RX5 23 "MirrorShares" "trial" "LMirrorShares$Room;" ∈ wsX5_found := List.mem_of_getElem? (i := 3) rfl
theorem ku_X5_found_X0 : ∀ w ∈ u_ws RX0 TX0 7, w ∈ wsX5_found := by decide +kernel
def f_X5_found_55 (coR : Int32) (roR : Int32) (kdR : Nat → Int32) (y1 : Int32) (y2 : Int32) (y3 : Int32) (y4 : Int32) (y5 : Int32) (y6 : Int32) (y7 : Int32) (y8 : Int32) (coT : Int32) (roT : Int32) (kdT : Nat → Int32) (bq : Int32) (bw : Int64) (bp : Nat → Int32) (bn : Nat → Int32) (br : Nat → Int32) (bs : Nat → Int64) (bM : Nat → Nat → Int64) : Option ((Int32 × Int32 × Int32 × Int32 × Int32 × (Nat → Int32) × Int32 × Int64 × (Nat → Int32) × (Nat → Int32) × (Nat → Int32) × (Nat → Int64) × (Nat → Nat → Int64)) ⊕ (Int32 × Int32 × Int32 × Int32 × (Nat → Int32) × Int32 × Int64 × (Nat → Int32) × (Nat → Int32) × (Nat → Int32) × (Nat → Int64) × (Nat → Nat → Int64))) :=
  Option.bind (f_X2_cells coR roR) (fun r77 => (if ((2 : Int32) * r77) ≤ y8 then some (Sum.inr (y6, y7, coT, roT, kdT, bq, bw, bp, bn, br, bs, bM)) else Option.bind (f_X2_kindAt coR roR kdR (y8 / (2 : Int32))) (fun r79 => (if r79 = 0 then Option.bind (f_X5_tryCell coR roR kdR coT roT kdT (y8 / (2 : Int32)) ((1 : Int32) + (y8 - ((y8 / (2 : Int32)) * (2 : Int32))))) (fun r81 => Option.bind (f_X0_shine r81.1 r81.2.1 r81.2.2 bq bw bp bn br bs bM y1) (fun r82 => Option.bind (f_X0_outAt r82.2.2.2.2.2.1 y2) (fun r83 => Option.bind (f_X5_compareFractions r83 r82.2.1 (Int32.toInt64 y3) (Int32.toInt64 y4)) (fun r84 => (if r84 = 0 then (if y7 = (-4 : Int32) then some (Sum.inl ((y6 + (1 : Int32)), y8, (y8 + (1 : Int32)), r81.1, r81.2.1, r81.2.2, r82.1, r82.2.1, r82.2.2.1, r82.2.2.2.1, r82.2.2.2.2.1, r82.2.2.2.2.2.1, r82.2.2.2.2.2.2)) else some (Sum.inl ((y6 + (1 : Int32)), y7, (y8 + (1 : Int32)), r81.1, r81.2.1, r81.2.2, r82.1, r82.2.1, r82.2.2.1, r82.2.2.2.1, r82.2.2.2.2.1, r82.2.2.2.2.2.1, r82.2.2.2.2.2.2))) else some (Sum.inl (y6, y7, (y8 + (1 : Int32)), r81.1, r81.2.1, r81.2.2, r82.1, r82.2.1, r82.2.2.1, r82.2.2.2.1, r82.2.2.2.2.1, r82.2.2.2.2.2.1, r82.2.2.2.2.2.2))))))) else some (Sum.inl (y6, y7, (y8 + (1 : Int32)), coT, roT, kdT, bq, bw, bp, bn, br, bs, bM))))))
set_option maxHeartbeats 4000000 in
set_option maxRecDepth 100000 in
theorem lp_X5_found_55 {p : Program} {l : Launch} {e : Env} {s : State} {m : MethodId} {args : Array Value} {below : List Frame} {meth : Method} {c : Code} {Q : State → Prop} {A : Nat → Prop} {D : va_G} {cI cJ cZ cQ : ClassId} {qs : Nat × Nat × Nat} {hMs hTo hRmR hRmT hPa hWa hBe hKdR hKdT hBp hBn hBr hBo hBs : Nat} {hBg : Nat → Nat} {coR : Int32} {roR : Int32} {kdR : Nat → Int32} {y1 : Int32} {y2 : Int32} {y3 : Int32} {y4 : Int32} {y5 : Int32} (F : CallFix p m c cX5_found 9 s args wsX5_found RX5) (hG : kW D (ty4 cI cJ cZ cQ) qs A s s.heap) (hA : ∀ q : Nat, s.heap.size ≤ q → A q) :
    ∀ (n : Nat) {y6 : Int32} {y7 : Int32} {y8 : Int32} {coT : Int32} {roT : Int32} {kdT : Nat → Int32} {bq : Int32} {bw : Int64} {bp : Nat → Int32} {bn : Nat → Int32} {br : Nat → Int32} {bs : Nat → Int64} {bM : Nat → Nat → Int64} (out : Int32 × Int32 × Int32 × Int32 × (Nat → Int32) × Int32 × Int64 × (Nat → Int32) × (Nat → Int32) × (Nat → Int32) × (Nat → Int64) × (Nat → Nat → Int64)), lpf (fun s => f_X5_found_55 coR roR kdR y1 y2 y3 y4 y5 s.1 s.2.1 s.2.2.1 s.2.2.2.1 s.2.2.2.2.1 s.2.2.2.2.2.1 s.2.2.2.2.2.2.1 s.2.2.2.2.2.2.2.1 s.2.2.2.2.2.2.2.2.1 s.2.2.2.2.2.2.2.2.2.1 s.2.2.2.2.2.2.2.2.2.2.1 s.2.2.2.2.2.2.2.2.2.2.2.1 s.2.2.2.2.2.2.2.2.2.2.2.2) n (y6, y7, y8, coT, roT, kdT, bq, bw, bp, bn, br, bs, bM) = some out → ∀ {H : Heap} {locs : List Loc} {ls : Array Slot}, va_P D vwCl ([(hMs, .inr (5, [.ref hTo, .ref hRmR, .ref hRmT, .ref hPa, .ref hWa, .ref hBe])), (hRmR, .inr (2, [.ref hKdR, .int coR, .int roR])), (hKdR, .inl (cI, 20, .inl kdR)), (hRmT, .inr (2, [.ref hKdT, .int coT, .int roT])), (hKdT, .inl (cI, 20, .inl kdT)), (hBe, .inr (0, [.ref hBp, .ref hBn, .ref hBr, .ref hBo, .ref hBs, .int bq, .long bw])), (hBp, .inl (cI, 10, .inl bp)), (hBn, .inl (cI, 60, .inl bn)), (hBr, .inl (cI, 20, .inl br)), (hBs, .inl (cJ, 60, .inr (.inl bs))), (hBo, .inl (cQ, 10, .inr (.inr (.inr (.inr (gr_o hBg))))))] ++ gr_c cJ hBg bM) H → va_D A ([(hMs, .inr (5, [.ref hTo, .ref hRmR, .ref hRmT, .ref hPa, .ref hWa, .ref hBe])), (hRmR, .inr (2, [.ref hKdR, .int coR, .int roR])), (hKdR, .inl (cI, 20, .inl kdR)), (hRmT, .inr (2, [.ref hKdT, .int coT, .int roT])), (hKdT, .inl (cI, 20, .inl kdT)), (hBe, .inr (0, [.ref hBp, .ref hBn, .ref hBr, .ref hBo, .ref hBs, .int bq, .long bw])), (hBp, .inl (cI, 10, .inl bp)), (hBn, .inl (cI, 60, .inl bn)), (hBr, .inl (cI, 20, .inl br)), (hBs, .inl (cJ, 60, .inr (.inl bs))), (hBo, .inl (cQ, 10, .inr (.inr (.inr (.inr (gr_o hBg))))))] ++ gr_c cJ hBg bM) → va_S A s.heap H locs → lv_has ls 9 [(0, .ref hMs), (1, .int y1), (2, .int y2), (3, .int y3), (4, .int y4), (5, .int y5), (6, .int y6), (7, .int y7), (8, .int y8)] → (∀ (H : Heap) (locs : List Loc) (ls : Array Slot), va_P D vwCl ([(hMs, .inr (5, [.ref hTo, .ref hRmR, .ref hRmT, .ref hPa, .ref hWa, .ref hBe])), (hRmR, .inr (2, [.ref hKdR, .int coR, .int roR])), (hKdR, .inl (cI, 20, .inl kdR)), (hRmT, .inr (2, [.ref hKdT, .int out.2.2.1, .int out.2.2.2.1])), (hKdT, .inl (cI, 20, .inl out.2.2.2.2.1)), (hBe, .inr (0, [.ref hBp, .ref hBn, .ref hBr, .ref hBo, .ref hBs, .int out.2.2.2.2.2.1, .long out.2.2.2.2.2.2.1])), (hBp, .inl (cI, 10, .inl out.2.2.2.2.2.2.2.1)), (hBn, .inl (cI, 60, .inl out.2.2.2.2.2.2.2.2.1)), (hBr, .inl (cI, 20, .inl out.2.2.2.2.2.2.2.2.2.1)), (hBs, .inl (cJ, 60, .inr (.inl out.2.2.2.2.2.2.2.2.2.2.1))), (hBo, .inl (cQ, 10, .inr (.inr (.inr (.inr (gr_o hBg))))))] ++ gr_c cJ hBg out.2.2.2.2.2.2.2.2.2.2.2) H → va_D A ([(hMs, .inr (5, [.ref hTo, .ref hRmR, .ref hRmT, .ref hPa, .ref hWa, .ref hBe])), (hRmR, .inr (2, [.ref hKdR, .int coR, .int roR])), (hKdR, .inl (cI, 20, .inl kdR)), (hRmT, .inr (2, [.ref hKdT, .int out.2.2.1, .int out.2.2.2.1])), (hKdT, .inl (cI, 20, .inl out.2.2.2.2.1)), (hBe, .inr (0, [.ref hBp, .ref hBn, .ref hBr, .ref hBo, .ref hBs, .int out.2.2.2.2.2.1, .long out.2.2.2.2.2.2.1])), (hBp, .inl (cI, 10, .inl out.2.2.2.2.2.2.2.1)), (hBn, .inl (cI, 60, .inl out.2.2.2.2.2.2.2.2.1)), (hBr, .inl (cI, 20, .inl out.2.2.2.2.2.2.2.2.2.1)), (hBs, .inl (cJ, 60, .inr (.inl out.2.2.2.2.2.2.2.2.2.2.1))), (hBo, .inl (cQ, 10, .inr (.inr (.inr (.inr (gr_o hBg))))))] ++ gr_c cJ hBg out.2.2.2.2.2.2.2.2.2.2.2) → va_S A s.heap H locs → lv_has ls 9 [(0, .ref hMs), (1, .int y1), (2, .int y2), (3, .int y3), (4, .int y4), (5, .int y5), (6, .int out.1), (7, .int out.2.1)] → W p l e { frames := 6, cells := 0, slots := 0, locals := 139 } s m args below meth c H locs 0 0 Q (F0 m 163 ls [])) → W p l e { frames := 6, cells := 0, slots := 0, locals := 139 } s m args below meth c H locs 0 0 Q (F0 m 55 ls []) := by
  have hx := F.1
  have hb := F.2.1
  have hown := F.2.2.2.1
  have hts := F.2.2.2.2
  have hK := hG.1.1
  intro n
  induction n with
  | zero =>
    intro y6 y7 y8 coT roT kdT bq bw bp bn br bs bM out ho
    exact (fp_l0 ho).elim
  | succ n ih =>
    intro y6 y7 y8 coT roT kdT bq bw bp bn br bs bM out ho H locs ls hP hD hS hl hex
    obtain ⟨o, hf, ho⟩ := fp_l ho
    have hf : f_X5_found_55 coR roR kdR y1 y2 y3 y4 y5 y6 y7 y8 coT roT kdT bq bw bp bn br bs bM = some o := hf
    rw [f_X5_found_55] at hf
    refine lv_iload hx hb dX5_found_55 (lv_at hl 8 rfl) ?_
    refine lv_iconst (v := (2 : Int32)) hx hb dX5_found_57 (by decide) ?_
    refine lv_aload_n hx hb dX5_found_58 rfl (lv_at hl 0 rfl) ?_
    refine va_get (D := D) (ci := 5) (v := .ref hRmR) (C := RX5) (T := TX5) (N := 6) hx hb hts ku_X5_found_X5 hown hK hP 0 rfl rfl 1 (by decide) (hts _ kw_X5_found_1) (fun _ h9 => h9) rfl dX5_found_59 ?_
    obtain ⟨r77, er77, hf⟩ := fp_b hf
    refine RoI.callV (c_X2_cells (l := l) (D := D) (cI := cI) (cJ := cJ) (cZ := cZ) (cQ := cQ) (qs := qs) er77) F (cwV 0 hts gX5_found_X2_cells rfl rfl rfl yd_X2_cells ⟨Nat.le_of_ble_eq_true rfl, Nat.le_of_ble_eq_true rfl⟩) (hG.r hS) hP [1] rfl 2 rfl rfl rfl hl.1 rfl (Nat.le_of_ble_eq_true rfl) dX5_found_62 ⟨Nat.zero_le _, Nat.zero_le _⟩ ?_
    refine lv_imul hx hb dX5_found_65 ?_
    refine lv_icmp_ge (tgt := 163) hx hb dX5_found_66 (by decide) (fun c78 => ?_) (fun c78 => ?_)
    · have hf := fp_t hf c78
      cases hf
      have ho := fp_inr ho
      cases ho
      exact hex _ _ _ hP hD hS (lv_sub hl [0, 1, 2, 3, 4, 5, 6, 7] rfl)
    · have hf := fp_f hf c78
      refine lv_aload_n hx hb dX5_found_69 rfl (lv_at hl 0 rfl) ?_
      refine va_get (D := D) (ci := 5) (v := .ref hRmR) (C := RX5) (T := TX5) (N := 6) hx hb hts ku_X5_found_X5 hown hK hP 0 rfl rfl 1 (by decide) (hts _ kw_X5_found_1) (fun _ h9 => h9) rfl dX5_found_70 ?_
      refine lv_iload hx hb dX5_found_73 (lv_at hl 8 rfl) ?_
      refine lv_iconst (v := (2 : Int32)) hx hb dX5_found_75 (by decide) ?_
      refine lv_idiv hx hb dX5_found_76 (by decide) ?_
      obtain ⟨r79, er79, hf⟩ := fp_b hf
      refine RoI.callV (c_X2_kindAt (l := l) (D := D) (cI := cI) (cJ := cJ) (cZ := cZ) (cQ := cQ) (qs := qs) er79) F (cwV 1 hts gX5_found_X2_kindAt rfl rfl rfl yd_X2_kindAt ⟨Nat.le_of_ble_eq_true rfl, Nat.le_of_ble_eq_true rfl⟩) (hG.r hS) hP [1, 2] rfl 2 rfl rfl rfl hl.1 rfl (Nat.le_of_ble_eq_true rfl) dX5_found_77 ⟨Nat.zero_le _, Nat.zero_le _⟩ ?_
      refine lv_if_eq (tgt := 86) hx hb dX5_found_80 (by decide) (fun c80 => ?_) (fun c80 => ?_)
      · have hf := fp_t hf c80
        refine lv_aload_n hx hb dX5_found_86 rfl (lv_at hl 0 rfl) ?_
        refine lv_iload hx hb dX5_found_87 (lv_at hl 8 rfl) ?_
        refine lv_iconst (v := (2 : Int32)) hx hb dX5_found_89 (by decide) ?_
        refine lv_idiv hx hb dX5_found_90 (by decide) ?_
        refine lv_iconst (v := (1 : Int32)) hx hb dX5_found_91 (by decide) ?_
        refine lv_iload hx hb dX5_found_92 (lv_at hl 8 rfl) ?_
        refine lv_iconst (v := (2 : Int32)) hx hb dX5_found_94 (by decide) ?_
        refine lv_irem hx hb dX5_found_95 (by decide) ?_
        refine lv_iadd hx hb dX5_found_96 ?_
        obtain ⟨r81, er81, hf⟩ := fp_b hf
        refine kc_rwV (w2 := ([(hMs, .inr (5, [.ref hTo, .ref hRmR, .ref hRmT, .ref hPa, .ref hWa, .ref hBe])), (hRmR, .inr (2, [.ref hKdR, .int coR, .int roR])), (hKdR, .inl (cI, 20, .inl kdR)), (hRmT, .inr (2, [.ref hKdT, .int r81.1, .int r81.2.1])), (hKdT, .inl (cI, 20, .inl r81.2.2)), (hBe, .inr (0, [.ref hBp, .ref hBn, .ref hBr, .ref hBo, .ref hBs, .int bq, .long bw])), (hBp, .inl (cI, 10, .inl bp)), (hBn, .inl (cI, 60, .inl bn)), (hBr, .inl (cI, 20, .inl br)), (hBs, .inl (cJ, 60, .inr (.inl bs))), (hBo, .inl (cQ, 10, .inr (.inr (.inr (.inr (gr_o hBg))))))] ++ gr_c cJ hBg bM)) (RwV.runV (c_X5_tryCell (l := l) (D := D) (cI := cI) (cJ := cJ) (cZ := cZ) (cQ := cQ) (qs := qs) er81) F (cwV 2 hts gX5_found_X5_tryCell rfl rfl rfl yd_X5_tryCell ⟨Nat.le_of_ble_eq_true rfl, Nat.le_of_ble_eq_true rfl⟩) hG hP hD hS hA [0, 1, 2, 3, 4] (by decide) rfl 5 rfl rfl rfl hl.1 rfl (Nat.le_of_ble_eq_true rfl) dX5_found_97 ⟨Nat.zero_le _, Nat.zero_le _⟩) hP hD hS hA [0, 1, 2, 3, 4] [5, 6, 7, 8, 9, 10, 11, 12, 13, 14, 15, 16, 17, 18, 19, 20] [16, 17, 18, 19, 20, 0, 1, 2, 3, 4, 5, 6, 7, 8, 9, 10, 11, 12, 13, 14, 15] rfl (wr := ([(hBe, .inr (0, [.ref hBp, .ref hBn, .ref hBr, .ref hBo, .ref hBs, .int bq, .long bw])), (hBp, .inl (cI, 10, .inl bp)), (hBn, .inl (cI, 60, .inl bn)), (hBr, .inl (cI, 20, .inl br)), (hBs, .inl (cJ, 60, .inr (.inl bs))), (hBo, .inl (cQ, 10, .inr (.inr (.inr (.inr (gr_o hBg))))))] ++ gr_c cJ hBg bM)) rfl (by decide) (by decide) rfl (by decide) (fun H locs hP hD hS => ?_)
        refine lv_aload_n hx hb dX5_found_100 rfl (lv_at hl 0 rfl) ?_
        refine va_get (D := D) (ci := 5) (v := .ref hBe) (C := RX5) (T := TX5) (N := 6) hx hb hts ku_X5_found_X5 hown hK hP 0 rfl rfl 5 (by decide) (hts _ kw_X5_found_2) (fun _ h9 => h9) rfl dX5_found_101 ?_
        refine lv_aload_n hx hb dX5_found_104 rfl (lv_at hl 0 rfl) ?_
        refine va_get (D := D) (ci := 5) (v := .ref hRmT) (C := RX5) (T := TX5) (N := 6) hx hb hts ku_X5_found_X5 hown hK hP 0 rfl rfl 2 (by decide) (hts _ kw_X5_found_3) (fun _ h9 => h9) rfl dX5_found_105 ?_
        refine lv_iload_n hx hb dX5_found_108 rfl (lv_at hl 1 rfl) ?_
        obtain ⟨r82, er82, hf⟩ := fp_b hf
        refine kc_rwV (w2 := ([(hMs, .inr (5, [.ref hTo, .ref hRmR, .ref hRmT, .ref hPa, .ref hWa, .ref hBe])), (hRmR, .inr (2, [.ref hKdR, .int coR, .int roR])), (hKdR, .inl (cI, 20, .inl kdR)), (hRmT, .inr (2, [.ref hKdT, .int r81.1, .int r81.2.1])), (hKdT, .inl (cI, 20, .inl r81.2.2)), (hBe, .inr (0, [.ref hBp, .ref hBn, .ref hBr, .ref hBo, .ref hBs, .int r82.1, .long r82.2.1])), (hBp, .inl (cI, 10, .inl r82.2.2.1)), (hBn, .inl (cI, 60, .inl r82.2.2.2.1)), (hBr, .inl (cI, 20, .inl r82.2.2.2.2.1)), (hBs, .inl (cJ, 60, .inr (.inl r82.2.2.2.2.2.1))), (hBo, .inl (cQ, 10, .inr (.inr (.inr (.inr (gr_o hBg))))))] ++ gr_c cJ hBg r82.2.2.2.2.2.2)) (RwV.runV (c_X0_shine (l := l) (D := D) (cI := cI) (cJ := cJ) (cZ := cZ) (cQ := cQ) (qs := qs) er82) F (cwV 2 hts gX5_found_X0_shine rfl rfl rfl yd_X0_shine ⟨Nat.le_of_ble_eq_true rfl, Nat.le_of_ble_eq_true rfl⟩) hG hP hD hS hA [5, 3, 4, 6, 7, 8, 9, 10, 11, 12, 13, 14, 15, 16, 17, 18, 19, 20] (by decide) rfl 0 rfl rfl rfl hl.1 rfl (Nat.le_of_ble_eq_true rfl) dX5_found_109 ⟨Nat.zero_le _, Nat.zero_le _⟩) hP hD hS hA [5, 3, 4, 6, 7, 8, 9, 10, 11, 12, 13, 14, 15, 16, 17, 18, 19, 20] [0, 1, 2] [0, 1, 2, 4, 5, 3, 6, 7, 8, 9, 10, 11, 12, 13, 14, 15, 16, 17, 18, 19, 20] rfl (wr := [(hMs, .inr (5, [.ref hTo, .ref hRmR, .ref hRmT, .ref hPa, .ref hWa, .ref hBe])), (hRmR, .inr (2, [.ref hKdR, .int coR, .int roR])), (hKdR, .inl (cI, 20, .inl kdR))]) rfl (by decide) (by decide) rfl (by decide) (fun H locs hP hD hS => ?_)
        refine lv_aload_n hx hb dX5_found_112 rfl (lv_at hl 0 rfl) ?_
        refine va_get (D := D) (ci := 5) (v := .ref hBe) (C := RX5) (T := TX5) (N := 6) hx hb hts ku_X5_found_X5 hown hK hP 0 rfl rfl 5 (by decide) (hts _ kw_X5_found_2) (fun _ h9 => h9) rfl dX5_found_113 ?_
        refine lv_iload_n hx hb dX5_found_116 rfl (lv_at hl 2 rfl) ?_
        obtain ⟨r83, er83, hf⟩ := fp_b hf
        refine RoL.callV (c_X0_outAt (l := l) (D := D) (cI := cI) (cJ := cJ) (cZ := cZ) (cQ := cQ) (qs := qs) er83) F (cwV 1 hts gX5_found_X0_outAt rfl rfl rfl yd_X0_outAt ⟨Nat.le_of_ble_eq_true rfl, Nat.le_of_ble_eq_true rfl⟩) (hG.r hS) hP [5, 9] rfl 0 rfl rfl rfl hl.1 rfl (Nat.le_of_ble_eq_true rfl) dX5_found_117 ⟨Nat.zero_le _, Nat.zero_le _⟩ ?_
        refine lv_aload_n hx hb dX5_found_120 rfl (lv_at hl 0 rfl) ?_
        refine va_get (D := D) (ci := 5) (v := .ref hBe) (C := RX5) (T := TX5) (N := 6) hx hb hts ku_X5_found_X5 hown hK hP 0 rfl rfl 5 (by decide) (hts _ kw_X5_found_2) (fun _ h9 => h9) rfl dX5_found_121 ?_
        refine va_getN (D := D) (ci := 0) (v := .long r82.2.1) (C := RX0) (T := TX0) (N := 7) (host := "MirrorShares") hx hb hts ku_X5_found_X0 hown hK hP 5 rfl rfl 6 (by decide) (nwf_6 hG.1) (fun _ h9 => h9) rfl dX5_found_124 ?_
        refine lv_iload_n hx hb dX5_found_127 rfl (lv_at hl 3 rfl) ?_
        refine lv_i2l (v := (Int32.toInt64 y3)) hx hb dX5_found_128 rfl ?_
        refine lv_iload hx hb dX5_found_129 (lv_at hl 4 rfl) ?_
        refine lv_i2l (v := (Int32.toInt64 y4)) hx hb dX5_found_131 rfl ?_
        obtain ⟨r84, er84, hf⟩ := fp_b hf
        refine RoI.callS (c_X5_compareFractions (l := l) (D := D) (cI := cI) (cJ := cJ) (cZ := cZ) (cQ := cQ) (qs := qs) er84) F (va_cwS 4 hts gX5_found_X5_compareFractions rfl rfl rfl yd_X5_compareFractions ⟨Nat.le_of_ble_eq_true rfl, Nat.le_of_ble_eq_true rfl⟩) (hG.r hS) hP [] rfl rfl hl.1 rfl (Nat.le_of_ble_eq_true rfl) dX5_found_132 ⟨Nat.zero_le _, Nat.zero_le _⟩ ?_
        refine lv_if_ne (tgt := 157) hx hb dX5_found_135 (by decide) (fun c85 => ?_) (fun c85 => ?_)
        · have hf := fp_f hf c85
          refine lv_iinc (v := (y8 + (1 : Int32))) (lv' := [(8, .int (y8 + (1 : Int32))), (0, .ref hMs), (1, .int y1), (2, .int y2), (3, .int y3), (4, .int y4), (5, .int y5), (6, .int y6), (7, .int y7)]) hx hb dX5_found_157 hl (k := 8) rfl rfl (by decide) rfl (fun ls hl => ?_)
          refine lv_goto (tgt := 55) hx hb dX5_found_160 (by decide) ?_
          cases hf
          exact ih _ (fp_inl ho) hP hD hS (lv_sub hl [1, 2, 3, 4, 5, 6, 7, 8, 0] rfl) hex
        · have hf := fp_t hf c85
          refine lv_iinc (v := (y6 + (1 : Int32))) (lv' := [(6, .int (y6 + (1 : Int32))), (0, .ref hMs), (1, .int y1), (2, .int y2), (3, .int y3), (4, .int y4), (5, .int y5), (7, .int y7), (8, .int y8)]) hx hb dX5_found_138 hl (k := 6) rfl rfl (by decide) rfl (fun ls hl => ?_)
          refine lv_iload hx hb dX5_found_141 (lv_at hl 7 rfl) ?_
          refine lv_bipush (v := (-4 : Int32)) hx hb dX5_found_143 (by decide) ?_
          refine lv_icmp_ne (tgt := 153) hx hb dX5_found_145 (by decide) (fun c86 => ?_) (fun c86 => ?_)
          · have hf := fp_f hf c86
            refine lv_iload hx hb dX5_found_153 (lv_at hl 7 rfl) ?_
            refine lv_istore (lv' := [(7, .int y7), (6, .int (y6 + (1 : Int32))), (0, .ref hMs), (1, .int y1), (2, .int y2), (3, .int y3), (4, .int y4), (5, .int y5), (8, .int y8)]) hx hb dX5_found_155 hl (by decide) rfl (fun ls hl => ?_)
            refine lv_iinc (v := (y8 + (1 : Int32))) (lv' := [(8, .int (y8 + (1 : Int32))), (7, .int y7), (6, .int (y6 + (1 : Int32))), (0, .ref hMs), (1, .int y1), (2, .int y2), (3, .int y3), (4, .int y4), (5, .int y5)]) hx hb dX5_found_157 hl (k := 8) rfl rfl (by decide) rfl (fun ls hl => ?_)
            refine lv_goto (tgt := 55) hx hb dX5_found_160 (by decide) ?_
            cases hf
            exact ih _ (fp_inl ho) hP hD hS (lv_sub hl [3, 4, 5, 6, 7, 8, 2, 1, 0] rfl) hex
          · have hf := fp_t hf c86
            refine lv_iload hx hb dX5_found_148 (lv_at hl 8 rfl) ?_
            refine lv_goto (tgt := 155) hx hb dX5_found_150 (by decide) ?_
            refine lv_istore (lv' := [(7, .int y8), (6, .int (y6 + (1 : Int32))), (0, .ref hMs), (1, .int y1), (2, .int y2), (3, .int y3), (4, .int y4), (5, .int y5), (8, .int y8)]) hx hb dX5_found_155 hl (by decide) rfl (fun ls hl => ?_)
            refine lv_iinc (v := (y8 + (1 : Int32))) (lv' := [(8, .int (y8 + (1 : Int32))), (7, .int y8), (6, .int (y6 + (1 : Int32))), (0, .ref hMs), (1, .int y1), (2, .int y2), (3, .int y3), (4, .int y4), (5, .int y5)]) hx hb dX5_found_157 hl (k := 8) rfl rfl (by decide) rfl (fun ls hl => ?_)
            refine lv_goto (tgt := 55) hx hb dX5_found_160 (by decide) ?_
            cases hf
            exact ih _ (fp_inl ho) hP hD hS (lv_sub hl [3, 4, 5, 6, 7, 8, 2, 1, 0] rfl) hex
      · have hf := fp_f hf c80
        refine lv_goto (tgt := 157) hx hb dX5_found_83 (by decide) ?_
        refine lv_iinc (v := (y8 + (1 : Int32))) (lv' := [(8, .int (y8 + (1 : Int32))), (0, .ref hMs), (1, .int y1), (2, .int y2), (3, .int y3), (4, .int y4), (5, .int y5), (6, .int y6), (7, .int y7)]) hx hb dX5_found_157 hl (k := 8) rfl rfl (by decide) rfl (fun ls hl => ?_)
        refine lv_goto (tgt := 55) hx hb dX5_found_160 (by decide) ?_
        cases hf
        exact ih _ (fp_inl ho) hP hD hS (lv_sub hl [1, 2, 3, 4, 5, 6, 7, 8, 0] rfl) hex
def f_X5_found (coR : Int32) (roR : Int32) (kdR : Nat → Int32) (coT : Int32) (roT : Int32) (kdT : Nat → Int32) (bq : Int32) (bw : Int64) (bp : Nat → Int32) (bn : Nat → Int32) (br : Nat → Int32) (bs : Nat → Int64) (bM : Nat → Nat → Int64) (x1 : Int32) (x2 : Int32) (x3 : Int32) (x4 : Int32) (x5 : Int32) : Option (Int32 × Int32 × Int32 × (Nat → Int32) × Int32 × Int64 × (Nat → Int32) × (Nat → Int32) × (Nat → Int32) × (Nat → Int64) × (Nat → Nat → Int64)) :=
  Option.bind (f_X5_hasPorts coR roR x1 x2) (fun r69 => (if r69 = 0 then some ((-1 : Int32), coT, roT, kdT, bq, bw, bp, bn, br, bs, bM) else (if x3 < 0 then some ((-1 : Int32), coT, roT, kdT, bq, bw, bp, bn, br, bs, bM) else (if (1000 : Int32) < x3 then some ((-1 : Int32), coT, roT, kdT, bq, bw, bp, bn, br, bs, bM) else (if x4 < (1 : Int32) then some ((-1 : Int32), coT, roT, kdT, bq, bw, bp, bn, br, bs, bM) else (if (1000 : Int32) < x4 then some ((-1 : Int32), coT, roT, kdT, bq, bw, bp, bn, br, bs, bM) else Option.bind (f_X5_isPart x5 (2 : Int32)) (fun r75 => (if r75 = 0 then some ((-1 : Int32), coT, roT, kdT, bq, bw, bp, bn, br, bs, bM) else Option.bind (lpf (fun s => f_X5_found_55 coR roR kdR x1 x2 x3 x4 x5 s.1 s.2.1 s.2.2.1 s.2.2.2.1 s.2.2.2.2.1 s.2.2.2.2.2.1 s.2.2.2.2.2.2.1 s.2.2.2.2.2.2.2.1 s.2.2.2.2.2.2.2.2.1 s.2.2.2.2.2.2.2.2.2.1 s.2.2.2.2.2.2.2.2.2.2.1 s.2.2.2.2.2.2.2.2.2.2.2.1 s.2.2.2.2.2.2.2.2.2.2.2.2) 1000 ((0 : Int32), (-4 : Int32), (0 : Int32), coT, roT, kdT, bq, bw, bp, bn, br, bs, bM)) (fun o87 => (if x5 = 0 then some (o87.1, o87.2.2.1, o87.2.2.2.1, o87.2.2.2.2.1, o87.2.2.2.2.2.1, o87.2.2.2.2.2.2.1, o87.2.2.2.2.2.2.2.1, o87.2.2.2.2.2.2.2.2.1, o87.2.2.2.2.2.2.2.2.2.1, o87.2.2.2.2.2.2.2.2.2.2.1, o87.2.2.2.2.2.2.2.2.2.2.2) else some (o87.2.1, o87.2.2.1, o87.2.2.2.1, o87.2.2.2.2.1, o87.2.2.2.2.2.1, o87.2.2.2.2.2.2.1, o87.2.2.2.2.2.2.2.1, o87.2.2.2.2.2.2.2.2.1, o87.2.2.2.2.2.2.2.2.2.1, o87.2.2.2.2.2.2.2.2.2.2.1, o87.2.2.2.2.2.2.2.2.2.2.2)))))))))))
set_option maxHeartbeats 4000000 in
set_option maxRecDepth 100000 in
theorem b_X5_found {p : Program} {l : Launch} {e : Env} {s : State} {m : MethodId} {args : Array Value} {below : List Frame} {meth : Method} {c : Code} {Q : State → Prop} {A : Nat → Prop} {H : Heap} {locs : List Loc} {D : va_G} {cI cJ cZ cQ : ClassId} {qs : Nat × Nat × Nat} {hMs hTo hRmR hRmT hPa hWa hBe hKdR hKdT hBp hBn hBr hBo hBs : Nat} {hBg : Nat → Nat} {coR : Int32} {roR : Int32} {kdR : Nat → Int32} {coT : Int32} {roT : Int32} {kdT : Nat → Int32} {bq : Int32} {bw : Int64} {bp : Nat → Int32} {bn : Nat → Int32} {br : Nat → Int32} {bs : Nat → Int64} {bM : Nat → Nat → Int64} {x1 : Int32} {x2 : Int32} {x3 : Int32} {x4 : Int32} {x5 : Int32} {out : Int32 × Int32 × Int32 × (Nat → Int32) × Int32 × Int64 × (Nat → Int32) × (Nat → Int32) × (Nat → Int32) × (Nat → Int64) × (Nat → Nat → Int64)} (F : CallFix p m c cX5_found 9 s args wsX5_found RX5) (hG : kW D (ty4 cI cJ cZ cQ) qs A s s.heap) (hA : ∀ q : Nat, s.heap.size ≤ q → A q) (hP : va_P D vwCl ([(hMs, .inr (5, [.ref hTo, .ref hRmR, .ref hRmT, .ref hPa, .ref hWa, .ref hBe])), (hRmR, .inr (2, [.ref hKdR, .int coR, .int roR])), (hKdR, .inl (cI, 20, .inl kdR)), (hRmT, .inr (2, [.ref hKdT, .int coT, .int roT])), (hKdT, .inl (cI, 20, .inl kdT)), (hBe, .inr (0, [.ref hBp, .ref hBn, .ref hBr, .ref hBo, .ref hBs, .int bq, .long bw])), (hBp, .inl (cI, 10, .inl bp)), (hBn, .inl (cI, 60, .inl bn)), (hBr, .inl (cI, 20, .inl br)), (hBs, .inl (cJ, 60, .inr (.inl bs))), (hBo, .inl (cQ, 10, .inr (.inr (.inr (.inr (gr_o hBg))))))] ++ gr_c cJ hBg bM) H) (hD : va_D A ([(hMs, .inr (5, [.ref hTo, .ref hRmR, .ref hRmT, .ref hPa, .ref hWa, .ref hBe])), (hRmR, .inr (2, [.ref hKdR, .int coR, .int roR])), (hKdR, .inl (cI, 20, .inl kdR)), (hRmT, .inr (2, [.ref hKdT, .int coT, .int roT])), (hKdT, .inl (cI, 20, .inl kdT)), (hBe, .inr (0, [.ref hBp, .ref hBn, .ref hBr, .ref hBo, .ref hBs, .int bq, .long bw])), (hBp, .inl (cI, 10, .inl bp)), (hBn, .inl (cI, 60, .inl bn)), (hBr, .inl (cI, 20, .inl br)), (hBs, .inl (cJ, 60, .inr (.inl bs))), (hBo, .inl (cQ, 10, .inr (.inr (.inr (.inr (gr_o hBg))))))] ++ gr_c cJ hBg bM)) (hS : va_S A s.heap H locs) (hf : f_X5_found coR roR kdR coT roT kdT bq bw bp bn br bs bM x1 x2 x3 x4 x5 = some out) (hret : ∀ (pc : Nat) (H : Heap) (locs : List Loc) (ls : Array Slot), decode cX5_found pc = .ok (.ireturn, 1) → narrow .int (.int out.1) = .int out.1 → va_P D vwCl ([(hMs, .inr (5, [.ref hTo, .ref hRmR, .ref hRmT, .ref hPa, .ref hWa, .ref hBe])), (hRmR, .inr (2, [.ref hKdR, .int coR, .int roR])), (hKdR, .inl (cI, 20, .inl kdR)), (hRmT, .inr (2, [.ref hKdT, .int out.2.1, .int out.2.2.1])), (hKdT, .inl (cI, 20, .inl out.2.2.2.1)), (hBe, .inr (0, [.ref hBp, .ref hBn, .ref hBr, .ref hBo, .ref hBs, .int out.2.2.2.2.1, .long out.2.2.2.2.2.1])), (hBp, .inl (cI, 10, .inl out.2.2.2.2.2.2.1)), (hBn, .inl (cI, 60, .inl out.2.2.2.2.2.2.2.1)), (hBr, .inl (cI, 20, .inl out.2.2.2.2.2.2.2.2.1)), (hBs, .inl (cJ, 60, .inr (.inl out.2.2.2.2.2.2.2.2.2.1))), (hBo, .inl (cQ, 10, .inr (.inr (.inr (.inr (gr_o hBg))))))] ++ gr_c cJ hBg out.2.2.2.2.2.2.2.2.2.2) H → va_D A ([(hMs, .inr (5, [.ref hTo, .ref hRmR, .ref hRmT, .ref hPa, .ref hWa, .ref hBe])), (hRmR, .inr (2, [.ref hKdR, .int coR, .int roR])), (hKdR, .inl (cI, 20, .inl kdR)), (hRmT, .inr (2, [.ref hKdT, .int out.2.1, .int out.2.2.1])), (hKdT, .inl (cI, 20, .inl out.2.2.2.1)), (hBe, .inr (0, [.ref hBp, .ref hBn, .ref hBr, .ref hBo, .ref hBs, .int out.2.2.2.2.1, .long out.2.2.2.2.2.1])), (hBp, .inl (cI, 10, .inl out.2.2.2.2.2.2.1)), (hBn, .inl (cI, 60, .inl out.2.2.2.2.2.2.2.1)), (hBr, .inl (cI, 20, .inl out.2.2.2.2.2.2.2.2.1)), (hBs, .inl (cJ, 60, .inr (.inl out.2.2.2.2.2.2.2.2.2.1))), (hBo, .inl (cQ, 10, .inr (.inr (.inr (.inr (gr_o hBg))))))] ++ gr_c cJ hBg out.2.2.2.2.2.2.2.2.2.2) → va_S A s.heap H locs → W p l e { frames := 6, cells := 0, slots := 0, locals := 139 } s m args below meth c H locs 0 0 Q (F0 m pc ls [.int out.1])) {ls : Array Slot} (hl : lv_has ls 9 [(0, .ref hMs), (1, .int x1), (2, .int x2), (3, .int x3), (4, .int x4), (5, .int x5)]) : W p l e { frames := 6, cells := 0, slots := 0, locals := 139 } s m args below meth c H locs 0 0 Q (F0 m 0 ls []) := by
  have hx := F.1
  have hb := F.2.1
  have hown := F.2.2.2.1
  have hts := F.2.2.2.2
  have hK := hG.1.1
  rw [f_X5_found] at hf
  refine lv_aload_n hx hb dX5_found_0 rfl (lv_at hl 0 rfl) ?_
  refine lv_iload_n hx hb dX5_found_1 rfl (lv_at hl 1 rfl) ?_
  refine lv_iload_n hx hb dX5_found_2 rfl (lv_at hl 2 rfl) ?_
  obtain ⟨r69, er69, hf⟩ := fp_b hf
  refine RoI.callV (c_X5_hasPorts (l := l) (D := D) (cI := cI) (cJ := cJ) (cZ := cZ) (cQ := cQ) (qs := qs) er69) F (cwV 2 hts gX5_found_X5_hasPorts rfl rfl rfl yd_X5_hasPorts ⟨Nat.le_of_ble_eq_true rfl, Nat.le_of_ble_eq_true rfl⟩) (hG.r hS) hP [0, 1] rfl 5 rfl rfl rfl hl.1 rfl (Nat.le_of_ble_eq_true rfl) dX5_found_3 ⟨Nat.zero_le _, Nat.zero_le _⟩ ?_
  refine lv_if_eq (tgt := 43) hx hb dX5_found_6 (by decide) (fun c70 => ?_) (fun c70 => ?_)
  · have hf := fp_t hf c70
    refine lv_iconst (v := (-1 : Int32)) hx hb dX5_found_43 (by decide) ?_
    cases hf
    exact hret _ _ _ _ dX5_found_44 (vp_nar_int _) hP hD hS
  · have hf := fp_f hf c70
    refine lv_iload_n hx hb dX5_found_9 rfl (lv_at hl 3 rfl) ?_
    refine lv_if_lt (tgt := 43) hx hb dX5_found_10 (by decide) (fun c71 => ?_) (fun c71 => ?_)
    · have hf := fp_t hf c71
      refine lv_iconst (v := (-1 : Int32)) hx hb dX5_found_43 (by decide) ?_
      cases hf
      exact hret _ _ _ _ dX5_found_44 (vp_nar_int _) hP hD hS
    · have hf := fp_f hf c71
      refine lv_iload_n hx hb dX5_found_13 rfl (lv_at hl 3 rfl) ?_
      refine lv_sipush (v := (1000 : Int32)) hx hb dX5_found_14 (by decide) ?_
      refine lv_icmp_gt (tgt := 43) hx hb dX5_found_17 (by decide) (fun c72 => ?_) (fun c72 => ?_)
      · have hf := fp_t hf c72
        refine lv_iconst (v := (-1 : Int32)) hx hb dX5_found_43 (by decide) ?_
        cases hf
        exact hret _ _ _ _ dX5_found_44 (vp_nar_int _) hP hD hS
      · have hf := fp_f hf c72
        refine lv_iload hx hb dX5_found_20 (lv_at hl 4 rfl) ?_
        refine lv_iconst (v := (1 : Int32)) hx hb dX5_found_22 (by decide) ?_
        refine lv_icmp_lt (tgt := 43) hx hb dX5_found_23 (by decide) (fun c73 => ?_) (fun c73 => ?_)
        · have hf := fp_t hf c73
          refine lv_iconst (v := (-1 : Int32)) hx hb dX5_found_43 (by decide) ?_
          cases hf
          exact hret _ _ _ _ dX5_found_44 (vp_nar_int _) hP hD hS
        · have hf := fp_f hf c73
          refine lv_iload hx hb dX5_found_26 (lv_at hl 4 rfl) ?_
          refine lv_sipush (v := (1000 : Int32)) hx hb dX5_found_28 (by decide) ?_
          refine lv_icmp_gt (tgt := 43) hx hb dX5_found_31 (by decide) (fun c74 => ?_) (fun c74 => ?_)
          · have hf := fp_t hf c74
            refine lv_iconst (v := (-1 : Int32)) hx hb dX5_found_43 (by decide) ?_
            cases hf
            exact hret _ _ _ _ dX5_found_44 (vp_nar_int _) hP hD hS
          · have hf := fp_f hf c74
            refine lv_iload hx hb dX5_found_34 (lv_at hl 5 rfl) ?_
            refine lv_iconst (v := (2 : Int32)) hx hb dX5_found_36 (by decide) ?_
            obtain ⟨r75, er75, hf⟩ := fp_b hf
            refine RoI.callS (c_X5_isPart (l := l) (D := D) (cI := cI) (cJ := cJ) (cZ := cZ) (cQ := cQ) (qs := qs) er75) F (va_cwS 2 hts gX5_found_X5_isPart rfl rfl rfl yd_X5_isPart ⟨Nat.le_of_ble_eq_true rfl, Nat.le_of_ble_eq_true rfl⟩) (hG.r hS) hP [] rfl rfl hl.1 rfl (Nat.le_of_ble_eq_true rfl) dX5_found_37 ⟨Nat.zero_le _, Nat.zero_le _⟩ ?_
            refine lv_if_ne (tgt := 45) hx hb dX5_found_40 (by decide) (fun c76 => ?_) (fun c76 => ?_)
            · have hf := fp_f hf c76
              refine lv_iconst (v := (0 : Int32)) hx hb dX5_found_45 (by decide) ?_
              refine lv_istore (lv' := [(6, .int (0 : Int32)), (0, .ref hMs), (1, .int x1), (2, .int x2), (3, .int x3), (4, .int x4), (5, .int x5)]) hx hb dX5_found_46 hl (by decide) rfl (fun ls hl => ?_)
              refine lv_bipush (v := (-4 : Int32)) hx hb dX5_found_48 (by decide) ?_
              refine lv_istore (lv' := [(7, .int (-4 : Int32)), (6, .int (0 : Int32)), (0, .ref hMs), (1, .int x1), (2, .int x2), (3, .int x3), (4, .int x4), (5, .int x5)]) hx hb dX5_found_50 hl (by decide) rfl (fun ls hl => ?_)
              refine lv_iconst (v := (0 : Int32)) hx hb dX5_found_52 (by decide) ?_
              refine lv_istore (lv' := [(8, .int (0 : Int32)), (7, .int (-4 : Int32)), (6, .int (0 : Int32)), (0, .ref hMs), (1, .int x1), (2, .int x2), (3, .int x3), (4, .int x4), (5, .int x5)]) hx hb dX5_found_53 hl (by decide) rfl (fun ls hl => ?_)
              obtain ⟨o87, eo87, hf⟩ := fp_b hf
              refine lp_X5_found_55 F hG hA _ _ eo87 hP hD hS (lv_sub hl [3, 4, 5, 6, 7, 8, 2, 1, 0] rfl) (fun H locs ls hP hD hS hl => ?_)
              refine lv_iload hx hb dX5_found_163 (lv_at hl 5 rfl) ?_
              refine lv_if_ne (tgt := 173) hx hb dX5_found_165 (by decide) (fun c88 => ?_) (fun c88 => ?_)
              · have hf := fp_f hf c88
                refine lv_iload hx hb dX5_found_173 (lv_at hl 7 rfl) ?_
                cases hf
                exact hret _ _ _ _ dX5_found_175 (vp_nar_int _) hP hD hS
              · have hf := fp_t hf c88
                refine lv_iload hx hb dX5_found_168 (lv_at hl 6 rfl) ?_
                refine lv_goto (tgt := 175) hx hb dX5_found_170 (by decide) ?_
                cases hf
                exact hret _ _ _ _ dX5_found_175 (vp_nar_int _) hP hD hS
            · have hf := fp_t hf c76
              refine lv_iconst (v := (-1 : Int32)) hx hb dX5_found_43 (by decide) ?_
              cases hf
              exact hret _ _ _ _ dX5_found_44 (vp_nar_int _) hP hD hS
set_option maxRecDepth 100000 in
theorem c_X5_found {l : Launch} {D : va_G} {cI cJ cZ cQ : ClassId} {qs : Nat × Nat × Nat} {hMs hTo hRmR hRmT hPa hWa hBe hKdR hKdT hBp hBn hBr hBo hBs : Nat} {hBg : Nat → Nat} {coR : Int32} {roR : Int32} {kdR : Nat → Int32} {coT : Int32} {roT : Int32} {kdT : Nat → Int32} {bq : Int32} {bw : Int64} {bp : Nat → Int32} {bn : Nat → Int32} {br : Nat → Int32} {bs : Nat → Int64} {bM : Nat → Nat → Int64} {x1 : Int32} {x2 : Int32} {x3 : Int32} {x4 : Int32} {x5 : Int32} {out : Int32 × Int32 × Int32 × (Nat → Int32) × Int32 × Int64 × (Nat → Int32) × (Nat → Int32) × (Nat → Int32) × (Nat → Int64) × (Nat → Nat → Int64)} (hf : f_X5_found coR roR kdR coT roT kdT bq bw bp bn br bs bM x1 x2 x3 x4 x5 = some out) : RwI l yX5_found wsX5_found { frames := 6, cells := 0, slots := 0, locals := 139 } D (ty4 cI cJ cZ cQ) qs [.ref hMs, .int x1, .int x2, .int x3, .int x4, .int x5] ([(hMs, .inr (5, [.ref hTo, .ref hRmR, .ref hRmT, .ref hPa, .ref hWa, .ref hBe])), (hRmR, .inr (2, [.ref hKdR, .int coR, .int roR])), (hKdR, .inl (cI, 20, .inl kdR)), (hRmT, .inr (2, [.ref hKdT, .int coT, .int roT])), (hKdT, .inl (cI, 20, .inl kdT)), (hBe, .inr (0, [.ref hBp, .ref hBn, .ref hBr, .ref hBo, .ref hBs, .int bq, .long bw])), (hBp, .inl (cI, 10, .inl bp)), (hBn, .inl (cI, 60, .inl bn)), (hBr, .inl (cI, 20, .inl br)), (hBs, .inl (cJ, 60, .inr (.inl bs))), (hBo, .inl (cQ, 10, .inr (.inr (.inr (.inr (gr_o hBg))))))] ++ gr_c cJ hBg bM) ([(hMs, .inr (5, [.ref hTo, .ref hRmR, .ref hRmT, .ref hPa, .ref hWa, .ref hBe])), (hRmR, .inr (2, [.ref hKdR, .int coR, .int roR])), (hKdR, .inl (cI, 20, .inl kdR)), (hRmT, .inr (2, [.ref hKdT, .int out.2.1, .int out.2.2.1])), (hKdT, .inl (cI, 20, .inl out.2.2.2.1)), (hBe, .inr (0, [.ref hBp, .ref hBn, .ref hBr, .ref hBo, .ref hBs, .int out.2.2.2.2.1, .long out.2.2.2.2.2.1])), (hBp, .inl (cI, 10, .inl out.2.2.2.2.2.2.1)), (hBn, .inl (cI, 60, .inl out.2.2.2.2.2.2.2.1)), (hBr, .inl (cI, 20, .inl out.2.2.2.2.2.2.2.2.1)), (hBs, .inl (cJ, 60, .inr (.inl out.2.2.2.2.2.2.2.2.2.1))), (hBo, .inl (cQ, 10, .inr (.inr (.inr (.inr (gr_o hBg))))))] ++ gr_c cJ hBg out.2.2.2.2.2.2.2.2.2.2) out.1 :=
  RwI.of (own := RX5) (by decide +kernel) rfl rfl (Nat.le_of_ble_eq_true rfl) (fun F hG hA hP hD hS hret ls hl => b_X5_found F hG hA hP hD hS hf hret hl)
-- method X5_count
theorem yd_X5_count : yX5_count.cls = RX5 ∧ yX5_count.cls ≠ "java/lang/invoke/MethodHandle" ∧ yX5_count.cls ≠ "java/lang/invoke/VarHandle" ∧ (parseMethodDescriptor yX5_count.desc).map (fun d => d.parameters.length) = some 1 := by decide +kernel
theorem ku_X5_count_X5 : ∀ w ∈ u_ws RX5 TX5 6, w ∈ wsX5_count := by decide +kernel
theorem kw_X5_count_1 : Cond.fieldLink RX5 19 "MirrorShares" "room" "LMirrorShares$Room;" ∈ wsX5_count := List.mem_of_getElem? (i := 1) rfl
theorem ku_X5_count_X2 : ∀ w ∈ u_ws RX2 TX2 3, w ∈ wsX5_count := by decide +kernel
theorem kw_X5_count_2 : Cond.fieldLink RX5 29 "MirrorShares" "past" "LMirrorShares$Past;" ∈ wsX5_count := List.mem_of_getElem? (i := 2) rfl
theorem ku_X5_count_X1 : ∀ w ∈ u_ws RX1 TX1 2, w ∈ wsX5_count := by decide +kernel
theorem kw_X5_count_3 : Cond.fieldLink RX5 12 "MirrorShares" "text" "LMirrorShares$Told;" ∈ wsX5_count := List.mem_of_getElem? (i := 3) rfl
theorem ku_X5_count_X3 : ∀ w ∈ u_ws RX3 TX3 2, w ∈ wsX5_count := by decide +kernel
def f_X5_count (coR : Int32) (roR : Int32) (kdR : Nat → Int32) (tn : Int32) (pz : Int32) (x1 : Int32) : Option (Int32) :=
  (if x1 = (0 : Int32) then some coR else (if x1 = (1 : Int32) then some roR else (if x1 = (2 : Int32) then Option.bind (f_X2_countKinds coR roR kdR (3 : Int32) (4 : Int32)) (fun r92 => some r92) else (if x1 = (3 : Int32) then Option.bind (f_X2_countKinds coR roR kdR (6 : Int32) (7 : Int32)) (fun r94 => some r94) else (if x1 = (4 : Int32) then Option.bind (f_X2_countKinds coR roR kdR (6 : Int32) (6 : Int32)) (fun r96 => some r96) else (if x1 = (5 : Int32) then Option.bind (f_X2_countKinds coR roR kdR (5 : Int32) (5 : Int32)) (fun r98 => some r98) else (if x1 = (6 : Int32) then Option.bind (f_X2_countKinds coR roR kdR (1 : Int32) (2 : Int32)) (fun r100 => some r100) else (if x1 = (7 : Int32) then Option.bind (f_X2_ports coR roR) (fun r102 => some r102) else (if x1 = (8 : Int32) then some pz else (if x1 = (9 : Int32) then some tn else some (-1 : Int32)))))))))))
set_option maxHeartbeats 4000000 in
set_option maxRecDepth 100000 in
theorem b_X5_count {p : Program} {l : Launch} {e : Env} {s : State} {m : MethodId} {args : Array Value} {below : List Frame} {meth : Method} {c : Code} {Q : State → Prop} {D : va_G} {cI cJ cZ cQ : ClassId} {qs : Nat × Nat × Nat} {hMs hTo hRmR hRmT hPa hWa hBe hKdR hTl hPg : Nat} {coR : Int32} {roR : Int32} {kdR : Nat → Int32} {tn : Int32} {pz : Int32} {x1 : Int32} {out : Int32} (F : CallFix p m c cX5_count 2 s args wsX5_count RX5) (hG : kR D (ty4 cI cJ cZ cQ) qs s s.heap) (hP : va_P D vwCl [(hMs, .inr (5, [.ref hTo, .ref hRmR, .ref hRmT, .ref hPa, .ref hWa, .ref hBe])), (hRmR, .inr (2, [.ref hKdR, .int coR, .int roR])), (hKdR, .inl (cI, 20, .inl kdR)), (hTo, .inr (3, [.ref hTl, .int tn])), (hPa, .inr (1, [.ref hPg, .int pz]))] s.heap) (hf : f_X5_count coR roR kdR tn pz x1 = some out) (hret : ∀ (pc : Nat) (ls : Array Slot), decode cX5_count pc = .ok (.ireturn, 1) → narrow .int (.int out) = .int out → W p l e { frames := 3, cells := 0, slots := 0, locals := 66 } s m args below meth c s.heap [] 0 0 Q (F0 m pc ls [.int out])) {ls : Array Slot} (hl : lv_has ls 2 [(0, .ref hMs), (1, .int x1)]) : W p l e { frames := 3, cells := 0, slots := 0, locals := 66 } s m args below meth c s.heap [] 0 0 Q (F0 m 0 ls []) := by
  have hx := F.1
  have hb := F.2.1
  have hown := F.2.2.2.1
  have hts := F.2.2.2.2
  have hK := hG.1.1
  rw [f_X5_count] at hf
  refine lv_iload_n hx hb dX5_count_0 rfl (lv_at hl 1 rfl) ?_
  by_cases c89 : x1 = (0 : Int32)
  · have hf := fp_t hf c89
    rw [c89]
    refine lv_tableIn (off := 55) (tgt := 56) hx hb dX5_count_1 (by decide) (by decide) rfl (by decide) ?_
    refine lv_aload_n hx hb dX5_count_56 rfl (lv_at hl 0 rfl) ?_
    refine va_get (D := D) (ci := 5) (v := .ref hRmR) (C := RX5) (T := TX5) (N := 6) hx hb hts ku_X5_count_X5 hown hK hP 0 rfl rfl 1 (by decide) (hts _ kw_X5_count_1) (fun _ h9 => h9) rfl dX5_count_57 ?_
    refine va_getN (D := D) (ci := 2) (v := .int coR) (C := RX2) (T := TX2) (N := 3) (host := "MirrorShares") hx hb hts ku_X5_count_X2 hown hK hP 1 rfl rfl 1 (by decide) (nwf_2 hG.1) (fun _ h9 => h9) rfl dX5_count_60 ?_
    cases hf
    exact hret _ _ dX5_count_63 (vp_nar_int _)
  have hf := fp_f hf c89
  by_cases c90 : x1 = (1 : Int32)
  · have hf := fp_t hf c90
    rw [c90]
    refine lv_tableIn (off := 63) (tgt := 64) hx hb dX5_count_1 (by decide) (by decide) rfl (by decide) ?_
    refine lv_aload_n hx hb dX5_count_64 rfl (lv_at hl 0 rfl) ?_
    refine va_get (D := D) (ci := 5) (v := .ref hRmR) (C := RX5) (T := TX5) (N := 6) hx hb hts ku_X5_count_X5 hown hK hP 0 rfl rfl 1 (by decide) (hts _ kw_X5_count_1) (fun _ h9 => h9) rfl dX5_count_65 ?_
    refine va_getN (D := D) (ci := 2) (v := .int roR) (C := RX2) (T := TX2) (N := 3) (host := "MirrorShares") hx hb hts ku_X5_count_X2 hown hK hP 1 rfl rfl 2 (by decide) (nwf_3 hG.1) (fun _ h9 => h9) rfl dX5_count_68 ?_
    cases hf
    exact hret _ _ dX5_count_71 (vp_nar_int _)
  have hf := fp_f hf c90
  by_cases c91 : x1 = (2 : Int32)
  · have hf := fp_t hf c91
    rw [c91]
    refine lv_tableIn (off := 71) (tgt := 72) hx hb dX5_count_1 (by decide) (by decide) rfl (by decide) ?_
    refine lv_aload_n hx hb dX5_count_72 rfl (lv_at hl 0 rfl) ?_
    refine va_get (D := D) (ci := 5) (v := .ref hRmR) (C := RX5) (T := TX5) (N := 6) hx hb hts ku_X5_count_X5 hown hK hP 0 rfl rfl 1 (by decide) (hts _ kw_X5_count_1) (fun _ h9 => h9) rfl dX5_count_73 ?_
    refine lv_iconst (v := (3 : Int32)) hx hb dX5_count_76 (by decide) ?_
    refine lv_iconst (v := (4 : Int32)) hx hb dX5_count_77 (by decide) ?_
    obtain ⟨r92, er92, hf⟩ := fp_b hf
    refine RoI.callV (c_X2_countKinds (l := l) (D := D) (cI := cI) (cJ := cJ) (cZ := cZ) (cQ := cQ) (qs := qs) er92) F (cwV 2 hts gX5_count_X2_countKinds rfl rfl rfl yd_X2_countKinds ⟨Nat.le_of_ble_eq_true rfl, Nat.le_of_ble_eq_true rfl⟩) hG hP [1, 2] rfl 2 rfl rfl rfl hl.1 rfl (Nat.le_of_ble_eq_true rfl) dX5_count_78 ⟨Nat.zero_le _, Nat.zero_le _⟩ ?_
    cases hf
    exact hret _ _ dX5_count_81 (vp_nar_int _)
  have hf := fp_f hf c91
  by_cases c93 : x1 = (3 : Int32)
  · have hf := fp_t hf c93
    rw [c93]
    refine lv_tableIn (off := 81) (tgt := 82) hx hb dX5_count_1 (by decide) (by decide) rfl (by decide) ?_
    refine lv_aload_n hx hb dX5_count_82 rfl (lv_at hl 0 rfl) ?_
    refine va_get (D := D) (ci := 5) (v := .ref hRmR) (C := RX5) (T := TX5) (N := 6) hx hb hts ku_X5_count_X5 hown hK hP 0 rfl rfl 1 (by decide) (hts _ kw_X5_count_1) (fun _ h9 => h9) rfl dX5_count_83 ?_
    refine lv_bipush (v := (6 : Int32)) hx hb dX5_count_86 (by decide) ?_
    refine lv_bipush (v := (7 : Int32)) hx hb dX5_count_88 (by decide) ?_
    obtain ⟨r94, er94, hf⟩ := fp_b hf
    refine RoI.callV (c_X2_countKinds (l := l) (D := D) (cI := cI) (cJ := cJ) (cZ := cZ) (cQ := cQ) (qs := qs) er94) F (cwV 2 hts gX5_count_X2_countKinds rfl rfl rfl yd_X2_countKinds ⟨Nat.le_of_ble_eq_true rfl, Nat.le_of_ble_eq_true rfl⟩) hG hP [1, 2] rfl 2 rfl rfl rfl hl.1 rfl (Nat.le_of_ble_eq_true rfl) dX5_count_90 ⟨Nat.zero_le _, Nat.zero_le _⟩ ?_
    cases hf
    exact hret _ _ dX5_count_93 (vp_nar_int _)
  have hf := fp_f hf c93
  by_cases c95 : x1 = (4 : Int32)
  · have hf := fp_t hf c95
    rw [c95]
    refine lv_tableIn (off := 93) (tgt := 94) hx hb dX5_count_1 (by decide) (by decide) rfl (by decide) ?_
    refine lv_aload_n hx hb dX5_count_94 rfl (lv_at hl 0 rfl) ?_
    refine va_get (D := D) (ci := 5) (v := .ref hRmR) (C := RX5) (T := TX5) (N := 6) hx hb hts ku_X5_count_X5 hown hK hP 0 rfl rfl 1 (by decide) (hts _ kw_X5_count_1) (fun _ h9 => h9) rfl dX5_count_95 ?_
    refine lv_bipush (v := (6 : Int32)) hx hb dX5_count_98 (by decide) ?_
    refine lv_bipush (v := (6 : Int32)) hx hb dX5_count_100 (by decide) ?_
    obtain ⟨r96, er96, hf⟩ := fp_b hf
    refine RoI.callV (c_X2_countKinds (l := l) (D := D) (cI := cI) (cJ := cJ) (cZ := cZ) (cQ := cQ) (qs := qs) er96) F (cwV 2 hts gX5_count_X2_countKinds rfl rfl rfl yd_X2_countKinds ⟨Nat.le_of_ble_eq_true rfl, Nat.le_of_ble_eq_true rfl⟩) hG hP [1, 2] rfl 2 rfl rfl rfl hl.1 rfl (Nat.le_of_ble_eq_true rfl) dX5_count_102 ⟨Nat.zero_le _, Nat.zero_le _⟩ ?_
    cases hf
    exact hret _ _ dX5_count_105 (vp_nar_int _)
  have hf := fp_f hf c95
  by_cases c97 : x1 = (5 : Int32)
  · have hf := fp_t hf c97
    rw [c97]
    refine lv_tableIn (off := 105) (tgt := 106) hx hb dX5_count_1 (by decide) (by decide) rfl (by decide) ?_
    refine lv_aload_n hx hb dX5_count_106 rfl (lv_at hl 0 rfl) ?_
    refine va_get (D := D) (ci := 5) (v := .ref hRmR) (C := RX5) (T := TX5) (N := 6) hx hb hts ku_X5_count_X5 hown hK hP 0 rfl rfl 1 (by decide) (hts _ kw_X5_count_1) (fun _ h9 => h9) rfl dX5_count_107 ?_
    refine lv_iconst (v := (5 : Int32)) hx hb dX5_count_110 (by decide) ?_
    refine lv_iconst (v := (5 : Int32)) hx hb dX5_count_111 (by decide) ?_
    obtain ⟨r98, er98, hf⟩ := fp_b hf
    refine RoI.callV (c_X2_countKinds (l := l) (D := D) (cI := cI) (cJ := cJ) (cZ := cZ) (cQ := cQ) (qs := qs) er98) F (cwV 2 hts gX5_count_X2_countKinds rfl rfl rfl yd_X2_countKinds ⟨Nat.le_of_ble_eq_true rfl, Nat.le_of_ble_eq_true rfl⟩) hG hP [1, 2] rfl 2 rfl rfl rfl hl.1 rfl (Nat.le_of_ble_eq_true rfl) dX5_count_112 ⟨Nat.zero_le _, Nat.zero_le _⟩ ?_
    cases hf
    exact hret _ _ dX5_count_115 (vp_nar_int _)
  have hf := fp_f hf c97
  by_cases c99 : x1 = (6 : Int32)
  · have hf := fp_t hf c99
    rw [c99]
    refine lv_tableIn (off := 115) (tgt := 116) hx hb dX5_count_1 (by decide) (by decide) rfl (by decide) ?_
    refine lv_aload_n hx hb dX5_count_116 rfl (lv_at hl 0 rfl) ?_
    refine va_get (D := D) (ci := 5) (v := .ref hRmR) (C := RX5) (T := TX5) (N := 6) hx hb hts ku_X5_count_X5 hown hK hP 0 rfl rfl 1 (by decide) (hts _ kw_X5_count_1) (fun _ h9 => h9) rfl dX5_count_117 ?_
    refine lv_iconst (v := (1 : Int32)) hx hb dX5_count_120 (by decide) ?_
    refine lv_iconst (v := (2 : Int32)) hx hb dX5_count_121 (by decide) ?_
    obtain ⟨r100, er100, hf⟩ := fp_b hf
    refine RoI.callV (c_X2_countKinds (l := l) (D := D) (cI := cI) (cJ := cJ) (cZ := cZ) (cQ := cQ) (qs := qs) er100) F (cwV 2 hts gX5_count_X2_countKinds rfl rfl rfl yd_X2_countKinds ⟨Nat.le_of_ble_eq_true rfl, Nat.le_of_ble_eq_true rfl⟩) hG hP [1, 2] rfl 2 rfl rfl rfl hl.1 rfl (Nat.le_of_ble_eq_true rfl) dX5_count_122 ⟨Nat.zero_le _, Nat.zero_le _⟩ ?_
    cases hf
    exact hret _ _ dX5_count_125 (vp_nar_int _)
  have hf := fp_f hf c99
  by_cases c101 : x1 = (7 : Int32)
  · have hf := fp_t hf c101
    rw [c101]
    refine lv_tableIn (off := 125) (tgt := 126) hx hb dX5_count_1 (by decide) (by decide) rfl (by decide) ?_
    refine lv_aload_n hx hb dX5_count_126 rfl (lv_at hl 0 rfl) ?_
    refine va_get (D := D) (ci := 5) (v := .ref hRmR) (C := RX5) (T := TX5) (N := 6) hx hb hts ku_X5_count_X5 hown hK hP 0 rfl rfl 1 (by decide) (hts _ kw_X5_count_1) (fun _ h9 => h9) rfl dX5_count_127 ?_
    obtain ⟨r102, er102, hf⟩ := fp_b hf
    refine RoI.callV (c_X2_ports (l := l) (D := D) (cI := cI) (cJ := cJ) (cZ := cZ) (cQ := cQ) (qs := qs) er102) F (cwV 0 hts gX5_count_X2_ports rfl rfl rfl yd_X2_ports ⟨Nat.le_of_ble_eq_true rfl, Nat.le_of_ble_eq_true rfl⟩) hG hP [1] rfl 2 rfl rfl rfl hl.1 rfl (Nat.le_of_ble_eq_true rfl) dX5_count_130 ⟨Nat.zero_le _, Nat.zero_le _⟩ ?_
    cases hf
    exact hret _ _ dX5_count_133 (vp_nar_int _)
  have hf := fp_f hf c101
  by_cases c103 : x1 = (8 : Int32)
  · have hf := fp_t hf c103
    rw [c103]
    refine lv_tableIn (off := 133) (tgt := 134) hx hb dX5_count_1 (by decide) (by decide) rfl (by decide) ?_
    refine lv_aload_n hx hb dX5_count_134 rfl (lv_at hl 0 rfl) ?_
    refine va_get (D := D) (ci := 5) (v := .ref hPa) (C := RX5) (T := TX5) (N := 6) hx hb hts ku_X5_count_X5 hown hK hP 0 rfl rfl 3 (by decide) (hts _ kw_X5_count_2) (fun _ h9 => h9) rfl dX5_count_135 ?_
    refine va_getN (D := D) (ci := 1) (v := .int pz) (C := RX1) (T := TX1) (N := 2) (host := "MirrorShares") hx hb hts ku_X5_count_X1 hown hK hP 4 rfl rfl 1 (by decide) (nwf_4 hG.1) (fun _ h9 => h9) rfl dX5_count_138 ?_
    cases hf
    exact hret _ _ dX5_count_141 (vp_nar_int _)
  have hf := fp_f hf c103
  by_cases c104 : x1 = (9 : Int32)
  · have hf := fp_t hf c104
    rw [c104]
    refine lv_tableIn (off := 141) (tgt := 142) hx hb dX5_count_1 (by decide) (by decide) rfl (by decide) ?_
    refine lv_aload_n hx hb dX5_count_142 rfl (lv_at hl 0 rfl) ?_
    refine va_get (D := D) (ci := 5) (v := .ref hTo) (C := RX5) (T := TX5) (N := 6) hx hb hts ku_X5_count_X5 hown hK hP 0 rfl rfl 0 (by decide) (hts _ kw_X5_count_3) (fun _ h9 => h9) rfl dX5_count_143 ?_
    refine va_getN (D := D) (ci := 3) (v := .int tn) (C := RX3) (T := TX3) (N := 2) (host := "MirrorShares") hx hb hts ku_X5_count_X3 hown hK hP 3 rfl rfl 1 (by decide) (nwf_0 hG.1) (fun _ h9 => h9) rfl dX5_count_146 ?_
    cases hf
    exact hret _ _ dX5_count_149 (vp_nar_int _)
  have hf := fp_f hf c104
  refine lv_tableOut (tgt := 150) hx hb dX5_count_1 (sw_out_0_9 c89 c90 c91 c93 c95 c97 c99 c101 c103 c104) (by decide) ?_
  refine lv_iconst (v := (-1 : Int32)) hx hb dX5_count_150 (by decide) ?_
  cases hf
  exact hret _ _ dX5_count_151 (vp_nar_int _)
set_option maxRecDepth 100000 in
theorem c_X5_count {l : Launch} {D : va_G} {cI cJ cZ cQ : ClassId} {qs : Nat × Nat × Nat} {hMs hTo hRmR hRmT hPa hWa hBe hKdR hTl hPg : Nat} {coR : Int32} {roR : Int32} {kdR : Nat → Int32} {tn : Int32} {pz : Int32} {x1 : Int32} {out : Int32} (hf : f_X5_count coR roR kdR tn pz x1 = some out) : RoI l yX5_count wsX5_count { frames := 3, cells := 0, slots := 0, locals := 66 } D (ty4 cI cJ cZ cQ) qs [.ref hMs, .int x1] [(hMs, .inr (5, [.ref hTo, .ref hRmR, .ref hRmT, .ref hPa, .ref hWa, .ref hBe])), (hRmR, .inr (2, [.ref hKdR, .int coR, .int roR])), (hKdR, .inl (cI, 20, .inl kdR)), (hTo, .inr (3, [.ref hTl, .int tn])), (hPa, .inr (1, [.ref hPg, .int pz]))] out :=
  RoI.of (own := RX5) (by decide +kernel) rfl rfl (Nat.le_of_ble_eq_true rfl) (fun F hG hP hret ls hl => b_X5_count F hG hP hf hret hl)
