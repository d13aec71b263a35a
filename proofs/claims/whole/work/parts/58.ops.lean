/-! ===== share, lost, bits, alike ===== -/
def BmOk (W H : Nat) (κ : Nat → Nat) (p : Nat) (w : Int64) (bs : Nat → Int64) : Prop := ∃ B, SpI W H κ (tr W H κ 80 (4 * pcell W H p + pdir W H p)) B.1 B ∧ w = lZ (wZ W H κ B) ∧ ∀ e, e < 60 → bs e = lZ (PZ W H κ (tr W H κ 80 (4 * pcell W H p + pdir W H p)) B e)
theorem lZ_32 {a : Nat} : Int64.toInt32 (lZ (a : Int)) = nI a := by
  show Int64.toInt32 (Int64.ofInt (a : Int)) = Int32.ofNat a
  rw [Int64.toInt32_ofInt, Int32.ofInt_eq_ofNat]
theorem x_cmp {a b : Int} (ha : -(2 ^ 62) ≤ a ∧ a ≤ 2 ^ 62) (hb : -(2 ^ 62) ≤ b ∧ b ≤ 2 ^ 62) : lg_cmp (lZ a) (lZ b) = if b < a then 1 else if a = b then 0 else -1 := by
  have e1 := lZ_t ha.1 ha.2
  have e2 := lZ_t hb.1 hb.2
  have h1 : lZ a > lZ b ↔ b < a := by
    show lZ b < lZ a ↔ _
    rw [Int64.lt_iff_toInt_lt, e1, e2]
  have h2 : lZ a = lZ b ↔ a = b := by
    rw [← Int64.toInt_inj, e1, e2]
  rw [lg_cmp, ite_iff h1, ite_iff h2]
theorem mul_bd {x y : Int} (hx : -(2 ^ 30) ≤ x ∧ x ≤ 2 ^ 30) (hy : -(2 ^ 30) ≤ y ∧ y ≤ 2 ^ 30) : -(2 ^ 62) ≤ x * y ∧ x * y ≤ 2 ^ 62 := by
  have h1 : (x * y).natAbs ≤ 2 ^ 30 * 2 ^ 30 := by
    rw [Int.natAbs_mul]
    exact Nat.mul_le_mul (by omega) (by omega)
  omega
theorem x_cf {A w B v : Int} (hA : -(2 ^ 30) ≤ A ∧ A ≤ 2 ^ 30) (hw : -(2 ^ 30) ≤ w ∧ w ≤ 2 ^ 30) (hB : -(2 ^ 30) ≤ B ∧ B ≤ 2 ^ 30) (hv : -(2 ^ 30) ≤ v ∧ v ≤ 2 ^ 30) : f_X5_compareFractions (lZ A) (lZ w) (lZ B) (lZ v) = some (if B * w < A * v then 1 else if A * v = B * w then 0 else -1) := by
  rw [f_X5_compareFractions, lZ_mul, lZ_mul, f_J13_compare_74951, x_cmp (mul_bd hA hv) (mul_bd hB hw)]
  by_cases h1 : B * w < A * v
  · rw [if_pos h1, if_pos (by decide), if_neg (by decide), bind_s]
  · rw [if_neg h1]
    by_cases h2 : A * v = B * w
    · rw [if_pos h2, if_pos (by decide), if_pos rfl, bind_s]
    · rw [if_neg h2, if_neg (by decide), bind_s]
section OB
variable {W H : Nat} {κ : Nat → Nat} {co ro : Int32} {kd f : Nat → Int32}
theorem x_beam (hX : RoomX W H κ co ro kd) (hd : Dim W H) (hk : Kok W H κ) (hh : cntK κ 3 4 (W * H) ≤ 5) (bq : Int32) (bw : Int64) (bp bn br : Nat → Int32) (bs : Nat → Int64) (bM : Nat → Nat → Int64) {p : Nat} (hp : p < 2 * (W + H)) : ∃ r, f_X0_shine co ro kd bq bw bp bn br bs bM (nI p) = some r ∧ BmOk W H κ p r.2.1 r.2.2.2.2.2.1 := by
  obtain ⟨r, B, h1, h2, h3, h4⟩ := x_shine hX hd hk hh bq bw bp bn br bs bM hp
  exact ⟨r, h1, B, h2, h3, h4⟩
theorem E0_ok (hd : Dim W H) (hk : Kok W H κ) {p : Nat} (hp : p < 2 * (W + H)) : EndOk W H κ (tr W H κ 80 (4 * pcell W H p + pdir W H p)) := by
  obtain ⟨-, -, -, q1, q2⟩ := pt hd hp
  exact tr_end hd hk 80 _ (by omega)
/-- a port's share, for both -/
theorem b_out (hM : RoomM W H κ f) (hd : Dim W H) (hk : Kok W H κ) (hh : cntK κ 3 4 (W * H) ≤ 5) {p q : Nat} (hp : p < 2 * (W + H)) (hq : q < 2 * (W + H)) {w : Int64} {bs : Nat → Int64} (h : BmOk W H κ p w bs) : ∃ P w' : Nat, f_X0_outAt bs (nI q) = some (lZ (P : Int)) ∧ w = lZ (w' : Int) ∧ P ≤ w' ∧ 0 < w' ∧ w' ≤ 1048576 ∧ ∀ (mm : Int32) (mu mv : Int64) (md mk my mq : Nat → Int32) (mw : Nat → Int64), ∃ r, f_X6_shares mm mu mv md mk my mq mw f (nI p) (nI q) = some r ∧ r.2.1 = lZ ((P / Nat.gcd P w' : Nat) : Int) ∧ r.2.2.1 = lZ ((w' / Nat.gcd P w' : Nat) : Int) := by
  obtain ⟨B, hB, hw, hbs⟩ := h
  have hdd := hd
  obtain ⟨d1, d2, d3, d4⟩ := hdd
  obtain ⟨P, w', e1, e2, e3, e4, e5, e6⟩ := sh_ref hM hd hk hh (ask_P hd hq) (aqP_n q) hp hB (P := PZ W H κ (tr W H κ 80 (4 * pcell W H p + pdir W H p)) B (40 + q)) (PA_1 hd hk hB.1 (E0_ok hd hk hp) (fun E hE => by rw [aqP, decide_eq_true_eq]; exact ((ce_fin hd hE).1 q (by omega)).symm))
  refine ⟨P, w', ?_, by rw [hw, e2], e3, e4, e5, e6⟩
  rw [f_X0_outAt, if_neg (n_neg (by omega)), show (18 : Int32) = nI 18 from rfl, if_neg (by rw [n_le (by omega) (by omega)]; omega), show (40 : Int32) = nI 40 from rfl, nI_add, chk_t (aix_n (by omega) (by decide)), nI_c _ (by omega), hbs _ (by omega), e1]
/-- what is lost, for both -/
theorem b_lost (hM : RoomM W H κ f) (hd : Dim W H) (hk : Kok W H κ) (hh : cntK κ 3 4 (W * H) ≤ 5) {p : Nat} (hp : p < 2 * (W + H)) {w : Int64} {bs : Nat → Int64} (h : BmOk W H κ p w bs) : ∃ PW PC w' : Nat, f_X0_swallowed bs = some (lZ (PW : Int)) ∧ f_X0_caught w bs = some (lZ (PC : Int)) ∧ w = lZ (w' : Int) ∧ PW ≤ w' ∧ PC ≤ w' ∧ 0 < w' ∧ w' ≤ 1048576 ∧ ∀ (mm : Int32) (mu mv : Int64) (md mk my mq : Nat → Int32) (mw : Nat → Int64) (j : Nat), j < 4 → ∃ r, f_X6_lostOf mm mu mv f md mk my mq mw (nI p) (nI j) = some r ∧ r.1 = lZ ((if j < 2 then (if j % 2 = 0 then PW / Nat.gcd PW w' else w' / Nat.gcd PW w') else (if j % 2 = 0 then PC / Nat.gcd PC w' else w' / Nat.gcd PC w') : Nat) : Int) := by
  obtain ⟨B, hB, hw, hbs⟩ := h
  have hdd := hd
  obtain ⟨d1, d2, d3, d4⟩ := hdd
  have hE0 := E0_ok hd hk hp
  obtain ⟨PW, w', e1, e2, e3, e4, e5, e6⟩ := sh_ref hM hd hk hh (ask_W hd) aqW_n hp hB (P := PZ W H κ (tr W H κ 80 (4 * pcell W H p + pdir W H p)) B 58) (PA_1 hd hk hB.1 hE0 (fun E hE => by rw [aqW, decide_eq_true_eq]; exact (ce_fin hd hE).2.symm))
  obtain ⟨P, w2, f1, f2, f3, f4, f5, f6⟩ := sh_ref hM hd hk hh (ask_A hd) aqA_n hp hB (P := PZ W H κ (tr W H κ 80 (4 * pcell W H p + pdir W H p)) B 58 + sI 18 (fun q => PZ W H κ (tr W H κ 80 (4 * pcell W H p + pdir W H p)) B (40 + q))) (PA_any hd hk hB.1 hE0 (fun E hE => any_r hd hE))
  have ew : w' = w2 := by omega
  subst ew
  obtain ⟨l1, l2, l3⟩ := low_sub f3 f4
  generalize hEE : tr W H κ 80 (4 * pcell W H p + pdir W H p) = E0 at *
  have hsw : f_X0_swallowed bs = some (lZ (PW : Int)) := by
    rw [f_X0_swallowed, show (58 : Int32) = nI 58 from rfl, nI_c _ (by decide), hbs 58 (by decide), e1]
  have hca : f_X0_caught w bs = some (lZ ((w' - P : Nat) : Int)) := by
    have key := lpf_seq (f := fun s : Int64 × Int32 => f_X0_caught_12 w bs s.1 s.2) (t := lZ ((w' - P : Nat) : Int)) 18 (fun i => (lZ ((w' : Int) - (PW : Int) - sI i (fun q => PZ W H κ E0 B (40 + q))), nI i)) (fun i hi => by
      show f_X0_caught_12 w bs (lZ ((w' : Int) - (PW : Int) - sI i (fun q => PZ W H κ E0 B (40 + q)))) (nI i) = _
      rw [f_X0_caught_12, show (18 : Int32) = nI 18 from rfl, if_neg (by rw [n_le (by omega) (by omega)]; omega), f_X0_outAt, if_neg (n_neg (by omega)), show (18 : Int32) = nI 18 from rfl, if_neg (by rw [n_le (by omega) (by omega)]; omega), show (40 : Int32) = nI 40 from rfl, nI_add, chk_t (aix_n (by omega) (by decide)), nI_c _ (by omega), hbs _ (by omega), bind_s, lZ_sub, nI_1, show (w' : Int) - (PW : Int) - sI i (fun q => PZ W H κ E0 B (40 + q)) - PZ W H κ E0 B (40 + i) = (w' : Int) - (PW : Int) - sI (i + 1) (fun q => PZ W H κ E0 B (40 + q)) by rw [sI]; omega]) (by
      show f_X0_caught_12 w bs (lZ ((w' : Int) - (PW : Int) - sI 18 (fun q => PZ W H κ E0 B (40 + q)))) (nI 18) = _
      rw [f_X0_caught_12, if_pos (by decide), show (w' : Int) - (PW : Int) - sI 18 (fun q => PZ W H κ E0 B (40 + q)) = ((w' - P : Nat) : Int) by omega]) 1000 (by decide)
    have e0 : ((lZ ((w' : Int) - (PW : Int)), (0 : Int32)) : Int64 × Int32) = (lZ ((w' : Int) - (PW : Int) - sI 0 (fun q => PZ W H κ E0 B (40 + q))), nI 0) := by
      rw [sI, Int.sub_zero]
      rfl
    rw [f_X0_caught, hsw, bind_s, hw, e2, lZ_sub, e0]
    rw [hw, e2] at key
    rw [key, bind_s]
  refine ⟨PW, w' - P, w', hsw, hca, by rw [hw, e2], e3, by omega, e4, e5, fun mm mu mv md mk my mq mw j hj => ?_⟩
  rw [f_X6_lostOf, l1, l2]
  obtain ⟨r1, a1, a2, a3⟩ := e6 mm mu mv md mk my mq mw
  obtain ⟨r2, c1, c2, c3⟩ := f6 mm mu mv md mk my mq mw
  generalize PW / Nat.gcd PW w' = u1 at a2 ⊢
  generalize w' / Nat.gcd PW w' = u2 at a3 ⊢
  generalize P / Nat.gcd P w' = u3 at c2 l3 ⊢
  generalize w' / Nat.gcd P w' = u4 at c3 l3 ⊢
  rcases (show j = 0 ∨ j = 1 ∨ j = 2 ∨ j = 3 by omega) with rfl | rfl | rfl | rfl
  · rw [if_neg (by decide), bind_s, a1, bind_s, if_neg (by decide), if_pos (by decide), if_pos (show 0 < 2 by decide), if_pos (show 0 % 2 = 0 by decide)]
    exact ⟨_, rfl, a2⟩
  · rw [if_neg (by decide), bind_s, a1, bind_s, if_pos (by decide), if_pos (show 1 < 2 by decide), if_neg (show ¬ 1 % 2 = 0 by decide)]
    exact ⟨_, rfl, a3⟩
  · rw [if_pos (by decide), bind_s, c1, bind_s, if_neg (by decide), if_neg (by decide), if_neg (show ¬ 2 < 2 by decide), if_pos (show 2 % 2 = 0 by decide)]
    refine ⟨_, rfl, ?_⟩
    show r2.2.2.1 - r2.2.1 = lZ ((u4 - u3 : Nat) : Int)
    rw [c2, c3, lZ_sub, show ((u4 : Nat) : Int) - ((u3 : Nat) : Int) = ((u4 - u3 : Nat) : Int) by omega]
  · rw [if_pos (by decide), bind_s, c1, bind_s, if_pos (by decide), if_neg (show ¬ 3 < 2 by decide), if_neg (show ¬ 3 % 2 = 0 by decide)]
    exact ⟨_, rfl, c3⟩
end OB
theorem op_share : Op_share InvP := by
  intro coR roR kdR tn tl pz pg mn mp mc ml mt bq bw bp bn br bs bM mm mu mv md mk my mq mw x1 x2 x3 hI
  have hI0 := hI
  obtain ⟨R, z, h, hR, hX, hM, -⟩ := hI
  have hd := hR.1
  have hk := hR.2.1
  have hh := hR.2.2.1
  rw [f_X5_share, f_X6_share, f_X5_hasPorts]
  rcases port_cases hX hM hd x1 with ⟨h1, h2⟩ | ⟨p, hp, rfl, h1, h2⟩
  · simp only [h1, h2, bind_s, ↓reduceIte]
    exact ⟨_, _, rfl, rfl, rfl, hI0⟩
  rcases port_cases hX hM hd x2 with ⟨h3, h4⟩ | ⟨q, hq, rfl, h3, h4⟩
  · simp only [h1, h2, h3, h4, bind_s, ↓reduceIte, i10]
    exact ⟨_, _, rfl, rfl, rfl, hI0⟩
  rcases part_cases x3 2 (n' := 2) (h' := 1) rfl rfl (by decide) (by decide) with ⟨h5, h6⟩ | ⟨j, hj, rfl, h5, h6⟩
  · simp only [h1, h2, h3, h4, h5, h6, bind_s, ↓reduceIte, i10]
    exact ⟨_, _, rfl, rfl, rfl, hI0⟩
  obtain ⟨r, hr, hb⟩ := x_beam hX hd hk hh bq bw bp bn br bs bM hp
  obtain ⟨P, w', o1, o2, o3, o4, o5, o6⟩ := b_out hM hd hk hh hp hq hb
  obtain ⟨r', hr', s1, s2⟩ := o6 mm mu mv md mk my mq mw
  simp only [h1, h2, h3, h4, h5, h6, bind_s, ↓reduceIte, i10, hr, hr', o1]
  rw [o2, x_lowest o4 (by omega) (by omega), bind_s, s1, s2]
  by_cases e : nI j = 0
  · rw [if_pos e, if_pos e]
    exact ⟨_, _, rfl, rfl, rfl, hI0⟩
  · rw [if_neg e, if_neg e]
    exact ⟨_, _, rfl, rfl, rfl, hI0⟩
theorem op_lost : Op_lost InvP := by
  intro coR roR kdR tn tl pz pg mn mp mc ml mt bq bw bp bn br bs bM mm mu mv md mk my mq mw x1 x2 hI
  have hI0 := hI
  obtain ⟨R, z, h, hR, hX, hM, -⟩ := hI
  have hd := hR.1
  have hk := hR.2.1
  have hh := hR.2.2.1
  rw [f_X5_lost, f_X6_lost]
  rcases port_cases hX hM hd x1 with ⟨h1, h2⟩ | ⟨p, hp, rfl, h1, h2⟩
  · simp only [h1, h2, bind_s, ↓reduceIte]
    exact ⟨_, _, rfl, rfl, rfl, hI0⟩
  rcases part_cases x2 4 (n' := 4) (h' := 3) rfl rfl (by decide) (by decide) with ⟨h5, h6⟩ | ⟨j, hj, rfl, h5, h6⟩
  · simp only [h1, h2, h5, h6, bind_s, ↓reduceIte, i10]
    exact ⟨_, _, rfl, rfl, rfl, hI0⟩
  obtain ⟨r, hr, hb⟩ := x_beam hX hd hk hh bq bw bp bn br bs bM hp
  obtain ⟨PW, PC, w', o1, o2, o3, o4, o5, o6, o7, o8⟩ := b_lost hM hd hk hh hp hb
  obtain ⟨r', hr', s1⟩ := o8 mm mu mv md mk my mq mw j hj
  simp only [h1, h2, h5, h6, bind_s, ↓reduceIte, i10, hr, hr', o1, o2]
  rw [s1, o3]
  rcases (show j = 0 ∨ j = 1 ∨ j = 2 ∨ j = 3 by omega) with rfl | rfl | rfl | rfl
  · rw [if_neg (by decide), bind_s, x_lowest o6 (by omega) (by omega), bind_s, if_pos (show nI 0 - nI 0 / 2 * 2 = 0 by decide), if_pos (show 0 < 2 by decide), if_pos (show 0 % 2 = 0 by decide)]
    exact ⟨_, _, rfl, rfl, rfl, hI0⟩
  · rw [if_neg (by decide), bind_s, x_lowest o6 (by omega) (by omega), bind_s, if_neg (show ¬ nI 1 - nI 1 / 2 * 2 = 0 by decide), if_pos (show 1 < 2 by decide), if_neg (show ¬ 1 % 2 = 0 by decide)]
    exact ⟨_, _, rfl, rfl, rfl, hI0⟩
  · rw [if_pos (by decide), bind_s, x_lowest o6 (by omega) (by omega), bind_s, if_pos (show nI 2 - nI 2 / 2 * 2 = 0 by decide), if_neg (show ¬ 2 < 2 by decide), if_pos (show 2 % 2 = 0 by decide)]
    exact ⟨_, _, rfl, rfl, rfl, hI0⟩
  · rw [if_pos (by decide), bind_s, x_lowest o6 (by omega) (by omega), bind_s, if_neg (show ¬ nI 3 - nI 3 / 2 * 2 = 0 by decide), if_neg (show ¬ 3 < 2 by decide), if_neg (show ¬ 3 % 2 = 0 by decide)]
    exact ⟨_, _, rfl, rfl, rfl, hI0⟩
theorem op_bits : Op_bits InvP := by
  intro coR roR kdR tn tl pz pg mn mp mc ml mt bq bw bp bn br bs bM mm mu mv md mk my mq mw x1 x2 hI
  have hI0 := hI
  obtain ⟨R, z, h, hR, hX, hM, -⟩ := hI
  have hd := hR.1
  have hk := hR.2.1
  have hh := hR.2.2.1
  rw [f_X5_bits, f_X6_bits, f_X5_hasPorts]
  rcases port_cases hX hM hd x1 with ⟨h1, h2⟩ | ⟨p, hp, rfl, h1, h2⟩
  · simp only [h1, h2, bind_s, ↓reduceIte]
    exact ⟨_, _, rfl, rfl, rfl, hI0⟩
  rcases port_cases hX hM hd x2 with ⟨h3, h4⟩ | ⟨q, hq, rfl, h3, h4⟩
  · simp only [h1, h2, h3, h4, bind_s, ↓reduceIte, i10]
    exact ⟨_, _, rfl, rfl, rfl, hI0⟩
  obtain ⟨r, hr, hb⟩ := x_beam hX hd hk hh bq bw bp bn br bs bM hp
  obtain ⟨P, w', o1, o2, o3, o4, o5, o6⟩ := b_out hM hd hk hh hp hq hb
  obtain ⟨r', hr', s1, s2⟩ := o6 mm mu mv md mk my mq mw
  simp only [h1, h2, h3, h4, bind_s, ↓reduceIte, i10, hr, hr', o1]
  obtain ⟨g, hg, a1, b1, c1⟩ := low_cop (a0 := P) (b0 := w') o4
  have hle : P / Nat.gcd P w' ≤ w' / Nat.gcd P w' := Nat.div_le_div_right o3
  have hbl : w' / Nat.gcd P w' ≤ w' := Nat.div_le_self _ _
  rw [o2, x_lowest o4 (by omega) (by omega), bind_s, x_lowest o4 (by omega) (by omega), bind_s, if_pos rfl, if_neg (by decide), lZ_32, lZ_32, s1, s2]
  generalize P / Nat.gcd P w' = a at *
  generalize w' / Nat.gcd P w' = b at *
  rcases Nat.eq_zero_or_pos a with e | e
  · subst e
    rw [Nat.gcd_zero_left] at c1
    subst c1
    have hz : f_X5_floatBits (nI 0) (nI 1) = some 0 := by rw [f_X5_floatBits, if_pos (by decide)]
    rw [hz, bind_s]
    have hf := f_zero
    rw [chk_t (show FP.fdiv (FP.l2f (lZ ((0 : Nat) : Int))) (FP.l2f (lZ ((1 : Nat) : Int))) &&& 0x7fffffff ≤ 0x7f800000 from hf.1), show f_Jxf58ca_floatToIntBits_5c35a (FP.fdiv (FP.l2f (lZ ((0 : Nat) : Int))) (FP.l2f (lZ ((1 : Nat) : Int)))) = some 0 from hf.2, bind_s]
    exact ⟨_, _, rfl, rfl, rfl, hI0⟩
  · obtain ⟨t1, t2, t3⟩ := x_floatBits e hle (by omega)
    rw [l2f_n (by omega), l2f_n (by omega), t1, bind_s, chk_t t2, t3, bind_s]
    exact ⟨_, _, rfl, rfl, rfl, hI0⟩
