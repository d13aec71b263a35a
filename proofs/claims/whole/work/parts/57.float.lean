/-! ===== the bits of a share ===== -/
def fl (m : Nat) (g : Int) : UInt32 := FP.Core.of32 (.fin false m g)
theorem fl_fits {m : Nat} {g : Int} (h1 : 8388608 ≤ m) (h2 : m < 16777216) (h3 : -149 ≤ g) (h4 : g ≤ 104) : FP.Core.fits FP.Core.b32 (.fin false m g) := by
  have e1 : FP.Core.b32.qmin = -149 := by decide
  have e2 : FP.Core.b32.qmax = 104 := by decide
  have e3 : FP.Core.b32.tails = 8388608 := by decide
  have e4 : (2 : Nat) ^ FP.Core.b32.p = 16777216 := by decide
  refine ⟨by rw [e4]; exact h2, by rw [e1]; exact h3, by rw [e2]; exact h4, Or.inr (by rw [e3]; exact h1)⟩
theorem f_small {c : Nat} {q : Int} (h : FP.Core.fits FP.Core.b32 (.fin false c q)) : (FP.Core.of32 (.fin false c q)).toNat ≤ 2139095040 := by
  have e1 : FP.Core.b32.qmin = -149 := by decide
  have e2 : FP.Core.b32.qmax = 104 := by decide
  have e3 : FP.Core.b32.tails = 8388608 := by decide
  have e4 : (2 : Nat) ^ FP.Core.b32.p = 16777216 := by decide
  have e5 : FP.Core.b32.exps = 256 := by decide
  have hl := FP.Core.encode_lt FP.Core.good_b32 _ h
  rw [FP.Core.size_b32] at hl
  obtain ⟨h1, h2, h3, h4⟩ := h
  rw [e4] at h1
  rw [e1] at h2
  rw [e2] at h3
  rw [FP.Core.of32, UInt32.toNat_ofNat_of_lt' (by simpa using hl)]
  simp only [FP.Core.encode, FP.Core.assemble, e1, e3, e5]
  split
  · rw [Bool.toNat_false]
    omega
  · rw [Bool.toNat_false]
    omega
theorem f_chk {u : UInt32} (h : u.toNat ≤ 2139095040) : u &&& 0x7fffffff ≤ 0x7f800000 := by
  rw [UInt32.le_iff_toNat_le, UInt32.toNat_and]
  exact Nat.le_trans Nat.and_le_left h
theorem fl_val {m : Nat} {g : Int} (h1 : 8388608 ≤ m) (h2 : m < 16777216) (h3 : -149 ≤ g) (h4 : g ≤ 104) : FP.Core.val32 (fl m g) = .fin false m g := FP.Core.val32_of32 (fl_fits h1 h2 h3 h4)
theorem fl_nat {m : Nat} {g : Int} (h1 : 8388608 ≤ m) (h2 : m < 16777216) (h3 : -149 ≤ g) (h4 : g ≤ 104) : fl m g = UInt32.ofNat ((g + 150).toNat * 8388608 + (m - 8388608)) := by
  have e1 : FP.Core.b32.qmin = -149 := by decide
  have e3 : FP.Core.b32.tails = 8388608 := by decide
  have e5 : FP.Core.b32.exps = 256 := by decide
  have h : FP.Core.encode FP.Core.b32 (.fin false m g) = (g + 150).toNat * 8388608 + (m - 8388608) := by
    simp only [FP.Core.encode, FP.Core.assemble, e1, e3, e5]
    rw [if_neg (by omega), show (false.toNat * 256 + ((g - -149).toNat + 1)) = (g + 150).toNat by rw [Bool.toNat_false]; omega]
  rw [fl, FP.Core.of32, h]
theorem val_two : FP.Core.val32 (0x40000000 : UInt32) = .fin false 8388608 (-22) := by decide +kernel
theorem val_lead : FP.Core.val32 (1258291200 : UInt32) = .fin false 8388608 0 := by decide +kernel
theorem fl_mul {m : Nat} {g : Int} (h1 : 8388608 ≤ m) (h2 : m < 16777216) (h3 : -149 ≤ g) (h4 : g < 104) : FP.fmul (fl m g) (0x40000000 : UInt32) = fl m (g + 1) := by
  have e : FP.fmul (fl m g) (0x40000000 : UInt32) = FP.Core.of32 (FP.Core.round FP.Core.b32 (FP.Core.exactProduct (FP.Core.val32 (fl m g)) (FP.Core.val32 (0x40000000 : UInt32)))) := rfl
  rw [e, fl_val h1 h2 h3 (by omega), val_two, fl]
  have hr : FP.Core.roundRatio FP.Core.b32 false (m * 8388608) 1 (g + -22) = .fin false m (g + 1) := by
    refine FP.Core.roundRatio_exact FP.Core.good_b32 (by decide) (fl_fits h1 h2 (by omega) (by omega)) ?_
    rw [show (g + -22 - (g + 1)).toNat = 0 by omega, show (g + 1 - (g + -22)).toNat = 23 by omega]
    omega
  have hx : FP.Core.round FP.Core.b32 (FP.Core.exactProduct (.fin false m g) (.fin false 8388608 (-22))) = FP.Core.roundRatio FP.Core.b32 false (m * 8388608) 1 (g + -22) := rfl
  rw [hx, hr]
theorem fl_cmp {m : Nat} {g : Int} (h1 : 8388608 ≤ m) (h2 : m < 16777216) (h3 : -149 ≤ g) (h4 : g ≤ 0) : (0 ≤ Op.cmpValue (FP.fcmp (fl m g) (1258291200 : UInt32)) .g) ↔ g = 0 := by
  have e : FP.fcmp (fl m g) (1258291200 : UInt32) = FP.Core.order (FP.Core.val32 (fl m g)) (FP.Core.val32 (1258291200 : UInt32)) := rfl
  rw [e, fl_val h1 h2 h3 (by omega), val_lead]
  show (0 ≤ Op.cmpValue (some (compare (FP.Core.signed false (FP.Core.inUnits m g (min g 0))) (FP.Core.signed false (FP.Core.inUnits 8388608 0 (min g 0))))) .g) ↔ g = 0
  rw [show min g 0 = g by omega]
  have u1 : FP.Core.signed false (FP.Core.inUnits m g g) = (m : Int) := by
    show ((m * 2 ^ (g - g).toNat : Nat) : Int) = (m : Int)
    rw [show (g - g).toNat = 0 by omega, Nat.pow_zero, Nat.mul_one]
  have u2 : FP.Core.signed false (FP.Core.inUnits 8388608 0 g) = ((8388608 * 2 ^ (0 - g).toNat : Nat) : Int) := rfl
  rw [u1, u2]
  by_cases hg : g = 0
  · subst hg
    rw [show ((0 : Int) - 0).toNat = 0 by omega, Nat.pow_zero, Nat.mul_one]
    refine ⟨fun _ => rfl, fun _ => ?_⟩
    by_cases q : (m : Int) = 8388608
    · have : compare (m : Int) ((8388608 : Nat) : Int) = .eq := by
        rw [show ((8388608 : Nat) : Int) = (m : Int) from q.symm]
        exact FP.Core.compare_self_int _
      rw [this]
      decide
    · have : compare (m : Int) ((8388608 : Nat) : Int) = .gt := by
        simp only [compare, compareOfLessAndEq]
        rw [if_neg (by omega), if_neg (by omega)]
      rw [this]
      decide
  · have hp : 2 ^ 1 ≤ 2 ^ (0 - g).toNat := Nat.pow_le_pow_right (by decide) (by omega)
    generalize 2 ^ (0 - g).toNat = z at hp
    have : compare (m : Int) ((8388608 * z : Nat) : Int) = .lt := by
      simp only [compare, compareOfLessAndEq]
      rw [if_pos (by omega)]
    rw [this]
    exact ⟨fun h => absurd h (by decide), fun h => absurd h hg⟩
theorem fl_whole {m : Nat} (h1 : 8388608 ≤ m) (h2 : m < 16777216) : FP.Core.FInt (m : Int) (fl m 0) := by
  show FP.Core.Whole (m : Int) (FP.Core.val32 (fl m 0))
  rw [fl_val h1 h2 (by decide) (by decide)]
  show FP.Core.signed false (m * 2 ^ (0 : Int).toNat) = (m : Int) * ((2 ^ (-(0 : Int)).toNat : Nat) : Int)
  show ((m * 1 : Nat) : Int) = (m : Int) * ((1 : Nat) : Int)
  omega
theorem lead_whole : FP.Core.FInt 8388608 (1258291200 : UInt32) := by
  show FP.Core.Whole 8388608 (FP.Core.val32 (1258291200 : UInt32))
  rw [val_lead]
  show FP.Core.signed false (8388608 * 2 ^ (0 : Int).toNat) = (8388608 : Int) * ((2 ^ (-(0 : Int)).toNat : Nat) : Int)
  decide
theorem fl_sub {m : Nat} (h1 : 8388608 ≤ m) (h2 : m < 16777216) : FP.fsub (fl m 0) (1258291200 : UInt32) &&& 0x7fffffff ≤ 0x7f800000 ∧ FP.f2i (FP.fsub (fl m 0) (1258291200 : UInt32)) = nI (m - 8388608) := by
  constructor
  · have e : FP.fsub (fl m 0) (1258291200 : UInt32) = FP.Core.of32 (FP.Core.round FP.Core.b32 (FP.Core.exactSum (FP.Core.val32 (fl m 0)) (FP.Core.negate (FP.Core.val32 (1258291200 : UInt32))))) := rfl
    have e2 : FP.Core.exactSum (.fin false m 0) (.fin true 8388608 0) = .fin false (m - 8388608) 0 := by
      have u : FP.Core.sumUnits false m 0 true 8388608 0 (min 0 0) = ((m - 8388608 : Nat) : Int) := by
        show ((m * 1 : Nat) : Int) + -((8388608 * 1 : Nat) : Int) = _
        omega
      show FP.Core.Datum.fin (FP.Core.sumSign false true (FP.Core.sumUnits false m 0 true 8388608 0 (min 0 0))) (FP.Core.sumUnits false m 0 true 8388608 0 (min 0 0)).natAbs (min 0 0) = _
      rw [u, Int.natAbs_natCast]
      have s : FP.Core.sumSign false true ((m - 8388608 : Nat) : Int) = false := by
        rw [FP.Core.sumSign]
        split
        · rfl
        · exact decide_eq_false (by omega)
      rw [s]
      rfl
    have e4 : (2 : Nat) ^ FP.Core.b32.p = 16777216 := by decide
    obtain ⟨c', q', hfit, hv⟩ := FP.Core.natFit FP.Core.good_b32 FP.Core.wide_b32 false (n := m - 8388608) (by rw [e4]; omega)
    have e3 : FP.Core.round FP.Core.b32 (.fin false (m - 8388608) 0) = .fin false c' q' := FP.Core.roundRatio_exact FP.Core.good_b32 (by decide) hfit hv
    rw [e, fl_val h1 h2 (by decide) (by decide), val_lead]
    show FP.Core.of32 (FP.Core.round FP.Core.b32 (FP.Core.exactSum (.fin false m 0) (.fin true 8388608 0))) &&& 0x7fffffff ≤ 0x7f800000
    rw [e2, e3]
    exact f_chk (f_small hfit)
  · refine FP.Core.f2i_int ?_
    have h := FP.Core.fsub_int (fl_whole h1 h2) lead_whole (by omega)
    rw [nI_toInt (by omega)]
    rw [show ((m - 8388608 : Nat) : Int) = (m : Int) - 8388608 by omega]
    exact h
abbrev ShlP (k _z : Nat) : Prop := (nI k) <<< ((23 : Int32) &&& 31) = nI (k * 8388608)
theorem shl_fin {k : Nat} (h : k < 256) : ShlP k 0 := all2 (A := 256) (B := 1) (P := ShlP) (by decide +kernel) h (by decide)
/-- the class's walk to the leading digit -/
theorem fl_loop {m : Nat} {g : Int} (h1 : 8388608 ≤ m) (h2 : m < 16777216) (h3 : -100 ≤ g) (h4 : g ≤ 0) : lpf (fun s : UInt32 × Int32 × Int32 => f_X5_floatBits_27 (1258291200 : UInt32) s.1 s.2.1 s.2.2) 1000 (fl m g, (150 : Int32), (0 : Int32)) = some (fl m 0, nI (g + 150).toNat) := by
  have key := lpf_seq (f := fun s : UInt32 × Int32 × Int32 => f_X5_floatBits_27 (1258291200 : UInt32) s.1 s.2.1 s.2.2) (t := (fl m 0, nI (g + 150).toNat)) (-g).toNat (fun i => (fl m (g + (i : Int)), nI (150 - i), nI i)) (fun i hi => ?_) ?_ 1000 (by omega)
  · have e : ((fl m g, (150 : Int32), (0 : Int32)) : UInt32 × Int32 × Int32) = (fl m (g + ((0 : Nat) : Int)), nI (150 - 0), nI 0) := by
      rw [show g + ((0 : Nat) : Int) = g by omega]
      rfl
    rw [e]
    exact key
  · show f_X5_floatBits_27 (1258291200 : UInt32) (fl m (g + (i : Int))) (nI (150 - i)) (nI i) = _
    have hc := fl_cmp (g := g + (i : Int)) h1 h2 (by omega) (by omega)
    have hm := fl_mul (g := g + (i : Int)) h1 h2 (by omega) (by omega)
    have hs : (fl m (g + (i : Int) + 1)).toNat ≤ 2139095040 := f_small (fl_fits (g := g + (i : Int) + 1) h1 h2 (by omega) (by omega))
    rw [f_X5_floatBits_27, show (127 : Int32) = nI 127 from rfl, if_neg (by rw [n_le (by omega) (by omega)]; omega), if_neg (fun q => by have := hc.mp q; omega), hm, chk_t (f_chk hs), nI_1, show g + (i : Int) + 1 = g + ((i + 1 : Nat) : Int) by omega, show 150 - i = 150 - (i + 1) + 1 by omega, show nI (150 - (i + 1) + 1) + (-1 : Int32) = nI (150 - (i + 1) + 1) - 1 from (Int32.sub_eq_add_neg _ 1).symm, i_dec]
  · show f_X5_floatBits_27 (1258291200 : UInt32) (fl m (g + ((-g).toNat : Int))) (nI (150 - (-g).toNat)) (nI (-g).toNat) = _
    have eg : g + ((-g).toNat : Int) = 0 := by omega
    rw [eg]
    have hc := fl_cmp (g := 0) h1 h2 (by omega) (by omega)
    rw [f_X5_floatBits_27, show (127 : Int32) = nI 127 from rfl, if_neg (by rw [n_le (by omega) (by omega)]; omega), if_pos (hc.mpr rfl), show 150 - (-g).toNat = (g + 150).toNat by omega]
/-- the share as a float -/
theorem fl_share {a b : Nat} (ha : 0 < a) (hab : a ≤ b) (hb : b ≤ 1048576) {u v : UInt32} (hu : FP.Core.FInt (a : Int) u) (hv : FP.Core.FInt (b : Int) v) : ∃ (m : Nat) (g : Int), 8388608 ≤ m ∧ m < 16777216 ∧ -100 ≤ g ∧ g ≤ 0 ∧ FP.fdiv u v = fl m g := by
  have hq : FP.fdiv u v = FP.Core.of32 (FP.Core.quotient FP.Core.b32 (FP.Core.val32 u) (FP.Core.val32 v)) := rfl
  have hu' : FP.Core.Whole (a : Int) (FP.Core.val32 u) := hu
  have hv' : FP.Core.Whole (b : Int) (FP.Core.val32 v) := hv
  have hr : FP.Core.quotient FP.Core.b32 (FP.Core.val32 u) (FP.Core.val32 v) = FP.Core.roundRatio FP.Core.b32 false a b 0 := by
    cases hx : FP.Core.val32 u with
    | nan => rw [hx] at hu'; exact hu'.elim
    | inf s => rw [hx] at hu'; exact hu'.elim
    | fin s c e =>
      cases hy : FP.Core.val32 v with
      | nan => rw [hy] at hv'; exact hv'.elim
      | inf s => rw [hy] at hv'; exact hv'.elim
      | fin t d r =>
        rw [hx] at hu'
        rw [hy] at hv'
        have s1 := FP.Core.whole_sign hu' (by omega)
        have s2 := FP.Core.whole_sign hv' (by omega)
        have n1 := FP.Core.whole_natAbs hu'
        have n2 := FP.Core.whole_natAbs hv'
        have z2 := FP.Core.whole_zero hv'
        rw [decide_eq_false (show ¬ (a : Int) < 0 by omega)] at s1
        rw [decide_eq_false (show ¬ (b : Int) < 0 by omega)] at s2
        subst s1 s2
        rw [Int.natAbs_natCast] at n1 n2
        show (if d = 0 then _ else FP.Core.roundRatio FP.Core.b32 (false != false) c d (e - r)) = _
        rw [if_neg (fun q => by have := z2.mp q; omega)]
        show FP.Core.roundRatio FP.Core.b32 false c d (e - r) = _
        refine FP.Core.roundRatio_congr (Nat.pos_of_ne_zero (fun q => by have := z2.mp q; omega)) (by omega) ?_
        have k1 : (e - r - 0).toNat + (e.toNat + (-r).toNat - (e - r - 0).toNat) = e.toNat + (-r).toNat := by omega
        have k2 : (0 - (e - r)).toNat + (e.toNat + (-r).toNat - (e - r - 0).toNat) = (-e).toNat + r.toNat := by omega
        refine Nat.eq_of_mul_eq_mul_right (Nat.two_pow_pos (e.toNat + (-r).toNat - (e - r - 0).toNat)) ?_
        rw [Nat.mul_assoc (c * b), ← Nat.pow_add, k1, Nat.mul_assoc (a * d), ← Nat.pow_add, k2, Nat.pow_add, Nat.pow_add]
        calc c * b * (2 ^ e.toNat * 2 ^ (-r).toNat) = (c * 2 ^ e.toNat) * (b * 2 ^ (-r).toNat) := by ac_rfl
          _ = (a * 2 ^ (-e).toNat) * (d * 2 ^ r.toNat) := by rw [n1, n2]
          _ = a * d * (2 ^ (-e).toNat * 2 ^ r.toNat) := by ac_rfl
  have e1 : FP.Core.b32.qmin = -149 := by decide
  have e2 : FP.Core.b32.qmax = 104 := by decide
  have e3 : FP.Core.b32.tails = 8388608 := by decide
  have e4 : (2 : Nat) ^ FP.Core.b32.p = 16777216 := by decide
  have e6 : (FP.Core.b32.p : Int) = 24 := by decide
  have hb0 : 0 < b := by omega
  obtain ⟨l1, l2⟩ := FP.Core.leading_spec ha hb0
  have t1 : FP.Core.Below a b 1 := by
    show a * 2 ^ (-(1 : Int)).toNat < b * 2 ^ (1 : Int).toNat
    show a * 1 < b * 2
    omega
  have t2 : ¬ FP.Core.Below a b (-20) := by
    show ¬ a * 2 ^ (-(-20 : Int)).toNat < b * 2 ^ (-20 : Int).toNat
    show ¬ a * 1048576 < b * 1
    omega
  have b1 := FP.Core.lt_of_below l1 t1
  have b2 := FP.Core.lt_of_below t2 l2
  have hqm : FP.Core.quantum FP.Core.b32 a b 0 = FP.Core.leading a b - 23 := by
    rw [FP.Core.quantum, e1, e6]
    omega
  have hfit := FP.Core.roundRatio_fits FP.Core.good_b32 false a hb0 0
  have hform : ∃ (m : Nat) (g : Int), -100 ≤ g ∧ g ≤ 0 ∧ FP.Core.roundRatio FP.Core.b32 false a b 0 = .fin false m g := by
    rw [FP.Core.roundRatio, if_neg (by omega), FP.Core.roundAt, hqm, FP.Core.settle, FP.Core.bound, FP.Core.bound, e2]
    split
    · rw [if_pos (by omega)]
      exact ⟨_, _, by omega, by omega, rfl⟩
    · rw [if_pos (by omega)]
      exact ⟨_, _, by omega, by omega, rfl⟩
  obtain ⟨m, g, g1, g2, hmg⟩ := hform
  rw [hmg] at hfit hr
  obtain ⟨f1, f2, f3, f4⟩ := hfit
  rw [e4] at f1
  rw [e1, e3] at f4
  exact ⟨m, g, by omega, f1, g1, g2, by rw [hq, hr]; rfl⟩
theorem i2f_n {a : Nat} (ha : a ≤ 1048576) : FP.Core.FInt (a : Int) (FP.i2f (nI a)) := by
  have h := FP.Core.i2f_int (a := nI a) (by rw [nI_toInt (by omega)]; omega)
  rw [nI_toInt (by omega)] at h
  exact h
theorem l2f_n {a : Nat} (ha : a ≤ 1048576) : FP.l2f (lZ (a : Int)) = FP.i2f (nI a) := by
  show UInt32.ofNat (FP.Core.fromInt FP.Core.b32 (lZ (a : Int)).toInt) = UInt32.ofNat (FP.Core.fromInt FP.Core.b32 (nI a).toInt)
  rw [lZ_t (by omega) (by omega), nI_toInt (by omega)]
theorem x_floatBits {a b : Nat} (ha : 0 < a) (hab : a ≤ b) (hb : b ≤ 1048576) : f_X5_floatBits (nI a) (nI b) = some (UInt32.toInt32 (FP.fdiv (FP.i2f (nI a)) (FP.i2f (nI b)))) ∧ (FP.fdiv (FP.i2f (nI a)) (FP.i2f (nI b)) &&& 0x7fffffff ≤ 0x7f800000) ∧ f_Jxf58ca_floatToIntBits_5c35a (FP.fdiv (FP.i2f (nI a)) (FP.i2f (nI b))) = some (UInt32.toInt32 (FP.fdiv (FP.i2f (nI a)) (FP.i2f (nI b)))) := by
  obtain ⟨m, g, h1, h2, h3, h4, hq⟩ := fl_share ha hab hb (i2f_n (show a ≤ 1048576 by omega)) (i2f_n hb)
  have hs := f_small (fl_fits (g := g) h1 h2 (by omega) (by omega))
  have hc : fl m g &&& 0x7fffffff ≤ 0x7f800000 := f_chk hs
  obtain ⟨s1, s2⟩ := fl_sub h1 h2
  refine ⟨?_, by rw [hq]; exact hc, ?_⟩
  · rw [f_X5_floatBits, hq, if_neg (by rw [show (0 : Int32) = nI 0 from rfl, nI_leI (by omega) (by omega)]; omega), if_pos (by rw [show (0 : Int32) = nI 0 from rfl, nI_ltI (by omega) (by omega)]; omega), chk_t hc, fl_loop h1 h2 h3 h4, bind_s, chk_t s1, s2, shl_fin (show (g + 150).toNat < 256 by omega), nI_add, fl_nat h1 h2 (by omega) (by omega)]
    rfl
  · have hn : FP.Core.val32 (fl m g) ≠ .nan := by
      rw [fl_val h1 h2 (by omega) (by omega)]
      exact fun q => by cases q
    rw [hq, f_Jxf58ca_floatToIntBits_5c35a, f_Jxf58ca_isNaN_12338, show FP.fcmp (fl m g) (fl m g) = some .eq from FP.Core.fcmp_self hn, if_pos (by decide), bind_s, if_pos rfl]
theorem f_zero : (FP.fdiv (FP.l2f (lZ 0)) (FP.l2f (lZ 1)) &&& 0x7fffffff ≤ 0x7f800000) ∧ f_Jxf58ca_floatToIntBits_5c35a (FP.fdiv (FP.l2f (lZ 0)) (FP.l2f (lZ 1))) = some 0 := by decide +kernel
