/-! ===== lowest terms ===== -/
theorem lZ_rem {a b : Nat} (ha : a ≤ 2 ^ 30) (hb : b ≤ 2 ^ 30) : lZ (a : Int) - (lZ (a : Int) / lZ (b : Int)) * lZ (b : Int) = lZ ((a % b : Nat) : Int) := by
  rw [lZ_div (by omega) (by omega) (by omega) (by omega), lZ_mul, lZ_sub, ← Int.ofNat_tdiv]
  have h := Nat.div_add_mod a b
  have h2 : ((a / b : Nat) : Int) * (b : Int) = ((b * (a / b) : Nat) : Int) := by rw [Int.natCast_mul, Int.mul_comm]
  rw [h2]
  generalize b * (a / b) = u at *
  generalize a % b = v at *
  congr 1
  omega
theorem lZ_nz {b : Nat} (hb : b ≤ 2 ^ 30) (h : b ≠ 0) : ¬ lZ (b : Int) = 0 := lZ_ne (by omega) (by omega) (by omega)
theorem gcd_next (a b : Nat) : Nat.gcd a b = Nat.gcd b (a % b) := by
  rw [Nat.gcd_comm a b, Nat.gcd_rec b a, Nat.gcd_comm]
theorem euclid {σ : Type} {f : σ → Option (σ ⊕ Int64)} (mk : Nat → Nat → Nat → σ) (hz : ∀ a i, i < 100 → f (mk a 0 i) = some (Sum.inr (lZ (a : Int)))) (hs : ∀ a b i, b ≠ 0 → i < 100 → a ≤ 2 ^ 30 → b ≤ 2 ^ 30 → f (mk a b i) = some (Sum.inl (mk b (a % b) (i + 1)))) : ∀ (k a b i n : Nat), b < 2 ^ k → b ≤ 2 ^ 30 → a ≤ 2 ^ 30 → i + 2 * k + 1 ≤ 100 → 2 * k + 1 ≤ n → lpf f n (mk a b i) = some (lZ ((Nat.gcd a b : Nat) : Int)) := by
  intro k
  induction k with
  | zero =>
    intro a b i n h1 _ _ h2 h3
    have e : b = 0 := by omega
    subst e
    obtain ⟨m, rfl⟩ : ∃ m, n = m + 1 := ⟨n - 1, by omega⟩
    rw [lpf_inr (hz a i (by omega)), Nat.gcd_zero_right]
  | succ k ih =>
    intro a b i n h1 hb ha h2 h3
    obtain ⟨m, rfl⟩ : ∃ m, n = m + 1 := ⟨n - 1, by omega⟩
    by_cases e : b = 0
    · subst e
      rw [lpf_inr (hz a i (by omega)), Nat.gcd_zero_right]
    · have hr : a % b < b := Nat.mod_lt _ (by omega)
      rw [lpf_inl (hs a b i e (by omega) ha hb), gcd_next a b]
      obtain ⟨m', rfl⟩ : ∃ m', m = m' + 1 := ⟨m - 1, by omega⟩
      generalize a % b = r at hr
      by_cases e2 : r = 0
      · subst e2
        rw [lpf_inr (hz b (i + 1) (by omega)), Nat.gcd_zero_right]
      · have hr2 : b % r < r := Nat.mod_lt _ (by omega)
        have hr3 : b % r + r ≤ b := by
          have h4 := Nat.div_add_mod b r
          have h5 : 1 ≤ b / r := (Nat.one_le_div_iff (by omega)).mpr (by omega)
          have h6 : r * 1 ≤ r * (b / r) := Nat.mul_le_mul_left r h5
          omega
        rw [lpf_inl (hs b r (i + 1) e2 (by omega) hb (by omega)), gcd_next b r]
        have h7 : 2 ^ (k + 1) = 2 ^ k * 2 := Nat.pow_succ 2 k
        exact ih r (b % r) (i + 1 + 1) m' (by omega) (by omega) (by omega) (by omega) (by omega)
theorem m_lowers {a b : Nat} (ha : a ≤ 2 ^ 30) (hb : b < 2 ^ 30) (h0 : 0 < b) : f_X6_lowers (lZ (a : Int)) (lZ (b : Int)) = some (lZ ((a / Nat.gcd a b : Nat) : Int), lZ ((b / Nat.gcd a b : Nat) : Int)) := by
  have hg : 0 < Nat.gcd a b := Nat.gcd_pos_of_pos_right a h0
  have hgl : Nat.gcd a b ≤ b := Nat.gcd_le_right a h0
  have h1 := euclid (f := fun s : Int64 × Int64 => f_X6_lowers_10 (lZ (a : Int)) (lZ (b : Int)) s.1 s.2) (fun a b _ => (lZ (a : Int), lZ (b : Int))) (fun a' i _ => by
      show f_X6_lowers_10 _ _ (lZ (a' : Int)) (lZ ((0 : Nat) : Int)) = _
      rw [f_X6_lowers_10, show lZ ((0 : Nat) : Int) = 0 from rfl, if_pos cmp_z]) (fun a' b' i h _ ha' hb' => by
      show f_X6_lowers_10 _ _ (lZ (a' : Int)) (lZ (b' : Int)) = _
      rw [f_X6_lowers_10, if_neg (cmp_ne (lZ_nz hb' h)), chk_t (lZ_nz hb' h), lZ_rem ha' hb']) 30 a b 0 1000 hb (by omega) ha (by decide) (by decide)
  rw [f_X6_lowers, h1, bind_s, chk_t (lZ_nz (by omega) (by omega)), lZ_div (by omega) (by omega) (by omega) (by omega), lZ_div (by omega) (by omega) (by omega) (by omega), ← Int.ofNat_tdiv, ← Int.ofNat_tdiv]
theorem x_common {a b : Nat} (ha : a ≤ 2 ^ 30) (hb : b < 2 ^ 30) : f_X5_commonDivisor (lZ (a : Int)) (lZ (b : Int)) = some (lZ ((Nat.gcd a b : Nat) : Int)) := by
  have h1 := euclid (f := fun s : Int64 × Int64 × Int32 => f_X5_commonDivisor_9 s.1 s.2.1 s.2.2) (fun a b i => (lZ (a : Int), lZ (b : Int), nI i)) (fun a' i hi => by
      show f_X5_commonDivisor_9 (lZ (a' : Int)) (lZ ((0 : Nat) : Int)) (nI i) = _
      rw [f_X5_commonDivisor_9, show (100 : Int32) = nI 100 from rfl, if_neg (by rw [n_le (by omega) (by omega)]; omega), show lZ ((0 : Nat) : Int) = 0 from rfl, if_pos cmp_z]) (fun a' b' i h hi ha' hb' => by
      show f_X5_commonDivisor_9 (lZ (a' : Int)) (lZ (b' : Int)) (nI i) = _
      rw [f_X5_commonDivisor_9, show (100 : Int32) = nI 100 from rfl, if_neg (by rw [n_le (by omega) (by omega)]; omega), if_neg (cmp_ne (lZ_nz hb' h)), chk_t (lZ_nz hb' h), lZ_rem ha' hb', nI_1]) 30 a b 0 1000 hb (by omega) ha (by decide) (by decide)
  have h1' : lpf (fun s : Int64 × Int64 × Int32 => f_X5_commonDivisor_9 s.1 s.2.1 s.2.2) 1000 (lZ (a : Int), lZ (b : Int), (0 : Int32)) = some (lZ ((Nat.gcd a b : Nat) : Int)) := h1
  rw [f_X5_commonDivisor, h1', bind_s]
theorem low_eq {P w a b : Nat} (h : P * b = w * a) (hc : Nat.gcd a b = 1) (hb : 0 < b) (hw : 0 < w) : P / Nat.gcd P w = a ∧ w / Nat.gcd P w = b := by
  have hg : 0 < Nat.gcd P w := Nat.gcd_pos_of_pos_right P hw
  have e1 := Nat.gcd_mul_right P b w
  rw [h, Nat.gcd_mul_left, hc, Nat.mul_one] at e1
  refine ⟨Nat.div_eq_of_eq_mul_right hg ?_, Nat.div_eq_of_eq_mul_right hg e1⟩
  refine Nat.eq_of_mul_eq_mul_right hb ?_
  rw [h]
  calc w * a = Nat.gcd P w * b * a := by rw [← e1]
    _ = Nat.gcd P w * a * b := by rw [Nat.mul_assoc, Nat.mul_comm b a, Nat.mul_assoc]
/-- a share in lowest terms, as the class gives it -/
theorem x_lowest {P w : Nat} (hw : 0 < w) (hP : P ≤ 2 ^ 29) (hw2 : w ≤ 2 ^ 29) (x : Int32) : f_X5_lowest (lZ (P : Int)) (lZ (w : Int)) x = some (if x = 0 then Int64.toInt32 (lZ ((P / Nat.gcd P w : Nat) : Int)) else Int64.toInt32 (lZ ((w / Nat.gcd P w : Nat) : Int))) := by
  have hg : 0 < Nat.gcd P w := Nat.gcd_pos_of_pos_right P hw
  have hgl : Nat.gcd P w ≤ w := Nat.gcd_le_right P hw
  have hgn := lZ_nz (b := Nat.gcd P w) (by omega) (by omega)
  rw [f_X5_lowest, x_common (by omega) (by omega), bind_s, if_neg (cmp_ne hgn), chk_t hgn, chk_t hgn, lZ_div (by omega) (by omega) (by omega) (by omega), lZ_div (by omega) (by omega) (by omega) (by omega), ← Int.ofNat_tdiv, ← Int.ofNat_tdiv]
  by_cases q : x = 0
  · rw [if_pos q, if_pos q]
  · rw [if_neg q, if_neg q]
theorem low_cop {a0 b0 : Nat} (h0 : 0 < b0) : ∃ g, 0 < g ∧ a0 = a0 / Nat.gcd a0 b0 * g ∧ b0 = b0 / Nat.gcd a0 b0 * g ∧ Nat.gcd (a0 / Nat.gcd a0 b0) (b0 / Nat.gcd a0 b0) = 1 := by
  have hg : 0 < Nat.gcd a0 b0 := Nat.gcd_pos_of_pos_right a0 h0
  have e1 : a0 / Nat.gcd a0 b0 * Nat.gcd a0 b0 = a0 := Nat.div_mul_cancel (Nat.gcd_dvd_left a0 b0)
  have e2 : b0 / Nat.gcd a0 b0 * Nat.gcd a0 b0 = b0 := Nat.div_mul_cancel (Nat.gcd_dvd_right a0 b0)
  refine ⟨Nat.gcd a0 b0, hg, e1.symm, e2.symm, ?_⟩
  have h := Nat.gcd_mul_right (a0 / Nat.gcd a0 b0) (Nat.gcd a0 b0) (b0 / Nat.gcd a0 b0)
  rw [e1, e2] at h
  refine Nat.eq_of_mul_eq_mul_right hg ?_
  rw [Nat.one_mul]
  exact h.symm
/-- two shares are one, or not -/
theorem frac_iff {P1 w1 P2 w2 : Nat} (h1 : 0 < w1) (h2 : 0 < w2) : P1 * w2 = P2 * w1 ↔ P1 / Nat.gcd P1 w1 = P2 / Nat.gcd P2 w2 ∧ w1 / Nat.gcd P1 w1 = w2 / Nat.gcd P2 w2 := by
  obtain ⟨g1, hg1, a1, b1, c1⟩ := low_cop (a0 := P1) (b0 := w1) h1
  obtain ⟨g2, hg2, a2, b2, c2⟩ := low_cop (a0 := P2) (b0 := w2) h2
  constructor
  · intro h
    have hb2 : 0 < w2 / Nat.gcd P2 w2 := by
      rcases Nat.eq_zero_or_pos (w2 / Nat.gcd P2 w2) with q | q
      · rw [q, Nat.zero_mul] at b2; omega
      · exact q
    refine low_eq ?_ c2 hb2 h1
    refine Nat.eq_of_mul_eq_mul_right hg2 ?_
    rw [Nat.mul_assoc, ← b2, h, Nat.mul_assoc, ← a2, Nat.mul_comm]
  · rintro ⟨e1, e2⟩
    rw [e1] at a1
    rw [e2] at b1
    generalize P2 / Nat.gcd P2 w2 = a at *
    generalize w2 / Nat.gcd P2 w2 = b at *
    rw [a1, b1, a2, b2]
    ac_rfl
/-- what is left of a share -/
theorem low_sub {P w : Nat} (hP : P ≤ w) (hw : 0 < w) : (w - P) / Nat.gcd (w - P) w = w / Nat.gcd P w - P / Nat.gcd P w ∧ w / Nat.gcd (w - P) w = w / Nat.gcd P w ∧ P / Nat.gcd P w ≤ w / Nat.gcd P w := by
  have hg : 0 < Nat.gcd P w := Nat.gcd_pos_of_pos_right P hw
  have e1 : P / Nat.gcd P w * Nat.gcd P w = P := Nat.div_mul_cancel (Nat.gcd_dvd_left P w)
  have e2 : w / Nat.gcd P w * Nat.gcd P w = w := Nat.div_mul_cancel (Nat.gcd_dvd_right P w)
  rw [Nat.gcd_self_sub_left hP]
  refine ⟨?_, rfl, Nat.div_le_div_right hP⟩
  refine Nat.div_eq_of_eq_mul_right hg ?_
  rw [Nat.mul_comm, Nat.sub_mul, e1, e2]
