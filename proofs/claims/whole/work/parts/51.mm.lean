/-! ===== the reference's matrix ===== -/
theorem iv_m (p q : Prop) [Decidable p] [Decidable q] : 0 ≤ iv p * iv q ∧ iv p * iv q ≤ iv p := by
  by_cases h : p
  · rw [iv_t h]
    have := iv_b q
    constructor
    · grind
    · grind
  · rw [iv_f h]
    constructor
    · grind
    · grind
section MB
variable {W H : Nat} {κ : Nat → Nat} {f : Nat → Int32} {aq : Nat → Bool} {Q : Nds} {ma : Nat → Bool}
theorem nd_ex {r : Nat} (h : r < cntB ma Q.1) : ∃ k, k < Q.1 ∧ ma k = true ∧ pl ma Q.1 k = r := by
  obtain ⟨k, h1, h2, h3⟩ := cntB_at (ma := ma) (v := cntB ma Q.1 - r) (by omega) Q.1 (by omega)
  exact ⟨k, h1, h2, by rw [pl, h3]; omega⟩
noncomputable def ndr (ma : Nat → Bool) (m r : Nat) : Nat := Classical.epsilon (fun k => k < m ∧ ma k = true ∧ pl ma m k = r)
theorem ndr_e {r : Nat} (h : r < cntB ma Q.1) : ndr ma Q.1 r < Q.1 ∧ ma (ndr ma Q.1 r) = true ∧ pl ma Q.1 (ndr ma Q.1 r) = r := Classical.epsilon_spec (p := fun k => k < Q.1 ∧ ma k = true ∧ pl ma Q.1 k = r) (nd_ex h)
theorem ndr_p {k : Nat} (hk : k < Q.1) (h : ma k = true) : ndr ma Q.1 (pl ma Q.1 k) = k := by
  obtain ⟨h1, h2, h3⟩ := ndr_e (Q := Q) (pl_lt hk h)
  exact pl_inj h1 hk h2 h h3
abbrev Nx (W H : Nat) (κ : Nat → Nat) (aq : Nat → Bool) (Q : Nds) (ma : Nat → Bool) (k y : Nat) : Prop := ¬ aq (en W H κ (Q.2 k) y) = true ∧ en W H κ (Q.2 k) y < 100 ∧ ma (tgN W H κ Q k y - 1) = true
theorem dB_c {k y c : Nat} (hc : c < cntB ma Q.1) : (dB W H κ aq Q ma k y c : Rat) = - (iv (Nx W H κ aq Q ma k y) * iv (c = pl ma Q.1 (tgN W H κ Q k y - 1))) := by
  rw [dB]
  by_cases h1 : aq (en W H κ (Q.2 k) y) = true
  · rw [if_pos h1, if_neg (by omega), iv_f (fun q : Nx W H κ aq Q ma k y => q.1 h1)]
    show (0 : Rat) = _
    grind
  · rw [if_neg h1]
    by_cases h2 : en W H κ (Q.2 k) y < 100 ∧ ma (tgN W H κ Q k y - 1) = true
    · rw [if_pos h2, iv_t (p := Nx W H κ aq Q ma k y) ⟨h1, h2⟩]
      by_cases h3 : c = pl ma Q.1 (tgN W H κ Q k y - 1)
      · rw [if_pos h3, iv_t h3, Rat.intCast_neg]
        show -(1 : Rat) = _
        grind
      · rw [if_neg h3, iv_f h3]
        show (0 : Rat) = _
        grind
    · rw [if_neg h2, iv_f (fun q : Nx W H κ aq Q ma k y => h2 q.2)]
      show (0 : Rat) = _
      grind
theorem dB_n {k y : Nat} (ht : Nx W H κ aq Q ma k y → pl ma Q.1 (tgN W H κ Q k y - 1) < cntB ma Q.1) : (dB W H κ aq Q ma k y (cntB ma Q.1) : Rat) = iv (aq (en W H κ (Q.2 k) y) = true) := by
  rw [dB]
  by_cases h1 : aq (en W H κ (Q.2 k) y) = true
  · rw [if_pos h1, if_pos rfl, iv_t h1]; rfl
  · rw [if_neg h1, iv_f h1]
    by_cases h2 : en W H κ (Q.2 k) y < 100 ∧ ma (tgN W H κ Q k y - 1) = true
    · have := ht ⟨h1, h2⟩
      rw [if_pos h2, if_neg (by omega)]; rfl
    · rw [if_neg h2]; rfl
theorem rB_c {k c : Nat} (hc : c < cntB ma Q.1) : (rowB W H κ aq Q ma k c : Rat) = 2 * iv (c = pl ma Q.1 k) - iv (Nx W H κ aq Q ma k 0) * iv (c = pl ma Q.1 (tgN W H κ Q k 0 - 1)) - iv (Nx W H κ aq Q ma k 1) * iv (c = pl ma Q.1 (tgN W H κ Q k 1 - 1)) := by
  rw [rowB, Rat.intCast_add, Rat.intCast_add, iv_cast2, dB_c hc, dB_c hc]
  grind
theorem rB_n {k : Nat} (hp : pl ma Q.1 k < cntB ma Q.1) (ht : ∀ y, y < 2 → Nx W H κ aq Q ma k y → pl ma Q.1 (tgN W H κ Q k y - 1) < cntB ma Q.1) : (rowB W H κ aq Q ma k (cntB ma Q.1) : Rat) = iv (aq (en W H κ (Q.2 k) 0) = true) + iv (aq (en W H κ (Q.2 k) 1) = true) := by
  rw [rowB, Rat.intCast_add, Rat.intCast_add, iv_cast2, iv_f (show ¬ cntB ma Q.1 = pl ma Q.1 k by omega), dB_n (ht 0 (by decide)), dB_n (ht 1 (by decide))]
  grind
theorem rB_sum {k : Nat} (x : Nat → Rat) (hp : pl ma Q.1 k < cntB ma Q.1) (ht : ∀ y, y < 2 → Nx W H κ aq Q ma k y → pl ma Q.1 (tgN W H κ Q k y - 1) < cntB ma Q.1) : sm (cntB ma Q.1) (fun c => (rowB W H κ aq Q ma k c : Rat) * x c) = 2 * x (pl ma Q.1 k) - iv (Nx W H κ aq Q ma k 0) * x (pl ma Q.1 (tgN W H κ Q k 0 - 1)) - iv (Nx W H κ aq Q ma k 1) * x (pl ma Q.1 (tgN W H κ Q k 1 - 1)) := by
  have one : ∀ y, y < 2 → sm (cntB ma Q.1) (fun c => x c * (iv (Nx W H κ aq Q ma k y) * iv (c = pl ma Q.1 (tgN W H κ Q k y - 1)))) = iv (Nx W H κ aq Q ma k y) * x (pl ma Q.1 (tgN W H κ Q k y - 1)) := by
    intro y hy
    by_cases h : Nx W H κ aq Q ma k y
    · rw [iv_t h, Rat.one_mul, ← iv_sum (ht y hy h) x]
      exact sm_cong (fun c _ => by grind)
    · rw [iv_f h, sm_zero (fun i _ => by grind)]
      grind
  have e : sm (cntB ma Q.1) (fun c => (rowB W H κ aq Q ma k c : Rat) * x c) = 2 * sm (cntB ma Q.1) (fun c => x c * iv (c = pl ma Q.1 k)) + (-1) * sm (cntB ma Q.1) (fun c => x c * (iv (Nx W H κ aq Q ma k 0) * iv (c = pl ma Q.1 (tgN W H κ Q k 0 - 1))) + x c * (iv (Nx W H κ aq Q ma k 1) * iv (c = pl ma Q.1 (tgN W H κ Q k 1 - 1)))) := sm_lin (fun c hc => by
    rw [rB_c hc]
    generalize iv (c = pl ma Q.1 k) = i1
    generalize iv (Nx W H κ aq Q ma k 0) * iv (c = pl ma Q.1 (tgN W H κ Q k 0 - 1)) = i2
    generalize iv (Nx W H κ aq Q ma k 1) * iv (c = pl ma Q.1 (tgN W H κ Q k 1 - 1)) = i3
    grind)
  rw [e, iv_sum hp x, sm_add, one 0 (by decide), one 1 (by decide)]
  grind
theorem nx_pl {E0 : Nat} {mk : Nat → Int32} (hI : NdI W H κ E0 (2 * Q.1) Q mk) {k y : Nat} (hk : k < Q.1) (hy : y < 2) (h : Nx W H κ aq Q ma k y) : tgN W H κ Q k y - 1 < Q.1 ∧ pl ma Q.1 (tgN W H κ Q k y - 1) < cntB ma Q.1 := by
  obtain ⟨t1, t2, t3⟩ := cl_tg hI hk hy h.2.1
  exact ⟨by omega, pl_lt (by omega) h.2.2⟩
noncomputable def mB (W H : Nat) (κ : Nat → Nat) (aq : Nat → Bool) (Q : Nds) (ma : Nat → Bool) (r c : Nat) : Int := rowB W H κ aq Q ma (ndr ma Q.1 r) c
theorem iv_an (k y : Nat) : iv (aq (en W H κ (Q.2 k) y) = true) + iv (Nx W H κ aq Q ma k y) ≤ 1 := by
  by_cases h : aq (en W H κ (Q.2 k) y) = true
  · rw [iv_t h, iv_f (fun q : Nx W H κ aq Q ma k y => q.1 h)]
    grind
  · rw [iv_f h]
    have := iv_b (Nx W H κ aq Q ma k y)
    grind
theorem mB_MM {E0 : Nat} {mk : Nat → Int32} (hI : NdI W H κ E0 (2 * Q.1) Q mk) {rk : Nat → Nat} (hR : Rk W H κ aq Q ma rk) : MM (cntB ma Q.1) (mB W H κ aq Q ma) (fun r => rk (ndr ma Q.1 r)) := by
  have srow : ∀ i, i < cntB ma Q.1 → sm (cntB ma Q.1) (fun j => (mB W H κ aq Q ma i j : Rat)) = 2 - iv (Nx W H κ aq Q ma (ndr ma Q.1 i) 0) - iv (Nx W H κ aq Q ma (ndr ma Q.1 i) 1) := by
    intro i hi
    obtain ⟨h1, h2, h3⟩ := ndr_e (Q := Q) hi
    have e := rB_sum (W := W) (H := H) (κ := κ) (aq := aq) (Q := Q) (ma := ma) (k := ndr ma Q.1 i) (fun _ => 1) (by omega) (fun y hy h => (nx_pl hI h1 hy h).2)
    have e2 : sm (cntB ma Q.1) (fun j => (mB W H κ aq Q ma i j : Rat)) = sm (cntB ma Q.1) (fun c => (rowB W H κ aq Q ma (ndr ma Q.1 i) c : Rat) * 1) := sm_cong (fun j _ => by rw [mB, Rat.mul_one])
    rw [e2, e]
    grind
  refine ⟨fun i j hi hj hne => ?_, fun i hi => ?_, fun i hi => ?_, fun i hi => ?_⟩
  · obtain ⟨h1, h2, h3⟩ := ndr_e (Q := Q) hi
    rw [mB, rB_c hj, h3, iv_f hne]
    have m0 := (iv_m (Nx W H κ aq Q ma (ndr ma Q.1 i) 0) (j = pl ma Q.1 (tgN W H κ Q (ndr ma Q.1 i) 0 - 1))).1
    have m1 := (iv_m (Nx W H κ aq Q ma (ndr ma Q.1 i) 1) (j = pl ma Q.1 (tgN W H κ Q (ndr ma Q.1 i) 1 - 1))).1
    grind
  · obtain ⟨h1, h2, h3⟩ := ndr_e (Q := Q) hi
    rw [srow i hi, mB, rB_n (by omega) (fun y hy h => (nx_pl hI h1 hy h).2)]
    have a0 := iv_an (W := W) (H := H) (κ := κ) (aq := aq) (Q := Q) (ma := ma) (ndr ma Q.1 i) 0
    have a1 := iv_an (W := W) (H := H) (κ := κ) (aq := aq) (Q := Q) (ma := ma) (ndr ma Q.1 i) 1
    have b0 := iv_b (aq (en W H κ (Q.2 (ndr ma Q.1 i)) 0) = true)
    have b1 := iv_b (aq (en W H κ (Q.2 (ndr ma Q.1 i)) 1) = true)
    constructor
    · grind
    · grind
  · rw [mB, rB_c hi]
    have m0 := (iv_m (Nx W H κ aq Q ma (ndr ma Q.1 i) 0) (i = pl ma Q.1 (tgN W H κ Q (ndr ma Q.1 i) 0 - 1))).1
    have m1 := (iv_m (Nx W H κ aq Q ma (ndr ma Q.1 i) 1) (i = pl ma Q.1 (tgN W H κ Q (ndr ma Q.1 i) 1 - 1))).1
    have b := (iv_b (i = pl ma Q.1 (ndr ma Q.1 i))).2
    grind
  · obtain ⟨h1, h2, h3⟩ := ndr_e (Q := Q) hi
    rw [srow i hi]
    have b0 := iv_b (Nx W H κ aq Q ma (ndr ma Q.1 i) 0)
    have b1 := iv_b (Nx W H κ aq Q ma (ndr ma Q.1 i) 1)
    obtain ⟨y, hy, hc⟩ := hR _ h1 h2
    by_cases ha : aq (en W H κ (Q.2 (ndr ma Q.1 i)) y) = true
    · left
      have hz : iv (Nx W H κ aq Q ma (ndr ma Q.1 i) y) = 0 := iv_f (fun q => q.1 ha)
      rcases (show y = 0 ∨ y = 1 by omega) with rfl | rfl
      · rw [hz]; grind
      · rw [hz]; grind
    · right
      obtain ⟨c1, c2, c3⟩ := hc.resolve_left ha
      have hN : Nx W H κ aq Q ma (ndr ma Q.1 i) y := ⟨ha, c1, c2⟩
      obtain ⟨p1, p2⟩ := nx_pl hI h1 hy hN
      have hne : pl ma Q.1 (tgN W H κ Q (ndr ma Q.1 i) y - 1) ≠ i := by
        intro q
        have := pl_inj p1 h1 c2 h2 (by rw [q, h3])
        rw [this] at c3
        omega
      refine ⟨pl ma Q.1 (tgN W H κ Q (ndr ma Q.1 i) y - 1), p2, hne, ?_, ?_⟩
      · rw [mB, rB_c p2, h3, iv_f hne]
        rcases (show y = 0 ∨ y = 1 by omega) with rfl | rfl
        · have m1 := (iv_m (Nx W H κ aq Q ma (ndr ma Q.1 i) 1) (pl ma Q.1 (tgN W H κ Q (ndr ma Q.1 i) 0 - 1) = pl ma Q.1 (tgN W H κ Q (ndr ma Q.1 i) 1 - 1))).1
          rw [iv_t hN, iv_t rfl]
          grind
        · have m1 := (iv_m (Nx W H κ aq Q ma (ndr ma Q.1 i) 0) (pl ma Q.1 (tgN W H κ Q (ndr ma Q.1 i) 1 - 1) = pl ma Q.1 (tgN W H κ Q (ndr ma Q.1 i) 0 - 1))).1
          rw [iv_t hN, iv_t rfl]
          grind
      · show rk (ndr ma Q.1 (pl ma Q.1 (tgN W H κ Q (ndr ma Q.1 i) y - 1))) < _
        rw [ndr_p p1 c2]
        exact c3
-- the value of a node, in parts of wR
noncomputable def wR (W H : Nat) (κ : Nat → Nat) (aq : Nat → Bool) (Q : Nds) (ma : Nat → Bool) : Int := gd (mB W H κ aq Q ma) (cntB ma Q.1)
noncomputable def UU (W H : Nat) (κ : Nat → Nat) (aq : Nat → Bool) (Q : Nds) (ma : Nat → Bool) (k : Nat) : Int := if ma k = true then gZ (mB W H κ aq Q ma) (cntB ma Q.1) (pl ma Q.1 k) (cntB ma Q.1) else 0
theorem UU_b {E0 : Nat} {mk : Nat → Int32} (hI : NdI W H κ E0 (2 * Q.1) Q mk) {rk : Nat → Nat} (hR : Rk W H κ aq Q ma rk) {k : Nat} (hk : k < Q.1) : 0 ≤ UU W H κ aq Q ma k ∧ UU W H κ aq Q ma k ≤ wR W H κ aq Q ma := by
  have hM := mB_MM hI hR
  rw [UU, wR]
  by_cases h : ma k = true
  · rw [if_pos h]
    exact gZ_x hM (pl_lt hk h)
  · rw [if_neg h]
    have := (gd_b hM (Nat.le_refl _)).1
    omega
theorem UU_eq {E0 : Nat} {mk : Nat → Int32} (hI : NdI W H κ E0 (2 * Q.1) Q mk) {rk : Nat → Nat} (hR : Rk W H κ aq Q ma rk) (hC : Cl W H κ aq Q (2 * Q.1) ma) {k : Nat} (hk : k < Q.1) : 2 * (UU W H κ aq Q ma k : Rat) = (iv (aq (en W H κ (Q.2 k) 0) = true) * (wR W H κ aq Q ma : Rat) + iv (¬ aq (en W H κ (Q.2 k) 0) = true ∧ en W H κ (Q.2 k) 0 < 100) * (UU W H κ aq Q ma (tgN W H κ Q k 0 - 1) : Rat)) + (iv (aq (en W H κ (Q.2 k) 1) = true) * (wR W H κ aq Q ma : Rat) + iv (¬ aq (en W H κ (Q.2 k) 1) = true ∧ en W H κ (Q.2 k) 1 < 100) * (UU W H κ aq Q ma (tgN W H κ Q k 1 - 1) : Rat)) := by
  have hM := mB_MM hI hR
  by_cases h : ma k = true
  · have hp := pl_lt hk h
    have e1 := gZ_sol hM hp
    have e2 : sm (cntB ma Q.1) (fun c => (mB W H κ aq Q ma (pl ma Q.1 k) c : Rat) * (gZ (mB W H κ aq Q ma) (cntB ma Q.1) c (cntB ma Q.1) : Rat)) = sm (cntB ma Q.1) (fun c => (rowB W H κ aq Q ma k c : Rat) * (gZ (mB W H κ aq Q ma) (cntB ma Q.1) c (cntB ma Q.1) : Rat)) := sm_cong (fun c _ => by rw [mB, ndr_p hk h])
    rw [e2, rB_sum (fun c => (gZ (mB W H κ aq Q ma) (cntB ma Q.1) c (cntB ma Q.1) : Rat)) hp (fun y hy q => (nx_pl hI hk hy q).2), show (mB W H κ aq Q ma (pl ma Q.1 k) (cntB ma Q.1)) = rowB W H κ aq Q ma k (cntB ma Q.1) by rw [mB, ndr_p hk h], rB_n hp (fun y hy q => (nx_pl hI hk hy q).2)] at e1
    have one : ∀ y, y < 2 → iv (Nx W H κ aq Q ma k y) * (gZ (mB W H κ aq Q ma) (cntB ma Q.1) (pl ma Q.1 (tgN W H κ Q k y - 1)) (cntB ma Q.1) : Rat) = iv (¬ aq (en W H κ (Q.2 k) y) = true ∧ en W H κ (Q.2 k) y < 100) * (UU W H κ aq Q ma (tgN W H κ Q k y - 1) : Rat) := by
      intro y hy
      by_cases q : ma (tgN W H κ Q k y - 1) = true
      · rw [UU, if_pos q]
        by_cases r : ¬ aq (en W H κ (Q.2 k) y) = true ∧ en W H κ (Q.2 k) y < 100
        · rw [iv_t r, iv_t (p := Nx W H κ aq Q ma k y) ⟨r.1, r.2, q⟩]
        · rw [iv_f r, iv_f (fun z : Nx W H κ aq Q ma k y => r ⟨z.1, z.2.1⟩)]
      · rw [UU, if_neg q, iv_f (fun z : Nx W H κ aq Q ma k y => q z.2.2)]
        show (0 : Rat) * _ = _ * (0 : Rat)
        grind
    have o0 := one 0 (by decide)
    have o1 := one 1 (by decide)
    rw [show (UU W H κ aq Q ma k) = gZ (mB W H κ aq Q ma) (cntB ma Q.1) (pl ma Q.1 k) (cntB ma Q.1) by rw [UU, if_pos h], ← o0, ← o1, wR]
    grind
  · have hf : ma k = false := by cases hq : ma k with
      | true => exact absurd hq h
      | false => rfl
    have one : ∀ y, y < 2 → iv (aq (en W H κ (Q.2 k) y) = true) * (wR W H κ aq Q ma : Rat) + iv (¬ aq (en W H κ (Q.2 k) y) = true ∧ en W H κ (Q.2 k) y < 100) * (UU W H κ aq Q ma (tgN W H κ Q k y - 1) : Rat) = 0 := by
      intro y hy
      obtain ⟨c1, c2⟩ := hC k y hk hy (by omega) hf
      rw [iv_f (show ¬ aq (en W H κ (Q.2 k) y) = true by rw [c1]; decide)]
      by_cases g : en W H κ (Q.2 k) y < 100
      · rw [UU, if_neg (by rw [c2 g]; decide)]
        show (0 : Rat) * _ + _ * (0 : Rat) = 0
        grind
      · rw [iv_f (fun q : ¬ aq (en W H κ (Q.2 k) y) = true ∧ en W H κ (Q.2 k) y < 100 => g q.2)]
        grind
    rw [one 0 (by decide), one 1 (by decide), UU, if_neg h]
    show (2 : Rat) * 0 = 0 + 0
    grind
end MB
