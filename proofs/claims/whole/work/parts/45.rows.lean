/-! ===== the class's rows ===== -/
abbrev lZ (z : Int) : Int64 := Int64.ofInt z
theorem lZ_mul (a b : Int) : lZ a * lZ b = lZ (a * b) := (Int64.ofInt_mul a b).symm
theorem lZ_sub (a b : Int) : lZ a - lZ b = lZ (a - b) := (Int64.ofInt_sub a b).symm
theorem lZ_add (a b : Int) : lZ a + lZ b = lZ (a + b) := (Int64.ofInt_add a b).symm
theorem lZ_t {a : Int} (h1 : -(2 ^ 62) ≤ a) (h2 : a ≤ 2 ^ 62) : (lZ a).toInt = a := Int64.toInt_ofInt_of_le (by omega) (by omega)
theorem lZ_div {a b : Int} (h1 : -(2 ^ 62) ≤ a) (h2 : a ≤ 2 ^ 62) (h3 : -(2 ^ 62) ≤ b) (h4 : b ≤ 2 ^ 62) : lZ a / lZ b = lZ (a.tdiv b) := by
  have e1 : Int64.minValue.toInt = -2 ^ 63 := by decide
  have e2 : Int64.maxValue.toInt = 2 ^ 63 - 1 := by decide
  exact (Int64.ofInt_tdiv (by omega) (by omega) (by omega) (by omega)).symm
theorem ite_iff {α : Type} {p q : Prop} [Decidable p] [Decidable q] {a b : α} (h : p ↔ q) : (if p then a else b) = if q then a else b := by
  by_cases g : p
  · rw [if_pos g, if_pos (h.mp g)]
  · rw [if_neg g, if_neg (fun x => g (h.mpr x))]
theorem lZ_ne {a : Int} (h1 : -(2 ^ 62) ≤ a) (h2 : a ≤ 2 ^ 62) (h : a ≠ 0) : ¬ lZ a = 0 := by
  intro e
  have e2 := lZ_t h1 h2
  rw [e] at e2
  have : (0 : Int64).toInt = 0 := by decide
  omega
theorem cmp_ne {a : Int64} (h : ¬ a = 0) : ¬ lg_cmp a 0 = 0 := by
  rw [lg_cmp]
  split
  · decide
  · decide
theorem cmp_z : lg_cmp (0 : Int64) 0 = 0 := by decide
/-- one number of the elimination -/
theorem lZ_el {a b c d e q : Int} (h : a * b - c * d = q * e) (he : 0 < e) (hm : e ≤ 2 ^ 31) (ha : -(2 ^ 30) ≤ a ∧ a ≤ 2 ^ 30) (hb : -(2 ^ 30) ≤ b ∧ b ≤ 2 ^ 30) (hc : -(2 ^ 30) ≤ c ∧ c ≤ 2 ^ 30) (hd : -(2 ^ 30) ≤ d ∧ d ≤ 2 ^ 30) : (lZ a * lZ b - lZ c * lZ d) / lZ e = lZ q := by
  have m1 : ∀ x y : Int, (-(2 ^ 30) ≤ x ∧ x ≤ 2 ^ 30) → (-(2 ^ 30) ≤ y ∧ y ≤ 2 ^ 30) → -(2 ^ 60) ≤ x * y ∧ x * y ≤ 2 ^ 60 := by
    intro x y hx hy
    have h1 : (x * y).natAbs ≤ 2 ^ 30 * 2 ^ 30 := by
      rw [Int.natAbs_mul]
      exact Nat.mul_le_mul (by omega) (by omega)
    omega
  have a1 := m1 a b ha hb
  have a2 := m1 c d hc hd
  rw [lZ_mul, lZ_mul, lZ_sub, lZ_div (by omega) (by omega) (by omega) (by omega), h, Int.mul_tdiv_cancel _ (by omega)]
theorem fill_l {na : Nat} (hna : na < 900) (fa : Nat → Int64) (v : Int64) : ∃ r, f_J7_fill_d0a16 na fa v = some r ∧ ∀ i, i < na → r i = v := by
  have key : ∃ t, lpf (fun s : Int32 × (Nat → Int64) => f_J7_fill_d0a16_6 na v (Int32.ofNat na) s.1 s.2) 1000 ((0 : Int32), fa) = some t ∧ ∀ i, i < na → t i = v := by
    refine lpf_run (σ := Int32 × (Nat → Int64)) (τ := Nat → Int64) (fun s => ∃ k : Nat, k ≤ na ∧ s.1 = nI k ∧ ∀ i, i < k → s.2 i = v) (fun t => ∀ i, i < na → t i = v) (fun s => 999 - s.1.toNatClampNeg) ?_ 1000 _ ⟨0, by omega, rfl, fun i hi => absurd hi (Nat.not_lt_zero i)⟩ (by omega)
    rintro ⟨x, g⟩ ⟨k, hk, rfl, hg⟩
    show (∃ s', f_J7_fill_d0a16_6 na v (nI na) (nI k) g = some (Sum.inl s') ∧ _) ∨ _
    rw [f_J7_fill_d0a16_6]
    by_cases h : na ≤ k
    · refine Or.inr ⟨g, ?_, fun i hi => hg i (by omega)⟩
      show f_J7_fill_d0a16_6 na v (nI na) (nI k) g = _
      rw [f_J7_fill_d0a16_6, if_pos ((n_le (by omega) (by omega)).mpr h)]
    · refine Or.inl ⟨(nI (k + 1), vp_updL g k v), ?_, ⟨k + 1, by omega, rfl, fun i hi => ?_⟩, ?_⟩
      · rw [if_neg (by rw [n_le (by omega) (by omega)]; exact h), chk_t (aix_n (by omega) (by omega)), nI_c _ (by omega), nI_1]
      · show vp_updL g k v i = v
        by_cases e : i = k
        · subst e; rw [pk_uLs]
        · rw [pk_uLn e]; exact hg i (by omega)
      · show 999 - (nI (k + 1)).toNatClampNeg < 999 - (nI k).toNatClampNeg
        rw [nI_c _ (by omega), nI_c _ (by omega)]
        omega
  obtain ⟨t, ht, h2⟩ := key
  exact ⟨t, by rw [f_J7_fill_d0a16, ht, bind_s], h2⟩
theorem gr_s {M : Nat → Nat → Int64} {i : Nat} {g : Nat → Int64} : gr_r M i g i = g := if_pos rfl
theorem gr_n {M : Nat → Nat → Int64} {i a : Nat} {g : Nat → Int64} (h : a ≠ i) : gr_r M i g a = M a := if_neg h
-- the matrix when r rays have been counted: tg i y is 1 more than the split that ray y of split i comes to, or 0
def pa (n : Nat) (tg : Nat → Nat → Nat) (r t j : Nat) : Int := if j = n then (if t = 0 then 1 else 0) else (if j = t then 2 else 0) - (if 2 * j < r ∧ tg j 0 = t + 1 then 1 else 0) - (if 2 * j + 1 < r ∧ tg j 1 = t + 1 then 1 else 0)
def cA (n : Nat) (tg : Nat → Nat → Nat) (t j : Nat) : Int := pa n tg (2 * n) t j
theorem pa_s (n : Nat) (tg : Nat → Nat → Nat) (r t j : Nat) (hj : j ≠ n) : pa n tg (r + 1) t j = pa n tg r t j - (if j = r / 2 ∧ tg (r / 2) (r % 2) = t + 1 then 1 else 0) := by
  rw [pa, pa, if_neg hj, if_neg hj]
  by_cases h0 : r = 2 * j
  · subst h0
    rw [show 2 * j / 2 = j by omega, show 2 * j % 2 = 0 by omega]
    have e1 : (2 * j < 2 * j + 1 ∧ tg j 0 = t + 1) ↔ (j = j ∧ tg j 0 = t + 1) := by omega
    rw [ite_iff e1, if_neg (show ¬ (2 * j < 2 * j ∧ tg j 0 = t + 1) by omega), if_neg (show ¬ (2 * j + 1 < 2 * j + 1 ∧ tg j 1 = t + 1) by omega), if_neg (show ¬ (2 * j + 1 < 2 * j ∧ tg j 1 = t + 1) by omega)]
    omega
  · by_cases h1 : r = 2 * j + 1
    · subst h1
      rw [show (2 * j + 1) / 2 = j by omega, show (2 * j + 1) % 2 = 1 by omega]
      have e1 : (2 * j < 2 * j + 1 + 1 ∧ tg j 0 = t + 1) ↔ (2 * j < 2 * j + 1 ∧ tg j 0 = t + 1) := by omega
      have e2 : (2 * j + 1 < 2 * j + 1 + 1 ∧ tg j 1 = t + 1) ↔ (j = j ∧ tg j 1 = t + 1) := by omega
      rw [ite_iff e1, ite_iff e2, if_neg (show ¬ (2 * j + 1 < 2 * j + 1 ∧ tg j 1 = t + 1) by omega)]
      omega
    · have e1 : (2 * j < r + 1 ∧ tg j 0 = t + 1) ↔ (2 * j < r ∧ tg j 0 = t + 1) := by omega
      have e2 : (2 * j + 1 < r + 1 ∧ tg j 1 = t + 1) ↔ (2 * j + 1 < r ∧ tg j 1 = t + 1) := by omega
      rw [ite_iff e1, ite_iff e2, if_neg (show ¬ (j = r / 2 ∧ tg (r / 2) (r % 2) = t + 1) by omega)]
      omega
theorem pa_n (n : Nat) (tg : Nat → Nat → Nat) (r t : Nat) : pa n tg r t n = if t = 0 then 1 else 0 := if_pos rfl
-- where ray y of split i comes to
def tgB (W H : Nat) (κ : Nat → Nat) (B : Bst) (i y : Nat) : Nat := if en W H κ (cs (B.2.1 i)) y < 100 then B.2.2 (sp κ (en W H κ (cs (B.2.1 i)) y)) else 0
section RW
variable {W H : Nat} {κ : Nat → Nat} {co ro : Int32} {kd f : Nat → Int32}
theorem tgB_le {B : Bst} (hB : SpB W H κ B) (i y : Nat) : tgB W H κ B i y ≤ B.1 := by
  rw [tgB]
  by_cases h : en W H κ (cs (B.2.1 i)) y < 100
  · rw [if_pos h]
    by_cases h0 : B.2.2 (sp κ (en W H κ (cs (B.2.1 i)) y)) = 0
    · omega
    · exact (hB.2 _ h0).1
  · rw [if_neg h]; omega
theorem ce_lt (hd : Dim W H) {E : Nat} (hE : EndOk W H κ E) : ce κ E < 60 ∧ (E < 100 → ce κ E = sp κ E) ∧ (¬ E < 100 → 40 ≤ ce κ E) := by
  have hN := hd.le
  have hdd := hd
  obtain ⟨d1, d2, d3, d4⟩ := hdd
  rcases hE with ⟨h1, h2⟩ | ⟨p, hp, rfl⟩ | rfl | rfl
  · have := sp_lt (κ := κ) h1
    rw [ce, if_pos (by omega)]
    exact ⟨by omega, fun _ => rfl, fun h => by omega⟩
  · rw [ce, if_neg (by omega), if_pos (by omega)]
    exact ⟨by omega, fun h => by omega, fun h => by omega⟩
  · exact ⟨show 58 < 60 by decide, fun h => by omega, fun _ => show 40 ≤ 58 by decide⟩
  · exact ⟨show 59 < 60 by decide, fun h => by omega, fun _ => show 40 ≤ 59 by decide⟩
theorem x_setRows (hd : Dim W H) (hk : Kok W H κ) (hh : cntK κ 3 4 (W * H) ≤ 5) {B : Bst} (hB : SpB W H κ B) {bq : Int32} {bp bn br : Nat → Int32} (hR : RS B bq bp bn) (hbr : ∀ i y, i < B.1 → y < 2 → br (2 * i + y) = nI (ce κ (en W H κ (cs (B.2.1 i)) y))) (bM : Nat → Nat → Int64) : ∃ M, f_X0_setRows bq bn br bM = some M ∧ ∀ t j, t < B.1 → j ≤ B.1 → M t j = lZ (cA B.1 (tgB W H κ B) t j) := by
  have hN := hd.le
  have hm := sp_le hh hB
  obtain ⟨rfl, hp, hn⟩ := hR
  have h1 : ∃ M, lpf (fun s : Int32 × (Nat → Nat → Int64) => f_X0_setRows_2 (nI B.1) bn br s.1 s.2) 1000 ((0 : Int32), bM) = some M ∧ ∀ t j, t < B.1 → j ≤ B.1 → M t j = lZ (pa B.1 (tgB W H κ B) 0 t j) := by
    refine lpf_run (σ := Int32 × (Nat → Nat → Int64)) (τ := Nat → Nat → Int64) (fun s => ∃ k : Nat, k ≤ B.1 ∧ s.1 = nI k ∧ ∀ t j, t < k → j ≤ B.1 → s.2 t j = lZ (pa B.1 (tgB W H κ B) 0 t j)) _ (fun s => 999 - s.1.toNatClampNeg) ?_ 1000 _ ⟨0, by omega, rfl, fun t j hi => absurd hi (Nat.not_lt_zero t)⟩ (by omega)
    rintro ⟨x, M⟩ ⟨k, hk, rfl, hM⟩
    dsimp only at hM ⊢
    by_cases h : B.1 ≤ k
    · exact Or.inr ⟨M, by rw [f_X0_setRows_2, if_pos ((n_le (by omega) (by omega)).mpr h)], fun t j ht hj => hM t j (by omega) hj⟩
    · obtain ⟨r, hr, hr0⟩ := fill_l (na := 11) (by decide) (M k) 0
      have hr' : f_J7_fill_d0a16 11 (M (nI k).toNatClampNeg) 0 = some r := by rw [nI_c k (by omega)]; exact hr
      have st : f_X0_setRows_2 (nI B.1) bn br (nI k) M = some (Sum.inl (nI (k + 1), gr_r (gr_r (gr_r M k r) k (vp_updL (gr_r M k r k) k 2)) k (vp_updL (gr_r (gr_r M k r) k (vp_updL (gr_r M k r k) k 2) k) B.1 (if k = 0 then 1 else 0)))) := by
        rw [f_X0_setRows_2, if_neg (by rw [n_le (by omega) (by omega)]; exact h), chk_t (aix_n (by omega) (by decide)), hr', bind_s, chk_t (aix_n (by omega) (by decide)), nI_1]
        by_cases e : k = 0
        · rw [if_pos ((n_z (by omega)).mpr e), chk_t (aix_n (by omega) (by decide)), if_pos e, nI_c k (by omega), nI_c B.1 (by omega)]
        · rw [if_neg (by rw [n_z (by omega)]; exact e), chk_t (aix_n (by omega) (by decide)), if_neg e, nI_c k (by omega), nI_c B.1 (by omega)]
      refine Or.inl ⟨_, st, ⟨k + 1, by omega, rfl, fun t j ht hj => ?_⟩, ?_⟩
      · show gr_r (gr_r (gr_r M k r) k (vp_updL (gr_r M k r k) k 2)) k (vp_updL (gr_r (gr_r M k r) k (vp_updL (gr_r M k r k) k 2) k) B.1 (if k = 0 then 1 else 0)) t j = _
        by_cases e : t = k
        · subst e
          rw [gr_s, gr_s, gr_s]
          by_cases e2 : j = B.1
          · subst e2
            rw [pk_uLs, pa_n]
            by_cases e3 : t = 0
            · rw [if_pos e3, if_pos e3]; rfl
            · rw [if_neg e3, if_neg e3]; rfl
          · rw [pk_uLn e2, pa, if_neg e2, if_neg (show ¬ (2 * j < 0 ∧ tgB W H κ B j 0 = t + 1) by omega), if_neg (show ¬ (2 * j + 1 < 0 ∧ tgB W H κ B j 1 = t + 1) by omega)]
            by_cases e3 : j = t
            · subst e3
              rw [pk_uLs, if_pos rfl]; rfl
            · rw [pk_uLn e3, if_neg e3, hr0 j (by omega)]; rfl
        · rw [gr_n e, gr_n e, gr_n e]
          exact hM t j (by omega) hj
      · show 999 - (nI (k + 1)).toNatClampNeg < 999 - (nI k).toNatClampNeg
        rw [nI_c _ (by omega), nI_c _ (by omega)]
        omega
  obtain ⟨M0, hM0, hM0e⟩ := h1
  have h2 : ∃ M, lpf (fun s : Int32 × (Nat → Nat → Int64) => f_X0_setRows_59 (nI B.1) bn br s.1 s.2) 1000 ((0 : Int32), M0) = some M ∧ ∀ t j, t < B.1 → j ≤ B.1 → M t j = lZ (pa B.1 (tgB W H κ B) (2 * B.1) t j) := by
    refine lpf_run (σ := Int32 × (Nat → Nat → Int64)) (τ := Nat → Nat → Int64) (fun s => ∃ r : Nat, r ≤ 2 * B.1 ∧ s.1 = nI r ∧ ∀ t j, t < B.1 → j ≤ B.1 → s.2 t j = lZ (pa B.1 (tgB W H κ B) r t j)) _ (fun s => 999 - s.1.toNatClampNeg) ?_ 1000 _ ⟨0, by omega, rfl, hM0e⟩ (by omega)
    rintro ⟨x, M⟩ ⟨r, hr, rfl, hM⟩
    dsimp only at hM ⊢
    by_cases h : 2 * B.1 ≤ r
    · have er : r = 2 * B.1 := by omega
      subst er
      exact Or.inr ⟨M, by rw [f_X0_setRows_59, show (2 : Int32) = nI 2 from rfl, pk_mul, if_pos ((n_le (by omega) (by omega)).mpr h)], hM⟩
    · have hi : r / 2 < B.1 := by omega
      obtain ⟨q1, q2, q3⟩ := hB.1 (r / 2) hi
      have hE : EndOk W H κ (en W H κ (cs (B.2.1 (r / 2))) (r % 2)) := en_end hd hk (by rw [cs]; omega)
      obtain ⟨c1, c2, c3⟩ := ce_lt hd hE
      have hbr' := hbr (r / 2) (r % 2) hi (by omega)
      rw [show 2 * (r / 2) + r % 2 = r by omega] at hbr'
      have hj74 : bn (ce κ (en W H κ (cs (B.2.1 (r / 2))) (r % 2))) = if tgB W H κ B (r / 2) (r % 2) = 0 then (-4 : Int32) else nI (tgB W H κ B (r / 2) (r % 2) - 1) := by
        rw [hn _ c1, tgB]
        by_cases h1 : en W H κ (cs (B.2.1 (r / 2))) (r % 2) < 100
        · rw [if_pos h1, c2 h1]
        · rw [if_neg h1, if_pos, if_pos rfl]
          refine Classical.byContradiction fun q => ?_
          obtain ⟨b1, b2⟩ := hB.2 _ q
          have := (hB.1 _ (show B.2.2 (ce κ (en W H κ (cs (B.2.1 (r / 2))) (r % 2))) - 1 < B.1 by omega)).1
          have := c3 h1
          omega
      have htl := tgB_le hB (r / 2) (r % 2)
      have fin : ∀ M' : Nat → Nat → Int64, f_X0_setRows_59 (nI B.1) bn br (nI r) M = some (Sum.inl (nI r + 1, M')) → (∀ t j, t < B.1 → j ≤ B.1 → M' t j = lZ (pa B.1 (tgB W H κ B) (r + 1) t j)) → ∃ s', f_X0_setRows_59 (nI B.1) bn br (nI r) M = some (Sum.inl s') ∧ (∃ r : Nat, r ≤ 2 * B.1 ∧ s'.1 = nI r ∧ ∀ t j, t < B.1 → j ≤ B.1 → s'.2 t j = lZ (pa B.1 (tgB W H κ B) r t j)) ∧ 999 - s'.1.toNatClampNeg < 999 - (nI r).toNatClampNeg := by
        intro M' ho hM'
        refine ⟨_, ho, ⟨r + 1, by omega, nI_1 r, hM'⟩, ?_⟩
        show 999 - (nI r + 1).toNatClampNeg < 999 - (nI r).toNatClampNeg
        rw [nI_1, nI_c _ (by omega), nI_c _ (by omega)]
        omega
      have st : f_X0_setRows_59 (nI B.1) bn br (nI r) M = if tgB W H κ B (r / 2) (r % 2) = 0 then some (Sum.inl (nI r + 1, M)) else some (Sum.inl (nI r + 1, gr_r M (tgB W H κ B (r / 2) (r % 2) - 1) (vp_updL (M (tgB W H κ B (r / 2) (r % 2) - 1)) (r / 2) (M (tgB W H κ B (r / 2) (r % 2) - 1) (r / 2) - 1)))) := by
        rw [f_X0_setRows_59, show (2 : Int32) = nI 2 from rfl, pk_mul, if_neg (by rw [n_le (by omega) (by omega)]; exact h), chk_t (aix_n (by omega) (by decide)), nI_c r (by omega), hbr', if_neg (n_neg (by omega)), show (60 : Int32) = nI 60 from rfl, if_neg (by rw [n_le (by omega) (by omega)]; omega), chk_t (aix_n (by omega) (by decide)), nI_c _ (by omega), hj74, bind_s]
        by_cases h0 : tgB W H κ B (r / 2) (r % 2) = 0
        · rw [if_pos h0, if_pos (by decide), if_pos h0]
        · rw [if_neg h0, if_neg (n_neg (by omega)), if_neg (by rw [n_le (by omega) (by omega)]; omega), chk_t (aix_n (by omega) (by decide)), pk_div (by omega) (by omega) (by omega), chk_t (aix_n (by omega) (by decide)), nI_c _ (by omega), nI_c _ (by omega), if_neg h0]
      refine Or.inl ?_
      by_cases h0 : tgB W H κ B (r / 2) (r % 2) = 0
      · rw [if_pos h0] at st
        refine fin M st (fun t j ht hj => ?_)
        rw [hM t j ht hj]
        by_cases e : j = B.1
        · subst e; rw [pa_n, pa_n]
        · rw [pa_s _ _ _ _ _ e, if_neg (by omega)]; simp
      · rw [if_neg h0] at st
        refine fin _ st (fun t j ht hj => ?_)
        have hcol : j = B.1 → j ≠ r / 2 := by omega
        by_cases e : t = tgB W H κ B (r / 2) (r % 2) - 1
        · subst e
          rw [gr_s]
          by_cases e2 : j = r / 2
          · subst e2
            rw [pk_uLs, hM _ _ ht hj, pa_s _ _ _ _ _ (by omega), if_pos ⟨rfl, by omega⟩, show (1 : Int64) = lZ 1 from rfl, lZ_sub]
          · rw [pk_uLn e2, hM _ _ ht hj]
            by_cases e3 : j = B.1
            · subst e3; rw [pa_n, pa_n]
            · rw [pa_s _ _ _ _ _ e3, if_neg (by omega)]; simp
        · rw [gr_n e, hM _ _ ht hj]
          by_cases e3 : j = B.1
          · subst e3; rw [pa_n, pa_n]
          · rw [pa_s _ _ _ _ _ e3, if_neg (by omega)]; simp
  obtain ⟨M1, hM1, hM1e⟩ := h2
  refine ⟨M1, ?_, hM1e⟩
  rw [f_X0_setRows, hM0, bind_s, hM1, bind_s]
end RW
