section BG
variable {W H : Nat} {κ : Nat → Nat} {co ro : Int32} {kd f : Nat → Int32}
theorem fw_s {fa : Nat → Nat} {s v p n : Nat} : fwS W H κ fa s v (n + 1) p = if go W H κ s n = 100 + p ∧ fwS W H κ fa s v n p = 0 then v else fwS W H κ fa s v n p := rfl
theorem fw_keep {fa : Nat → Nat} {s v p : Nat} (h : fa p ≠ 0) (n : Nat) : fwS W H κ fa s v n p = fa p := by
  induction n with
  | zero => rfl
  | succ n ih => rw [fw_s, ih, if_neg (fun q => h q.2)]
theorem fw_miss {fa : Nat → Nat} {s v p : Nat} (h : fa p = 0) (n : Nat) (hn : ∀ y, y < n → go W H κ s y ≠ 100 + p) : fwS W H κ fa s v n p = 0 := by
  induction n with
  | zero => exact h
  | succ n ih => rw [fw_s, ih (fun y hy => hn y (by omega)), if_neg (fun q => hn n (by omega) q.1)]
theorem fw_hit {fa : Nat → Nat} {s v p : Nat} (h : fa p = 0) (hv : v ≠ 0) (n : Nat) (hn : ∃ y, y < n ∧ go W H κ s y = 100 + p) : fwS W H κ fa s v n p = v := by
  induction n with
  | zero => obtain ⟨y, hy, -⟩ := hn; exact absurd hy (Nat.not_lt_zero y)
  | succ n ih =>
    rw [fw_s]
    by_cases h1 : ∃ y, y < n ∧ go W H κ s y = 100 + p
    · rw [ih h1, if_neg (fun q => hv q.2)]
    · obtain ⟨y, hy, hyg⟩ := hn
      have e : y = n := by
        by_cases e : y = n
        · exact e
        · exact absurd ⟨y, by omega, hyg⟩ h1
      subst e
      rw [fw_miss h y (fun z hz q => h1 ⟨z, hz, q⟩), if_pos ⟨hyg, rfl⟩]
theorem fa_keep {s0 k p : Nat} (h : faS W H κ s0 k p ≠ 0) (n : Nat) : faS W H κ s0 (k + n) p = faS W H κ s0 k p := by
  induction n with
  | zero => rfl
  | succ n ih =>
    show fwS W H κ (faS W H κ s0 (k + n)) _ _ _ p = _
    rw [fw_keep (by rw [ih]; exact h), ih]
theorem m_far1 (hM : RoomM W H κ f) (hd : Dim W H) (hk : Kok W H κ) (me : Int32) (mi mx : Nat → Int32) {p k s : Nat} (hp : p < 2 * (W + H)) (hk8 : k < 80) (hs : s < 4 * (W * H)) (hmi : mi k = nI s) : ∃ t, lpf (fun y : Int32 => f_X6_far_36 me f mi mx (nI p) (nI k) y) 1000 (0 : Int32) = some t ∧ (((∃ y, y < nw (κ (s / 4)) ∧ go W H κ s y = 100 + p) ∧ t = Sum.inl (mx s, me, mi, mx)) ∨ ((∀ y, y < nw (κ (s / 4)) → go W H κ s y ≠ 100 + p) ∧ t = Sum.inr ())) := by
  have hN := hd.le
  have hdd := hd
  obtain ⟨d1, d2, d3, d4⟩ := hdd
  have h2 := nw_le (κ (s / 4))
  refine lpf_run (σ := Int32) (τ := (Int32 × Int32 × (Nat → Int32) × (Nat → Int32)) ⊕ Unit) (fun y => ∃ j : Nat, j ≤ nw (κ (s / 4)) ∧ y = nI j ∧ ∀ y', y' < j → go W H κ s y' ≠ 100 + p) _ (fun y => 500 - y.toNatClampNeg) ?_ 1000 _ ⟨0, Nat.zero_le _, rfl, fun y hy => absurd hy (Nat.not_lt_zero y)⟩ (by omega)
  rintro y ⟨j, hj, rfl, hno⟩
  rw [f_X6_far_36, chk_t (aix_n hk8 (by decide)), nI_c _ (by omega), hmi, m_ways hM hd hk hs, bind_s]
  by_cases he : nw (κ (s / 4)) ≤ j
  · rw [if_pos ((n_le (by omega) (by omega)).mpr he)]
    exact Or.inr ⟨_, rfl, Or.inr ⟨fun y hy => hno y (by omega), rfl⟩⟩
  · rw [if_neg (by rw [n_le (by omega) (by omega)]; exact he), m_goes hM hd hk hs (show j < 2 by omega), bind_s]
    by_cases hh : go W H κ s j = 100 + p
    · rw [hh, if_neg (show ¬ 100 + p < 100 by omega), show 100 + p - 100 = p by omega, if_pos rfl, chk_t (aix_n (by omega) (by decide)), nI_c _ (by omega)]
      exact Or.inr ⟨_, rfl, Or.inl ⟨⟨j, by omega, hh⟩, rfl⟩⟩
    · have hne : ¬ (if go W H κ s j < 100 then nI (gs W H κ s j) else (-2 : Int32) - nI (go W H κ s j - 100)) = (-2 : Int32) - nI p := by
        by_cases h1 : go W H κ s j < 100
        · have hg := gs_lt hd hk hs h1
          rw [if_pos h1]
          exact (m4_fin (show gs W H κ s j < 90 by omega) (show p < 90 by omega)).2.2.2
        · obtain ⟨p', hp', hpe⟩ := go_port hd hk hs h1
          rw [if_neg h1, (m4_fin (show go W H κ s j - 100 < 90 by omega) (show p < 90 by omega)).2.2.1]
          omega
      rw [if_neg hne]
      refine Or.inl ⟨_, rfl, ⟨j + 1, by omega, nI_1 j, fun y' hy' => ?_⟩, ?_⟩
      · by_cases e : y' = j
        · subst e; exact hh
        · exact hno y' (by omega)
      · rw [nI_1, nI_c _ (by omega), nI_c _ (by omega)]
        omega
end BG
theorem op_far : Op_far InvP := by
  intro coR roR kdR tn tl pz pg mn mp mc ml mt ww wl wq wt wp me mi mx x1 x2 hI
  have hI0 := hI
  obtain ⟨R, z, h, hR, hX, hM, -⟩ := hI
  have hd := hR.1
  have hk := hR.2.1
  have hN := hd.le
  have hdd := hd
  obtain ⟨d1, d2, d3, d4⟩ := hdd
  rw [f_X5_far, f_X6_far, f_X5_hasPorts]
  rcases port_cases hX hM hd x1 with ⟨h1, h2⟩ | ⟨p, hp, rfl, h1, h2⟩
  · simp only [h1, h2, bind_s, ↓reduceIte]
    exact ⟨_, _, rfl, rfl, rfl, hI0⟩
  rcases port_cases hX hM hd x2 with ⟨h3, h4⟩ | ⟨q, hq, rfl, h3, h4⟩
  · simp only [h1, h2, h3, h4, bind_s, ↓reduceIte, i10]
    exact ⟨_, _, rfl, rfl, rfl, hI0⟩
  obtain ⟨r, K, hr, hK, hC, hF, hV⟩ := x_goFrom hX hd hk ww wl wq wt wp hp
  obtain ⟨r', K', hr', hK', hC', -⟩ := m_spreads hM hd hk me mi mx hp
  have hKK := hK.uniq hK'
  subst hKK
  have hm := hV.le
  have hK1 := hK.1
  simp only [h1, h2, h3, h4, bind_s, ↓reduceIte, i10, hr, hr']
  generalize hs0 : 4 * pcell R.1 R.2.1 p + pdir R.1 R.2.1 p = s0 at *
  have key : ∃ t, lpf (fun s : Int32 => f_X6_far_25 r'.1 mn r'.2.1 r'.2.2 (nI q) s) 1000 (0 : Int32) = some t ∧ ((∃ u, t = Sum.inl u ∧ u.1 = nI (faS R.1 R.2.1 R.2.2 s0 K q) ∧ faS R.1 R.2.1 R.2.2 s0 K q ≠ 0) ∨ (t = Sum.inr () ∧ faS R.1 R.2.1 R.2.2 s0 K q = 0)) := by
    refine lpf_run (σ := Int32) (τ := (Int32 × Int32 × (Nat → Int32) × (Nat → Int32)) ⊕ Unit) (fun y => ∃ k : Nat, k ≤ K ∧ y = nI k ∧ faS R.1 R.2.1 R.2.2 s0 k q = 0) _ (fun y => 500 - y.toNatClampNeg) ?_ 1000 _ ⟨0, Nat.zero_le _, rfl, rfl⟩ (by omega)
    rintro y ⟨k, hkK, rfl, hf0⟩
    rw [f_X6_far_25, hC'.1]
    by_cases he : K ≤ k
    · rw [if_pos ((n_le (by omega) (by omega)).mpr (by omega))]
      have ek : k = K := by omega
      subst ek
      exact Or.inr ⟨_, rfl, Or.inr ⟨rfl, hf0⟩⟩
    · have hkB : k < (bsS R.1 R.2.1 R.2.2 s0 K).1 := by omega
      have hkk := hK.2 k (by omega)
      have hE := bs_exts (W := R.1) (H := R.2.1) (κ := R.2.2) (s0 := s0) (k := k) (K - k)
      rw [show k + (K - k) = K by omega] at hE
      have hq1 := hE.2.1 k hkk
      have hq2 := (hV.1 k hkB)
      have hmi := hC'.2.1 k hkB
      have hmx := hC'.2.2 ((bsS R.1 R.2.1 R.2.2 s0 K).2.1 k) (by omega)
      rw [if_neg hq2.2] at hmx
      rw [if_neg (by rw [n_le (by omega) (by omega)]; omega), ← hC'.1]
      obtain ⟨t, ht, hcase⟩ := m_far1 hM hd hk r'.1 r'.2.1 r'.2.2 hq (show k < 80 by omega) hq2.1 hmi
      rw [ht, bind_s]
      have hdk : (bsS R.1 R.2.1 R.2.2 s0 K).2.2 ((bsS R.1 R.2.1 R.2.2 s0 K).2.1 k) = (bsS R.1 R.2.1 R.2.2 s0 k).2.2 ((bsS R.1 R.2.1 R.2.2 s0 k).2.1 k) := by
        have hvk : (bsS R.1 R.2.1 R.2.2 s0 k).2.2 ((bsS R.1 R.2.1 R.2.2 s0 k).2.1 k) ≠ 0 := by
          have hVk : Val (4 * (R.1 * R.2.1)) (bsS R.1 R.2.1 R.2.2 s0 k) := by
            have gen : ∀ n, n ≤ k → Val (4 * (R.1 * R.2.1)) (bsS R.1 R.2.1 R.2.2 s0 n) := by
              intro n
              induction n with
              | zero =>
                intro _
                obtain ⟨-, -, -, q1, q2⟩ := pt hd hp
                exact bs0_val (by omega)
              | succ n ih => intro hn; exact bs_val hd hk (ih (by omega)) (hK.2 n (by omega))
            exact gen k (Nat.le_refl _)
          exact (hVk.1 k hkk).2
        rw [hq1]
        exact hE.2.2 _ hvk
      rcases hcase with ⟨hhit, rfl⟩ | ⟨hmiss, rfl⟩
      · refine Or.inr ⟨_, rfl, Or.inl ⟨_, rfl, ?_, ?_⟩⟩
        all_goals
          have hval : faS R.1 R.2.1 R.2.2 s0 (k + 1) q = (bsS R.1 R.2.1 R.2.2 s0 k).2.2 ((bsS R.1 R.2.1 R.2.2 s0 k).2.1 k) := by
            show fwS R.1 R.2.1 R.2.2 (faS R.1 R.2.1 R.2.2 s0 k) _ _ _ q = _
            rw [hq1] at hhit
            rw [hdk] at hq2
            exact fw_hit hf0 hq2.2 _ hhit
          have hne : faS R.1 R.2.1 R.2.2 s0 (k + 1) q ≠ 0 := by rw [hval, ← hdk]; exact hq2.2
          have hfin := fa_keep hne (K - (k + 1))
          rw [show k + 1 + (K - (k + 1)) = K by omega] at hfin
        · rw [hfin, hval, ← hdk]
          exact hmx
        · rw [hfin]; exact hne
      · refine Or.inl ⟨_, rfl, ⟨k + 1, by omega, nI_1 k, ?_⟩, ?_⟩
        · show fwS R.1 R.2.1 R.2.2 (faS R.1 R.2.1 R.2.2 s0 k) _ _ _ q = _
          rw [hq1] at hmiss
          exact fw_miss hf0 _ hmiss
        · rw [nI_1, nI_c _ (by omega), nI_c _ (by omega)]
          omega
  obtain ⟨t, ht, hcase⟩ := key
  rw [ht, bind_s, f_X4_fewestTo, if_neg (n_neg (by omega)), show (18 : Int32) = nI 18 from rfl, if_neg (by rw [n_le (by omega) (by omega)]; omega), chk_t (aix_n (by omega) (by decide)), nI_c _ (by omega), (hF q (by omega)).1]
  have hf8 := (hF q (by omega)).2
  rcases hcase with ⟨u, rfl, hu, hne⟩ | ⟨rfl, hz⟩
  · rw [if_neg (by rw [show (0 : Int32) = nI 0 from rfl, n_le (by omega) (by omega)]; omega), bind_s]
    exact ⟨_, _, rfl, rfl, hu.symm, hI0⟩
  · rw [if_pos (by rw [hz]; decide), bind_s]
    exact ⟨_, _, rfl, rfl, rfl, hI0⟩
