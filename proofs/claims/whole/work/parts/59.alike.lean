theorem x_cf0 {A w B v : Nat} (hA : A ≤ 2 ^ 30) (hw : w ≤ 2 ^ 30) (hB : B ≤ 2 ^ 30) (hv : v ≤ 2 ^ 30) : ∃ z, f_X5_compareFractions (lZ (A : Int)) (lZ (w : Int)) (lZ (B : Int)) (lZ (v : Int)) = some z ∧ (z = 0 ↔ A * v = B * w) := by
  refine ⟨_, x_cf (by omega) (by omega) (by omega) (by omega), ?_⟩
  rw [← Int.natCast_mul, ← Int.natCast_mul]
  generalize A * v = s
  generalize B * w = t
  by_cases h1 : (t : Int) < (s : Int)
  · rw [if_pos h1]
    exact ⟨fun q => absurd q (by decide), fun q => by omega⟩
  · rw [if_neg h1]
    by_cases h2 : (s : Int) = (t : Int)
    · rw [if_pos h2]
      exact ⟨fun _ => by omega, fun _ => rfl⟩
    · rw [if_neg h2]
      exact ⟨fun q => absurd q (by decide), fun q => by omega⟩
def lv4 (PW PC w j : Nat) : Nat := if j < 2 then (if j % 2 = 0 then PW / Nat.gcd PW w else w / Nat.gcd PW w) else (if j % 2 = 0 then PC / Nat.gcd PC w else w / Nat.gcd PC w)
theorem lv4_le {PW PC w : Nat} (h1 : PW ≤ w) (h2 : PC ≤ w) (j : Nat) : lv4 PW PC w j ≤ w := by
  have a1 : PW / Nat.gcd PW w ≤ PW := Nat.div_le_self _ _
  have a2 : w / Nat.gcd PW w ≤ w := Nat.div_le_self _ _
  have a3 : PC / Nat.gcd PC w ≤ PC := Nat.div_le_self _ _
  have a4 : w / Nat.gcd PC w ≤ w := Nat.div_le_self _ _
  rw [lv4]
  split
  · split <;> omega
  · split <;> omega
theorem op_alike : Op_alike InvP := by
  intro coR roR kdR tn tl pz pg mn mp mc ml mt bq bw bp bn br bs bM mm mu mv md mk my mq mw x1 x2 hI
  have hI0 := hI
  obtain ⟨R, z, h, hR, hX, hM, -⟩ := hI
  have hd := hR.1
  have hk := hR.2.1
  have hh := hR.2.2.1
  rw [f_X5_alike, f_X6_alike, f_X5_hasPorts]
  rcases port_cases hX hM hd x1 with ⟨h1, h2⟩ | ⟨p, hp, rfl, h1, h2⟩
  · simp only [h1, h2, bind_s, ↓reduceIte]
    exact ⟨_, _, rfl, rfl, rfl, hI0⟩
  rcases port_cases hX hM hd x2 with ⟨h3, h4⟩ | ⟨q, hq, rfl, h3, h4⟩
  · simp only [h1, h2, h3, h4, bind_s, ↓reduceIte, i10]
    exact ⟨_, _, rfl, rfl, rfl, hI0⟩
  obtain ⟨r, hr, hb⟩ := x_beam hX hd hk hh bq bw bp bn br bs bM hp
  obtain ⟨PW, PC, w, o1, o2, o3, o4, o5, o6, o7, o8⟩ := b_lost hM hd hk hh hp hb
  obtain ⟨r', hr', hb'⟩ := x_beam hX hd hk hh r.1 r.2.1 r.2.2.1 r.2.2.2.1 r.2.2.2.2.1 r.2.2.2.2.2.1 r.2.2.2.2.2.2 hq
  obtain ⟨PW', PC', w', o1', o2', o3', o4', o5', o6', o7', o8'⟩ := b_lost hM hd hk hh hq hb'
  have key : ∃ t, lpf (fun s : Int32 × Int32 × Int32 × Int64 × Int64 × (Nat → Int32) × (Nat → Int32) × (Nat → Int32) × (Nat → Int32) × (Nat → Int64) => f_X6_alike_23 mn (nI p) (nI q) s.1 s.2.1 s.2.2.1 s.2.2.2.1 s.2.2.2.2.1 s.2.2.2.2.2.1 s.2.2.2.2.2.2.1 s.2.2.2.2.2.2.2.1 s.2.2.2.2.2.2.2.2.1 s.2.2.2.2.2.2.2.2.2) 1000 ((1 : Int32), (0 : Int32), mm, mu, mv, md, mk, my, mq, mw) = some t ∧ ((t.1 = 1 ∧ ∀ j, j < 4 → lv4 PW PC w j = lv4 PW' PC' w' j) ∨ (t.1 = 0 ∧ ∃ j, j < 4 ∧ lv4 PW PC w j ≠ lv4 PW' PC' w' j)) := by
    refine lpf_run (σ := Int32 × Int32 × Int32 × Int64 × Int64 × (Nat → Int32) × (Nat → Int32) × (Nat → Int32) × (Nat → Int32) × (Nat → Int64)) (τ := Int32 × Int32 × Int64 × Int64 × (Nat → Int32) × (Nat → Int32) × (Nat → Int32) × (Nat → Int32) × (Nat → Int64)) (fun s => ∃ k : Nat, k ≤ 4 ∧ s.2.1 = nI k ∧ ((s.1 = 1 ∧ ∀ j, j < k → lv4 PW PC w j = lv4 PW' PC' w' j) ∨ (s.1 = 0 ∧ ∃ j, j < k ∧ lv4 PW PC w j ≠ lv4 PW' PC' w' j))) _ (fun s => 999 - s.2.1.toNatClampNeg) ?_ 1000 _ ⟨0, by omega, rfl, Or.inl ⟨rfl, fun j hj => absurd hj (Nat.not_lt_zero j)⟩⟩ (by dsimp only; omega)
    rintro ⟨y3, y4, mm, mu, mv, md, mk, my, mq, mw⟩ ⟨k, hk4, rfl, hc⟩
    dsimp only at hc ⊢
    by_cases he : 4 ≤ k
    · have ek : k = 4 := by omega
      subst ek
      refine Or.inr ⟨(y3, mm, mu, mv, md, mk, my, mq, mw), ?_, hc⟩
      rw [f_X6_alike_23, if_pos (by decide)]
    · have meas : 999 - (nI (k + 1)).toNatClampNeg < 999 - (nI k).toNatClampNeg := by
        rw [nI_c _ (by omega), nI_c _ (by omega)]
        omega
      have hn : ¬ (4 : Int32) ≤ nI k := by rw [show (4 : Int32) = nI 4 from rfl, n_le (by omega) (by omega)]; exact he
      refine Or.inl ?_
      rcases hc with ⟨rfl, hc⟩ | ⟨rfl, j, hj1, hj2⟩
      · obtain ⟨s, hs, s1⟩ := o8 mm mu mv md mk my mq mw k (by omega)
        obtain ⟨s', hs', s1'⟩ := o8' s.2.1 s.2.2.1 s.2.2.2.1 s.2.2.2.2.1 s.2.2.2.2.2.1 s.2.2.2.2.2.2.1 s.2.2.2.2.2.2.2.1 s.2.2.2.2.2.2.2.2 k (by omega)
        have s2 : s.1 = lZ ((lv4 PW PC w k : Nat) : Int) := s1
        have s2' : s'.1 = lZ ((lv4 PW' PC' w' k : Nat) : Int) := s1'
        have b1 := lv4_le o4 o5 k
        have b2 := lv4_le o4' o5' k
        have hcmp := x_cmp (a := ((lv4 PW PC w k : Nat) : Int)) (b := ((lv4 PW' PC' w' k : Nat) : Int)) (by omega) (by omega)
        by_cases e : lv4 PW PC w k = lv4 PW' PC' w' k
        · rw [if_neg (by omega), if_pos (by omega)] at hcmp
          refine ⟨((1 : Int32), nI (k + 1), s'.2.1, s'.2.2.1, s'.2.2.2.1, s'.2.2.2.2.1, s'.2.2.2.2.2.1, s'.2.2.2.2.2.2.1, s'.2.2.2.2.2.2.2.1, s'.2.2.2.2.2.2.2.2), ?_, ⟨k + 1, by omega, rfl, Or.inl ⟨rfl, fun j hj => ?_⟩⟩, meas⟩
          · rw [f_X6_alike_23, if_neg hn, if_neg (by decide), hs, bind_s, hs', bind_s, s2, s2', hcmp, if_pos rfl, nI_1]
          · by_cases ej : j = k
            · subst ej; exact e
            · exact hc j (by omega)
        · have hne : ¬ lg_cmp (lZ ((lv4 PW PC w k : Nat) : Int)) (lZ ((lv4 PW' PC' w' k : Nat) : Int)) = 0 := by
            rw [hcmp]
            by_cases q : ((lv4 PW' PC' w' k : Nat) : Int) < ((lv4 PW PC w k : Nat) : Int)
            · rw [if_pos q]; decide
            · rw [if_neg q, if_neg (by omega)]; decide
          refine ⟨((0 : Int32), nI (k + 1), s'.2.1, s'.2.2.1, s'.2.2.2.1, s'.2.2.2.2.1, s'.2.2.2.2.2.1, s'.2.2.2.2.2.2.1, s'.2.2.2.2.2.2.2.1, s'.2.2.2.2.2.2.2.2), ?_, ⟨k + 1, by omega, rfl, Or.inr ⟨rfl, k, by omega, e⟩⟩, meas⟩
          rw [f_X6_alike_23, if_neg hn, if_neg (by decide), hs, bind_s, hs', bind_s, s2, s2', if_neg hne, nI_1]
      · refine ⟨((0 : Int32), nI (k + 1), mm, mu, mv, md, mk, my, mq, mw), ?_, ⟨k + 1, by omega, rfl, Or.inr ⟨rfl, j, by omega, hj2⟩⟩, meas⟩
        rw [f_X6_alike_23, if_neg hn, if_pos rfl, nI_1]
  obtain ⟨t, ht, hcase⟩ := key
  obtain ⟨z1, c1, c2⟩ := x_cf0 (A := PW) (w := w) (B := PW') (v := w') (by omega) (by omega) (by omega) (by omega)
  obtain ⟨z2, c3, c4⟩ := x_cf0 (A := PC) (w := w) (B := PC') (v := w') (by omega) (by omega) (by omega) (by omega)
  rw [frac_iff o6 o6'] at c2 c4
  have l0 : lv4 PW PC w 0 = PW / Nat.gcd PW w := by rw [lv4, if_pos (show 0 < 2 by decide), if_pos (show 0 % 2 = 0 by decide)]
  have l1 : lv4 PW PC w 1 = w / Nat.gcd PW w := by rw [lv4, if_pos (show 1 < 2 by decide), if_neg (show ¬ 1 % 2 = 0 by decide)]
  have l2 : lv4 PW PC w 2 = PC / Nat.gcd PC w := by rw [lv4, if_neg (show ¬ 2 < 2 by decide), if_pos (show 2 % 2 = 0 by decide)]
  have l3 : lv4 PW PC w 3 = w / Nat.gcd PC w := by rw [lv4, if_neg (show ¬ 3 < 2 by decide), if_neg (show ¬ 3 % 2 = 0 by decide)]
  have l0' : lv4 PW' PC' w' 0 = PW' / Nat.gcd PW' w' := by rw [lv4, if_pos (show 0 < 2 by decide), if_pos (show 0 % 2 = 0 by decide)]
  have l1' : lv4 PW' PC' w' 1 = w' / Nat.gcd PW' w' := by rw [lv4, if_pos (show 1 < 2 by decide), if_neg (show ¬ 1 % 2 = 0 by decide)]
  have l2' : lv4 PW' PC' w' 2 = PC' / Nat.gcd PC' w' := by rw [lv4, if_neg (show ¬ 2 < 2 by decide), if_pos (show 2 % 2 = 0 by decide)]
  have l3' : lv4 PW' PC' w' 3 = w' / Nat.gcd PC' w' := by rw [lv4, if_neg (show ¬ 3 < 2 by decide), if_neg (show ¬ 3 % 2 = 0 by decide)]
  have n10 : ¬ (1 : Int32) = 0 := by decide
  rw [h1, bind_s, if_neg n10, h3, bind_s, if_neg n10, bind_s, if_neg n10, hr, bind_s, o1, bind_s, o2, bind_s, hr', bind_s, o1', bind_s, o2', bind_s, o3, o3', c1, bind_s, c3, bind_s]
  rw [h2, bind_s, if_neg n10, h4, bind_s, if_neg n10, ht, bind_s]
  rcases hcase with ⟨e1, e2⟩ | ⟨e1, j, hj, e2⟩
  · have q0 := e2 0 (by decide)
    have q1 := e2 1 (by decide)
    have q2 := e2 2 (by decide)
    have q3 := e2 3 (by decide)
    rw [if_pos (c2.mpr ⟨by omega, by omega⟩), if_pos (c4.mpr ⟨by omega, by omega⟩), e1, if_neg (by decide)]
    exact ⟨_, _, rfl, rfl, rfl, hI0⟩
  · rw [e1, if_pos rfl]
    by_cases g1 : z1 = 0
    · rw [if_pos g1]
      by_cases g2 : z2 = 0
      · exfalso
        have a1 := c2.mp g1
        have a2 := c4.mp g2
        rcases (show j = 0 ∨ j = 1 ∨ j = 2 ∨ j = 3 by omega) with rfl | rfl | rfl | rfl <;> omega
      · rw [if_neg g2]
        exact ⟨_, _, rfl, rfl, rfl, hI0⟩
    · rw [if_neg g1]
      exact ⟨_, _, rfl, rfl, rfl, hI0⟩
