/-! ===== best ===== -/
theorem sgn_eq {D E u v : Int} (h : D * u = E * v) (hu : 0 < u) (hv : 0 < v) : (0 < D ↔ 0 < E) ∧ (D = 0 ↔ E = 0) := by
  have pos : ∀ {D E u v : Int}, D * u = E * v → 0 < u → 0 < v → 0 < D → 0 < E := by
    intro D E u v h hu hv hD
    have h1 : 0 < D * u := Int.mul_pos hD hu
    refine Classical.byContradiction fun q => ?_
    have h2 : E * v ≤ 0 := Int.mul_nonpos_of_nonpos_of_nonneg (by omega) (by omega)
    omega
  have zer : ∀ {D E u v : Int}, D * u = E * v → 0 < v → D = 0 → E = 0 := by
    intro D E u v h hv hD
    rw [hD, Int.zero_mul] at h
    rcases Int.mul_eq_zero.mp h.symm with q | q
    · exact q
    · omega
  exact ⟨⟨pos h hu hv, pos h.symm hv hu⟩, ⟨zer h hv, zer h.symm hu⟩⟩
/-- fractions of one value compare alike -/
theorem frac_cmp {P wn A wo as bs a b : Int} (h1 : P * bs = wn * as) (h2 : A * b = wo * a) (hbs : 0 < bs) (hb : 0 < b) (hwn : 0 < wn) (hwo : 0 < wo) : (A * wn < P * wo ↔ a * bs < as * b) ∧ (P * wo = A * wn ↔ as * b = a * bs) := by
  have e : (P * wo - A * wn) * (b * bs) = (as * b - a * bs) * (wn * wo) := by
    have c1 : (P * wo - A * wn) * (b * bs) = (P * bs) * (wo * b) - (A * b) * (wn * bs) := by
      rw [Int.sub_mul]
      congr 1 <;> ac_rfl
    rw [c1, h1, h2, Int.sub_mul]
    congr 1 <;> ac_rfl
  have h := sgn_eq e (Int.mul_pos hb hbs) (Int.mul_pos hwn hwo)
  exact ⟨⟨fun q => by have := h.1.mp (by omega); omega, fun q => by have := h.1.mpr (by omega); omega⟩, ⟨fun q => by have := h.2.mp (by omega); omega, fun q => by have := h.2.mpr (by omega); omega⟩⟩
def bstep (ab : Nat → Nat × Nat) (s : Nat) (u : Nat × Int × Int) : Nat × Int × Int := if u.2.1 * ((ab s).2 : Int) < ((ab s).1 : Int) * u.2.2 ∨ (((ab s).1 : Int) * u.2.2 = u.2.1 * ((ab s).2 : Int) ∧ pcn s < pcn u.1) then (s, ((ab s).1 : Int), ((ab s).2 : Int)) else u
def bst (ab : Nat → Nat × Nat) : Nat → Nat × Int × Int
  | 0 => (0, -1, 1)
  | s + 1 => bstep ab s (bst ab s)
theorem bst_pos {ab : Nat → Nat × Nat} (h : ∀ s, s < 16 → 0 < (ab s).2) : ∀ k, k < 16 → ∃ t, t ≤ k ∧ bst ab (k + 1) = (t, ((ab t).1 : Int), ((ab t).2 : Int)) := by
  intro k
  induction k with
  | zero =>
    intro _
    have := h 0 (by decide)
    refine ⟨0, Nat.le_refl _, ?_⟩
    show bstep ab 0 (0, -1, 1) = _
    rw [bstep, if_pos]
    left
    show -1 * ((ab 0).2 : Int) < ((ab 0).1 : Int) * 1
    omega
  | succ k ih =>
    intro hk
    obtain ⟨t, h1, h2⟩ := ih (by omega)
    show ∃ t, t ≤ k + 1 ∧ bstep ab (k + 1) (bst ab (k + 1)) = _
    rw [bstep]
    split
    · exact ⟨k + 1, Nat.le_refl _, rfl⟩
    · exact ⟨t, by omega, h2⟩
theorem bst_b {ab : Nat → Nat × Nat} (h : ∀ s, s < 16 → 0 < (ab s).2 ∧ (ab s).2 ≤ 1048576 ∧ (ab s).1 ≤ (ab s).2) (k : Nat) (hk : k ≤ 16) : (bst ab k).1 < 16 ∧ -1 ≤ (bst ab k).2.1 ∧ (bst ab k).2.1 ≤ 1048576 ∧ 0 < (bst ab k).2.2 ∧ (bst ab k).2.2 ≤ 1048576 := by
  cases k with
  | zero =>
    show 0 < 16 ∧ (-1 : Int) ≤ -1 ∧ (-1 : Int) ≤ 1048576 ∧ (0 : Int) < 1 ∧ (1 : Int) ≤ 1048576
    decide
  | succ k =>
    obtain ⟨t, h1, h2⟩ := bst_pos (fun s hs => (h s hs).1) k (by omega)
    have := h t (by omega)
    rw [h2]
    dsimp only
    omega
section BE
variable {W H : Nat} {κ : Nat → Nat} {co ro : Int32} {kd f : Nat → Int32} {p q : Nat} {ab : Nat → Nat × Nat}
theorem m_best (hM : RoomM W H κ f) (hd : Dim W H) (hk : Kok W H κ) (hh : cntK κ 3 4 (W * H) ≤ 5) (h4 : cntK κ 6 7 (W * H) ≤ 4) (hp : p < 2 * (W + H)) (hq : q < 2 * (W + H)) (hab : ∀ s, s < 16 → ShOk W H (ko κ s 4) (aqP q) p (ab s).1 (ab s).2) (x3 mm : Int32) (mu mv : Int64) (ma md mk my mq : Nat → Int32) (mw : Nat → Int64) : ∃ t, lpf (fun s : Int32 × Int64 × Int64 × Int32 × Int32 × Int64 × Int64 × (Nat → Int32) × (Nat → Int32) × (Nat → Int32) × (Nat → Int32) × (Nat → Int32) × (Nat → Int64) => f_X6_best_50 f (nI p) (nI q) x3 (nI (cntK κ 6 7 (W * H))) s.1 s.2.1 s.2.2.1 s.2.2.2.1 s.2.2.2.2.1 s.2.2.2.2.2.1 s.2.2.2.2.2.2.1 s.2.2.2.2.2.2.2.1 s.2.2.2.2.2.2.2.2.1 s.2.2.2.2.2.2.2.2.2.1 s.2.2.2.2.2.2.2.2.2.2.1 s.2.2.2.2.2.2.2.2.2.2.2.1 s.2.2.2.2.2.2.2.2.2.2.2.2) 1000 ((0 : Int32), (-1 : Int64), (1 : Int64), (0 : Int32), mm, mu, mv, ma, md, mk, my, mq, mw) = some t ∧ t.1 = nI (bst ab (2 ^ cntK κ 6 7 (W * H))).1 ∧ t.2.1 = lZ (bst ab (2 ^ cntK κ 6 7 (W * H))).2.1 ∧ t.2.2.1 = lZ (bst ab (2 ^ cntK κ 6 7 (W * H))).2.2 := by
  obtain ⟨sh1, sh2⟩ := sh_fin (show cntK κ 6 7 (W * H) < 5 by omega)
  have hb : ∀ s, s < 16 → 0 < (ab s).2 ∧ (ab s).2 ≤ 1048576 ∧ (ab s).1 ≤ (ab s).2 := fun s hs => ⟨(hab s hs).1, (hab s hs).2.1, (hab s hs).2.2.1⟩
  refine lpf_run (σ := Int32 × Int64 × Int64 × Int32 × Int32 × Int64 × Int64 × (Nat → Int32) × (Nat → Int32) × (Nat → Int32) × (Nat → Int32) × (Nat → Int32) × (Nat → Int64)) (τ := Int32 × Int64 × Int64 × Int32 × Int64 × Int64 × (Nat → Int32) × (Nat → Int32) × (Nat → Int32) × (Nat → Int32) × (Nat → Int32) × (Nat → Int64)) (fun s => ∃ k : Nat, k ≤ 2 ^ cntK κ 6 7 (W * H) ∧ s.2.2.2.1 = nI k ∧ s.1 = nI (bst ab k).1 ∧ s.2.1 = lZ (bst ab k).2.1 ∧ s.2.2.1 = lZ (bst ab k).2.2) _ (fun s => 999 - s.2.2.2.1.toNatClampNeg) ?_ 1000 _ ⟨0, Nat.zero_le _, rfl, rfl, rfl, rfl⟩ (by dsimp only; omega)
  rintro ⟨y4, y5, y7, y10, mm, mu, mv, ma, md, mk, my, mq, mw⟩ ⟨k, hkn, e1, e2, e3, e4⟩
  dsimp only at e1 e2 e3 e4 ⊢
  subst e1 e2 e3 e4
  by_cases he : 2 ^ cntK κ 6 7 (W * H) ≤ k
  · have ek : k = 2 ^ cntK κ 6 7 (W * H) := by omega
    refine Or.inr ⟨(nI (bst ab k).1, lZ (bst ab k).2.1, lZ (bst ab k).2.2, mm, mu, mv, ma, md, mk, my, mq, mw), ?_, ?_, ?_, ?_⟩
    · rw [f_X6_best_50, sh1, if_pos ((n_le (by omega) (by omega)).mpr he)]
    · rw [ek]
    · rw [ek]
    · rw [ek]
  · have hk16 : k < 16 := by omega
    have meas : 999 - (nI (k + 1)).toNatClampNeg < 999 - (nI k).toNatClampNeg := by
      rw [nI_c _ (by omega), nI_c _ (by omega)]
      omega
    obtain ⟨g, g1, g2⟩ := m_cpy hM hd ma
    obtain ⟨g', g3, g4⟩ := m_open hM hd hk h4 hk16 g2 mm mu mv md mk my mq mw (nI p) (nI q) x3 (nI (bst ab k).1) (lZ (bst ab k).2.1) (lZ (bst ab k).2.2)
    obtain ⟨r, r1, r2, r3⟩ := m_sh g4 hd (ko_kok hk k 4) (by rw [ko_half hk k 4 _ (Nat.le_refl _)]; exact hh) hp hq (hab k hk16) mm mu mv md mk my mq mw
    have hbk := bst_b hb k (by omega)
    have hbs := hb k hk16
    have hpk := pc_fin hk16
    have hpt := pc_fin hbk.1
    have hpre : ∀ o, (if 0 < (lg_cmp ((r.2.1 * lZ (bst ab k).2.2) - (lZ (bst ab k).2.1 * r.2.2.1)) (0 : Int64)) then some (Sum.inl (nI k, r.2.1, r.2.2.1, (nI k + (1 : Int32)), r.1, r.2.1, r.2.2.1, g', r.2.2.2.1, r.2.2.2.2.1, r.2.2.2.2.2.1, r.2.2.2.2.2.2.1, r.2.2.2.2.2.2.2)) else (if (lg_cmp ((r.2.1 * lZ (bst ab k).2.2) - (lZ (bst ab k).2.1 * r.2.2.1)) (0 : Int64)) = 0 then Option.bind (f_X6_ones (nI k)) (fun r240 => Option.bind (f_X6_ones (nI (bst ab k).1)) (fun r241 => (if r241 ≤ r240 then some (Sum.inl (nI (bst ab k).1, lZ (bst ab k).2.1, lZ (bst ab k).2.2, (nI k + (1 : Int32)), r.1, r.2.1, r.2.2.1, g', r.2.2.2.1, r.2.2.2.2.1, r.2.2.2.2.2.1, r.2.2.2.2.2.2.1, r.2.2.2.2.2.2.2)) else some (Sum.inl (nI k, r.2.1, r.2.2.1, (nI k + (1 : Int32)), r.1, r.2.1, r.2.2.1, g', r.2.2.2.1, r.2.2.2.2.1, r.2.2.2.2.2.1, r.2.2.2.2.2.2.1, r.2.2.2.2.2.2.2))))) else some (Sum.inl (nI (bst ab k).1, lZ (bst ab k).2.1, lZ (bst ab k).2.2, (nI k + (1 : Int32)), r.1, r.2.1, r.2.2.1, g', r.2.2.2.1, r.2.2.2.2.1, r.2.2.2.2.2.1, r.2.2.2.2.2.2.1, r.2.2.2.2.2.2.2)))) = o → f_X6_best_50 f (nI p) (nI q) x3 (nI (cntK κ 6 7 (W * H))) (nI (bst ab k).1) (lZ (bst ab k).2.1) (lZ (bst ab k).2.2) (nI k) mm mu mv ma md mk my mq mw = o := by
      intro o ho
      rw [f_X6_best_50, sh1, if_neg (by rw [n_le (by omega) (by omega)]; exact he), g1, bind_s, g3, bind_s, r1, bind_s]
      exact ho
    rw [r2, r3, lZ_mul, lZ_mul, lZ_sub, hpk.2.1, hpt.2.1, bind_s, bind_s, nI_1] at hpre
    have m1 := mul_bd (x := ((ab k).1 : Int)) (y := (bst ab k).2.2) (by omega) (by omega)
    have m2 := mul_bd (x := (bst ab k).2.1) (y := ((ab k).2 : Int)) (by omega) (by omega)
    have hcmp : lg_cmp (lZ (((ab k).1 : Int) * (bst ab k).2.2 - (bst ab k).2.1 * ((ab k).2 : Int))) 0 = if 0 < ((ab k).1 : Int) * (bst ab k).2.2 - (bst ab k).2.1 * ((ab k).2 : Int) then 1 else if ((ab k).1 : Int) * (bst ab k).2.2 - (bst ab k).2.1 * ((ab k).2 : Int) = 0 then 0 else -1 := by
      have n1 : ((ab k).1 : Int) * (bst ab k).2.2 ≤ 2 ^ 61 ∧ -(2 ^ 61) ≤ ((ab k).1 : Int) * (bst ab k).2.2 := by
        have h1 : (((ab k).1 : Int) * (bst ab k).2.2).natAbs ≤ 2 ^ 30 * 2 ^ 30 := by
          rw [Int.natAbs_mul]
          exact Nat.mul_le_mul (by omega) (by omega)
        omega
      have n2 : (bst ab k).2.1 * ((ab k).2 : Int) ≤ 2 ^ 61 ∧ -(2 ^ 61) ≤ (bst ab k).2.1 * ((ab k).2 : Int) := by
        have h1 : ((bst ab k).2.1 * ((ab k).2 : Int)).natAbs ≤ 2 ^ 30 * 2 ^ 30 := by
          rw [Int.natAbs_mul]
          exact Nat.mul_le_mul (by omega) (by omega)
        omega
      exact x_cmp (b := 0) (by omega) (by omega)
    rw [hcmp] at hpre
    have hst : bst ab (k + 1) = bstep ab k (bst ab k) := rfl
    refine Or.inl ?_
    by_cases c1 : (bst ab k).2.1 * ((ab k).2 : Int) < ((ab k).1 : Int) * (bst ab k).2.2
    · rw [if_pos (show 0 < ((ab k).1 : Int) * (bst ab k).2.2 - (bst ab k).2.1 * ((ab k).2 : Int) by omega), if_pos (by decide)] at hpre
      have hs1 : bst ab (k + 1) = (k, ((ab k).1 : Int), ((ab k).2 : Int)) := by rw [hst, bstep, if_pos (Or.inl c1)]
      refine ⟨_, hpre _ rfl, ⟨k + 1, by omega, rfl, ?_, ?_, ?_⟩, meas⟩
      · rw [hs1]
      · rw [hs1]
      · rw [hs1]
    · rw [if_neg (show ¬ 0 < ((ab k).1 : Int) * (bst ab k).2.2 - (bst ab k).2.1 * ((ab k).2 : Int) by omega)] at hpre
      by_cases c2 : ((ab k).1 : Int) * (bst ab k).2.2 = (bst ab k).2.1 * ((ab k).2 : Int)
      · rw [if_pos (show ((ab k).1 : Int) * (bst ab k).2.2 - (bst ab k).2.1 * ((ab k).2 : Int) = 0 by omega), if_neg (by decide), if_pos rfl] at hpre
        by_cases c3 : pcn k < pcn (bst ab k).1
        · rw [if_neg (by rw [n_le (by omega) (by omega)]; omega)] at hpre
          have hs1 : bst ab (k + 1) = (k, ((ab k).1 : Int), ((ab k).2 : Int)) := by rw [hst, bstep, if_pos (Or.inr ⟨c2, c3⟩)]
          refine ⟨_, hpre _ rfl, ⟨k + 1, by omega, rfl, ?_, ?_, ?_⟩, meas⟩
          · rw [hs1]
          · rw [hs1]
          · rw [hs1]
        · rw [if_pos ((n_le (by omega) (by omega)).mpr (by omega))] at hpre
          have hs1 : bst ab (k + 1) = bst ab k := by rw [hst, bstep, if_neg (fun z => z.elim c1 (fun w => c3 w.2))]
          refine ⟨_, hpre _ rfl, ⟨k + 1, by omega, rfl, ?_, ?_, ?_⟩, meas⟩
          · rw [hs1]
          · rw [hs1]
          · rw [hs1]
      · rw [if_neg (show ¬ ((ab k).1 : Int) * (bst ab k).2.2 - (bst ab k).2.1 * ((ab k).2 : Int) = 0 by omega), if_neg (by decide), if_neg (by decide)] at hpre
        have hs1 : bst ab (k + 1) = bst ab k := by rw [hst, bstep, if_neg (fun z => z.elim c1 (fun w => c2 w.1))]
        refine ⟨_, hpre _ rfl, ⟨k + 1, by omega, rfl, ?_, ?_, ?_⟩, meas⟩
        · rw [hs1]
        · rw [hs1]
        · rw [hs1]
theorem x_best (hX : RoomX W H κ co ro kd) (hd : Dim W H) (hk : Kok W H κ) (hh : cntK κ 3 4 (W * H) ≤ 5) (h4 : cntK κ 6 7 (W * H) ≤ 4) (hp : p < 2 * (W + H)) (hq : q < 2 * (W + H)) (hab : ∀ s, s < 16 → ShOk W H (ko κ s 4) (aqP q) p (ab s).1 (ab s).2) (x3 coT roT : Int32) (kdT : Nat → Int32) (bq : Int32) (bw : Int64) (bp bn br : Nat → Int32) (bs : Nat → Int64) (bM : Nat → Nat → Int64) : ∃ t, lpf (fun s : Int32 × Int64 × Int64 × Int32 × Int32 × Int32 × (Nat → Int32) × Int32 × Int64 × (Nat → Int32) × (Nat → Int32) × (Nat → Int32) × (Nat → Int64) × (Nat → Nat → Int64) => f_X5_best_48 co ro kd (nI p) (nI q) x3 ((1 : Int32) <<< (nI (cntK κ 6 7 (W * H)) &&& 31)) s.1 s.2.1 s.2.2.1 s.2.2.2.1 s.2.2.2.2.1 s.2.2.2.2.2.1 s.2.2.2.2.2.2.1 s.2.2.2.2.2.2.2.1 s.2.2.2.2.2.2.2.2.1 s.2.2.2.2.2.2.2.2.2.1 s.2.2.2.2.2.2.2.2.2.2.1 s.2.2.2.2.2.2.2.2.2.2.2.1 s.2.2.2.2.2.2.2.2.2.2.2.2.1 s.2.2.2.2.2.2.2.2.2.2.2.2.2) 1000 ((0 : Int32), (-1 : Int64), (1 : Int64), (0 : Int32), coT, roT, kdT, bq, bw, bp, bn, br, bs, bM) = some t ∧ t.1 = nI (bst ab (2 ^ cntK κ 6 7 (W * H))).1 ∧ ∃ A w : Int, t.2.1 = lZ A ∧ t.2.2.1 = lZ w ∧ -1048576 ≤ A ∧ A ≤ 1048576 ∧ 0 < w ∧ w ≤ 1048576 ∧ A * (bst ab (2 ^ cntK κ 6 7 (W * H))).2.2 = w * (bst ab (2 ^ cntK κ 6 7 (W * H))).2.1 := by
  obtain ⟨sh1, sh2⟩ := sh_fin (show cntK κ 6 7 (W * H) < 5 by omega)
  have hb : ∀ s, s < 16 → 0 < (ab s).2 ∧ (ab s).2 ≤ 1048576 ∧ (ab s).1 ≤ (ab s).2 := fun s hs => ⟨(hab s hs).1, (hab s hs).2.1, (hab s hs).2.2.1⟩
  refine lpf_run (σ := Int32 × Int64 × Int64 × Int32 × Int32 × Int32 × (Nat → Int32) × Int32 × Int64 × (Nat → Int32) × (Nat → Int32) × (Nat → Int32) × (Nat → Int64) × (Nat → Nat → Int64)) (τ := Int32 × Int64 × Int64 × Int32 × Int32 × (Nat → Int32) × Int32 × Int64 × (Nat → Int32) × (Nat → Int32) × (Nat → Int32) × (Nat → Int64) × (Nat → Nat → Int64)) (fun s => ∃ k : Nat, k ≤ 2 ^ cntK κ 6 7 (W * H) ∧ s.2.2.2.1 = nI k ∧ s.1 = nI (bst ab k).1 ∧ ∃ A w : Int, s.2.1 = lZ A ∧ s.2.2.1 = lZ w ∧ -1048576 ≤ A ∧ A ≤ 1048576 ∧ 0 < w ∧ w ≤ 1048576 ∧ A * (bst ab k).2.2 = w * (bst ab k).2.1) _ (fun s => 999 - s.2.2.2.1.toNatClampNeg) ?_ 1000 _ ⟨0, Nat.zero_le _, rfl, rfl, -1, 1, rfl, rfl, by decide, by decide, by decide, by decide, rfl⟩ (by dsimp only; omega)
  rintro ⟨y5, y6, y8, y10, coT, roT, kdT, bq, bw, bp, bn, br, bs, bM⟩ ⟨k, hkn, e1, e2, A, w, e3, e4, a1, a2, a3, a4, hA⟩
  dsimp only at e1 e2 e3 e4 ⊢
  subst e1 e2 e3 e4
  by_cases he : 2 ^ cntK κ 6 7 (W * H) ≤ k
  · have ek : k = 2 ^ cntK κ 6 7 (W * H) := by omega
    refine Or.inr ⟨(nI (bst ab k).1, lZ A, lZ w, coT, roT, kdT, bq, bw, bp, bn, br, bs, bM), ?_, ?_, A, w, rfl, rfl, a1, a2, a3, a4, ?_⟩
    · rw [f_X5_best_48, sh1, if_pos ((n_le (by omega) (by omega)).mpr he)]
    · rw [ek]
    · rw [← ek]; exact hA
  · have hk16 : k < 16 := by omega
    have meas : 999 - (nI (k + 1)).toNatClampNeg < 999 - (nI k).toNatClampNeg := by
      rw [nI_c _ (by omega), nI_c _ (by omega)]
      omega
    obtain ⟨g, g1, g2⟩ := x_open hX hd hk hk16 coT roT kdT
    obtain ⟨r, P, wn, r1, r2, r3, r4, r5, r6, r7⟩ := x_sh g2 hd (ko_kok hk k 4) (by rw [ko_half hk k 4 _ (Nat.le_refl _)]; exact hh) hp hq (hab k hk16) bq bw bp bn br bs bM
    have hbk := bst_b hb k (by omega)
    have hbs := hb k hk16
    have hpk := pc_fin hk16
    have hpt := pc_fin hbk.1
    have r4' : (P : Int) * ((ab k).2 : Int) = (wn : Int) * ((ab k).1 : Int) := by rw [← Int.natCast_mul, ← Int.natCast_mul, r4]
    obtain ⟨f1, f2⟩ := frac_cmp r4' hA (by omega) hbk.2.2.2.1 (by omega) a3
    have hcf := x_cf (A := (P : Int)) (w := (wn : Int)) (B := A) (v := w) (by omega) (by omega) (by omega) (by omega)
    have hpre : ∀ o z, f_X5_compareFractions (lZ (P : Int)) (lZ (wn : Int)) (lZ A) (lZ w) = some z → (if 0 < z then some (Sum.inl (nI k, lZ (P : Int), lZ (wn : Int), (nI k + (1 : Int32)), co, ro, g, r.1, r.2.1, r.2.2.1, r.2.2.2.1, r.2.2.2.2.1, r.2.2.2.2.2.1, r.2.2.2.2.2.2)) else (if z = 0 then (if nI (pcn (bst ab k).1) ≤ nI (pcn k) then some (Sum.inl (nI (bst ab k).1, lZ A, lZ w, (nI k + (1 : Int32)), co, ro, g, r.1, r.2.1, r.2.2.1, r.2.2.2.1, r.2.2.2.2.1, r.2.2.2.2.2.1, r.2.2.2.2.2.2)) else some (Sum.inl (nI k, lZ (P : Int), lZ (wn : Int), (nI k + (1 : Int32)), co, ro, g, r.1, r.2.1, r.2.2.1, r.2.2.2.1, r.2.2.2.2.1, r.2.2.2.2.2.1, r.2.2.2.2.2.2))) else some (Sum.inl (nI (bst ab k).1, lZ A, lZ w, (nI k + (1 : Int32)), co, ro, g, r.1, r.2.1, r.2.2.1, r.2.2.2.1, r.2.2.2.2.1, r.2.2.2.2.2.1, r.2.2.2.2.2.2)))) = o → f_X5_best_48 co ro kd (nI p) (nI q) x3 ((1 : Int32) <<< (nI (cntK κ 6 7 (W * H)) &&& 31)) (nI (bst ab k).1) (lZ A) (lZ w) (nI k) coT roT kdT bq bw bp bn br bs bM = o := by
      intro o z hz ho
      rw [← ho, f_X5_best_48, sh1, if_neg (by rw [n_le (by omega) (by omega)]; exact he), g1, bind_s, r1, bind_s, r2, bind_s, r3, hz, bind_s, bind_s, hpk.1, hpt.1, bind_s, bind_s]
    have hpre := fun o => hpre o _ hcf
    rw [nI_1] at hpre
    have hst : bst ab (k + 1) = bstep ab k (bst ab k) := rfl
    refine Or.inl ?_
    by_cases c1 : (bst ab k).2.1 * ((ab k).2 : Int) < ((ab k).1 : Int) * (bst ab k).2.2
    · rw [if_pos (f1.mpr c1), if_pos (by decide)] at hpre
      have hs1 : bst ab (k + 1) = (k, ((ab k).1 : Int), ((ab k).2 : Int)) := by rw [hst, bstep, if_pos (Or.inl c1)]
      refine ⟨_, hpre _ rfl, ⟨k + 1, by omega, rfl, ?_, (P : Int), (wn : Int), rfl, rfl, by omega, by omega, by omega, by omega, ?_⟩, meas⟩
      · rw [hs1]
      · rw [hs1]; exact r4'
    · rw [if_neg (fun z => c1 (f1.mp z))] at hpre
      by_cases c2 : ((ab k).1 : Int) * (bst ab k).2.2 = (bst ab k).2.1 * ((ab k).2 : Int)
      · rw [if_pos (f2.mpr c2), if_neg (by decide), if_pos rfl] at hpre
        by_cases c3 : pcn k < pcn (bst ab k).1
        · rw [if_neg (by rw [n_le (by omega) (by omega)]; omega)] at hpre
          have hs1 : bst ab (k + 1) = (k, ((ab k).1 : Int), ((ab k).2 : Int)) := by rw [hst, bstep, if_pos (Or.inr ⟨c2, c3⟩)]
          refine ⟨_, hpre _ rfl, ⟨k + 1, by omega, rfl, ?_, (P : Int), (wn : Int), rfl, rfl, by omega, by omega, by omega, by omega, ?_⟩, meas⟩
          · rw [hs1]
          · rw [hs1]; exact r4'
        · rw [if_pos ((n_le (by omega) (by omega)).mpr (by omega))] at hpre
          have hs1 : bst ab (k + 1) = bst ab k := by rw [hst, bstep, if_neg (fun z => z.elim c1 (fun w => c3 w.2))]
          refine ⟨_, hpre _ rfl, ⟨k + 1, by omega, rfl, ?_, A, w, rfl, rfl, a1, a2, a3, a4, ?_⟩, meas⟩
          · rw [hs1]
          · rw [hs1]; exact hA
      · rw [if_neg (fun z => c2 (f2.mp z)), if_neg (by decide), if_neg (by decide)] at hpre
        have hs1 : bst ab (k + 1) = bst ab k := by rw [hst, bstep, if_neg (fun z => z.elim c1 (fun w => c2 w.1))]
        refine ⟨_, hpre _ rfl, ⟨k + 1, by omega, rfl, ?_, A, w, rfl, rfl, a1, a2, a3, a4, ?_⟩, meas⟩
        · rw [hs1]
        · rw [hs1]; exact hA
end BE
theorem op_best : Op_best InvP := by
  intro coR roR kdR tn tl pz pg mn mp mc ml mt coT roT kdT bq bw bp bn br bs bM mm mu mv ma md mk my mq mw x1 x2 x3 hI
  have hI0 := hI
  obtain ⟨R, z, h, hR, hX, hM, -⟩ := hI
  have hd := hR.1
  have hk := hR.2.1
  have hh := hR.2.2.1
  have h40 := hR.2.2.2
  rw [f_X5_best, f_X6_best, f_X5_hasPorts]
  rcases port_cases hX hM hd x1 with ⟨h1, h2⟩ | ⟨p, hp, rfl, h1, h2⟩
  · simp only [h1, h2, bind_s, ↓reduceIte]
    exact ⟨_, _, rfl, rfl, rfl, hI0⟩
  rcases port_cases hX hM hd x2 with ⟨h3, h4⟩ | ⟨q, hq, rfl, h3, h4⟩
  · simp only [h1, h2, h3, h4, bind_s, ↓reduceIte, i10]
    exact ⟨_, _, rfl, rfl, rfl, hI0⟩
  rcases part_cases x3 3 (n' := 3) (h' := 2) rfl rfl (by decide) (by decide) with ⟨h5, h6⟩ | ⟨j, hj, rfl, h5, h6⟩
  · simp only [h1, h2, h3, h4, h5, h6, bind_s, ↓reduceIte, i10]
    exact ⟨_, _, rfl, rfl, rfl, hI0⟩
  have hex : ∀ s, ∃ ab : Nat × Nat, ShOk R.1 R.2.1 (ko R.2.2 s 4) (aqP q) p ab.1 ab.2 := fun s => sh_ex hd (ko_kok hk s 4) (by rw [ko_half hk s 4 _ (Nat.le_refl _)]; exact hh) hp hq
  obtain ⟨ab, hab⟩ : ∃ ab : Nat → Nat × Nat, ∀ s, ShOk R.1 R.2.1 (ko R.2.2 s 4) (aqP q) p (ab s).1 (ab s).2 := ⟨fun s => Classical.choose (hex s), fun s => Classical.choose_spec (hex s)⟩
  obtain ⟨t, ht, t1, t2, t3⟩ := m_best hM hd hk hh h40 hp hq (fun s _ => hab s) (nI j) mm mu mv ma md mk my mq mw
  obtain ⟨u, hu, u1, A, w, u2, u3, a1, a2, a3, a4, hA⟩ := x_best hX hd hk hh h40 hp hq (fun s _ => hab s) (nI j) coT roT kdT bq bw bp bn br bs bM
  have hcnt : f_X2_countKinds coR roR kdR 6 7 = some (nI (cntK R.2.2 6 7 (R.1 * R.2.1))) := x_count hX hd hk (a := 6) (b := 7) (by decide) (by decide)
  have n10 : ¬ (1 : Int32) = 0 := by decide
  rw [h1, bind_s, if_neg n10, h3, bind_s, if_neg n10, bind_s, if_neg n10, h5, bind_s, if_neg n10, hcnt, bind_s, hu, bind_s]
  rw [h2, bind_s, if_neg n10, h4, bind_s, if_neg n10, h6, bind_s, if_neg n10, m_doors hM hd hk, bind_s, ht, bind_s]
  obtain ⟨sh1, sh2⟩ := sh_fin (show cntK R.2.2 6 7 (R.1 * R.2.1) < 5 by omega)
  have hp0 : 0 < 2 ^ cntK R.2.2 6 7 (R.1 * R.2.1) := Nat.two_pow_pos _
  obtain ⟨s, hs1, hs2⟩ := bst_pos (ab := ab) (fun s _ => (hab s).1) (2 ^ cntK R.2.2 6 7 (R.1 * R.2.1) - 1) (by omega)
  rw [show 2 ^ cntK R.2.2 6 7 (R.1 * R.2.1) - 1 + 1 = 2 ^ cntK R.2.2 6 7 (R.1 * R.2.1) by omega] at hs2
  rw [hs2] at t1 t2 t3 u1 hA
  dsimp only at t1 t2 t3 u1 hA
  obtain ⟨s1, s2, s3, s4, -⟩ := hab s
  by_cases e0 : nI j = 0
  · rw [if_pos e0, if_pos e0]
    exact ⟨_, _, rfl, rfl, by rw [t1, u1], hI0⟩
  · rw [if_neg e0, if_neg e0]
    have hr : (A : Rat) * ((ab s).2 : Rat) = (w : Rat) * ((ab s).1 : Rat) := by
      have := congrArg (fun z : Int => (z : Rat)) hA
      rw [Rat.intCast_mul, Rat.intCast_mul] at this
      exact this
    obtain ⟨A', w', q1, q2, q3, q4, q5⟩ := to_nat hr s1 a3 s3
    obtain ⟨z1, z2⟩ := low_eq q3 s4 s1 q5
    rw [u2, u3, q1, q2, x_lowest q5 (by omega) (by omega), bind_s, z1, z2, t2, t3]
    rcases (show j = 0 ∨ j = 1 ∨ j = 2 by omega) with rfl | rfl | rfl
    · exact absurd rfl e0
    · rw [if_pos (by decide), if_pos (by decide)]
      exact ⟨_, _, rfl, rfl, rfl, hI0⟩
    · rw [if_neg (by decide), if_neg (by decide)]
      exact ⟨_, _, rfl, rfl, rfl, hI0⟩
