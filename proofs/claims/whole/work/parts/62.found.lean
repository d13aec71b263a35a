/-! ===== found ===== -/
theorem fr_eq {P w a b A B : Nat} (h : P * b = w * a) (hb : 0 < b) (hw : 0 < w) : P * B = A * w ↔ a * B = A * b := by
  constructor
  · intro q
    refine Nat.eq_of_mul_eq_mul_right hw ?_
    calc a * B * w = (w * a) * B := by ac_rfl
      _ = (P * b) * B := by rw [h]
      _ = (P * B) * b := by ac_rfl
      _ = (A * w) * b := by rw [q]
      _ = A * b * w := by ac_rfl
  · intro q
    refine Nat.eq_of_mul_eq_mul_right hb ?_
    calc P * B * b = (P * b) * B := by ac_rfl
      _ = (w * a) * B := by rw [h]
      _ = w * (a * B) := by ac_rfl
      _ = w * (A * b) := by rw [q]
      _ = A * w * b := by ac_rfl
theorem n_64 {a : Nat} (h : a ≤ 1000) : Int32.toInt64 (nI a) = lZ (a : Int) := by
  show Int32.toInt64 (Int32.ofNat a) = Int64.ofInt (a : Int)
  rw [Int32.toInt64_ofNat' (by rw [Int32.toInt_maxValue]; omega), Int64.ofInt_eq_ofNat]
def fo (u : Nat) : Int32 := if u = 0 then -4 else nI (u - 1)
theorem fo_z {u : Nat} (h : u < 90) : fo u = -4 ↔ u = 0 := by
  rw [fo]
  by_cases e : u = 0
  · rw [if_pos e]
    exact ⟨fun _ => e, fun _ => rfl⟩
  · rw [if_neg e, (m4_fin (q := 0) (show u - 1 < 90 by omega) (by decide)).1]
    exact ⟨fun q => q.elim, fun q => absurd q e⟩
def fd (κ : Nat → Nat) (ab : Nat → Nat × Nat) (A B : Nat) : Nat → Nat × Nat
  | 0 => (0, 0)
  | i + 1 => if κ (i / 2) = 0 ∧ (ab i).1 * B = A * (ab i).2 then ((fd κ ab A B i).1 + 1, if (fd κ ab A B i).2 = 0 then i + 1 else (fd κ ab A B i).2) else fd κ ab A B i
theorem fd_s (κ : Nat → Nat) (ab : Nat → Nat × Nat) (A B i : Nat) : fd κ ab A B (i + 1) = if κ (i / 2) = 0 ∧ (ab i).1 * B = A * (ab i).2 then ((fd κ ab A B i).1 + 1, if (fd κ ab A B i).2 = 0 then i + 1 else (fd κ ab A B i).2) else fd κ ab A B i := rfl
theorem fd_b (κ : Nat → Nat) (ab : Nat → Nat × Nat) (A B : Nat) : ∀ i, (fd κ ab A B i).1 ≤ i ∧ (fd κ ab A B i).2 ≤ i := by
  intro i
  induction i with
  | zero => exact ⟨Nat.le_refl _, Nat.le_refl _⟩
  | succ i ih =>
    rw [fd_s]
    split
    · dsimp only
      refine ⟨by omega, ?_⟩
      split <;> omega
    · omega
section FO
variable {W H : Nat} {κ : Nat → Nat} {co ro : Int32} {kd f : Nat → Int32} {p q : Nat} {ab : Nat → Nat × Nat} {A B : Nat}
theorem up_kok (hk : Kok W H κ) (i : Nat) : Kok W H (updN κ (i / 2) (1 + i % 2)) := Kok_upd hk (by omega)
theorem up_half {i : Nat} (hi : i / 2 < W * H) (h0 : κ (i / 2) = 0) : cntK (updN κ (i / 2) (1 + i % 2)) 3 4 (W * H) = cntK κ 3 4 (W * H) := by
  have := cntK_upd κ 3 4 (i / 2) (1 + i % 2) (W * H) hi
  rw [h0, if_neg (by omega), if_neg (by omega)] at this
  exact this
theorem x_found (hX : RoomX W H κ co ro kd) (hd : Dim W H) (hk : Kok W H κ) (hh : cntK κ 3 4 (W * H) ≤ 5) (hp : p < 2 * (W + H)) (hq : q < 2 * (W + H)) (hA : A ≤ 1000) (hB : B ≤ 1000) (hab : ∀ i, i / 2 < W * H → κ (i / 2) = 0 → ShOk W H (updN κ (i / 2) (1 + i % 2)) (aqP q) p (ab i).1 (ab i).2) (x5 coT roT : Int32) (kdT : Nat → Int32) (bq : Int32) (bw : Int64) (bp bn br : Nat → Int32) (bs : Nat → Int64) (bM : Nat → Nat → Int64) : ∃ t, lpf (fun s : Int32 × Int32 × Int32 × Int32 × Int32 × (Nat → Int32) × Int32 × Int64 × (Nat → Int32) × (Nat → Int32) × (Nat → Int32) × (Nat → Int64) × (Nat → Nat → Int64) => f_X5_found_55 co ro kd (nI p) (nI q) (nI A) (nI B) x5 s.1 s.2.1 s.2.2.1 s.2.2.2.1 s.2.2.2.2.1 s.2.2.2.2.2.1 s.2.2.2.2.2.2.1 s.2.2.2.2.2.2.2.1 s.2.2.2.2.2.2.2.2.1 s.2.2.2.2.2.2.2.2.2.1 s.2.2.2.2.2.2.2.2.2.2.1 s.2.2.2.2.2.2.2.2.2.2.2.1 s.2.2.2.2.2.2.2.2.2.2.2.2) 1000 ((0 : Int32), (-4 : Int32), (0 : Int32), coT, roT, kdT, bq, bw, bp, bn, br, bs, bM) = some t ∧ t.1 = nI (fd κ ab A B (2 * (W * H))).1 ∧ t.2.1 = fo (fd κ ab A B (2 * (W * H))).2 := by
  have hN := hd.le
  refine lpf_run (σ := Int32 × Int32 × Int32 × Int32 × Int32 × (Nat → Int32) × Int32 × Int64 × (Nat → Int32) × (Nat → Int32) × (Nat → Int32) × (Nat → Int64) × (Nat → Nat → Int64)) (τ := Int32 × Int32 × Int32 × Int32 × (Nat → Int32) × Int32 × Int64 × (Nat → Int32) × (Nat → Int32) × (Nat → Int32) × (Nat → Int64) × (Nat → Nat → Int64)) (fun s => ∃ i : Nat, i ≤ 2 * (W * H) ∧ s.2.2.1 = nI i ∧ s.1 = nI (fd κ ab A B i).1 ∧ s.2.1 = fo (fd κ ab A B i).2) _ (fun s => 999 - s.2.2.1.toNatClampNeg) ?_ 1000 _ ⟨0, Nat.zero_le _, rfl, rfl, rfl⟩ (by dsimp only; omega)
  rintro ⟨y6, y7, y8, coT, roT, kdT, bq, bw, bp, bn, br, bs, bM⟩ ⟨i, hi, e1, e2, e3⟩
  dsimp only at e1 e2 e3 ⊢
  subst e1 e2 e3
  by_cases he : 2 * (W * H) ≤ i
  · have ek : i = 2 * (W * H) := by omega
    refine Or.inr ⟨(nI (fd κ ab A B i).1, fo (fd κ ab A B i).2, coT, roT, kdT, bq, bw, bp, bn, br, bs, bM), ?_, ?_, ?_⟩
    · rw [f_X5_found_55, x_cells hX, bind_s, show (2 : Int32) = nI 2 from rfl, pk_mul, if_pos ((n_le (by omega) (by omega)).mpr he)]
    · rw [ek]
    · rw [ek]
  · have hc : i / 2 < W * H := by omega
    have hfb := fd_b κ ab A B i
    have meas : 999 - (nI (i + 1)).toNatClampNeg < 999 - (nI i).toNatClampNeg := by
      rw [nI_c _ (by omega), nI_c _ (by omega)]
      omega
    have h7 := hk _ hc
    have hn : ¬ nI (2 * (W * H)) ≤ nI i := by rw [n_le (by omega) (by omega)]; exact he
    refine Or.inl ?_
    by_cases h0 : κ (i / 2) = 0
    · obtain ⟨g, g1, g2⟩ := x_try hX hd hc (1 + i % 2) coT roT kdT
      obtain ⟨r, P, w, r1, r2, r3, r4, r5, r6, r7⟩ := x_sh g2 hd (up_kok hk i) (by rw [up_half hc h0]; exact hh) hp hq (hab i hc h0) bq bw bp bn br bs bM
      obtain ⟨z, z1, z2⟩ := x_cf0 (A := P) (w := w) (B := A) (v := B) (by omega) (by omega) (by omega) (by omega)
      rw [fr_eq r4 (hab i hc h0).1 r6] at z2
      have hpre : f_X5_found_55 co ro kd (nI p) (nI q) (nI A) (nI B) x5 (nI (fd κ ab A B i).1) (fo (fd κ ab A B i).2) (nI i) coT roT kdT bq bw bp bn br bs bM = if z = 0 then (if fo (fd κ ab A B i).2 = (-4 : Int32) then some (Sum.inl ((nI (fd κ ab A B i).1 + (1 : Int32)), nI i, (nI i + (1 : Int32)), co, ro, g, r.1, r.2.1, r.2.2.1, r.2.2.2.1, r.2.2.2.2.1, r.2.2.2.2.2.1, r.2.2.2.2.2.2)) else some (Sum.inl ((nI (fd κ ab A B i).1 + (1 : Int32)), fo (fd κ ab A B i).2, (nI i + (1 : Int32)), co, ro, g, r.1, r.2.1, r.2.2.1, r.2.2.2.1, r.2.2.2.2.1, r.2.2.2.2.2.1, r.2.2.2.2.2.2))) else some (Sum.inl (nI (fd κ ab A B i).1, fo (fd κ ab A B i).2, (nI i + (1 : Int32)), co, ro, g, r.1, r.2.1, r.2.2.1, r.2.2.2.1, r.2.2.2.2.1, r.2.2.2.2.2.1, r.2.2.2.2.2.2)) := by
        rw [f_X5_found_55, x_cells hX, bind_s, show (2 : Int32) = nI 2 from rfl, pk_mul, if_neg hn, pk_rem (by omega) (by omega) (by omega), pk_div (by omega) (by omega) (by omega), x_kindIn hX hd hc, bind_s, if_pos ((n_z (by omega)).mpr h0), show (1 : Int32) + nI (i % 2) = nI (1 + i % 2) from nI_add 1 (i % 2), g1, bind_s, r1, bind_s, r2, bind_s, r3, n_64 hA, n_64 hB, z1, bind_s]
      rw [nI_1, nI_1] at hpre
      by_cases c1 : (ab i).1 * B = A * (ab i).2
      · rw [if_pos (z2.mpr c1)] at hpre
        have hf : fd κ ab A B (i + 1) = ((fd κ ab A B i).1 + 1, if (fd κ ab A B i).2 = 0 then i + 1 else (fd κ ab A B i).2) := by rw [fd_s, if_pos ⟨h0, c1⟩]
        by_cases c2 : (fd κ ab A B i).2 = 0
        · rw [if_pos ((fo_z (by omega)).mpr c2)] at hpre
          rw [if_pos c2] at hf
          refine ⟨_, hpre, ⟨i + 1, by omega, rfl, ?_, ?_⟩, meas⟩
          · rw [hf]
          · rw [hf]; exact (show nI i = fo (i + 1) by rw [fo, if_neg (by omega), show i + 1 - 1 = i by omega])
        · rw [if_neg (fun z => c2 ((fo_z (by omega)).mp z))] at hpre
          rw [if_neg c2] at hf
          refine ⟨_, hpre, ⟨i + 1, by omega, rfl, ?_, ?_⟩, meas⟩
          · rw [hf]
          · rw [hf]
      · rw [if_neg (fun z => c1 (z2.mp z))] at hpre
        have hf : fd κ ab A B (i + 1) = fd κ ab A B i := by rw [fd_s, if_neg (fun z => c1 z.2)]
        refine ⟨_, hpre, ⟨i + 1, by omega, rfl, ?_, ?_⟩, meas⟩
        · rw [hf]
        · rw [hf]
    · have hf : fd κ ab A B (i + 1) = fd κ ab A B i := by rw [fd_s, if_neg (fun z => h0 z.1)]
      refine ⟨(nI (fd κ ab A B i).1, fo (fd κ ab A B i).2, nI (i + 1), coT, roT, kdT, bq, bw, bp, bn, br, bs, bM), ?_, ⟨i + 1, by omega, rfl, ?_, ?_⟩, meas⟩
      · rw [f_X5_found_55, x_cells hX, bind_s, show (2 : Int32) = nI 2 from rfl, pk_mul, if_neg hn, pk_div (by omega) (by omega) (by omega), x_kindIn hX hd hc, bind_s, if_neg (by rw [n_z (by omega)]; exact h0), nI_1]
      · rw [hf]
      · rw [hf]
/-- one kind tried by the reference -/
theorem m_found1 (hM : RoomM W H κ f) (hd : Dim W H) (hk : Kok W H κ) (hh : cntK κ 3 4 (W * H) ≤ 5) (hp : p < 2 * (W + H)) (hq : q < 2 * (W + H)) (hA : A ≤ 1000) (hB : B ≤ 1000) (hab : ∀ i, i / 2 < W * H → κ (i / 2) = 0 → ShOk W H (updN κ (i / 2) (1 + i % 2)) (aqP q) p (ab i).1 (ab i).2) (x5 mm : Int32) (mu mv : Int64) (ma md mk my mq : Nat → Int32) (mw : Nat → Int64) {c y : Nat} (hc : c < W * H) (h0 : κ c = 0) (hy : y < 2) : ∃ t : Int32 × Int32 × Int32 × Int64 × Int64 × (Nat → Int32) × (Nat → Int32) × (Nat → Int32) × (Nat → Int32) × (Nat → Int32) × (Nat → Int64), f_X6_found_76 f (nI p) (nI q) (nI A) (nI B) x5 (nI c) (nI (fd κ ab A B (2 * c + y)).1) (fo (fd κ ab A B (2 * c + y)).2) (nI (1 + y)) mm mu mv ma md mk my mq mw = some (Sum.inl (nI (fd κ ab A B (2 * c + y + 1)).1, fo (fd κ ab A B (2 * c + y + 1)).2, nI (1 + (y + 1)), t.2.2)) := by
  have hN := hd.le
  have ei : (2 * c + y) / 2 = c := by omega
  have em : (2 * c + y) % 2 = y := by omega
  have hfb := fd_b κ ab A B (2 * c + y)
  have hs := hab (2 * c + y) (by omega) (by rw [ei]; exact h0)
  have hhf := up_half (κ := κ) (i := 2 * c + y) (W := W) (H := H) (by omega) (by rw [ei]; exact h0)
  rw [ei, em] at hs hhf
  obtain ⟨g, g1, g2⟩ := m_cpy hM hd ma
  obtain ⟨r, r1, r2, r3⟩ := m_sh (m_upd (c := c) (k := 1 + y) g2) hd (Kok_upd hk (by omega)) (by rw [hhf]; exact hh) hp hq hs mm mu mv md mk my mq mw
  have hb := hs.2.1
  have ha := hs.2.2.1
  have m1 := mul_bd (x := ((ab (2 * c + y)).1 : Int)) (y := (B : Int)) (by omega) (by omega)
  have m2 := mul_bd (x := ((ab (2 * c + y)).2 : Int)) (y := (A : Int)) (by omega) (by omega)
  have hz : lg_cmp (lZ ((ab (2 * c + y)).1 : Int) * lZ (B : Int)) (lZ ((ab (2 * c + y)).2 : Int) * lZ (A : Int)) = 0 ↔ (ab (2 * c + y)).1 * B = A * (ab (2 * c + y)).2 := by
    rw [lZ_mul, lZ_mul, x_cmp m1 m2, ← Int.natCast_mul, ← Int.natCast_mul, Nat.mul_comm A]
    generalize (ab (2 * c + y)).1 * B = u
    generalize (ab (2 * c + y)).2 * A = v
    by_cases h1 : (v : Int) < (u : Int)
    · rw [if_pos h1]
      exact ⟨fun q => absurd q (by decide), fun q => by omega⟩
    · rw [if_neg h1]
      by_cases h2 : (u : Int) = (v : Int)
      · rw [if_pos h2]
        exact ⟨fun _ => by omega, fun _ => rfl⟩
      · rw [if_neg h2]
        exact ⟨fun q => absurd q (by decide), fun q => by omega⟩
  have hat := m_at hM hd hc
  have hpre : f_X6_found_76 f (nI p) (nI q) (nI A) (nI B) x5 (nI c) (nI (fd κ ab A B (2 * c + y)).1) (fo (fd κ ab A B (2 * c + y)).2) (nI (1 + y)) mm mu mv ma md mk my mq mw = if (lg_cmp (lZ ((ab (2 * c + y)).1 : Int) * lZ (B : Int)) (lZ ((ab (2 * c + y)).2 : Int) * lZ (A : Int))) = 0 then (if fo (fd κ ab A B (2 * c + y)).2 = (-4 : Int32) then some (Sum.inl ((nI (fd κ ab A B (2 * c + y)).1 + (1 : Int32)), nI (2 * c + y), (nI (1 + y) + (1 : Int32)), r.1, r.2.1, r.2.2.1, (upd g (2 + c) (nI (1 + y))), r.2.2.2.1, r.2.2.2.2.1, r.2.2.2.2.2.1, r.2.2.2.2.2.2.1, r.2.2.2.2.2.2.2)) else some (Sum.inl ((nI (fd κ ab A B (2 * c + y)).1 + (1 : Int32)), fo (fd κ ab A B (2 * c + y)).2, (nI (1 + y) + (1 : Int32)), r.1, r.2.1, r.2.2.1, (upd g (2 + c) (nI (1 + y))), r.2.2.2.1, r.2.2.2.2.1, r.2.2.2.2.2.1, r.2.2.2.2.2.2.1, r.2.2.2.2.2.2.2))) else some (Sum.inl (nI (fd κ ab A B (2 * c + y)).1, fo (fd κ ab A B (2 * c + y)).2, (nI (1 + y) + (1 : Int32)), r.1, r.2.1, r.2.2.1, (upd g (2 + c) (nI (1 + y))), r.2.2.2.1, r.2.2.2.2.1, r.2.2.2.2.2.1, r.2.2.2.2.2.2.1, r.2.2.2.2.2.2.2)) := by
    have hix : ((2 : Int32) * nI c + nI (1 + y)) - (1 : Int32) = nI (2 * c + y) := by
      rw [show (2 : Int32) = nI 2 from rfl, pk_mul, nI_add, show (1 : Int32) = nI 1 from rfl, pk_sub (by omega), show 2 * c + (1 + y) - 1 = 2 * c + y by omega]
    rw [f_X6_found_76, if_neg (by rw [show (3 : Int32) = nI 3 from rfl, n_le (by omega) (by omega)]; omega), chk_t hat.1, hat.2, if_pos ((n_z (by omega)).mpr h0), g1, bind_s, m_ix (by omega), r1, bind_s, r2, r3, n_64 hA, n_64 hB, hix]
  rw [nI_1, nI_1, show 1 + y + 1 = 1 + (y + 1) by omega] at hpre
  by_cases c1 : (ab (2 * c + y)).1 * B = A * (ab (2 * c + y)).2
  · rw [if_pos (hz.mpr c1)] at hpre
    have hf : fd κ ab A B (2 * c + y + 1) = ((fd κ ab A B (2 * c + y)).1 + 1, if (fd κ ab A B (2 * c + y)).2 = 0 then 2 * c + y + 1 else (fd κ ab A B (2 * c + y)).2) := by rw [fd_s, if_pos ⟨by rw [ei]; exact h0, c1⟩]
    by_cases c2 : (fd κ ab A B (2 * c + y)).2 = 0
    · rw [if_pos ((fo_z (by omega)).mpr c2)] at hpre
      rw [if_pos c2] at hf
      rw [hpre, hf]
      exact ⟨(0, 0, r.1, r.2.1, r.2.2.1, (upd g (2 + c) (nI (1 + y))), r.2.2.2.1, r.2.2.2.2.1, r.2.2.2.2.2.1, r.2.2.2.2.2.2.1, r.2.2.2.2.2.2.2), by rw [show fo (2 * c + y + 1) = nI (2 * c + y) by rw [fo, if_neg (by omega), show 2 * c + y + 1 - 1 = 2 * c + y by omega]]⟩
    · rw [if_neg (fun z => c2 ((fo_z (by omega)).mp z))] at hpre
      rw [if_neg c2] at hf
      rw [hpre, hf]
      exact ⟨(0, 0, r.1, r.2.1, r.2.2.1, (upd g (2 + c) (nI (1 + y))), r.2.2.2.1, r.2.2.2.2.1, r.2.2.2.2.2.1, r.2.2.2.2.2.2.1, r.2.2.2.2.2.2.2), rfl⟩
  · rw [if_neg (fun z => c1 (hz.mp z))] at hpre
    have hf : fd κ ab A B (2 * c + y + 1) = fd κ ab A B (2 * c + y) := by rw [fd_s, if_neg (fun z => c1 z.2)]
    rw [hpre, hf]
    exact ⟨(0, 0, r.1, r.2.1, r.2.2.1, (upd g (2 + c) (nI (1 + y))), r.2.2.2.1, r.2.2.2.2.1, r.2.2.2.2.2.1, r.2.2.2.2.2.2.1, r.2.2.2.2.2.2.2), rfl⟩
theorem m_found (hM : RoomM W H κ f) (hd : Dim W H) (hk : Kok W H κ) (hh : cntK κ 3 4 (W * H) ≤ 5) (hp : p < 2 * (W + H)) (hq : q < 2 * (W + H)) (hA : A ≤ 1000) (hB : B ≤ 1000) (hab : ∀ i, i / 2 < W * H → κ (i / 2) = 0 → ShOk W H (updN κ (i / 2) (1 + i % 2)) (aqP q) p (ab i).1 (ab i).2) (x5 mm : Int32) (mu mv : Int64) (ma md mk my mq : Nat → Int32) (mw : Nat → Int64) : ∃ t, lpf (fun s : Int32 × Int32 × Int32 × Int32 × Int64 × Int64 × (Nat → Int32) × (Nat → Int32) × (Nat → Int32) × (Nat → Int32) × (Nat → Int32) × (Nat → Int64) => f_X6_found_61 f (nI p) (nI q) (nI A) (nI B) x5 s.1 s.2.1 s.2.2.1 s.2.2.2.1 s.2.2.2.2.1 s.2.2.2.2.2.1 s.2.2.2.2.2.2.1 s.2.2.2.2.2.2.2.1 s.2.2.2.2.2.2.2.2.1 s.2.2.2.2.2.2.2.2.2.1 s.2.2.2.2.2.2.2.2.2.2.1 s.2.2.2.2.2.2.2.2.2.2.2) 1000 ((0 : Int32), (-4 : Int32), (0 : Int32), mm, mu, mv, ma, md, mk, my, mq, mw) = some t ∧ t.1 = nI (fd κ ab A B (2 * (W * H))).1 ∧ t.2.1 = fo (fd κ ab A B (2 * (W * H))).2 := by
  have hN := hd.le
  refine lpf_run (σ := Int32 × Int32 × Int32 × Int32 × Int64 × Int64 × (Nat → Int32) × (Nat → Int32) × (Nat → Int32) × (Nat → Int32) × (Nat → Int32) × (Nat → Int64)) (τ := Int32 × Int32 × Int32 × Int64 × Int64 × (Nat → Int32) × (Nat → Int32) × (Nat → Int32) × (Nat → Int32) × (Nat → Int32) × (Nat → Int64)) (fun s => ∃ c : Nat, c ≤ W * H ∧ s.2.2.1 = nI c ∧ s.1 = nI (fd κ ab A B (2 * c)).1 ∧ s.2.1 = fo (fd κ ab A B (2 * c)).2) _ (fun s => 999 - s.2.2.1.toNatClampNeg) ?_ 1000 _ ⟨0, Nat.zero_le _, rfl, rfl, rfl⟩ (by dsimp only; omega)
  rintro ⟨y6, y7, y8, mm, mu, mv, ma, md, mk, my, mq, mw⟩ ⟨c, hc, e1, e2, e3⟩
  dsimp only at e1 e2 e3 ⊢
  subst e1 e2 e3
  by_cases he : W * H ≤ c
  · have ek : c = W * H := by omega
    refine Or.inr ⟨(nI (fd κ ab A B (2 * c)).1, fo (fd κ ab A B (2 * c)).2, mm, mu, mv, ma, md, mk, my, mq, mw), ?_, ?_, ?_⟩
    · rw [f_X6_found_61, m_cells hM, bind_s, if_pos ((n_le (by omega) (by omega)).mpr he)]
    · rw [ek]
    · rw [ek]
  · have hlt : c < W * H := by omega
    have h7 := hk c hlt
    have meas : 999 - (nI (c + 1)).toNatClampNeg < 999 - (nI c).toNatClampNeg := by
      rw [nI_c _ (by omega), nI_c _ (by omega)]
      omega
    have inner : ∃ t : Int32 × Int32 × Int32 × Int64 × Int64 × (Nat → Int32) × (Nat → Int32) × (Nat → Int32) × (Nat → Int32) × (Nat → Int32) × (Nat → Int64), lpf (fun s : Int32 × Int32 × Int32 × Int32 × Int64 × Int64 × (Nat → Int32) × (Nat → Int32) × (Nat → Int32) × (Nat → Int32) × (Nat → Int32) × (Nat → Int64) => f_X6_found_76 f (nI p) (nI q) (nI A) (nI B) x5 (nI c) s.1 s.2.1 s.2.2.1 s.2.2.2.1 s.2.2.2.2.1 s.2.2.2.2.2.1 s.2.2.2.2.2.2.1 s.2.2.2.2.2.2.2.1 s.2.2.2.2.2.2.2.2.1 s.2.2.2.2.2.2.2.2.2.1 s.2.2.2.2.2.2.2.2.2.2.1 s.2.2.2.2.2.2.2.2.2.2.2) 1000 (nI (fd κ ab A B (2 * c)).1, fo (fd κ ab A B (2 * c)).2, (1 : Int32), mm, mu, mv, ma, md, mk, my, mq, mw) = some (nI (fd κ ab A B (2 * c + 2)).1, fo (fd κ ab A B (2 * c + 2)).2, t.2.2) := by
      by_cases h0 : κ c = 0
      · obtain ⟨t1, g1⟩ := m_found1 (y := 0) hM hd hk hh hp hq hA hB hab x5 mm mu mv ma md mk my mq mw hlt h0 (by decide)
        obtain ⟨t2, g2⟩ := m_found1 (y := 1) hM hd hk hh hp hq hA hB hab x5 t1.2.2.1 t1.2.2.2.1 t1.2.2.2.2.1 t1.2.2.2.2.2.1 t1.2.2.2.2.2.2.1 t1.2.2.2.2.2.2.2.1 t1.2.2.2.2.2.2.2.2.1 t1.2.2.2.2.2.2.2.2.2.1 t1.2.2.2.2.2.2.2.2.2.2 hlt h0 (by decide)
        refine ⟨t2, ?_⟩
        rw [lpf_inl (n := 999) (s := (nI (fd κ ab A B (2 * c)).1, fo (fd κ ab A B (2 * c)).2, (1 : Int32), mm, mu, mv, ma, md, mk, my, mq, mw)) (s' := (nI (fd κ ab A B (2 * c + 1)).1, fo (fd κ ab A B (2 * c + 1)).2, nI (1 + (0 + 1)), t1.2.2)) g1, lpf_inl (n := 998) (s := (nI (fd κ ab A B (2 * c + 1)).1, fo (fd κ ab A B (2 * c + 1)).2, nI (1 + (0 + 1)), t1.2.2)) (s' := (nI (fd κ ab A B (2 * c + 2)).1, fo (fd κ ab A B (2 * c + 2)).2, nI (1 + (1 + 1)), t2.2.2)) g2]
        refine lpf_inr (n := 997) ?_
        dsimp only
        rw [f_X6_found_76, if_pos (by decide)]
      · have hf1 : fd κ ab A B (2 * c + 1) = fd κ ab A B (2 * c) := by rw [fd_s, if_neg (fun z => h0 (by have := z.1; rw [show 2 * c / 2 = c by omega] at this; exact this))]
        have hf2 : fd κ ab A B (2 * c + 2) = fd κ ab A B (2 * c) := by
          show fd κ ab A B (2 * c + 1 + 1) = _
          rw [fd_s, if_neg (fun z => h0 (by have := z.1; rw [show (2 * c + 1) / 2 = c by omega] at this; exact this)), hf1]
        have hat := m_at hM hd hlt
        refine ⟨(0, 0, mm, mu, mv, ma, md, mk, my, mq, mw), ?_⟩
        rw [hf2]
        refine lpf_inr (n := 999) ?_
        dsimp only
        rw [f_X6_found_76, if_neg (by decide), chk_t hat.1, hat.2, if_neg (by rw [n_z (by omega)]; exact h0)]
    obtain ⟨t, ht⟩ := inner
    refine Or.inl ⟨(nI (fd κ ab A B (2 * c + 2)).1, fo (fd κ ab A B (2 * c + 2)).2, nI (c + 1), t.2.2), ?_, ⟨c + 1, by omega, rfl, ?_, ?_⟩, meas⟩
    · rw [f_X6_found_61, m_cells hM, bind_s, if_neg (by rw [n_le (by omega) (by omega)]; exact he), ht, bind_s, nI_1]
    · rw [show 2 * (c + 1) = 2 * c + 2 by omega]
    · rw [show 2 * (c + 1) = 2 * c + 2 by omega]
end FO
theorem op_found : Op_found InvP := by
  intro coR roR kdR tn tl pz pg mn mp mc ml mt coT roT kdT bq bw bp bn br bs bM mm mu mv ma md mk my mq mw x1 x2 x3 x4 x5 hI
  have hI0 := hI
  obtain ⟨R, z, h, hR, hX, hM, -⟩ := hI
  have hd := hR.1
  have hk := hR.2.1
  have hh := hR.2.2.1
  rw [f_X5_found, f_X6_found, f_X5_hasPorts]
  rcases port_cases hX hM hd x1 with ⟨h1, h2⟩ | ⟨p, hp, rfl, h1, h2⟩
  · simp only [h1, h2, bind_s, ↓reduceIte]
    exact ⟨_, _, rfl, rfl, rfl, hI0⟩
  rcases port_cases hX hM hd x2 with ⟨h3, h4⟩ | ⟨q, hq, rfl, h3, h4⟩
  · simp only [h1, h2, h3, h4, bind_s, ↓reduceIte, i10]
    exact ⟨_, _, rfl, rfl, rfl, hI0⟩
  by_cases a1 : x3 < 0
  · simp only [h1, h2, h3, h4, bind_s, ↓reduceIte, i10, m_in, a1]
    exact ⟨_, _, rfl, rfl, rfl, hI0⟩
  by_cases a2 : (1000 : Int32) < x3
  · simp only [h1, h2, h3, h4, bind_s, ↓reduceIte, i10, m_in, a1, a2]
    exact ⟨_, _, rfl, rfl, rfl, hI0⟩
  by_cases a3 : x4 < 1
  · simp only [h1, h2, h3, h4, bind_s, ↓reduceIte, i10, m_in, a1, a2, a3]
    exact ⟨_, _, rfl, rfl, rfl, hI0⟩
  by_cases a4 : (1000 : Int32) < x4
  · simp only [h1, h2, h3, h4, bind_s, ↓reduceIte, i10, m_in, a1, a2, a3, a4]
    exact ⟨_, _, rfl, rfl, rfl, hI0⟩
  obtain ⟨A, hA, rfl⟩ : ∃ A : Nat, A ≤ 1000 ∧ x3 = nI A := nI_of2 (M := 1000) (n := 1000) (by decide) a1 (Int32.not_lt.mp a2)
  obtain ⟨B, hB, rfl⟩ : ∃ B : Nat, B ≤ 1000 ∧ x4 = nI B := nI_of2 (M := 1000) (n := 1000) (by decide) (fun z => a3 (Int32.lt_trans z (by decide))) (Int32.not_lt.mp a4)
  have n10 : ¬ (1 : Int32) = 0 := by decide
  rcases part_cases x5 2 (n' := 2) (h' := 1) rfl rfl (by decide) (by decide) with ⟨h5, h6⟩ | ⟨j, hj, rfl, h5, h6⟩
  · rw [h1, bind_s, if_neg n10, h3, bind_s, if_neg n10, bind_s, if_neg n10, if_neg a1, if_neg a2, if_neg a3, if_neg a4, h5, bind_s, if_pos rfl]
    rw [h2, bind_s, if_neg n10, h4, bind_s, if_neg n10, h6, bind_s, if_pos rfl, m_in, bind_s, if_neg a1, if_neg a2, if_neg n10, m_in, bind_s, if_neg a3, if_neg a4, if_neg n10]
    exact ⟨_, _, rfl, rfl, rfl, hI0⟩
  have hex : ∀ i, ∃ ab : Nat × Nat, i / 2 < R.1 * R.2.1 → R.2.2 (i / 2) = 0 → ShOk R.1 R.2.1 (updN R.2.2 (i / 2) (1 + i % 2)) (aqP q) p ab.1 ab.2 := by
    intro i
    by_cases g1 : i / 2 < R.1 * R.2.1
    · by_cases g2 : R.2.2 (i / 2) = 0
      · obtain ⟨ab, hab⟩ := sh_ex hd (up_kok hk i) (by rw [up_half g1 g2]; exact hh) hp hq
        exact ⟨ab, fun _ _ => hab⟩
      · exact ⟨(0, 0), fun _ z => absurd z g2⟩
    · exact ⟨(0, 0), fun z => absurd z g1⟩
  obtain ⟨ab, hab⟩ : ∃ ab : Nat → Nat × Nat, ∀ i, i / 2 < R.1 * R.2.1 → R.2.2 (i / 2) = 0 → ShOk R.1 R.2.1 (updN R.2.2 (i / 2) (1 + i % 2)) (aqP q) p (ab i).1 (ab i).2 := ⟨fun s => Classical.choose (hex s), fun s => Classical.choose_spec (hex s)⟩
  obtain ⟨t, ht, t1, t2⟩ := m_found hM hd hk hh hp hq hA hB hab (nI j) mm mu mv ma md mk my mq mw
  obtain ⟨u, hu, u1, u2⟩ := x_found hX hd hk hh hp hq hA hB hab (nI j) coT roT kdT bq bw bp bn br bs bM
  rw [h1, bind_s, if_neg n10, h3, bind_s, if_neg n10, bind_s, if_neg n10, if_neg a1, if_neg a2, if_neg a3, if_neg a4, h5, bind_s, if_neg n10, hu, bind_s]
  rw [h2, bind_s, if_neg n10, h4, bind_s, if_neg n10, h6, bind_s, if_neg n10, m_in, bind_s, if_neg a1, if_neg a2, if_neg n10, m_in, bind_s, if_neg a3, if_neg a4, if_neg n10, ht, bind_s]
  by_cases e0 : nI j = 0
  · rw [if_pos e0, if_pos e0]
    exact ⟨_, _, rfl, rfl, by rw [t1, u1], hI0⟩
  · rw [if_neg e0, if_neg e0]
    exact ⟨_, _, rfl, rfl, by rw [t2, u2], hI0⟩
