/-! ===== the reference's nodes ===== -/
abbrev Nds : Type := Nat × (Nat → Nat)
def NdB (W H : Nat) (κ : Nat → Nat) (Q : Nds) : Prop := (∀ i, i < Q.1 → Q.2 i < 4 * (W * H) ∧ nw (κ (Q.2 i / 4)) = 2) ∧ ∀ i j, i < j → j < Q.1 → Q.2 i ≠ Q.2 j
def NdI (W H : Nat) (κ : Nat → Nat) (E0 r : Nat) (Q : Nds) (mk : Nat → Int32) : Prop := NdB W H κ Q ∧ 0 < Q.1 ∧ Q.2 0 = E0 ∧ ∀ i y, y < 2 → 2 * i + y < r → i < Q.1 ∧ (en W H κ (Q.2 i) y < 100 → ∃ j, j < Q.1 ∧ Q.2 j = en W H κ (Q.2 i) y) ∧ mk (2 * i + y) = rc (en W H κ (Q.2 i) y)
section GA
variable {W H : Nat} {κ : Nat → Nat} {f : Nat → Int32}
theorem nd_le (hh : cntK κ 3 4 (W * H) ≤ 5) {Q : Nds} (h : NdB W H κ Q) : Q.1 ≤ 20 := by
  refine fb_holes 20 Q.1 (fun i => 4 * cntK κ 3 4 (Q.2 i / 4) + Q.2 i % 4) (fun i hi => ?_) (fun i j hij hj e => ?_)
  · obtain ⟨h1, h2⟩ := h.1 i hi
    have := half_rank h2 (show Q.2 i / 4 < W * H by omega)
    show 4 * cntK κ 3 4 (Q.2 i / 4) + Q.2 i % 4 < 20
    omega
  · obtain ⟨a1, a2⟩ := h.1 i (by omega)
    obtain ⟨b1, b2⟩ := h.1 j hj
    have e : 4 * cntK κ 3 4 (Q.2 i / 4) + Q.2 i % 4 = 4 * cntK κ 3 4 (Q.2 j / 4) + Q.2 j % 4 := e
    have := half_inj a2 b2 (by omega)
    exact h.2 i j hij hj (by omega)
theorem nd_add {Q : Nds} (h : NdB W H κ Q) {E : Nat} (h1 : E < 4 * (W * H)) (h2 : nw (κ (E / 4)) = 2) (hn : ∀ j, j < Q.1 → Q.2 j ≠ E) : NdB W H κ (Q.1 + 1, updN Q.2 Q.1 E) := by
  refine ⟨fun i hi => ?_, fun i j hij hj => ?_⟩
  · have hi : i < Q.1 + 1 := hi
    show updN Q.2 Q.1 E i < 4 * (W * H) ∧ nw (κ (updN Q.2 Q.1 E i / 4)) = 2
    by_cases e : i = Q.1
    · subst e; rw [updN_s]; exact ⟨h1, h2⟩
    · rw [updN_n e]; exact h.1 i (by omega)
  · have hj : j < Q.1 + 1 := hj
    show updN Q.2 Q.1 E i ≠ updN Q.2 Q.1 E j
    rw [updN_n (show i ≠ Q.1 by omega)]
    by_cases e : j = Q.1
    · subst e; rw [updN_s]; exact hn i hij
    · rw [updN_n e]; exact h.2 i j hij (by omega)
theorem rc_neg (hd : Dim W H) {E : Nat} (hE : EndOk W H κ E) : (E < 100 → 0 ≤ rc E ∧ ¬ rc E < 0 ∧ rc E = nI E) ∧ (¬ E < 100 → ¬ 0 ≤ rc E ∧ rc E < 0) := by
  have hN := hd.le
  have hdd := hd
  obtain ⟨d1, d2, d3, d4⟩ := hdd
  rcases hE with ⟨h1, h2⟩ | ⟨p, hp, rfl⟩ | rfl | rfl
  · rw [rc, if_pos (by omega)]
    exact ⟨fun _ => ⟨by rw [show (0 : Int32) = nI 0 from rfl, n_le (by omega) (by omega)]; omega, n_neg (by omega), rfl⟩, fun h => by omega⟩
  · rw [rc, if_neg (by omega), if_pos (by omega), show 100 + p - 100 = p by omega]
    have := (m4_fin (show p < 90 by omega) (q := 0) (by decide)).2.1
    exact ⟨fun h => by omega, fun _ => ⟨Int32.not_le.mpr this, this⟩⟩
  · exact ⟨fun h => by omega, fun _ => by decide⟩
  · exact ⟨fun h => by omega, fun _ => by decide⟩
/-- has the node been met -/
theorem m_scan {Q : Nds} {md mk : Nat → Int32} (hm : Q.1 ≤ 20) (hmd : ∀ i, i < Q.1 → md i = nI (Q.2 i)) (y3 y4 r53 j0 : Int32) (hj0 : j0 = 0 ∨ j0 = 1) : ∃ t, lpf (fun s : Int32 × Int32 => f_X6_gathers_77 (nI Q.1) md mk f y3 y4 r53 s.1 s.2) 1000 (j0, (0 : Int32)) = some t ∧ ((t = 1 ∧ (j0 = 1 ∨ ∃ e, e < Q.1 ∧ md e = r53)) ∨ (t = 0 ∧ j0 = 0 ∧ ∀ e, e < Q.1 → md e ≠ r53)) := by
  refine lpf_run (σ := Int32 × Int32) (τ := Int32) (fun s => ∃ e : Nat, e ≤ Q.1 ∧ s.2 = nI e ∧ ((s.1 = 1 ∧ (j0 = 1 ∨ ∃ a, a < e ∧ md a = r53)) ∨ (s.1 = 0 ∧ j0 = 0 ∧ ∀ a, a < e → md a ≠ r53))) _ (fun s => 999 - s.2.toNatClampNeg) ?_ 1000 _ ⟨0, by omega, rfl, ?_⟩ (by omega)
  · rintro ⟨b, x⟩ ⟨e, he, rfl, hc⟩
    dsimp only at hc ⊢
    have meas : 999 - (nI (e + 1)).toNatClampNeg < 999 - (nI e).toNatClampNeg := by
      rw [nI_c _ (by omega), nI_c _ (by omega)]
      omega
    by_cases h : Q.1 ≤ e
    · have ee : e = Q.1 := by omega
      subst ee
      exact Or.inr ⟨b, by rw [f_X6_gathers_77, if_pos ((n_le (by omega) (by omega)).mpr h)], hc⟩
    · refine Or.inl ?_
      have h1 : ¬ nI Q.1 ≤ nI e := by rw [n_le (by omega) (by omega)]; exact h
      rcases hc with ⟨rfl, hc⟩ | ⟨rfl, hj, hc⟩
      · refine ⟨(1, nI (e + 1)), by rw [f_X6_gathers_77, if_neg h1, if_neg (by decide), nI_1], ⟨e + 1, by omega, rfl, Or.inl ⟨rfl, ?_⟩⟩, meas⟩
        rcases hc with q | ⟨a, q1, q2⟩
        · exact Or.inl q
        · exact Or.inr ⟨a, by omega, q2⟩
      · by_cases g : md e = r53
        · exact ⟨(1, nI (e + 1)), by rw [f_X6_gathers_77, if_neg h1, if_pos rfl, chk_t (aix_n (by omega) (by decide)), nI_c _ (by omega), if_pos g, nI_1], ⟨e + 1, by omega, rfl, Or.inl ⟨rfl, Or.inr ⟨e, by omega, g⟩⟩⟩, meas⟩
        · refine ⟨(0, nI (e + 1)), by rw [f_X6_gathers_77, if_neg h1, if_pos rfl, chk_t (aix_n (by omega) (by decide)), nI_c _ (by omega), if_neg g, nI_1], ⟨e + 1, by omega, rfl, Or.inr ⟨rfl, hj, fun a ha => ?_⟩⟩, meas⟩
          by_cases q : a = e
          · subst q; exact g
          · exact hc a (by omega)
  · rcases hj0 with rfl | rfl
    · exact Or.inr ⟨rfl, rfl, fun a ha => absurd ha (Nat.not_lt_zero a)⟩
    · exact Or.inl ⟨rfl, Or.inl rfl⟩
/-- one ray -/
theorem m_gather1 (hM : RoomM W H κ f) (hd : Dim W H) (hk : Kok W H κ) (hh : cntK κ 3 4 (W * H) ≤ 5) {E0 k y : Nat} {Q : Nds} {md mk : Nat → Int32} (hI : NdI W H κ E0 (2 * k + y) Q mk) (hmd : ∀ i, i < Q.1 → md i = nI (Q.2 i)) (hkq : k < Q.1) (hy : y < 2) : ∃ (Q' : Nds) (md' mk' : Nat → Int32), f_X6_gathers_25 f (nI k) (nI y) (nI Q.1) md mk = some (Sum.inl (nI (y + 1), nI Q'.1, md', mk')) ∧ NdI W H κ E0 (2 * k + y + 1) Q' mk' ∧ (∀ i, i < Q'.1 → md' i = nI (Q'.2 i)) ∧ Q.1 ≤ Q'.1 := by
  have hN := hd.le
  obtain ⟨hB, h0, hq0, hall⟩ := hI
  have hm := nd_le hh hB
  obtain ⟨s1, s2⟩ := hB.1 k hkq
  obtain ⟨r52, hr1, hr2⟩ := m_follow hM hd hk s1 hy
  have hE : EndOk W H κ (en W H κ (Q.2 k) y) := en_end hd hk s1
  have hrc := rc_neg hd hE
  generalize hEe : en W H κ (Q.2 k) y = E at *
  have upds : ∀ (Q' : Nds), Q.1 ≤ Q'.1 → (∀ i, i < Q.1 → Q'.2 i = Q.2 i) → NdB W H κ Q' → (E < 100 → ∃ j, j < Q'.1 ∧ Q'.2 j = E) → NdI W H κ E0 (2 * k + y + 1) Q' (upd mk (2 * k + y) (rc E)) := by
    intro Q' h1 h2 h3 h4
    refine ⟨h3, by omega, by rw [h2 0 h0]; exact hq0, fun i y' hy' hlt => ?_⟩
    by_cases g : 2 * i + y' = 2 * k + y
    · have gi : i = k := by omega
      have gy : y' = y := by omega
      subst gi gy
      rw [h2 i hkq, hEe, pk_us]
      exact ⟨by omega, h4, rfl⟩
    · obtain ⟨a1, a2, a3⟩ := hall i y' hy' (by omega)
      rw [h2 i a1, pk_un g]
      refine ⟨by omega, fun q => ?_, a3⟩
      obtain ⟨j, b1, b2⟩ := a2 q
      exact ⟨j, by omega, by rw [h2 j b1]; exact b2⟩
  have pre : ∀ t, (∃ j0 : Int32, (if 0 ≤ rc E then some (0 : Int32) else some (1 : Int32)) = some j0 ∧ lpf (fun s : Int32 × Int32 => f_X6_gathers_77 (nI Q.1) md (upd mk (2 * k + y) (rc E)) f (nI k) (nI y) (rc E) s.1 s.2) 1000 (j0, (0 : Int32)) = some t) → f_X6_gathers_25 f (nI k) (nI y) (nI Q.1) md mk = if t = 0 then chk (aix (nI Q.1) 20) (some (Sum.inl (nI (y + 1), nI (Q.1 + 1), upd md (nI Q.1).toNatClampNeg (rc E), upd mk (2 * k + y) (rc E)))) else some (Sum.inl (nI (y + 1), nI Q.1, md, upd mk (2 * k + y) (rc E))) := by
    rintro t ⟨j0, hj0, hl⟩
    rw [f_X6_gathers_25, show (2 : Int32) = nI 2 from rfl, if_neg (by rw [n_le (by omega) (by omega)]; omega), chk_t (aix_n (by omega) (by decide)), nI_c k (by omega), hmd k hkq, hr1, bind_s, hr2, bind_s, pk_mul, nI_add, chk_t (aix_n (by omega) (by decide)), nI_c (2 * k + y) (by omega), hj0, bind_s, hl, bind_s, nI_1, nI_1]
  by_cases g : E < 100
  · obtain ⟨c1, c2, c3⟩ := hrc.1 g
    obtain ⟨t, ht, hcase⟩ := m_scan (f := f) (mk := upd mk (2 * k + y) (rc E)) hm hmd (nI k) (nI y) (rc E) 0 (Or.inl rfl)
    have hst := pre t ⟨0, by rw [if_pos c1], ht⟩
    have hEh : E < 4 * (W * H) ∧ nw (κ (E / 4)) = 2 := by
      rcases hE with h | ⟨p, hp, e1⟩ | e1 | e1
      · exact h
      · omega
      · omega
      · omega
    rcases hcase with ⟨rfl, hc⟩ | ⟨rfl, -, hc⟩
    · rw [if_neg (by decide)] at hst
      refine ⟨Q, md, _, hst, upds Q (Nat.le_refl _) (fun _ _ => rfl) hB (fun _ => ?_), hmd, Nat.le_refl _⟩
      rcases hc with q | ⟨e, e1, e2⟩
      · exact absurd q (by decide)
      · have := (hB.1 e e1).1
        rw [hmd e e1, c3, n_eq (by omega) (by omega)] at e2
        exact ⟨e, e1, e2⟩
    · have hno : ∀ j, j < Q.1 → Q.2 j ≠ E := fun j hj q => hc j hj (by rw [hmd j hj, c3, q])
      have hB' := nd_add hB hEh.1 hEh.2 hno
      have hroom := nd_le hh hB'
      have hroom : Q.1 + 1 ≤ 20 := hroom
      rw [if_pos rfl, chk_t (aix_n (by omega) (by decide)), nI_c Q.1 (by omega)] at hst
      refine ⟨(Q.1 + 1, updN Q.2 Q.1 E), _, _, hst, upds _ (Nat.le_succ _) (fun i hi => updN_n (by omega)) hB' (fun _ => ⟨Q.1, Nat.lt_succ_self _, updN_s⟩), fun i hi => ?_, Nat.le_succ _⟩
      have hi : i < Q.1 + 1 := hi
      show upd md Q.1 (rc E) i = nI (updN Q.2 Q.1 E i)
      by_cases q : i = Q.1
      · subst q; rw [pk_us, updN_s, c3]
      · rw [pk_un q, updN_n q]; exact hmd i (by omega)
  · obtain ⟨c1, c2⟩ := hrc.2 g
    obtain ⟨t, ht, hcase⟩ := m_scan (f := f) (mk := upd mk (2 * k + y) (rc E)) hm hmd (nI k) (nI y) (rc E) 1 (Or.inr rfl)
    have hst := pre t ⟨1, by rw [if_neg c1], ht⟩
    rcases hcase with ⟨rfl, hc⟩ | ⟨-, q, -⟩
    · rw [if_neg (by decide)] at hst
      exact ⟨Q, md, _, hst, upds Q (Nat.le_refl _) (fun _ _ => rfl) hB (fun q => absurd q g), hmd, Nat.le_refl _⟩
    · exact absurd q (by decide)
theorem m_gathers (hM : RoomM W H κ f) (hd : Dim W H) (hk : Kok W H κ) (hh : cntK κ 3 4 (W * H) ≤ 5) (mm : Int32) (md mk : Nat → Int32) {E0 : Nat} (h1 : E0 < 4 * (W * H)) (h2 : nw (κ (E0 / 4)) = 2) : ∃ (Q : Nds) (md' mk' : Nat → Int32), f_X6_gathers mm md mk f (nI E0) = some (nI Q.1, md', mk') ∧ NdI W H κ E0 (2 * Q.1) Q mk' ∧ ∀ i, i < Q.1 → md' i = nI (Q.2 i) := by
  have hN := hd.le
  rw [f_X6_gathers, tc0]
  obtain ⟨t, ht, Q, e1, hI, hmd⟩ := lpf_run (f := fun s : Int32 × Int32 × (Nat → Int32) × (Nat → Int32) => f_X6_gathers_14 f s.1 s.2.1 s.2.2.1 s.2.2.2)
    (fun s => ∃ (k : Nat) (Q : Nds), s.1 = nI k ∧ k ≤ Q.1 ∧ s.2.1 = nI Q.1 ∧ NdI W H κ E0 (2 * k) Q s.2.2.2 ∧ ∀ i, i < Q.1 → s.2.2.1 i = nI (Q.2 i))
    (fun t => ∃ Q : Nds, t.1 = nI Q.1 ∧ NdI W H κ E0 (2 * Q.1) Q t.2.2 ∧ ∀ i, i < Q.1 → t.2.1 i = nI (Q.2 i))
    (fun s => 500 - s.1.toNatClampNeg) (by
      rintro ⟨x, mm, md, mk⟩ ⟨k, Q, rfl, hkq, rfl, hI, hmd⟩
      dsimp only at hI hmd ⊢
      have hm := nd_le hh hI.1
      by_cases he : Q.1 ≤ k
      · have ek : k = Q.1 := by omega
        subst ek
        exact Or.inr ⟨(nI Q.1, md, mk), by rw [f_X6_gathers_14, if_pos ((n_le (by omega) (by omega)).mpr he)], Q, rfl, hI, hmd⟩
      · have hlt : k < Q.1 := by omega
        obtain ⟨Q1, md1, mk1, g1, hI1, hmd1, hle1⟩ := m_gather1 (y := 0) hM hd hk hh hI hmd hlt (by decide)
        obtain ⟨Q2, md2, mk2, g2, hI2, hmd2, hle2⟩ := m_gather1 (y := 1) hM hd hk hh hI1 hmd1 (by omega) (by decide)
        have g3 : f_X6_gathers_25 f (nI k) (nI 2) (nI Q2.1) md2 mk2 = some (Sum.inr (nI Q2.1, md2, mk2)) := by
          rw [f_X6_gathers_25, if_pos (by decide)]
        have hl : lpf (fun s : Int32 × Int32 × (Nat → Int32) × (Nat → Int32) => f_X6_gathers_25 f (nI k) s.1 s.2.1 s.2.2.1 s.2.2.2) 1000 ((0 : Int32), nI Q.1, md, mk) = some (nI Q2.1, md2, mk2) := by
          rw [lpf_inl (n := 999) (s := ((0 : Int32), nI Q.1, md, mk)) (s' := (nI (0 + 1), nI Q1.1, md1, mk1)) g1, lpf_inl (n := 998) (s := (nI (0 + 1), nI Q1.1, md1, mk1)) (s' := (nI (1 + 1), nI Q2.1, md2, mk2)) g2, lpf_inr (n := 997) (s := (nI (1 + 1), nI Q2.1, md2, mk2)) g3]
        refine Or.inl ⟨(nI (k + 1), nI Q2.1, md2, mk2), ?_, ⟨k + 1, Q2, rfl, by omega, rfl, hI2, hmd2⟩, ?_⟩
        · rw [f_X6_gathers_14, if_neg (by rw [n_le (by omega) (by omega)]; exact he), hl, bind_s, nI_1]
        · show 500 - (nI (k + 1)).toNatClampNeg < 500 - (nI k).toNatClampNeg
          rw [nI_c _ (by omega), nI_c _ (by omega)]
          omega) 1000 ((0 : Int32), (1 : Int32), upd md 0 (nI E0), mk) ⟨0, (1, fun _ => E0), rfl, Nat.zero_le _, rfl, ⟨⟨fun i _ => ⟨h1, h2⟩, fun i j hij hj => by
            have hj : j < 1 := hj
            omega⟩, Nat.zero_lt_one, rfl, fun i y _ hlt => absurd hlt (Nat.not_lt_zero _)⟩, fun i hi => by
            have hi : i < 1 := hi
            have : i = 0 := by omega
            subst this
            exact (show upd md 0 (nI E0) 0 = nI E0 from pk_us)⟩ (by dsimp only; omega)
  rw [ht, bind_s]
  exact ⟨Q, t.2.1, t.2.2, by rw [e1], hI, hmd⟩
end GA
