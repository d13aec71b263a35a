section BM
variable {W H : Nat} {κ : Nat → Nat} {co ro : Int32} {kd f : Nat → Int32}
def RMd (B : Bst) (me : Int32) (mi mx : Nat → Int32) : Prop := me = nI B.1 ∧ (∀ i, i < B.1 → mi i = nI (B.2.1 i)) ∧ ∀ s, s < 80 → mx s = if B.2.2 s = 0 then (-4 : Int32) else nI (B.2.2 s)
abbrev M4P (p q : Nat) : Prop := (nI p = (-4 : Int32)) = False ∧ ((-2 : Int32) - nI p) < 0 ∧ ((-2 : Int32) - nI p = (-2 : Int32) - nI q ↔ p = q) ∧ ¬ nI p = (-2 : Int32) - nI q
theorem m4_fin {p q : Nat} (hp : p < 90) (hq : q < 90) : M4P p q := all2 (A := 90) (B := 90) (P := M4P) (by decide +kernel) hp hq
theorem nw_le (k : Nat) : nw k ≤ 2 := by
  rw [nw]; split
  · omega
  · split <;> omega
theorem m_spread1 (hM : RoomM W H κ f) (hd : Dim W H) (hk : Kok W H κ) (y2 : Int32) {B : Bst} {me : Int32} {mi mx : Nat → Int32} (hV : Val (4 * (W * H)) B) (hR : RMd B me mi mx) {s : Nat} (hs : s < 4 * (W * H)) (h0 : B.2.2 s ≠ 0) : ∃ r, lpf (fun t : Int32 × Int32 × (Nat → Int32) × (Nat → Int32) => f_X6_spreads_73 f y2 (nI s) t.1 t.2.1 t.2.2.1 t.2.2.2) 1000 ((0 : Int32), me, mi, mx) = some r ∧ RMd (pwS W H κ B s (B.2.2 s) (nw (κ (s / 4)))) r.1 r.2.1 r.2.2 := by
  have hN := hd.le
  have h2 := nw_le (κ (s / 4))
  refine lpf_run (σ := Int32 × Int32 × (Nat → Int32) × (Nat → Int32)) (τ := Int32 × (Nat → Int32) × (Nat → Int32)) (fun t => ∃ j : Nat, j ≤ nw (κ (s / 4)) ∧ t.1 = nI j ∧ RMd (pwS W H κ B s (B.2.2 s) j) t.2.1 t.2.2.1 t.2.2.2) _ (fun t => 500 - t.1.toNatClampNeg) ?_ 1000 _ ⟨0, Nat.zero_le _, rfl, hR⟩ (by omega)
  rintro ⟨y, me, mi, mx⟩ ⟨j, hj, rfl, hR⟩
  dsimp only at hR ⊢
  have hV' := pwS_val hd hk hV hs (hV.2.2 s) j
  have hE := pwS_ext (W := W) (H := H) (κ := κ) (B := B) (s := s) (v := B.2.2 s) j
  have hm' := hV'.le
  rw [f_X6_spreads_73, m_ways hM hd hk hs, bind_s]
  by_cases he : nw (κ (s / 4)) ≤ j
  · rw [if_pos ((n_le (by omega) (by omega)).mpr he)]
    have ej : j = nw (κ (s / 4)) := by omega
    exact Or.inr ⟨_, rfl, by rw [← ej]; exact hR⟩
  · rw [if_neg (by rw [n_le (by omega) (by omega)]; exact he), m_goes hM hd hk hs (show j < 2 by omega), bind_s]
    refine Or.inl ?_
    have fin : ∀ (o : Option ((Int32 × Int32 × (Nat → Int32) × (Nat → Int32)) ⊕ (Int32 × (Nat → Int32) × (Nat → Int32)))) (a : Int32) (b c : Nat → Int32), o = some (Sum.inl (nI j + 1, a, b, c)) → RMd (pwS W H κ B s (B.2.2 s) (j + 1)) a b c → ∃ s', o = some (Sum.inl s') ∧ (∃ j : Nat, j ≤ nw (κ (s / 4)) ∧ s'.1 = nI j ∧ RMd (pwS W H κ B s (B.2.2 s) j) s'.2.1 s'.2.2.1 s'.2.2.2) ∧ 500 - s'.1.toNatClampNeg < 500 - (nI j).toNatClampNeg := by
      intro o a b c ho hr
      refine ⟨_, ho, ⟨j + 1, by omega, nI_1 j, hr⟩, ?_⟩
      show 500 - (nI j + 1).toNatClampNeg < 500 - (nI j).toNatClampNeg
      rw [nI_1, nI_c _ (by omega), nI_c _ (by omega)]
      omega
    by_cases h1 : go W H κ s j < 100
    · have hg := gs_lt hd hk hs h1
      rw [if_pos h1, if_neg (n_neg (by omega)), chk_t (aix_n (by omega) (by decide)), nI_c _ (by omega), hR.2.2 _ (by omega)]
      by_cases hz : (pwS W H κ B s (B.2.2 s) j).2.2 (gs W H κ s j) = 0
      · have hroom := ent_room hV' hg hz
        rw [if_pos hz, if_pos rfl, chk_t (aix_n (by omega) (by decide)), hR.1, chk_t (aix_n (by omega) (by decide)), nI_c _ (by omega), nI_c s (by omega), hR.2.2 s (by omega), hE.2.2 s h0, if_neg h0, nI_1 (B.2.2 s)]
        refine fin _ _ _ _ rfl ?_
        rw [pwS, lvS, if_pos h1, ent, if_pos hz]
        refine ⟨nI_1 _, fun i hi => ?_, fun t ht => ?_⟩
        · have hi2 : i < (pwS W H κ B s (B.2.2 s) j).1 + 1 := hi
          show upd mi _ (nI (gs W H κ s j)) i = nI (updN _ _ (gs W H κ s j) i)
          by_cases e : i = (pwS W H κ B s (B.2.2 s) j).1
          · subst e; rw [pk_us, updN_s]
          · rw [pk_un e, updN_n e]; exact hR.2.1 i (by omega)
        · show upd mx (gs W H κ s j) (nI (B.2.2 s + 1)) t = if updN (pwS W H κ B s (B.2.2 s) j).2.2 (gs W H κ s j) (B.2.2 s + 1) t = 0 then (-4 : Int32) else nI (updN (pwS W H κ B s (B.2.2 s) j).2.2 (gs W H κ s j) (B.2.2 s + 1) t)
          by_cases e : t = gs W H κ s j
          · subst e; rw [pk_us, updN_s, if_neg (by omega)]
          · rw [pk_un e, updN_n e]; exact hR.2.2 t ht
      · have hb := hV'.2.2 (gs W H κ s j)
        rw [if_neg hz, if_neg (by rw [(m4_fin (q := 0) (show (pwS W H κ B s (B.2.2 s) j).2.2 (gs W H κ s j) < 90 by omega) (by decide)).1]; exact not_false)]
        refine fin _ _ _ _ rfl ?_
        rw [pwS, lvS, if_pos h1, ent, if_neg hz]
        exact hR
    · obtain ⟨p, hp, hpe⟩ := go_port hd hk hs h1
      have hdd := hd
      obtain ⟨d1, d2, d3, d4⟩ := hdd
      rw [if_neg h1, hpe, show 100 + p - 100 = p by omega, if_pos (m4_fin (show p < 90 by omega) (q := 0) (by decide)).2.1]
      refine fin _ _ _ _ rfl ?_
      rw [pwS, lvS, if_neg h1]
      exact hR
theorem m_spreads (hM : RoomM W H κ f) (hd : Dim W H) (hk : Kok W H κ) (me : Int32) (mi mx : Nat → Int32) {p : Nat} (hp : p < 2 * (W + H)) : ∃ r K, f_X6_spreads me f mi mx (nI p) = some r ∧ Fst W H κ (4 * pcell W H p + pdir W H p) K ∧ RMd (bsS W H κ (4 * pcell W H p + pdir W H p) K) r.1 r.2.1 r.2.2 ∧ Val (4 * (W * H)) (bsS W H κ (4 * pcell W H p + pdir W H p) K) := by
  have hN := hd.le
  obtain ⟨-, -, -, q1, q2⟩ := pt hd hp
  have h1 : ∃ t, lpf (fun s : Int32 × (Nat → Int32) => f_X6_spreads_2 me f mi (nI p) s.1 s.2) 1000 ((0 : Int32), mx) = some t ∧ ∀ i, i < 80 → t i = (-4 : Int32) := by
    refine lpf_run (σ := Int32 × (Nat → Int32)) (τ := Nat → Int32) (fun s => ∃ k : Nat, k ≤ 80 ∧ s.1 = nI k ∧ ∀ i, i < k → s.2 i = (-4 : Int32)) _ (fun s => 999 - s.1.toNatClampNeg) ?_ 1000 _ ⟨0, by omega, rfl, fun i hi => absurd hi (Nat.not_lt_zero i)⟩ (by omega)
    rintro ⟨x, g⟩ ⟨k, hk, rfl, hg⟩
    dsimp only at hg ⊢
    rw [f_X6_spreads_2]
    by_cases h : 80 ≤ k
    · exact Or.inr ⟨g, by rw [show (80 : Int32) = nI 80 from rfl, if_pos ((n_le (by omega) (by omega)).mpr h)], fun i hi => hg i (by omega)⟩
    · refine Or.inl ⟨(nI (k + 1), upd g k (-4)), ?_, ⟨k + 1, by omega, rfl, fun i hi => ?_⟩, ?_⟩
      · rw [show (80 : Int32) = nI 80 from rfl, if_neg (by rw [n_le (by omega) (by omega)]; exact h), chk_t (aix_n (by omega) (by decide)), nI_c _ (by omega), nI_1]
      · show upd g k (-4) i = (-4 : Int32)
        by_cases e : i = k
        · subst e; rw [pk_us]
        · rw [pk_un e]; exact hg i (by omega)
      · show 999 - (nI (k + 1)).toNatClampNeg < 999 - (nI k).toNatClampNeg
        rw [nI_c _ (by omega), nI_c _ (by omega)]
        omega
  obtain ⟨g, hg, hg4⟩ := h1
  rw [f_X6_spreads, hg, bind_s, m_pst hM hd hp, bind_s]
  generalize hs0 : 4 * pcell W H p + pdir W H p = s0
  have hs0l : s0 < 4 * (W * H) := by omega
  rw [tc0, pk_us, chk_t (aix_n (by omega) (by decide)), nI_c _ (by omega)]
  have hR0 : RMd (bsS W H κ s0 0) 1 (upd mi 0 (nI s0)) (upd g s0 1) := by
    rw [bsS, ent, if_pos rfl]
    refine ⟨rfl, fun i hi => ?_, fun s hs => ?_⟩
    · have hi2 : i < 0 + 1 := hi
      show upd mi 0 (nI s0) i = nI (updN _ 0 s0 i)
      have : i = 0 := by omega
      subst this
      rw [pk_us, updN_s]
    · show upd g s0 1 s = if updN (fun _ => 0) s0 1 s = 0 then (-4 : Int32) else nI (updN (fun _ => 0) s0 1 s)
      by_cases e : s = s0
      · subst e; rw [pk_us, updN_s, if_neg (by decide)]; rfl
      · rw [pk_un e, updN_n e, if_pos rfl]; exact hg4 s hs
  obtain ⟨t, ht, K, hK, hRC, hVK⟩ := lpf_run (f := fun s : Int32 × Int32 × (Nat → Int32) × (Nat → Int32) => f_X6_spreads_55 f s.1 s.2.1 s.2.2.1 s.2.2.2)
    (fun s => ∃ k, s.1 = nI k ∧ k ≤ (bsS W H κ s0 k).1 ∧ (∀ j, j < k → j < (bsS W H κ s0 j).1) ∧ RMd (bsS W H κ s0 k) s.2.1 s.2.2.1 s.2.2.2 ∧ Val (4 * (W * H)) (bsS W H κ s0 k))
    (fun t => ∃ K, Fst W H κ s0 K ∧ RMd (bsS W H κ s0 K) t.1 t.2.1 t.2.2 ∧ Val (4 * (W * H)) (bsS W H κ s0 K))
    (fun s => 500 - s.1.toNatClampNeg) (by
      rintro ⟨x, me, mi, mx⟩ ⟨k, rfl, hkm, hall, hRC, hV⟩
      have hm := hV.le
      dsimp only at hRC ⊢
      rw [f_X6_spreads_55]
      by_cases he : (bsS W H κ s0 k).1 ≤ k
      · refine Or.inr ⟨(me, mi, mx), ?_, k, ⟨by omega, hall⟩, hRC, hV⟩
        rw [hRC.1, if_pos ((n_le (by omega) (by omega)).mpr he)]
      · have hlt : k < (bsS W H κ s0 k).1 := by omega
        have hq := (hV.1 k hlt)
        obtain ⟨r, hr, h1⟩ := m_spread1 hM hd hk (nI k) hV hRC hq.1 hq.2
        refine Or.inl ⟨(nI (k + 1), r.1, r.2.1, r.2.2), ?_, ⟨k + 1, rfl, ?_, ?_, h1, bs_val hd hk hV hlt⟩, ?_⟩
        · have e : me = nI (bsS W H κ s0 k).1 := hRC.1
          rw [if_neg (by rw [e, n_le (by omega) (by omega)]; omega), chk_t (aix_n (by omega) (by decide)), nI_c _ (by omega), hRC.2.1 k hlt, hr, bind_s, nI_1]
        · have := (bs_ext (W := W) (H := H) (κ := κ) (s0 := s0) (k := k)).1
          omega
        · intro j hj
          by_cases e : j = k
          · subst e; exact hlt
          · exact hall j (by omega)
        · show 500 - (nI (k + 1)).toNatClampNeg < 500 - (nI k).toNatClampNeg
          rw [nI_c _ (by omega), nI_c _ (by omega)]
          omega) 1000 ((0 : Int32), (1 : Int32), upd mi 0 (nI s0), upd g s0 1) ⟨0, rfl, Nat.zero_le _, fun j hj => absurd hj (Nat.not_lt_zero j), hR0, bs0_val hs0l⟩ (by dsimp only; omega)
  rw [ht, bind_s]
  exact ⟨_, K, rfl, hK, hRC, hVK⟩
end BM
theorem op_lit : Op_lit InvP := by
  intro coR roR kdR tn tl pz pg mn mp mc ml mt ww wl wq wt wp me mi mx x1 hI
  have hI0 := hI
  obtain ⟨R, z, h, hR, hX, hM, -⟩ := hI
  have hd := hR.1
  have hk := hR.2.1
  have hN := hd.le
  rw [f_X5_lit, f_X6_lit]
  rcases port_cases hX hM hd x1 with ⟨h1, h2⟩ | ⟨p, hp, rfl, h1, h2⟩
  · rw [h1, h2]
    exact ⟨_, _, rfl, rfl, rfl, hI0⟩
  · obtain ⟨r, K, hr, hK, hC, -, hV⟩ := x_goFrom hX hd hk ww wl wq wt wp hp
    obtain ⟨r', K', hr', hK', hC', -⟩ := m_spreads hM hd hk me mi mx hp
    have hKK := hK.uniq hK'
    subst hKK
    have hm := hV.le
    rw [h1, h2, bind_s, bind_s, if_neg (by decide), if_neg (by decide), hr, hr', bind_s, bind_s]
    generalize hB : bsS R.1 R.2.1 R.2.2 (4 * pcell R.1 R.2.1 p + pdir R.1 R.2.1 p) K = B at hC hC' hV hm
    have key : lpf (fun s : Int32 × Int32 => f_X6_lit_19 r'.1 mn r'.2.1 r'.2.2 s.1 s.2) 1000 (litQ B.2.1 0, nI 0) = some (litQ B.2.1 B.1) := by
      refine lpf_seq B.1 (fun i => (litQ B.2.1 i, nI i)) (fun i hi => ?_) ?_ 1000 (by omega)
      · show f_X6_lit_19 r'.1 mn r'.2.1 r'.2.2 (litQ B.2.1 i) (nI i) = _
        have hq := (hV.1 i hi).1
        rw [f_X6_lit_19, hC'.1, if_neg (by rw [n_le (by omega) (by omega)]; omega), chk_t (aix_n (by omega) (by decide)), nI_c _ (by omega), hC'.2.1 i hi, show (4 : Int32) = nI 4 from rfl, pk_div (by omega) (by omega) (by omega), nI_1]
        rfl
      · show f_X6_lit_19 r'.1 mn r'.2.1 r'.2.2 (litQ B.2.1 B.1) (nI B.1) = _
        rw [f_X6_lit_19, hC'.1, if_pos ((n_le (by omega) (by omega)).mpr (Nat.le_refl _))]
    have e : ((0 : Int32), (0 : Int32)) = (litQ B.2.1 0, nI 0) := rfl
    rw [e, key, bind_s]
    exact ⟨_, _, rfl, rfl, hC.2.1, hI0⟩
