/-! ===== a beam gone after till a half mirror ===== -/
theorem fb_twice {m n : Nat} {f : Nat → Nat} (h : ∀ i, i < n → f i < m) (hm : m < n) : ∃ i j, i < j ∧ j < n ∧ f i = f j := by
  refine Classical.byContradiction fun hx => ?_
  have := fb_holes m n f h (fun i j hij hj e => hx ⟨i, j, hij, hj, e⟩)
  omega
def tr (W H : Nat) (κ : Nat → Nat) : Nat → Nat → Nat
  | 0, _ => 300
  | n + 1, s => if nw (κ (s / 4)) = 2 then s else if nw (κ (s / 4)) = 0 then 200 else if go W H κ s 0 < 100 then tr W H κ n (gs W H κ s 0) else go W H κ s 0
def en (W H : Nat) (κ : Nat → Nat) (s y : Nat) : Nat := if go W H κ s y < 100 then tr W H κ 80 (gs W H κ s y) else go W H κ s y
def it (W H : Nat) (κ : Nat → Nat) : Nat → Nat → Nat
  | 0, s => s
  | n + 1, s => gs W H κ (it W H κ n s) 0
def Cont (W H : Nat) (κ : Nat → Nat) (s : Nat) : Prop := nw (κ (s / 4)) = 1 ∧ go W H κ s 0 < 100
-- the class's number of a split, and of an end
def sp (κ : Nat → Nat) (e : Nat) : Nat := 2 * (e / 4) + (if e % 4 = 0 ∨ td (κ (e / 4)) (e % 4) = 0 then 0 else 1)
def ce (κ : Nat → Nat) (e : Nat) : Nat := if e < 100 then sp κ e else if e < 200 then 40 + (e - 100) else if e = 200 then 58 else 59
-- the reference's number of an end
def rc (e : Nat) : Int32 := if e < 100 then nI e else if e < 200 then (-2 : Int32) - nI (e - 100) else if e = 200 then -1 else -100
theorem nw_cases (k : Nat) : nw k = 0 ∨ nw k = 1 ∨ nw k = 2 := by
  have := nw_le k
  omega
section TR
variable {W H : Nat} {κ : Nat → Nat} {co ro : Int32} {kd f : Nat → Int32}
theorem it_add (a b s : Nat) : it W H κ (a + b) s = it W H κ a (it W H κ b s) := by
  induction a with
  | zero => rw [Nat.zero_add]; rfl
  | succ a ih => rw [Nat.succ_add]; show gs W H κ (it W H κ (a + b) s) 0 = _; rw [ih]; rfl
theorem tr_end (hd : Dim W H) (hk : Kok W H κ) : ∀ (n s : Nat), s < 4 * (W * H) → (tr W H κ n s < 4 * (W * H) ∧ nw (κ (tr W H κ n s / 4)) = 2) ∨ (∃ p, p < 2 * (W + H) ∧ tr W H κ n s = 100 + p) ∨ tr W H κ n s = 200 ∨ tr W H κ n s = 300 := by
  intro n
  induction n with
  | zero => intro s _; exact Or.inr (Or.inr (Or.inr rfl))
  | succ n ih =>
    intro s hs
    rw [tr]
    by_cases h2 : nw (κ (s / 4)) = 2
    · rw [if_pos h2]; exact Or.inl ⟨hs, h2⟩
    · rw [if_neg h2]
      by_cases h0 : nw (κ (s / 4)) = 0
      · rw [if_pos h0]; exact Or.inr (Or.inr (Or.inl rfl))
      · rw [if_neg h0]
        by_cases h1 : go W H κ s 0 < 100
        · rw [if_pos h1]; exact ih _ (gs_lt hd hk hs h1)
        · rw [if_neg h1]; exact Or.inr (Or.inl (go_port hd hk hs h1))
theorem en_end (hd : Dim W H) (hk : Kok W H κ) {s y : Nat} (hs : s < 4 * (W * H)) : (en W H κ s y < 4 * (W * H) ∧ nw (κ (en W H κ s y / 4)) = 2) ∨ (∃ p, p < 2 * (W + H) ∧ en W H κ s y = 100 + p) ∨ en W H κ s y = 200 ∨ en W H κ s y = 300 := by
  rw [en]
  by_cases h1 : go W H κ s y < 100
  · rw [if_pos h1]; exact tr_end hd hk 80 _ (gs_lt hd hk hs h1)
  · rw [if_neg h1]; exact Or.inr (Or.inl (go_port hd hk hs h1))
theorem tr_300 (hd : Dim W H) (hk : Kok W H κ) : ∀ (n s : Nat), s < 4 * (W * H) → (tr W H κ n s = 300 ↔ ∀ i, i < n → Cont W H κ (it W H κ i s)) := by
  intro n
  induction n with
  | zero => intro s _; exact ⟨fun _ i hi => absurd hi (Nat.not_lt_zero i), fun _ => rfl⟩
  | succ n ih =>
    intro s hs
    have hN := hd.le
    have hdd := hd
    obtain ⟨d1, d2, d3, d4⟩ := hdd
    rw [tr]
    have key : (∀ i, i < n + 1 → Cont W H κ (it W H κ i s)) ↔ Cont W H κ s ∧ ∀ i, i < n → Cont W H κ (it W H κ i (gs W H κ s 0)) := by
      constructor
      · intro h
        refine ⟨h 0 (by omega), fun i hi => ?_⟩
        have := h (i + 1) (by omega)
        rw [it_add i 1 s] at this
        exact this
      · rintro ⟨h1, h2⟩ i hi
        rcases Nat.eq_zero_or_pos i with e | e
        · subst e; exact h1
        · have := h2 (i - 1) (by omega)
          have e2 := it_add (W := W) (H := H) (κ := κ) (i - 1) 1 s
          rw [show i - 1 + 1 = i by omega] at e2
          rw [e2]
          exact this
    rw [key]
    rcases nw_cases (κ (s / 4)) with h0 | h0 | h0
    · rw [if_neg (by omega), if_pos h0]
      exact ⟨fun h => by omega, fun h => by have := h.1.1; omega⟩
    · rw [if_neg (by omega), if_neg (by omega)]
      by_cases h1 : go W H κ s 0 < 100
      · rw [if_pos h1, ih _ (gs_lt hd hk hs h1)]
        exact ⟨fun h => ⟨⟨h0, h1⟩, h⟩, fun h => h.2⟩
      · obtain ⟨p, hp, hpe⟩ := go_port hd hk hs h1
        rw [if_neg h1]
        exact ⟨fun h => by omega, fun h => absurd h.1.2 h1⟩
    · rw [if_pos h0]
      exact ⟨fun h => by omega, fun h => by have := h.1.1; omega⟩
theorem it_lt (hd : Dim W H) (hk : Kok W H κ) {s : Nat} (hs : s < 4 * (W * H)) : ∀ n, (∀ i, i < n → Cont W H κ (it W H κ i s)) → it W H κ n s < 4 * (W * H) := by
  intro n
  induction n with
  | zero => intro _; exact hs
  | succ n ih => intro h; exact gs_lt hd hk (ih (fun i hi => h i (by omega))) (h n (by omega)).2
theorem tr_round (hd : Dim W H) (hk : Kok W H κ) {s : Nat} (hs : s < 4 * (W * H)) (h : tr W H κ 80 s = 300) (n : Nat) : tr W H κ n s = 300 := by
  have hN := hd.le
  have h1 := (tr_300 hd hk 80 s hs).mp h
  rw [tr_300 hd hk n s hs]
  obtain ⟨i, j, hij, hj, e⟩ := fb_twice (m := 4 * (W * H)) (n := 81) (f := fun i => it W H κ i s) (fun i hi => it_lt hd hk hs i (fun a ha => h1 a (by omega))) (by omega)
  have e : it W H κ i s = it W H κ j s := e
  have per : ∀ m, ∃ m', m' < 80 ∧ it W H κ m s = it W H κ m' s := by
    intro m
    induction m using Nat.strongRecOn with
    | ind m ih =>
      by_cases g : m < 80
      · exact ⟨m, g, rfl⟩
      · obtain ⟨m', h1, h2⟩ := ih (m - j + i) (by omega)
        refine ⟨m', h1, ?_⟩
        rw [← h2, it_add (m - j) i, e, ← it_add, show m - j + j = m by omega]
  intro a _
  obtain ⟨m', h2, h3⟩ := per a
  rw [h3]
  exact h1 m' h2
abbrev HfP (k d : Nat) : Prop := (nw k = 2 ↔ (k = 3 ∨ k = 4)) ∧ (nw k = 2 → f_X5_isHalf (nI k) = some 1 ∧ od k d 0 = d ∧ od k d 1 = td k d) ∧ (nw k ≠ 2 → f_X5_isHalf (nI k) = some 0)
theorem hf_fin {k d : Nat} (hk : k < 8) (hd : d < 4) : HfP k d := all2 (A := 8) (B := 4) (P := HfP) (by decide +kernel) hk hd
/-- where the class's ray ends -/
theorem x_endOf_l (hX : RoomX W H κ co ro kd) (hd : Dim W H) (hk : Kok W H κ) : ∀ (r i s n : Nat), i + r = 80 → s < 4 * (W * H) → r < n → lpf (fun t : Int32 × Int32 × Int32 => f_X0_endOf_8 co ro kd t.1 t.2.1 t.2.2) n (nI (s / 4), nI (s % 4), nI i) = some (if tr W H κ r s = 300 then Sum.inr () else Sum.inl (nI (ce κ (tr W H κ r s)))) := by
  have hN := hd.le
  have hdd := hd
  obtain ⟨d1, d2, d3, d4⟩ := hdd
  intro r
  induction r with
  | zero =>
    intro i s n hi hs hn
    obtain ⟨m, rfl⟩ : ∃ m, n = m + 1 := ⟨n - 1, by omega⟩
    refine lpf_inr ?_
    show f_X0_endOf_8 co ro kd (nI (s / 4)) (nI (s % 4)) (nI i) = _
    rw [f_X0_endOf_8, show (80 : Int32) = nI 80 from rfl, if_pos ((n_le (by omega) (by omega)).mpr (by omega)), tr, if_pos rfl]
  | succ r ih =>
    intro i s n hi hs hn
    obtain ⟨m, rfl⟩ : ∃ m, n = m + 1 := ⟨n - 1, by omega⟩
    have hc : s / 4 < W * H := by omega
    have h4 : s % 4 < 4 := Nat.mod_lt _ (by decide)
    have h7 := ks hk hs
    obtain ⟨-, k1, k2, k3, -, k4, -⟩ := kd_fin (show κ (s / 4) < 8 by omega) h4
    obtain ⟨e1, e2, e3⟩ := hf_fin (show κ (s / 4) < 8 by omega) h4
    have st : f_X0_endOf_8 co ro kd (nI (s / 4)) (nI (s % 4)) (nI i) = if nw (κ (s / 4)) = 2 then some (Sum.inr (Sum.inl (nI (sp κ s)))) else if nw (κ (s / 4)) = 0 then some (Sum.inr (Sum.inl 58)) else if go W H κ s 0 < 100 then some (Sum.inl (nI (gs W H κ s 0 / 4), nI (gs W H κ s 0 % 4), nI (i + 1))) else some (Sum.inr (Sum.inl (nI (40 + (go W H κ s 0 - 100))))) := by
      rw [f_X0_endOf_8, show (80 : Int32) = nI 80 from rfl, if_neg (by rw [n_le (by omega) (by omega)]; omega), x_kindIn hX hd hc, bind_s]
      have on1 : ∀ d, d < 4 → od (κ (s / 4)) (s % 4) 0 = d → (Option.bind (f_X2_beyond co ro (nI (s / 4)) (nI d)) (fun r23 => (if 0 ≤ r23 then some (Sum.inl (r23, nI d, (nI i + (1 : Int32)))) else some (Sum.inr (Sum.inl ((40 : Int32) + (r23 ^^^ (-1 : Int32))))))) : Option ((Int32 × Int32 × Int32) ⊕ (Int32 ⊕ Unit))) = if go W H κ s 0 < 100 then some (Sum.inl (nI (gs W H κ s 0 / 4), nI (gs W H κ s 0 % 4), nI (i + 1))) else some (Sum.inr (Sum.inl (nI (40 + (go W H κ s 0 - 100))))) := by
        intro d hd4 ed
        rw [x_beyond hX hd hc hd4, bind_s]
        have eg : go W H κ s 0 = nx W H (s / 4) d := by rw [go, ed]
        have egs : gs W H κ s 0 = 4 * nx W H (s / 4) d + d := by rw [gs, go, ed]
        by_cases h1 : nx W H (s / 4) d < 100
        · have h2 := nx_lt hd hc hd4 h1
          rw [if_pos h1, if_pos (by rw [show (0 : Int32) = nI 0 from rfl, n_le (by omega) (by omega)]; omega), eg, if_pos h1, egs, nI_1, show (4 * nx W H (s / 4) d + d) / 4 = nx W H (s / 4) d by omega, show (4 * nx W H (s / 4) d + d) % 4 = d by omega]
        · obtain ⟨p, hp, hpe⟩ := nx_port hd hc hd4 h1
          obtain ⟨g1, g2⟩ := neg_fin (show p < 100 by omega)
          rw [if_neg h1, eg, if_neg h1, hpe, show 100 + p - 100 = p by omega, if_neg (Int32.not_le.mpr g1), g2, show (40 : Int32) = nI 40 from rfl, nI_add]
      rcases way_fin (show κ (s / 4) < 8 by omega) h4 with ⟨a1, a2, a3, a4⟩ | ⟨a1, a2, a3, a4⟩ | ⟨a1, a2, a3, a4, a5⟩ | ⟨a1, a2, a3⟩
      · rw [if_neg (show ¬ nw (κ (s / 4)) = 2 by omega), if_neg (show ¬ nw (κ (s / 4)) = 0 by omega), e3 (by omega), k1, k2, a1, a2]
        simp only [bind_s, ↓reduceIte, i10, Bool.false_eq_true]
        exact on1 (s % 4) h4 a4
      · rw [if_neg (show ¬ nw (κ (s / 4)) = 2 by omega), if_neg (show ¬ nw (κ (s / 4)) = 0 by omega), e3 (by omega), k1, k2, k3, a1, a2]
        simp only [bind_s, ↓reduceIte, i10, Bool.false_eq_true]
        exact on1 (td (κ (s / 4)) (s % 4)) k4 a4
      · rw [if_pos (show nw (κ (s / 4)) = 2 by omega), (e2 a3).1, k3]
        simp only [bind_s, ↓reduceIte, i10]
        rw [show (2 : Int32) = nI 2 from rfl, pk_mul, nI_1]
        have z1 := n_z (a := s % 4) (by omega)
        have z2 := n_z (a := td (κ (s / 4)) (s % 4)) (by omega)
        rw [sp]
        by_cases y1 : s % 4 = 0
        · rw [if_pos (z1.mpr y1), bind_s, if_neg (by decide), if_pos (Or.inl y1)]
          rfl
        · rw [if_neg (by rw [z1]; exact y1)]
          by_cases y2 : td (κ (s / 4)) (s % 4) = 0
          · rw [if_pos (z2.mpr y2), bind_s, if_neg (by decide), if_pos (Or.inr y2)]
            rfl
          · rw [if_neg (by rw [z2]; exact y2), bind_s, if_pos rfl, if_neg (by omega)]
      · rw [if_neg (show ¬ nw (κ (s / 4)) = 2 by omega), if_pos (show nw (κ (s / 4)) = 0 by omega), e3 (by omega), k1, k2, a1, a2]
        simp only [bind_s, ↓reduceIte, Bool.false_eq_true]
    have hst : (fun t : Int32 × Int32 × Int32 => f_X0_endOf_8 co ro kd t.1 t.2.1 t.2.2) (nI (s / 4), nI (s % 4), nI i) = _ := st
    rw [tr]
    by_cases h2 : nw (κ (s / 4)) = 2
    · rw [if_pos h2] at hst
      rw [lpf_inr hst, if_pos h2, if_neg (by omega), ce, if_pos (by omega)]
    · rw [if_neg h2] at hst ⊢
      by_cases h0 : nw (κ (s / 4)) = 0
      · rw [if_pos h0] at hst ⊢
        rw [lpf_inr hst, if_neg (by decide)]
        rfl
      · rw [if_neg h0] at hst ⊢
        by_cases h1 : go W H κ s 0 < 100
        · rw [if_pos h1] at hst ⊢
          rw [lpf_inl hst]
          exact ih (i + 1) _ m (by omega) (gs_lt hd hk hs h1) (by omega)
        · rw [if_neg h1] at hst ⊢
          obtain ⟨p, hp, hpe⟩ := go_port hd hk hs h1
          rw [lpf_inr hst, hpe, if_neg (by omega), ce, if_neg (by omega), if_pos (by omega)]
theorem x_endOf (hX : RoomX W H κ co ro kd) (hd : Dim W H) (hk : Kok W H κ) {s : Nat} (hs : s < 4 * (W * H)) : f_X0_endOf co ro kd (nI (s / 4)) (nI (s % 4)) = some (nI (ce κ (tr W H κ 80 s))) := by
  rw [f_X0_endOf, show ((nI (s / 4), nI (s % 4), (0 : Int32)) : Int32 × Int32 × Int32) = (nI (s / 4), nI (s % 4), nI 0) from rfl, x_endOf_l hX hd hk 80 0 s 1000 rfl hs (by decide), bind_s]
  by_cases h : tr W H κ 80 s = 300
  · rw [if_pos h, h]; rfl
  · rw [if_neg h]; rfl
theorem x_endBeyond (hX : RoomX W H κ co ro kd) (hd : Dim W H) (hk : Kok W H κ) {s y : Nat} (hs : s < 4 * (W * H)) : f_X0_endBeyond co ro kd (nI (s / 4)) (nI (od (κ (s / 4)) (s % 4) y)) = some (nI (ce κ (en W H κ s y))) := by
  have hN := hd.le
  have hdd := hd
  obtain ⟨d1, d2, d3, d4⟩ := hdd
  have h7 := ks hk hs
  have ho : od (κ (s / 4)) (s % 4) y < 4 := od_lt h7 (Nat.mod_lt _ (by decide))
  rw [f_X0_endBeyond, x_beyond hX hd (show s / 4 < W * H by omega) ho, bind_s, en]
  show (if (if go W H κ s y < 100 then nI (go W H κ s y) else nI (go W H κ s y - 100) ^^^ (-1 : Int32)) < 0 then _ else _) = _
  by_cases h1 : go W H κ s y < 100
  · have h2 := go_lt hd hk hs h1
    have h3 := x_endOf hX hd hk (gs_lt hd hk hs h1)
    rw [gs, show (4 * go W H κ s y + od (κ (s / 4)) (s % 4) y) / 4 = go W H κ s y by omega, show (4 * go W H κ s y + od (κ (s / 4)) (s % 4) y) % 4 = od (κ (s / 4)) (s % 4) y by omega] at h3
    rw [if_pos h1, if_pos h1, if_neg (n_neg (by omega))]
    show Option.bind (f_X0_endOf co ro kd (if go W H κ s y < 100 then nI (go W H κ s y) else nI (go W H κ s y - 100) ^^^ (-1 : Int32)) _) _ = _
    rw [if_pos h1, h3, bind_s, gs]
  · obtain ⟨p, hp, hpe⟩ := go_port hd hk hs h1
    obtain ⟨g1, g2⟩ := neg_fin (show p < 100 by omega)
    rw [if_neg h1, if_neg h1, hpe, show 100 + p - 100 = p by omega, if_pos g1]
    show some ((40 : Int32) + ((if go W H κ s y < 100 then nI (go W H κ s y) else nI (go W H κ s y - 100) ^^^ (-1 : Int32)) ^^^ (-1 : Int32))) = _
    rw [if_neg h1, hpe, show 100 + p - 100 = p by omega, g2, show (40 : Int32) = nI 40 from rfl, nI_add, ce, if_neg (by omega), if_pos (by omega), show 100 + p - 100 = p by omega]
/-- where the reference's ray ends -/
theorem m_follow1 (hM : RoomM W H κ f) (hd : Dim W H) (hk : Kok W H κ) : ∀ (r i s n r' : Nat), i + r' = 100 → r < r' → r' < n → s < 4 * (W * H) → tr W H κ r s ≠ 300 → lpf (fun t : Int32 × Int32 => f_X6_follows_4 f t.1 t.2) n (nI s, nI i) = some (Sum.inl (rc (tr W H κ r s))) := by
  have hN := hd.le
  have hdd := hd
  obtain ⟨d1, d2, d3, d4⟩ := hdd
  intro r
  induction r with
  | zero => intro i s n r' _ _ _ _ h; exact absurd rfl h
  | succ r ih =>
    intro i s n r' hi hr hn hs h
    obtain ⟨m, rfl⟩ : ∃ m, n = m + 1 := ⟨n - 1, by omega⟩
    have st : f_X6_follows_4 f (nI s) (nI i) = if nw (κ (s / 4)) = 2 then some (Sum.inr (Sum.inl (nI s))) else if nw (κ (s / 4)) = 0 then some (Sum.inr (Sum.inl (-1))) else some (Sum.inl ((if go W H κ s 0 < 100 then nI (gs W H κ s 0) else (-2 : Int32) - nI (go W H κ s 0 - 100)), nI (i + 1))) := by
      have hg := m_goes (y := 0) hM hd hk hs (by decide)
      have hg : f_X6_goes f (nI s) 0 = _ := hg
      rw [f_X6_follows_4, show (100 : Int32) = nI 100 from rfl, if_neg (by rw [n_le (by omega) (by omega)]; omega), if_neg (n_neg (by omega)), m_ways hM hd hk hs, bind_s, bind_s, hg, bind_s, nI_1]
      rcases nw_cases (κ (s / 4)) with h0 | h0 | h0
      · rw [h0]; rfl
      · rw [h0]; rfl
      · rw [h0]; rfl
    have hst : (fun t : Int32 × Int32 => f_X6_follows_4 f t.1 t.2) (nI s, nI i) = _ := st
    rw [tr] at h ⊢
    by_cases h2 : nw (κ (s / 4)) = 2
    · rw [if_pos h2] at hst h ⊢
      rw [lpf_inr hst, rc, if_pos (by omega)]
    · rw [if_neg h2] at hst h ⊢
      by_cases h0 : nw (κ (s / 4)) = 0
      · rw [if_pos h0] at hst h ⊢
        rw [lpf_inr hst]
        rfl
      · rw [if_neg h0] at hst h ⊢
        by_cases h1 : go W H κ s 0 < 100
        · rw [if_pos h1] at hst h ⊢
          rw [lpf_inl hst]
          exact ih (i + 1) _ m (r' - 1) (by omega) (by omega) (by omega) (gs_lt hd hk hs h1) h
        · rw [if_neg h1] at hst h ⊢
          obtain ⟨p, hp, hpe⟩ := go_port hd hk hs h1
          rw [lpf_inl hst, hpe, show 100 + p - 100 = p by omega, rc, if_neg (by omega), if_pos (by omega), show 100 + p - 100 = p by omega]
          obtain ⟨m', rfl⟩ : ∃ m', m = m' + 1 := ⟨m - 1, by omega⟩
          refine lpf_inr ?_
          show f_X6_follows_4 f ((-2 : Int32) - nI p) (nI (i + 1)) = _
          rw [f_X6_follows_4, show (100 : Int32) = nI 100 from rfl, if_neg (by rw [n_le (by omega) (by omega)]; omega), if_pos (m4_fin (show p < 90 by omega) (q := 0) (by decide)).2.1]
theorem m_follow2 (hM : RoomM W H κ f) (hd : Dim W H) (hk : Kok W H κ) : ∀ (r i s n : Nat), i + r = 100 → r < n → s < 4 * (W * H) → tr W H κ r s = 300 → lpf (fun t : Int32 × Int32 => f_X6_follows_4 f t.1 t.2) n (nI s, nI i) = some (Sum.inr ()) := by
  have hN := hd.le
  have hdd := hd
  obtain ⟨d1, d2, d3, d4⟩ := hdd
  intro r
  induction r with
  | zero =>
    intro i s n hi hn hs _
    obtain ⟨m, rfl⟩ : ∃ m, n = m + 1 := ⟨n - 1, by omega⟩
    refine lpf_inr ?_
    show f_X6_follows_4 f (nI s) (nI i) = _
    rw [f_X6_follows_4, show (100 : Int32) = nI 100 from rfl, if_pos ((n_le (by omega) (by omega)).mpr (by omega))]
  | succ r ih =>
    intro i s n hi hn hs h
    obtain ⟨m, rfl⟩ : ∃ m, n = m + 1 := ⟨n - 1, by omega⟩
    have hcont := (tr_300 hd hk (r + 1) s hs).mp h 0 (by omega)
    have h0 : nw (κ (s / 4)) = 1 := hcont.1
    have h1 : go W H κ s 0 < 100 := hcont.2
    rw [tr, if_neg (by omega), if_neg (by omega), if_pos h1] at h
    have st : f_X6_follows_4 f (nI s) (nI i) = some (Sum.inl (nI (gs W H κ s 0), nI (i + 1))) := by
      have hg := m_goes (y := 0) hM hd hk hs (by decide)
      have hg : f_X6_goes f (nI s) 0 = _ := hg
      rw [f_X6_follows_4, show (100 : Int32) = nI 100 from rfl, if_neg (by rw [n_le (by omega) (by omega)]; omega), if_neg (n_neg (by omega)), m_ways hM hd hk hs, bind_s, bind_s, hg, bind_s, nI_1, if_pos h1, h0]
      rfl
    have hst : (fun t : Int32 × Int32 => f_X6_follows_4 f t.1 t.2) (nI s, nI i) = _ := st
    rw [lpf_inl hst]
    exact ih (i + 1) _ m (by omega) (by omega) (gs_lt hd hk hs h1) h
theorem m_follows (hM : RoomM W H κ f) (hd : Dim W H) (hk : Kok W H κ) {s : Nat} (hs : s < 4 * (W * H)) : f_X6_follows f (nI s) = some (rc (tr W H κ 80 s)) := by
  rw [f_X6_follows, show ((nI s, (0 : Int32)) : Int32 × Int32) = (nI s, nI 0) from rfl]
  by_cases h : tr W H κ 80 s = 300
  · rw [m_follow2 hM hd hk 100 0 s 1000 rfl (by decide) hs (tr_round hd hk hs h 100), h]
    rfl
  · rw [m_follow1 hM hd hk 80 0 s 1000 100 rfl (by decide) (by decide) hs h]
    rfl
theorem m_follow (hM : RoomM W H κ f) (hd : Dim W H) (hk : Kok W H κ) {s y : Nat} (hs : s < 4 * (W * H)) (hy : y < 2) : ∃ r, f_X6_goes f (nI s) (nI y) = some r ∧ f_X6_follows f r = some (rc (en W H κ s y)) := by
  have hdd := hd
  obtain ⟨d1, d2, d3, d4⟩ := hdd
  refine ⟨_, m_goes hM hd hk hs hy, ?_⟩
  rw [en]
  by_cases h1 : go W H κ s y < 100
  · rw [if_pos h1, if_pos h1]
    exact m_follows hM hd hk (gs_lt hd hk hs h1)
  · obtain ⟨p, hp, hpe⟩ := go_port hd hk hs h1
    rw [if_neg h1, if_neg h1, hpe, show 100 + p - 100 = p by omega, f_X6_follows, rc, if_neg (by omega), if_pos (by omega), show 100 + p - 100 = p by omega]
    have st : f_X6_follows_4 f ((-2 : Int32) - nI p) 0 = some (Sum.inr (Sum.inl ((-2 : Int32) - nI p))) := by
      rw [f_X6_follows_4, if_neg (by decide), if_pos (m4_fin (show p < 90 by omega) (q := 0) (by decide)).2.1]
    rw [lpf_inr (n := 999) (f := fun t : Int32 × Int32 => f_X6_follows_4 f t.1 t.2) (s := ((-2 : Int32) - nI p, 0)) st]
    rfl
end TR
