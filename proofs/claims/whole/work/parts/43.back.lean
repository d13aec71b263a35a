/-! ===== two rays never end in one state ===== -/
abbrev BkP (W H c d : Nat) : Prop := 2 ≤ W → 1 ≤ H → c < W * H → nx W H c d < 100 → nx W H (nx W H c d) ((d + 2) % 4) = c
theorem bk_fin {W H c d : Nat} (h1 : W < 6) (h2 : H < 5) (h3 : c < 20) (h4 : d < 4) : BkP W H c d := all4 (A := 6) (B := 5) (C := 20) (D := 4) (P := BkP) (by decide +kernel) h1 h2 h3 h4
abbrev BpP (W H p : Nat) : Prop := 2 ≤ W → 1 ≤ H → p < 2 * (W + H) → nx W H (pcell W H p) ((pdir W H p + 2) % 4) = 100 + p
theorem bp_fin {W H p : Nat} (h1 : W < 6) (h2 : H < 5) (h3 : p < 18) : BpP W H p := all3 (A := 6) (B := 5) (C := 18) (P := BpP) (by decide +kernel) h1 h2 h3
abbrev O1P (k d d' : Nat) : Prop := nw k = 1 → od k d 0 = od k d' 0 → d = d'
theorem o1_fin {k d d' : Nat} (h1 : k < 8) (h2 : d < 4) (h3 : d' < 4) : O1P k d d' := all3 (A := 8) (B := 4) (C := 4) (P := O1P) (by decide +kernel) h1 h2 h3
section BK
variable {W H : Nat} {κ : Nat → Nat}
-- from where a beam came that is in state a
def bk (W H a : Nat) : Nat := nx W H (a / 4) ((a % 4 + 2) % 4)
theorem bk_gs (hd : Dim W H) (hk : Kok W H κ) {s y : Nat} (hs : s < 4 * (W * H)) (h : go W H κ s y < 100) : bk W H (gs W H κ s y) = s / 4 := by
  have hN := hd.le
  have hdd := hd
  obtain ⟨d1, d2, d3, d4⟩ := hdd
  have h7 := ks hk hs
  have ho : od (κ (s / 4)) (s % 4) y < 4 := od_lt h7 (Nat.mod_lt _ (by decide))
  rw [bk, gs, show (4 * go W H κ s y + od (κ (s / 4)) (s % 4) y) / 4 = go W H κ s y by omega, show (4 * go W H κ s y + od (κ (s / 4)) (s % 4) y) % 4 = od (κ (s / 4)) (s % 4) y by omega]
  exact bk_fin (by omega) (by omega) (by omega) ho d1 d3 (by omega) h
theorem gs_mod (hk : Kok W H κ) {s y : Nat} (hs : s < 4 * (W * H)) : gs W H κ s y % 4 = od (κ (s / 4)) (s % 4) y := by
  have ho : od (κ (s / 4)) (s % 4) y < 4 := od_lt (ks hk hs) (Nat.mod_lt _ (by decide))
  rw [gs]
  omega
theorem st_inj (hd : Dim W H) (hk : Kok W H κ) {x y : Nat} (hx : x < 4 * (W * H)) (hy : y < 4 * (W * H)) (cx : Cont W H κ x) (cy : Cont W H κ y) (e : gs W H κ x 0 = gs W H κ y 0) : x = y := by
  have h1 := bk_gs hd hk hx cx.2
  have h2 := bk_gs hd hk hy cy.2
  have h3 := gs_mod (y := 0) hk hx
  have h4 := gs_mod (y := 0) hk hy
  have h7 := ks hk hx
  rw [e] at h1 h3
  have hc : x / 4 = y / 4 := by omega
  rw [← hc] at h4
  have := o1_fin (show κ (x / 4) < 8 by omega) (show x % 4 < 4 by omega) (show y % 4 < 4 by omega) cx.1 (by omega)
  omega
def Fresh (W H : Nat) (κ : Nat → Nat) (a : Nat) : Prop := ∀ x, x < 4 * (W * H) → Cont W H κ x → gs W H κ x 0 ≠ a
theorem peel (hd : Dim W H) (hk : Kok W H κ) {a b : Nat} (ha : a < 4 * (W * H)) (hb : b < 4 * (W * H)) (fa : Fresh W H κ a) (fb : Fresh W H κ b) : ∀ n m, it W H κ n a = it W H κ m b → (∀ i, i < n → Cont W H κ (it W H κ i a)) → (∀ i, i < m → Cont W H κ (it W H κ i b)) → a = b := by
  intro n
  induction n with
  | zero =>
    intro m e _ cb
    cases m with
    | zero => exact e
    | succ m => exact absurd e.symm (fa _ (it_lt hd hk hb m (fun i hi => cb i (by omega))) (cb m (by omega)))
  | succ n ih =>
    intro m e ca cb
    cases m with
    | zero => exact absurd e (fb _ (it_lt hd hk ha n (fun i hi => ca i (by omega))) (ca n (by omega)))
    | succ m => exact ih m (st_inj hd hk (it_lt hd hk ha n (fun i hi => ca i (by omega))) (it_lt hd hk hb m (fun i hi => cb i (by omega))) (ca n (by omega)) (cb m (by omega)) e) (fun i hi => ca i (by omega)) (fun i hi => cb i (by omega))
theorem tr_path (hd : Dim W H) (hk : Kok W H κ) : ∀ (n a : Nat), a < 4 * (W * H) → tr W H κ n a < 100 → ∃ m, it W H κ m a = tr W H κ n a ∧ ∀ i, i < m → Cont W H κ (it W H κ i a) := by
  intro n
  induction n with
  | zero => intro a _ h; exact absurd h (by show ¬ 300 < 100; decide)
  | succ n ih =>
    intro a ha h
    rw [tr] at h ⊢
    by_cases h2 : nw (κ (a / 4)) = 2
    · rw [if_pos h2]
      exact ⟨0, rfl, fun i hi => absurd hi (Nat.not_lt_zero i)⟩
    · rw [if_neg h2] at h ⊢
      by_cases h0 : nw (κ (a / 4)) = 0
      · rw [if_pos h0] at h
        exact absurd h (by decide)
      · rw [if_neg h0] at h ⊢
        by_cases h1 : go W H κ a 0 < 100
        · rw [if_pos h1] at h ⊢
          obtain ⟨m, e, c⟩ := ih _ (gs_lt hd hk ha h1) h
          have hc : Cont W H κ a := ⟨by have := nw_cases (κ (a / 4)); omega, h1⟩
          refine ⟨m + 1, ?_, fun i hi => ?_⟩
          · rw [it_add m 1 a]; exact e
          · rcases Nat.eq_zero_or_pos i with e0 | e0
            · subst e0; exact hc
            · have e2 := it_add (W := W) (H := H) (κ := κ) (i - 1) 1 a
              rw [show i - 1 + 1 = i by omega] at e2
              rw [e2]
              exact c (i - 1) (by omega)
        · rw [if_neg h1] at h
          exact absurd h h1
theorem tr_inj (hd : Dim W H) (hk : Kok W H κ) {a b : Nat} (ha : a < 4 * (W * H)) (hb : b < 4 * (W * H)) (fa : Fresh W H κ a) (fb : Fresh W H κ b) (h : tr W H κ 80 a < 100) (e : tr W H κ 80 a = tr W H κ 80 b) : a = b := by
  obtain ⟨n, h1, c1⟩ := tr_path hd hk 80 a ha h
  obtain ⟨m, h2, c2⟩ := tr_path hd hk 80 b hb (by rw [← e]; exact h)
  exact peel hd hk ha hb fa fb n m (by rw [h1, h2, e]) c1 c2
theorem fresh_half (hd : Dim W H) (hk : Kok W H κ) {s y : Nat} (hs : s < 4 * (W * H)) (h2 : nw (κ (s / 4)) = 2) (h : go W H κ s y < 100) : Fresh W H κ (gs W H κ s y) := by
  intro x hx cx e
  have h1 := bk_gs hd hk hs h
  have h3 := bk_gs hd hk hx cx.2
  have h4 := cx.1
  rw [e, h1] at h3
  rw [← h3] at h4
  omega
theorem fresh_port (hd : Dim W H) (hk : Kok W H κ) {p : Nat} (hp : p < 2 * (W + H)) : Fresh W H κ (4 * pcell W H p + pdir W H p) := by
  intro x hx cx e
  have hN := hd.le
  obtain ⟨-, -, -, q1, q2⟩ := pt hd hp
  have h3 := bk_gs hd hk hx cx.2
  have hdd := hd
  obtain ⟨d1, d2, d3, d4⟩ := hdd
  have h1 := bp_fin (show W < 6 by omega) (show H < 5 by omega) (show p < 18 by omega) d1 d3 hp
  rw [e, bk, show (4 * pcell W H p + pdir W H p) / 4 = pcell W H p by omega, show (4 * pcell W H p + pdir W H p) % 4 = pdir W H p by omega, h1] at h3
  omega
theorem en_go {s y : Nat} (h : en W H κ s y < 100) : go W H κ s y < 100 ∧ tr W H κ 80 (gs W H κ s y) = en W H κ s y := by
  rw [en] at h ⊢
  by_cases h1 : go W H κ s y < 100
  · rw [if_pos h1]; exact ⟨h1, rfl⟩
  · rw [if_neg h1] at h; exact absurd h h1
theorem en_inj (hd : Dim W H) (hk : Kok W H κ) {s y s' y' : Nat} (hs : s < 4 * (W * H)) (hs' : s' < 4 * (W * H)) (h2 : nw (κ (s / 4)) = 2) (h2' : nw (κ (s' / 4)) = 2) (h : en W H κ s y < 100) (e : en W H κ s y = en W H κ s' y') : s / 4 = s' / 4 ∧ od (κ (s / 4)) (s % 4) y = od (κ (s / 4)) (s' % 4) y' := by
  obtain ⟨g1, t1⟩ := en_go h
  obtain ⟨g2, t2⟩ := en_go (show en W H κ s' y' < 100 by rw [← e]; exact h)
  have hab := tr_inj hd hk (gs_lt hd hk hs g1) (gs_lt hd hk hs' g2) (fresh_half hd hk hs h2 g1) (fresh_half hd hk hs' h2' g2) (by rw [t1]; exact h) (by rw [t1, t2, e])
  have b1 := bk_gs hd hk hs g1
  have b2 := bk_gs hd hk hs' g2
  have m1 := gs_mod (y := y) hk hs
  have m2 := gs_mod (y := y') hk hs'
  rw [hab] at b1 m1
  have hc : s / 4 = s' / 4 := by omega
  rw [← hc] at m2
  exact ⟨hc, by omega⟩
theorem en_port (hd : Dim W H) (hk : Kok W H κ) {s y p : Nat} (hs : s < 4 * (W * H)) (h2 : nw (κ (s / 4)) = 2) (hp : p < 2 * (W + H)) (h : en W H κ s y < 100) : en W H κ s y ≠ tr W H κ 80 (4 * pcell W H p + pdir W H p) := by
  intro e
  have hN := hd.le
  obtain ⟨-, -, -, q1, q2⟩ := pt hd hp
  obtain ⟨g1, t1⟩ := en_go h
  have hab := tr_inj hd hk (gs_lt hd hk hs g1) (show 4 * pcell W H p + pdir W H p < 4 * (W * H) by omega) (fresh_half hd hk hs h2 g1) (fresh_port hd hk hp) (by rw [t1]; exact h) (by rw [t1, e])
  have b1 := bk_gs hd hk hs g1
  have hdd := hd
  obtain ⟨d1, d2, d3, d4⟩ := hdd
  have h1 := bp_fin (show W < 6 by omega) (show H < 5 by omega) (show p < 18 by omega) d1 d3 hp
  rw [hab, bk, show (4 * pcell W H p + pdir W H p) / 4 = pcell W H p by omega, show (4 * pcell W H p + pdir W H p) % 4 = pdir W H p by omega, h1] at b1
  omega
end BK
