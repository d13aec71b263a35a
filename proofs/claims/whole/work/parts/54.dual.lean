/-! ===== what both make of a room ===== -/
theorem iv_iff {p q : Prop} [Decidable p] [Decidable q] (h : p ↔ q) : iv p = iv q := by
  show (if p then (1 : Rat) else 0) = if q then (1 : Rat) else 0
  exact ite_iff h
section DU
variable {W H : Nat} {κ : Nat → Nat} {aq : Nat → Bool} {Q : Nds} {ma : Nat → Bool} {B : Bst} {E0 : Nat} {mk : Nat → Int32} {rk : Nat → Nat}
theorem en_cong {s s' y y' : Nat} (h1 : s / 4 = s' / 4) (h2 : od (κ (s / 4)) (s % 4) y = od (κ (s' / 4)) (s' % 4) y') : en W H κ s y = en W H κ s' y' := by
  have hg : go W H κ s y = go W H κ s' y' := by
    show nx W H (s / 4) (od (κ (s / 4)) (s % 4) y) = nx W H (s' / 4) (od (κ (s' / 4)) (s' % 4) y')
    rw [h2, h1]
  have hs : gs W H κ s y = gs W H κ s' y' := by
    show 4 * go W H κ s y + od (κ (s / 4)) (s % 4) y = 4 * go W H κ s' y' + od (κ (s' / 4)) (s' % 4) y'
    rw [hg, h2]
  show (if go W H κ s y < 100 then tr W H κ 80 (gs W H κ s y) else go W H κ s y) = if go W H κ s' y' < 100 then tr W H κ 80 (gs W H κ s' y') else go W H κ s' y'
  rw [hg, hs]
theorem en_two (hk : Kok W H κ) {e j : Nat} (he : e < 4 * (W * H)) (h : nw (κ (e / 4)) = 2) (hj : sp κ e = j) : (en W H κ e 0 = en W H κ (cs j) 0 ∧ en W H κ e 1 = en W H κ (cs j) 1) ∨ (en W H κ e 0 = en W H κ (cs j) 1 ∧ en W H κ e 1 = en W H κ (cs j) 0) := by
  rcases sp_two hk he h hj with q | q
  · left
    rw [← q]
    exact ⟨rfl, rfl⟩
  · right
    have hj2 : j / 2 = e / 4 := by rw [← hj]; exact sp_d
    have h7 : κ (e / 4) < 8 := by
      have := hk (e / 4) (by omega)
      omega
    obtain ⟨-, hf0, -⟩ := hf_fin h7 (show 2 * (j % 2) < 4 by omega)
    obtain ⟨-, a0, a1⟩ := hf0 h
    obtain ⟨-, -, -, -, -, ktd, ktt⟩ := kd_fin h7 (show 2 * (j % 2) < 4 by omega)
    obtain ⟨-, hf1, -⟩ := hf_fin h7 ktd
    obtain ⟨-, b0, b1⟩ := hf1 h
    rw [hj2] at q
    have em : e % 4 = td (κ (e / 4)) (2 * (j % 2)) := by omega
    refine ⟨en_cong (by rw [cs_d, hj2]) ?_, en_cong (by rw [cs_d, hj2]) ?_⟩
    · rw [cs_d, cs_m, hj2, em, b0, a1]
    · rw [cs_d, cs_m, hj2, em, b1, a0, ktt]
theorem en_one (hk : Kok W H κ) {e j : Nat} (he : e < 4 * (W * H)) (h : nw (κ (e / 4)) = 2) (hj : sp κ e = j) {y : Nat} (hy : y < 2) : ∃ y', y' < 2 ∧ en W H κ e y' = en W H κ (cs j) y := by
  rcases en_two hk he h hj with ⟨q0, q1⟩ | ⟨q0, q1⟩
  · rcases (show y = 0 ∨ y = 1 by omega) with rfl | rfl
    · exact ⟨0, by decide, q0⟩
    · exact ⟨1, by decide, q1⟩
  · rcases (show y = 0 ∨ y = 1 by omega) with rfl | rfl
    · exact ⟨1, by decide, q1⟩
    · exact ⟨0, by decide, q0⟩
theorem ray_node (hk : Kok W H κ) (hI : NdI W H κ E0 (2 * Q.1) Q mk) {k j y : Nat} (hkq : k < Q.1) (hs : sp κ (Q.2 k) = j) (hy : y < 2) (h : en W H κ (cs j) y < 100) : ∃ k', k' < Q.1 ∧ Q.2 k' = en W H κ (cs j) y := by
  obtain ⟨s1, s2⟩ := hI.1.1 k hkq
  obtain ⟨y', hy', e⟩ := en_one hk s1 s2 hs hy
  obtain ⟨-, hx, -⟩ := hI.2.2.2 k y' hy' (by omega)
  obtain ⟨k', c1, c2⟩ := hx (by rw [e]; exact h)
  exact ⟨k', c1, by rw [c2, e]⟩
theorem sp_node (hk : Kok W H κ) (hB : SpI W H κ E0 B.1 B) (hI : NdI W H κ E0 (2 * Q.1) Q mk) (hE : E0 < 100) (i : Nat) : i < B.1 → ∃ k, k < Q.1 ∧ sp κ (Q.2 k) = B.2.1 i := by
  obtain ⟨hB0, hcl, hC, hf1, hf2⟩ := hB
  induction i using Nat.strongRecOn with
  | ind i ih =>
    intro hi
    by_cases e : i = 0
    · subst e
      exact ⟨0, hI.2.1, by rw [hI.2.2.1]; exact (hf1 hE).2.symm⟩
    · obtain ⟨j, y, h1, h2, h3, h4⟩ := hC i (by omega) hi
      obtain ⟨k, k1, k2⟩ := ih j h1 (by omega)
      obtain ⟨k', c1, c2⟩ := ray_node hk hI k1 k2 h2 h3
      exact ⟨k', c1, by rw [c2]; exact h4⟩
noncomputable def GG (W H : Nat) (κ : Nat → Nat) (aq : Nat → Bool) (Q : Nds) (ma : Nat → Bool) (E : Nat) : Rat := iv (aq E = true) * (wR W H κ aq Q ma : Rat) + iv (¬ aq E = true ∧ E < 100) * (UU W H κ aq Q ma (ixq Q.2 Q.1 E - 1) : Rat)
noncomputable def uu (W H : Nat) (κ : Nat → Nat) (aq : Nat → Bool) (Q : Nds) (ma : Nat → Bool) (B : Bst) (i : Nat) : Rat := (GG W H κ aq Q ma (en W H κ (cs (B.2.1 i)) 0) + GG W H κ aq Q ma (en W H κ (cs (B.2.1 i)) 1)) / 2
theorem UU_GG (hI : NdI W H κ E0 (2 * Q.1) Q mk) (hR : Rk W H κ aq Q ma rk) (hC : Cl W H κ aq Q (2 * Q.1) ma) {k : Nat} (hk : k < Q.1) : 2 * (UU W H κ aq Q ma k : Rat) = GG W H κ aq Q ma (en W H κ (Q.2 k) 0) + GG W H κ aq Q ma (en W H κ (Q.2 k) 1) := by
  have h := UU_eq hI hR hC hk
  have one : ∀ y, iv (aq (en W H κ (Q.2 k) y) = true) * (wR W H κ aq Q ma : Rat) + iv (¬ aq (en W H κ (Q.2 k) y) = true ∧ en W H κ (Q.2 k) y < 100) * (UU W H κ aq Q ma (tgN W H κ Q k y - 1) : Rat) = GG W H κ aq Q ma (en W H κ (Q.2 k) y) := by
    intro y
    rw [GG]
    by_cases g : ¬ aq (en W H κ (Q.2 k) y) = true ∧ en W H κ (Q.2 k) y < 100
    · rw [tgN, if_pos g.2]
    · rw [iv_f g, Rat.zero_mul, Rat.zero_mul]
  rw [one 0, one 1] at h
  exact h
theorem uu_node (hk : Kok W H κ) (hI : NdI W H κ E0 (2 * Q.1) Q mk) (hR : Rk W H κ aq Q ma rk) (hC : Cl W H κ aq Q (2 * Q.1) ma) {k i : Nat} (hkq : k < Q.1) (h : sp κ (Q.2 k) = B.2.1 i) : uu W H κ aq Q ma B i = (UU W H κ aq Q ma k : Rat) := by
  have h1 := UU_GG hI hR hC hkq
  obtain ⟨s1, s2⟩ := hI.1.1 k hkq
  rw [uu]
  rcases en_two hk s1 s2 h with ⟨q0, q1⟩ | ⟨q0, q1⟩
  · rw [q0, q1] at h1
    grind
  · rw [q0, q1] at h1
    grind
theorem dual (hk : Kok W H κ) (hB : SpI W H κ E0 B.1 B) (hI : NdI W H κ E0 (2 * Q.1) Q mk) (hR : Rk W H κ aq Q ma rk) (hC : Cl W H κ aq Q (2 * Q.1) ma) (hA : ∀ E, E < 100 → ¬ aq E = true) (hE : E0 < 100) {X : Nat → Rat} {w : Rat} (hX : ∀ t, t < B.1 → sm B.1 (fun j => (cA B.1 (tgB W H κ B) t j : Rat) * X j) = w * iv (t = 0)) : (wR W H κ aq Q ma : Rat) * sm B.1 (fun j => X j * (iv (aq (en W H κ (cs (B.2.1 j)) 0) = true) + iv (aq (en W H κ (cs (B.2.1 j)) 1) = true))) = w * (UU W H κ aq Q ma 0 : Rat) := by
  have hB' := hB
  obtain ⟨hB0, hcl, hC0, hf1, hf2⟩ := hB'
  obtain ⟨hpos, hb0⟩ := hf1 hE
  have htg : ∀ j y, j < B.1 → y < 2 → (en W H κ (cs (B.2.1 j)) y < 100 → tgB W H κ B j y ≠ 0 ∧ tgB W H κ B j y ≤ B.1 ∧ B.2.1 (tgB W H κ B j y - 1) = sp κ (en W H κ (cs (B.2.1 j)) y)) ∧ (¬ en W H κ (cs (B.2.1 j)) y < 100 → tgB W H κ B j y = 0) := by
    intro j y hj hy
    constructor
    · intro g
      have h0 := hcl j y hj hy g
      have h1 := hB0.2 _ h0
      rw [tgB, if_pos g]
      exact ⟨h0, h1.1, h1.2⟩
    · intro g
      rw [tgB, if_neg g]
  have hg : ∀ j y, j < B.1 → y < 2 → GG W H κ aq Q ma (en W H κ (cs (B.2.1 j)) y) = iv (aq (en W H κ (cs (B.2.1 j)) y) = true) * (wR W H κ aq Q ma : Rat) + iv (en W H κ (cs (B.2.1 j)) y < 100) * uu W H κ aq Q ma B (tgB W H κ B j y - 1) := by
    intro j y hj hy
    rw [GG]
    by_cases g : en W H κ (cs (B.2.1 j)) y < 100
    · obtain ⟨k, k1, k2⟩ := sp_node hk hB hI hE j hj
      obtain ⟨k', c1, c2⟩ := ray_node hk hI k1 k2 hy g
      obtain ⟨t1, t2, t3⟩ := (htg j y hj hy).1 g
      have hu := uu_node (aq := aq) (ma := ma) (B := B) (i := tgB W H κ B j y - 1) hk hI hR hC c1 (by rw [c2, t3])
      have hx : ixq Q.2 Q.1 (en W H κ (cs (B.2.1 j)) y) = k' + 1 := by
        rw [← c2]
        exact ixq_hit Q.1 hI.1.2 c1
      rw [iv_t g, iv_t (p := ¬ aq (en W H κ (cs (B.2.1 j)) y) = true ∧ en W H κ (cs (B.2.1 j)) y < 100) ⟨hA _ g, g⟩, hx, show k' + 1 - 1 = k' by omega, hu]
    · rw [iv_f g, iv_f (fun q : ¬ aq (en W H κ (cs (B.2.1 j)) y) = true ∧ en W H κ (cs (B.2.1 j)) y < 100 => g q.2), Rat.zero_mul, Rat.zero_mul]
  have hu : ∀ j, j < B.1 → 2 * uu W H κ aq Q ma B j = (iv (aq (en W H κ (cs (B.2.1 j)) 0) = true) * (wR W H κ aq Q ma : Rat) + iv (en W H κ (cs (B.2.1 j)) 0 < 100) * uu W H κ aq Q ma B (tgB W H κ B j 0 - 1)) + (iv (aq (en W H κ (cs (B.2.1 j)) 1) = true) * (wR W H κ aq Q ma : Rat) + iv (en W H κ (cs (B.2.1 j)) 1 < 100) * uu W H κ aq Q ma B (tgB W H κ B j 1 - 1)) := by
    intro j hj
    rw [← hg j 0 hj (by decide), ← hg j 1 hj (by decide)]
    have e : uu W H κ aq Q ma B j = (GG W H κ aq Q ma (en W H κ (cs (B.2.1 j)) 0) + GG W H κ aq Q ma (en W H κ (cs (B.2.1 j)) 1)) / 2 := rfl
    rw [e]
    grind
  -- one column
  have col : ∀ j, j < B.1 → sm B.1 (fun t => uu W H κ aq Q ma B t * (cA B.1 (tgB W H κ B) t j : Rat)) = (wR W H κ aq Q ma : Rat) * (iv (aq (en W H κ (cs (B.2.1 j)) 0) = true) + iv (aq (en W H κ (cs (B.2.1 j)) 1) = true)) := by
    intro j hj
    have s1 : sm B.1 (fun t => uu W H κ aq Q ma B t * iv (j = t)) = uu W H κ aq Q ma B j := by
      rw [← iv_sum hj (uu W H κ aq Q ma B)]
      exact sm_cong (fun t _ => by rw [iv_iff (p := j = t) (q := t = j) ⟨fun q => q.symm, fun q => q.symm⟩])
    have s2 : ∀ y, y < 2 → sm B.1 (fun t => uu W H κ aq Q ma B t * iv (tgB W H κ B j y = t + 1)) = iv (en W H κ (cs (B.2.1 j)) y < 100) * uu W H κ aq Q ma B (tgB W H κ B j y - 1) := by
      intro y hy
      by_cases g : en W H κ (cs (B.2.1 j)) y < 100
      · obtain ⟨t1, t2, t3⟩ := (htg j y hj hy).1 g
        rw [iv_t g, Rat.one_mul, ← iv_sum (show tgB W H κ B j y - 1 < B.1 by omega) (uu W H κ aq Q ma B)]
        exact sm_cong (fun t _ => by rw [iv_iff (p := tgB W H κ B j y = t + 1) (q := t = tgB W H κ B j y - 1) (by omega)])
      · have t0 := (htg j y hj hy).2 g
        rw [iv_f g, Rat.zero_mul]
        exact sm_zero (fun t _ => by rw [iv_f (show ¬ tgB W H κ B j y = t + 1 by omega), Rat.mul_zero])
    have e : sm B.1 (fun t => uu W H κ aq Q ma B t * (cA B.1 (tgB W H κ B) t j : Rat)) = 2 * sm B.1 (fun t => uu W H κ aq Q ma B t * iv (j = t)) + (-1) * sm B.1 (fun t => uu W H κ aq Q ma B t * iv (tgB W H κ B j 0 = t + 1) + uu W H κ aq Q ma B t * iv (tgB W H κ B j 1 = t + 1)) := sm_lin (fun t _ => by
      rw [cA_e hj]
      generalize iv (j = t) = i1
      generalize iv (tgB W H κ B j 0 = t + 1) = i2
      generalize iv (tgB W H κ B j 1 = t + 1) = i3
      generalize uu W H κ aq Q ma B t = i4
      grind)
    rw [e, s1, sm_add, s2 0 (by decide), s2 1 (by decide)]
    have := hu j hj
    grind
  -- all of them, both ways
  have l1 : sm B.1 (fun t => uu W H κ aq Q ma B t * sm B.1 (fun j => (cA B.1 (tgB W H κ B) t j : Rat) * X j)) = w * uu W H κ aq Q ma B 0 := by
    have e : sm B.1 (fun t => uu W H κ aq Q ma B t * sm B.1 (fun j => (cA B.1 (tgB W H κ B) t j : Rat) * X j)) = sm B.1 (fun t => (w * uu W H κ aq Q ma B t) * iv (t = 0)) := sm_cong (fun t ht => by rw [hX t ht]; grind)
    rw [e, iv_sum hpos (fun t => w * uu W H κ aq Q ma B t)]
  have l2 : sm B.1 (fun t => uu W H κ aq Q ma B t * sm B.1 (fun j => (cA B.1 (tgB W H κ B) t j : Rat) * X j)) = sm B.1 (fun j => X j * sm B.1 (fun t => uu W H κ aq Q ma B t * (cA B.1 (tgB W H κ B) t j : Rat))) := by
    have e1 : sm B.1 (fun t => uu W H κ aq Q ma B t * sm B.1 (fun j => (cA B.1 (tgB W H κ B) t j : Rat) * X j)) = sm B.1 (fun t => sm B.1 (fun j => uu W H κ aq Q ma B t * ((cA B.1 (tgB W H κ B) t j : Rat) * X j))) := sm_cong (fun t _ => by rw [sm_mul])
    have e2 : sm B.1 (fun j => X j * sm B.1 (fun t => uu W H κ aq Q ma B t * (cA B.1 (tgB W H κ B) t j : Rat))) = sm B.1 (fun j => sm B.1 (fun t => uu W H κ aq Q ma B t * ((cA B.1 (tgB W H κ B) t j : Rat) * X j))) := sm_cong (fun j _ => by
      rw [← sm_mul]
      exact sm_cong (fun t _ => by grind))
    rw [e1, e2, sm_swap]
  have l3 : sm B.1 (fun j => X j * sm B.1 (fun t => uu W H κ aq Q ma B t * (cA B.1 (tgB W H κ B) t j : Rat))) = (wR W H κ aq Q ma : Rat) * sm B.1 (fun j => X j * (iv (aq (en W H κ (cs (B.2.1 j)) 0) = true) + iv (aq (en W H κ (cs (B.2.1 j)) 1) = true))) := by
    rw [← sm_mul]
    exact sm_cong (fun j hj => by rw [col j hj]; grind)
  have h0 := uu_node (aq := aq) (ma := ma) (B := B) (i := 0) hk hI hR hC hI.2.1 (by rw [hI.2.2.1, hb0])
  rw [← l3, ← l2, l1, h0]
end DU
