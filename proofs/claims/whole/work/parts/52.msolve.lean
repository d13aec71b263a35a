/-! ===== the reference's elimination ===== -/
section MS
variable {n : Nat} {A : Nat → Nat → Int} {rk : Nat → Nat}
theorem m_elim1 (hA : MM n A rk) (hn : n ≤ 20) {k i : Nat} (hk : k < n) (hi : i < n) (hne : k < i) (mu mv : Int64) {mw : Nat → Int64} (h1 : ∀ j, k ≤ j → j ≤ n → mw (21 * i + j) = lZ (gZ A k i j)) (h2 : ∀ j, k ≤ j → j ≤ n → mw (21 * k + j) = lZ (gZ A k k j)) : ∃ r, lpf (fun s : Int32 × (Nat → Int64) => f_X6_solves_59 mu mv (nI n) (lZ (gd A k)) (nI k) (lZ (gZ A k k k)) (nI i) (lZ (gZ A k i k)) s.1 s.2) 1000 (nI k, mw) = some r ∧ (∀ j, k < j → j ≤ n → r (21 * i + j) = lZ (gZ A (k + 1) i j)) ∧ ∀ a j, a ≠ i → j ≤ n → r (21 * a + j) = mw (21 * a + j) := by
  have hgd := gd_c hA hn (show k ≤ n by omega)
  have hw := lZ_ne (a := gd A k) (by omega) (by omega) (by omega)
  refine lpf_run (σ := Int32 × (Nat → Int64)) (τ := Nat → Int64) (fun s => ∃ j : Nat, k ≤ j ∧ j ≤ n + 1 ∧ s.1 = nI j ∧ (∀ l, k < l → l < j → s.2 (21 * i + l) = lZ (gZ A (k + 1) i l)) ∧ (∀ l, j ≤ l → l ≤ n → s.2 (21 * i + l) = lZ (gZ A k i l)) ∧ ∀ a l, a ≠ i → l ≤ n → s.2 (21 * a + l) = mw (21 * a + l)) _ (fun s => 999 - s.1.toNatClampNeg) ?_ 1000 _ ⟨k, Nat.le_refl k, by omega, rfl, fun l h1 h2 => by omega, fun l a b => h1 l a b, fun a l _ _ => rfl⟩ (by omega)
  rintro ⟨x, g⟩ ⟨j, hkj, hj, rfl, ha, hb, hc⟩
  dsimp only at ha hb hc ⊢
  by_cases h : n < j
  · exact Or.inr ⟨g, by rw [f_X6_solves_59, if_pos ((n_lt (by omega) (by omega)).mpr h)], fun l q1 q2 => ha l q1 (by omega), hc⟩
  · have hel := lZ_el (a := gZ A k i j) (b := gZ A k k k) (c := gZ A k i k) (d := gZ A k k j) (e := gd A k) (q := gZ A (k + 1) i j) (by have := gZ_s hA hk hi (by omega) j; rw [Int.mul_comm (gZ A k i j)]; exact this) hgd.1 (by omega) (gZ_c hA (by omega) (by omega) hi (by omega)) (gZ_c hA (by omega) (by omega) hk (by omega)) (gZ_c hA (by omega) (by omega) hi (by omega)) (gZ_c hA (by omega) (by omega) hk (by omega))
    have hkr : g (21 * k + j) = lZ (gZ A k k j) := by rw [hc k j (by omega) (by omega)]; exact h2 j hkj (by omega)
    have st : f_X6_solves_59 mu mv (nI n) (lZ (gd A k)) (nI k) (lZ (gZ A k k k)) (nI i) (lZ (gZ A k i k)) (nI j) g = some (Sum.inl (nI (j + 1), vp_updL g (21 * i + j) (lZ (gZ A (k + 1) i j)))) := by
      rw [f_X6_solves_59, if_neg (by rw [n_lt (by omega) (by omega)]; exact h), show (21 : Int32) = nI 21 from rfl, pk_mul, pk_mul, nI_add, nI_add, chk_t (aix_n (by omega) (by decide)), chk_t (aix_n (by omega) (by decide)), chk_t hw, nI_c (21 * i + j) (by omega), nI_c (21 * k + j) (by omega), hb j (Nat.le_refl j) (by omega), hkr, nI_1, hel]
    refine Or.inl ⟨_, st, ⟨j + 1, by omega, by omega, rfl, fun l q1 q2 => ?_, fun l q1 q2 => ?_, fun a l q1 q2 => ?_⟩, ?_⟩
    · show vp_updL g (21 * i + j) _ (21 * i + l) = _
      by_cases e : l = j
      · subst e; rw [pk_uLs]
      · rw [pk_uLn (by omega)]; exact ha l q1 (by omega)
    · show vp_updL g (21 * i + j) _ (21 * i + l) = _
      rw [pk_uLn (by omega)]; exact hb l (by omega) q2
    · show vp_updL g (21 * i + j) _ (21 * a + l) = _
      rw [pk_uLn (by omega)]; exact hc a l q1 q2
    · show 999 - (nI (j + 1)).toNatClampNeg < 999 - (nI j).toNatClampNeg
      rw [nI_c _ (by omega), nI_c _ (by omega)]
      omega
theorem m_elim2 (hA : MM n A rk) (hn : n ≤ 20) {k : Nat} (hk : k < n) (mu mv : Int64) {mw : Nat → Int64} (hM : ∀ a j, k ≤ a → a < n → k ≤ j → j ≤ n → mw (21 * a + j) = lZ (gZ A k a j)) : ∃ r, lpf (fun s : Int32 × (Nat → Int64) => f_X6_solves_34 mu mv (nI n) (lZ (gd A k)) (nI k) (lZ (gZ A k k k)) s.1 s.2) 1000 (nI (k + 1), mw) = some r ∧ ∀ a j, k < a → a < n → k < j → j ≤ n → r (21 * a + j) = lZ (gZ A (k + 1) a j) := by
  refine lpf_run (σ := Int32 × (Nat → Int64)) (τ := Nat → Int64) (fun s => ∃ i : Nat, k < i ∧ i ≤ n ∧ s.1 = nI i ∧ (∀ a j, k < a → a < i → k < j → j ≤ n → s.2 (21 * a + j) = lZ (gZ A (k + 1) a j)) ∧ (∀ a j, (i ≤ a ∨ a = k) → a < n → k ≤ j → j ≤ n → s.2 (21 * a + j) = lZ (gZ A k a j))) _ (fun s => 999 - s.1.toNatClampNeg) ?_ 1000 _ ⟨k + 1, by omega, by omega, rfl, fun a j h1 h2 => by omega, fun a j h1 h2 h3 h4 => hM a j (by omega) h2 h3 h4⟩ (by omega)
  rintro ⟨x, M⟩ ⟨i, hki, hi, rfl, ha, hb⟩
  dsimp only at ha hb ⊢
  by_cases h : n ≤ i
  · exact Or.inr ⟨M, by rw [f_X6_solves_34, if_pos ((n_le (by omega) (by omega)).mpr h)], fun a j h1 h2 h3 h4 => ha a j h1 (by omega) h3 h4⟩
  · have hlt : i < n := by omega
    obtain ⟨r, hr, r1, r2⟩ := m_elim1 hA hn hk hlt hki mu mv (mw := M) (fun j h1 h2 => hb i j (Or.inl (Nat.le_refl i)) hlt h1 h2) (fun j h1 h2 => hb k j (Or.inr rfl) hk h1 h2)
    have hf : M (21 * i + k) = lZ (gZ A k i k) := hb i k (Or.inl (Nat.le_refl i)) hlt (Nat.le_refl k) (by omega)
    have st : f_X6_solves_34 mu mv (nI n) (lZ (gd A k)) (nI k) (lZ (gZ A k k k)) (nI i) M = some (Sum.inl (nI (i + 1), r)) := by
      rw [f_X6_solves_34, if_neg (by rw [n_le (by omega) (by omega)]; exact h), show (21 : Int32) = nI 21 from rfl, pk_mul, nI_add, chk_t (aix_n (by omega) (by decide)), nI_c (21 * i + k) (by omega), hf, hr, bind_s, nI_1]
    refine Or.inl ⟨_, st, ⟨i + 1, by omega, by omega, rfl, fun a j h1 h2 h3 h4 => ?_, fun a j h1 h2 h3 h4 => ?_⟩, ?_⟩
    · show r (21 * a + j) = _
      by_cases g : a = i
      · subst g; exact r1 j h3 h4
      · rw [r2 a j g h4]; exact ha a j h1 (by omega) h3 h4
    · show r (21 * a + j) = _
      rw [r2 a j (by omega) h4]; exact hb a j (by omega) h2 h3 h4
    · show 999 - (nI (i + 1)).toNatClampNeg < 999 - (nI i).toNatClampNeg
      rw [nI_c _ (by omega), nI_c _ (by omega)]
      omega
theorem m_solves (hA : MM n A rk) (hn : n ≤ 20) (h0 : 0 < n) (mu mv : Int64) {mw : Nat → Int64} (hM : ∀ a j, a < n → j ≤ n → mw (21 * a + j) = lZ (A a j)) : ∃ r, f_X6_solves mu mv mw (nI n) = some r ∧ r.1 = lZ (gZ A n (n - 1) n) ∧ r.2.1 = lZ (gd A n) := by
  have key : ∃ r, lpf (fun s : Int64 × Int32 × (Nat → Int64) => f_X6_solves_5 mu mv (nI n) s.1 s.2.1 s.2.2) 1000 ((1 : Int64), (0 : Int32), mw) = some r ∧ ∀ j, n - 1 ≤ j → j ≤ n → r (21 * (n - 1) + j) = lZ (gZ A (n - 1) (n - 1) j) := by
    refine lpf_run (σ := Int64 × Int32 × (Nat → Int64)) (τ := Nat → Int64) (fun s => ∃ k : Nat, k < n ∧ s.2.1 = nI k ∧ s.1 = lZ (gd A k) ∧ ∀ a j, k ≤ a → a < n → k ≤ j → j ≤ n → s.2.2 (21 * a + j) = lZ (gZ A k a j)) _ (fun s => 999 - s.2.1.toNatClampNeg) ?_ 1000 _ ⟨0, h0, rfl, rfl, fun a j _ h1 _ h3 => by rw [gZ_0]; exact hM a j h1 h3⟩ (by omega)
    rintro ⟨w, x, M⟩ ⟨k, hk, rfl, rfl, hM⟩
    dsimp only at hM ⊢
    by_cases h : n - 1 ≤ k
    · have e : k = n - 1 := by omega
      subst e
      exact Or.inr ⟨M, by rw [f_X6_solves_5, show (1 : Int32) = nI 1 from rfl, pk_sub (by omega), if_pos ((n_le (by omega) (by omega)).mpr h)], fun j h1 h2 => hM (n - 1) j (Nat.le_refl _) hk h1 h2⟩
    · obtain ⟨M', hM', he⟩ := m_elim2 hA hn hk mu mv hM
      have st : f_X6_solves_5 mu mv (nI n) (lZ (gd A k)) (nI k) M = some (Sum.inl (lZ (gd A (k + 1)), nI (k + 1), M')) := by
        rw [f_X6_solves_5, show (1 : Int32) = nI 1 from rfl, pk_sub (by omega), if_neg (by rw [n_le (by omega) (by omega)]; exact h), show (21 : Int32) = nI 21 from rfl, pk_mul, nI_add, nI_add, chk_t (aix_n (by omega) (by decide)), nI_c (21 * k + k) (by omega), hM k k (Nat.le_refl k) hk (Nat.le_refl k) (by omega), hM', bind_s, gd_s]
      refine Or.inl ⟨_, st, ⟨k + 1, by omega, rfl, rfl, fun a j h1 h2 h3 h4 => he a j (by omega) h2 (by omega) h4⟩, ?_⟩
      show 999 - (nI (k + 1)).toNatClampNeg < 999 - (nI k).toNatClampNeg
      rw [nI_c _ (by omega), nI_c _ (by omega)]
      omega
  obtain ⟨r, hr, hr2⟩ := key
  have e1 := hr2 n (by omega) (Nat.le_refl n)
  have e2 := hr2 (n - 1) (Nat.le_refl _) (by omega)
  have eg : gZ A n (n - 1) n = gZ A (n - 1) (n - 1) n := by
    have := gZ_k hA (show n - 1 < n by omega) n
    rw [show n - 1 + 1 = n by omega] at this
    exact this
  have ed : gd A n = gZ A (n - 1) (n - 1) (n - 1) := by
    have := gd_s (A := A) (n - 1)
    rw [show n - 1 + 1 = n by omega] at this
    exact this
  refine ⟨(lZ (gZ A n (n - 1) n), lZ (gd A n), r), ?_, rfl, rfl⟩
  · rw [f_X6_solves, hr, bind_s, show (1 : Int32) = nI 1 from rfl, pk_sub (by omega), show (21 : Int32) = nI 21 from rfl, pk_mul, nI_add, pk_sub (by omega), chk_t (aix_n (by omega) (by decide)), chk_t (aix_n (by omega) (by decide)), nI_c (21 * (n - 1) + n) (by omega), nI_c (21 * (n - 1) + n - 1) (by omega), e1, show 21 * (n - 1) + n - 1 = 21 * (n - 1) + (n - 1) by omega, e2, eg, ed]
end MS
