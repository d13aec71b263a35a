/-! ===== the class's elimination and the parts ===== -/
theorem two_pow_le {k : Nat} (h : k ≤ 20) : (2 : Int) ^ k ≤ 1048576 := by
  have h1 : 2 ^ k ≤ 2 ^ 20 := Nat.pow_le_pow_right (by decide) h
  have e : ((2 ^ k : Nat) : Int) = (2 : Int) ^ k := by rw [Int.natCast_pow]; rfl
  omega
theorem gd_c {n : Nat} {A : Nat → Nat → Int} {rk : Nat → Nat} (h : MM n A rk) (hn : n ≤ 20) {k : Nat} (hk : k ≤ n) : 0 < gd A k ∧ gd A k ≤ 1048576 := by
  have h1 := gd_b h hk
  have h2 := two_pow_le (show k ≤ 20 by omega)
  omega
theorem gZ_c {n : Nat} {A : Nat → Nat → Int} {rk : Nat → Nat} (h : MM n A rk) (hn : n ≤ 20) {k i j : Nat} (hk : k ≤ n) (hi : i < n) (hj : j ≤ n) : -(2 ^ 30) ≤ gZ A k i j ∧ gZ A k i j ≤ 2 ^ 30 := by
  have h1 := gd_c h hn hk
  have h2 := gZ_b h hk hi hj
  omega
section SV
variable {n : Nat} {A : Nat → Nat → Int} {rk : Nat → Nat}
theorem x_clear (hA : MM n A rk) (hn : n ≤ 10) {k i : Nat} (hk : k < n) (hi : i < n) (hne : i ≠ k) {g1 g2 : Nat → Int64} (h1 : ∀ j, k ≤ j → j ≤ n → g1 j = lZ (gZ A k i j)) (h2 : ∀ j, k ≤ j → j ≤ n → g2 j = lZ (gZ A k k j)) : ∃ r, f_X0_clearColumn 11 11 (nI n) (lZ (gd A k)) g1 g2 (nI k) (lZ (gZ A k k k)) = some r ∧ ∀ j, k < j → j ≤ n → r j = lZ (gZ A (k + 1) i j) := by
  have hgd := gd_c hA (show n ≤ 20 by omega) (show k ≤ n by omega)
  have hw := lZ_ne (a := gd A k) (by omega) (by omega) (by omega)
  have key : ∃ r, lpf (fun s : Int32 × (Nat → Int64) => f_X0_clearColumn_5 11 11 (nI n) (lZ (gd A k)) g2 (nI k) (lZ (gZ A k k k)) s.1 s.2) 1000 ((nI k + (1 : Int32)), g1) = some r ∧ ∀ j, k < j → j ≤ n → r j = lZ (gZ A (k + 1) i j) := by
    refine lpf_run (σ := Int32 × (Nat → Int64)) (τ := Nat → Int64) (fun s => ∃ j : Nat, k < j ∧ j ≤ n + 1 ∧ s.1 = nI j ∧ (∀ l, k < l → l < j → s.2 l = lZ (gZ A (k + 1) i l)) ∧ (∀ l, j ≤ l → l ≤ n → s.2 l = lZ (gZ A k i l)) ∧ s.2 k = lZ (gZ A k i k)) _ (fun s => 999 - s.1.toNatClampNeg) ?_ 1000 _ ⟨k + 1, by omega, by omega, nI_1 k, fun l h1 h2 => by omega, fun l a b => h1 l (by omega) b, h1 k (Nat.le_refl k) (by omega)⟩ (by omega)
    rintro ⟨x, g⟩ ⟨j, hkj, hj, rfl, ha, hb, hc⟩
    dsimp only at ha hb hc ⊢
    by_cases h : n < j
    · exact Or.inr ⟨g, by rw [f_X0_clearColumn_5, if_pos ((n_lt (by omega) (by omega)).mpr h)], fun l q1 q2 => ha l q1 (by omega)⟩
    · have st : f_X0_clearColumn_5 11 11 (nI n) (lZ (gd A k)) g2 (nI k) (lZ (gZ A k k k)) (nI j) g = some (Sum.inl (nI (j + 1), vp_updL g j (lZ (gZ A (k + 1) i j)))) := by
        rw [f_X0_clearColumn_5, if_neg (by rw [n_lt (by omega) (by omega)]; exact h), if_neg (cmp_ne hw), chk_t (aix_n (by omega) (by decide)), chk_t (aix_n (by omega) (by decide)), chk_t (aix_n (by omega) (by decide)), chk_t hw, nI_c j (by omega), nI_c k (by omega), hb j (Nat.le_refl j) (by omega), hc, h2 j (by omega) (by omega), nI_1, lZ_el (gZ_s hA hk hi hne j) hgd.1 (by omega) (gZ_c hA (by omega) (by omega) hk (by omega)) (gZ_c hA (by omega) (by omega) hi (by omega)) (gZ_c hA (by omega) (by omega) hi (by omega)) (gZ_c hA (by omega) (by omega) hk (by omega))]
      refine Or.inl ⟨_, st, ⟨j + 1, by omega, by omega, rfl, fun l q1 q2 => ?_, fun l q1 q2 => ?_, ?_⟩, ?_⟩
      · show vp_updL g j _ l = _
        by_cases e : l = j
        · subst e; rw [pk_uLs]
        · rw [pk_uLn e]; exact ha l q1 (by omega)
      · show vp_updL g j _ l = _
        rw [pk_uLn (by omega)]; exact hb l (by omega) q2
      · show vp_updL g j _ k = _
        rw [pk_uLn (by omega)]; exact hc
      · show 999 - (nI (j + 1)).toNatClampNeg < 999 - (nI j).toNatClampNeg
        rw [nI_c _ (by omega), nI_c _ (by omega)]
        omega
  obtain ⟨r, hr, hr2⟩ := key
  exact ⟨r, by rw [f_X0_clearColumn, hr, bind_s], hr2⟩
theorem x_solve1 (hA : MM n A rk) (hn : n ≤ 10) {k : Nat} (hk : k < n) {M : Nat → Nat → Int64} (hM : ∀ a j, a < n → k ≤ j → j ≤ n → M a j = lZ (gZ A k a j)) : ∃ M', lpf (fun s : Int32 × (Nat → Nat → Int64) => f_X0_solveRows_27 (nI n) (lZ (gd A k)) (nI k) (lZ (gZ A k k k)) s.1 s.2) 1000 ((0 : Int32), M) = some M' ∧ ∀ a j, a < n → k < j → j ≤ n → M' a j = lZ (gZ A (k + 1) a j) := by
  refine lpf_run (σ := Int32 × (Nat → Nat → Int64)) (τ := Nat → Nat → Int64) (fun s => ∃ i : Nat, i ≤ n ∧ s.1 = nI i ∧ (∀ a j, a < n → (a < i ∨ a = k) → k < j → j ≤ n → s.2 a j = lZ (gZ A (k + 1) a j)) ∧ (∀ a j, a < n → (i ≤ a ∨ a = k) → k ≤ j → j ≤ n → s.2 a j = lZ (gZ A k a j))) _ (fun s => 999 - s.1.toNatClampNeg) ?_ 1000 _ ⟨0, by omega, rfl, fun a j h1 h2 h3 h4 => ?_, fun a j h1 _ h3 h4 => hM a j h1 h3 h4⟩ (by omega)
  · rintro ⟨x, M⟩ ⟨i, hi, rfl, ha, hb⟩
    dsimp only at ha hb ⊢
    by_cases h : n ≤ i
    · exact Or.inr ⟨M, by rw [f_X0_solveRows_27, if_pos ((n_le (by omega) (by omega)).mpr h)], fun a j h1 h2 h3 => ha a j h1 (Or.inl (by omega)) h2 h3⟩
    · by_cases e : i = k
      · subst e
        have st : f_X0_solveRows_27 (nI n) (lZ (gd A i)) (nI i) (lZ (gZ A i i i)) (nI i) M = some (Sum.inl (nI (i + 1), M)) := by
          rw [f_X0_solveRows_27, if_neg (by rw [n_le (by omega) (by omega)]; exact h), if_pos rfl, nI_1]
        refine Or.inl ⟨_, st, ⟨i + 1, by omega, rfl, fun a j h1 h2 h3 h4 => ha a j h1 (by omega) h3 h4, fun a j h1 h2 h3 h4 => hb a j h1 (by omega) h3 h4⟩, ?_⟩
        show 999 - (nI (i + 1)).toNatClampNeg < 999 - (nI i).toNatClampNeg
        rw [nI_c _ (by omega), nI_c _ (by omega)]
        omega
      · obtain ⟨r, hr, hr2⟩ := x_clear hA hn hk (show i < n by omega) e (g1 := M i) (g2 := M k) (fun j h1 h2 => hb i j (by omega) (Or.inl (Nat.le_refl i)) h1 h2) (fun j h1 h2 => hb k j hk (Or.inr rfl) h1 h2)
        have st : f_X0_solveRows_27 (nI n) (lZ (gd A k)) (nI k) (lZ (gZ A k k k)) (nI i) M = some (Sum.inl (nI (i + 1), gr_r M i r)) := by
          rw [f_X0_solveRows_27, if_neg (by rw [n_le (by omega) (by omega)]; exact h), if_neg (by rw [n_eq (by omega) (by omega)]; exact e), chk_t (aix_n (by omega) (by decide)), chk_t (aix_n (by omega) (by decide)), chk_t (by rw [nI_c _ (by omega), nI_c _ (by omega)]; exact e), nI_c i (by omega), nI_c k (by omega), hr, bind_s, nI_1]
        refine Or.inl ⟨_, st, ⟨i + 1, by omega, rfl, fun a j h1 h2 h3 h4 => ?_, fun a j h1 h2 h3 h4 => ?_⟩, ?_⟩
        · show gr_r M i r a j = _
          by_cases g : a = i
          · subst g; rw [gr_s]; exact hr2 j h3 h4
          · rw [gr_n g]; exact ha a j h1 (by omega) h3 h4
        · show gr_r M i r a j = _
          rw [gr_n (by omega)]; exact hb a j h1 (by omega) h3 h4
        · show 999 - (nI (i + 1)).toNatClampNeg < 999 - (nI i).toNatClampNeg
          rw [nI_c _ (by omega), nI_c _ (by omega)]
          omega
  · have e : a = k := by omega
    subst e
    show M a j = _
    rw [gZ_k hA h1, hM a j h1 (by omega) h4]
theorem x_solveRows (hA : MM n A rk) (hn : n ≤ 10) {M : Nat → Nat → Int64} (bw : Int64) (hM : ∀ a j, a < n → j ≤ n → M a j = lZ (A a j)) : ∃ r, f_X0_solveRows (nI n) bw M = some r ∧ r.1 = lZ (gd A n) ∧ ∀ a, a < n → r.2 a n = lZ (gZ A n a n) := by
  have key : ∃ r, lpf (fun s : Int32 × Int64 × (Nat → Nat → Int64) => f_X0_solveRows_7 (nI n) s.1 s.2.1 s.2.2) 1000 ((0 : Int32), (1 : Int64), M) = some r ∧ r.1 = lZ (gd A n) ∧ ∀ a, a < n → r.2 a n = lZ (gZ A n a n) := by
    refine lpf_run (σ := Int32 × Int64 × (Nat → Nat → Int64)) (τ := Int64 × (Nat → Nat → Int64)) (fun s => ∃ k : Nat, k ≤ n ∧ s.1 = nI k ∧ s.2.1 = lZ (gd A k) ∧ ∀ a j, a < n → k ≤ j → j ≤ n → s.2.2 a j = lZ (gZ A k a j)) (fun r => r.1 = lZ (gd A n) ∧ ∀ a, a < n → r.2 a n = lZ (gZ A n a n)) (fun s => 999 - s.1.toNatClampNeg) ?_ 1000 _ ⟨0, by omega, rfl, rfl, fun a j h1 _ h3 => by rw [gZ_0]; exact hM a j h1 h3⟩ (by omega)
    rintro ⟨x, w, M⟩ ⟨k, hk, rfl, rfl, hM⟩
    dsimp only at hM ⊢
    by_cases h : n ≤ k
    · have e : k = n := by omega
      subst e
      exact Or.inr ⟨(lZ (gd A k), M), by rw [f_X0_solveRows_7, if_pos ((n_le (by omega) (by omega)).mpr h)], rfl, fun a ha => hM a k ha (Nat.le_refl k) (Nat.le_refl k)⟩
    · obtain ⟨M', hM', he⟩ := x_solve1 hA hn (show k < n by omega) hM
      have st : f_X0_solveRows_7 (nI n) (nI k) (lZ (gd A k)) M = some (Sum.inl (nI (k + 1), lZ (gd A (k + 1)), M')) := by
        rw [f_X0_solveRows_7, if_neg (by rw [n_le (by omega) (by omega)]; exact h), chk_t (aix_n (by omega) (by decide)), chk_t (aix_n (by omega) (by decide)), nI_c k (by omega), hM k k (by omega) (Nat.le_refl k) (by omega), hM', bind_s, nI_1, gd_s]
      refine Or.inl ⟨_, st, ⟨k + 1, by omega, rfl, rfl, fun a j h1 h2 h3 => he a j h1 (by omega) h3⟩, ?_⟩
      show 999 - (nI (k + 1)).toNatClampNeg < 999 - (nI k).toNatClampNeg
      rw [nI_c _ (by omega), nI_c _ (by omega)]
      omega
  obtain ⟨r, hr, hr2⟩ := key
  exact ⟨r, by rw [f_X0_solveRows, hr, bind_s], hr2⟩
end SV
-- what r rays and the first have brought to end e
def pz (c0 w : Int) (ec : Nat → Nat) (X : Nat → Int) (e : Nat) : Nat → Int
  | 0 => if c0 = (e : Int) then w else 0
  | r + 1 => pz c0 w ec X e r + (if ec r = e then X (r / 2) else 0)
theorem x_addPart {bs : Nat → Int64} {e : Nat} (he : e < 60) (x : Int64) : f_X0_addPart bs (nI e) x = some (vp_updL bs e (bs e + x)) := by
  rw [f_X0_addPart, if_neg (n_neg (by omega)), show (60 : Int32) = nI 60 from rfl, if_neg (by rw [n_le (by omega) (by omega)]; omega), chk_t (aix_n (by omega) (by decide)), nI_c _ (by omega)]
theorem x_addParts {n c0 : Nat} (hn : n ≤ 10) (hc : c0 < 60) {w : Int} {X : Nat → Int} {ec : Nat → Nat} {br : Nat → Int32} {M : Nat → Nat → Int64} (hec : ∀ r, r < 2 * n → ec r < 60 ∧ br r = nI (ec r)) (hX : ∀ a, a < n → M a n = lZ (X a)) (bs : Nat → Int64) : ∃ r, f_X0_addParts (nI n) (lZ w) br bs M (nI c0) = some r ∧ ∀ e, e < 60 → r e = lZ (pz c0 w ec X e (2 * n)) := by
  obtain ⟨b0, hb0, hz⟩ := fill_l (na := 60) (by decide) bs 0
  rw [f_X0_addParts, hb0, bind_s, x_addPart hc, bind_s]
  have key : ∃ r, lpf (fun s : Int32 × (Nat → Int64) => f_X0_addParts_19 (nI n) (lZ w) br M s.1 s.2) 1000 ((0 : Int32), vp_updL b0 c0 (b0 c0 + lZ w)) = some r ∧ ∀ e, e < 60 → r e = lZ (pz c0 w ec X e (2 * n)) := by
    refine lpf_run (σ := Int32 × (Nat → Int64)) (τ := Nat → Int64) (fun s => ∃ r : Nat, r ≤ 2 * n ∧ s.1 = nI r ∧ ∀ e, e < 60 → s.2 e = lZ (pz c0 w ec X e r)) _ (fun s => 999 - s.1.toNatClampNeg) ?_ 1000 _ ⟨0, by omega, rfl, fun e he => ?_⟩ (by omega)
    · rintro ⟨x, b⟩ ⟨r, hr, rfl, hb⟩
      dsimp only at hb ⊢
      by_cases h : 2 * n ≤ r
      · have e : r = 2 * n := by omega
        subst e
        exact Or.inr ⟨b, by rw [f_X0_addParts_19, show (2 : Int32) = nI 2 from rfl, pk_mul, if_pos ((n_le (by omega) (by omega)).mpr h)], hb⟩
      · obtain ⟨e1, e2⟩ := hec r (by omega)
        have st : f_X0_addParts_19 (nI n) (lZ w) br M (nI r) b = some (Sum.inl (nI (r + 1), vp_updL b (ec r) (b (ec r) + M (r / 2) n))) := by
          rw [f_X0_addParts_19, show (2 : Int32) = nI 2 from rfl, pk_mul, if_neg (by rw [n_le (by omega) (by omega)]; exact h), pk_div (by omega) (by omega) (by omega), chk_t (aix_n (by omega) (by decide)), chk_t (aix_n (by omega) (by decide)), chk_t (aix_n (by omega) (by decide)), nI_c r (by omega), nI_c (r / 2) (by omega), nI_c n (by omega), e2, x_addPart e1, bind_s, nI_1]
        refine Or.inl ⟨_, st, ⟨r + 1, by omega, rfl, fun e he => ?_⟩, ?_⟩
        · show vp_updL b (ec r) (b (ec r) + M (r / 2) n) e = _
          rw [pz]
          by_cases g : e = ec r
          · subst g
            rw [pk_uLs, if_pos rfl, hb _ he, hX _ (by omega), lZ_add]
          · rw [pk_uLn g, if_neg (fun q => g q.symm), hb _ he]
            simp
        · show 999 - (nI (r + 1)).toNatClampNeg < 999 - (nI r).toNatClampNeg
          rw [nI_c _ (by omega), nI_c _ (by omega)]
          omega
    · show vp_updL b0 c0 (b0 c0 + lZ w) e = _
      rw [pz]
      by_cases g : e = c0
      · subst g
        rw [pk_uLs, if_pos rfl, hz _ he, show (0 : Int64) = lZ 0 from rfl, lZ_add]
        simp
      · rw [pk_uLn g, if_neg (by omega), hz _ he]
        rfl
  obtain ⟨r, hr, hr2⟩ := key
  exact ⟨r, by rw [hr, bind_s], hr2⟩
