/-! ===== which nodes may lead to what is asked ===== -/
def ixq (q : Nat → Nat) : Nat → Nat → Nat
  | 0, _ => 0
  | m + 1, E => if q m = E then m + 1 else ixq q m E
theorem ixq_inv {q : Nat → Nat} {E : Nat} : ∀ m, ixq q m E ≠ 0 → ixq q m E ≤ m ∧ q (ixq q m E - 1) = E := by
  intro m
  induction m with
  | zero => intro h; exact absurd rfl h
  | succ m ih =>
    intro h
    rw [ixq] at h ⊢
    by_cases e : q m = E
    · rw [if_pos e]; exact ⟨Nat.le_refl _, by rw [show m + 1 - 1 = m by omega]; exact e⟩
    · rw [if_neg e] at h ⊢
      have := ih h
      exact ⟨by omega, this.2⟩
theorem ixq_hit {q : Nat → Nat} {j : Nat} : ∀ m, (∀ a b, a < b → b < m → q a ≠ q b) → j < m → ixq q m (q j) = j + 1 := by
  intro m
  induction m with
  | zero => intro _ h; exact absurd h (Nat.not_lt_zero j)
  | succ m ih =>
    intro hi h
    rw [ixq]
    by_cases e : j = m
    · subst e; rw [if_pos rfl]
    · rw [if_neg (fun g => hi j m (by omega) (by omega) g.symm)]
      exact ih (fun a b h1 h2 => hi a b h1 (by omega)) (by omega)
def cntB (ma : Nat → Bool) : Nat → Nat
  | 0 => 0
  | n + 1 => cntB ma n + (if ma n = true then 1 else 0)
theorem cntB_le (ma : Nat → Bool) (n : Nat) : cntB ma n ≤ n := by
  induction n with
  | zero => exact Nat.le_refl _
  | succ n ih => rw [cntB]; split <;> omega
theorem cntB_full {ma : Nat → Bool} {n : Nat} (h : n ≤ cntB ma n) : ∀ k, k < n → ma k = true := by
  induction n with
  | zero => intro k hk; exact absurd hk (Nat.not_lt_zero k)
  | succ n ih =>
    intro k hk
    have h1 := cntB_le ma n
    rw [cntB] at h
    by_cases g : ma n = true
    · rw [if_pos g] at h
      by_cases e : k = n
      · subst e; exact g
      · exact ih (by omega) k (by omega)
    · rw [if_neg g] at h; omega
def updB (ma : Nat → Bool) (k : Nat) (v : Bool) : Nat → Bool := fun a => if a = k then v else ma a
theorem updB_s {ma : Nat → Bool} {k : Nat} {v : Bool} : updB ma k v k = v := if_pos rfl
theorem updB_n {ma : Nat → Bool} {k a : Nat} {v : Bool} (h : a ≠ k) : updB ma k v a = ma a := if_neg h
theorem updB_same {ma : Nat → Bool} {k : Nat} {v : Bool} (h : ma k = v) : updB ma k v = ma := by
  funext a
  by_cases e : a = k
  · subst e; rw [updB_s, h]
  · rw [updB_n e]
theorem cntB_up {ma : Nat → Bool} {k : Nat} (h : ma k = false) : ∀ n, cntB (updB ma k true) n = cntB ma n + (if k < n then 1 else 0) := by
  intro n
  induction n with
  | zero => rfl
  | succ n ih =>
    rw [cntB, cntB, ih]
    by_cases e : k = n
    · subst e
      rw [updB_s, if_pos rfl, if_neg (Nat.lt_irrefl k), h, if_neg (by decide), if_pos (by omega)]
    · rw [updB_n (fun q => e q.symm)]
      by_cases g : k < n
      · rw [if_pos g, if_pos (show k < n + 1 by omega)]; omega
      · rw [if_neg g, if_neg (show ¬ k < n + 1 by omega)]; omega
def bI (b : Bool) : Int32 := if b = true then 1 else 0
section MY
variable {W H : Nat} {κ : Nat → Nat} {f : Nat → Int32} {aq : Nat → Bool} {Q : Nds}
def tgN (W H : Nat) (κ : Nat → Nat) (Q : Nds) (k y : Nat) : Nat := if en W H κ (Q.2 k) y < 100 then ixq Q.2 Q.1 (en W H κ (Q.2 k) y) else 0
def Cl (W H : Nat) (κ : Nat → Nat) (aq : Nat → Bool) (Q : Nds) (r : Nat) (ma : Nat → Bool) : Prop := ∀ k y, k < Q.1 → y < 2 → 2 * k + y < r → ma k = false → aq (en W H κ (Q.2 k) y) = false ∧ (en W H κ (Q.2 k) y < 100 → ma (tgN W H κ Q k y - 1) = false)
def Rk (W H : Nat) (κ : Nat → Nat) (aq : Nat → Bool) (Q : Nds) (ma : Nat → Bool) (rk : Nat → Nat) : Prop := ∀ k, k < Q.1 → ma k = true → ∃ y, y < 2 ∧ (aq (en W H κ (Q.2 k) y) = true ∨ (en W H κ (Q.2 k) y < 100 ∧ ma (tgN W H κ Q k y - 1) = true ∧ rk (tgN W H κ Q k y - 1) < rk k))
def May (W H : Nat) (κ : Nat → Nat) (aq : Nat → Bool) (Q : Nds) (t r : Nat) (ma : Nat → Bool) : Prop := (∃ rk T, Rk W H κ aq Q ma rk ∧ ∀ k, ma k = true → rk k < T) ∧ (t + 1 ≤ cntB ma Q.1 ∨ Cl W H κ aq Q (2 * Q.1) ma ∨ (t ≤ cntB ma Q.1 ∧ Cl W H κ aq Q r ma))
def newv (W H : Nat) (κ : Nat → Nat) (aq : Nat → Bool) (Q : Nds) (ma : Nat → Bool) (k y : Nat) : Bool := ma k || aq (en W H κ (Q.2 k) y) || (decide (en W H κ (Q.2 k) y < 100) && ma (tgN W H κ Q k y - 1))
theorem may_step {t k y : Nat} {ma : Nat → Bool} (h : May W H κ aq Q t (2 * k + y) ma) (hk : k < Q.1) (hy : y < 2) : May W H κ aq Q t (2 * k + y + 1) (updB ma k (newv W H κ aq Q ma k y)) := by
  obtain ⟨⟨rk, T, hR, hT⟩, hQ⟩ := h
  -- nothing new
  have same : ∀ v, newv W H κ aq Q ma k y = v → ma k = v → (ma k = false → aq (en W H κ (Q.2 k) y) = false ∧ (en W H κ (Q.2 k) y < 100 → ma (tgN W H κ Q k y - 1) = false)) → May W H κ aq Q t (2 * k + y + 1) (updB ma k (newv W H κ aq Q ma k y)) := by
    intro v h1 h2 h3
    rw [updB_same (by rw [h1]; exact h2)]
    refine ⟨⟨rk, T, hR, hT⟩, ?_⟩
    rcases hQ with q | q | ⟨q1, q2⟩
    · exact Or.inl q
    · exact Or.inr (Or.inl q)
    · refine Or.inr (Or.inr ⟨q1, fun k' y' a1 a2 a3 a4 => ?_⟩)
      by_cases g : 2 * k' + y' < 2 * k + y
      · exact q2 k' y' a1 a2 g a4
      · have g1 : k' = k := by omega
        have g2 : y' = y := by omega
        subst g1 g2
        exact h3 a4
  cases hm : ma k with
  | true =>
    refine same true ?_ hm (fun q => by rw [hm] at q; exact absurd q (by decide))
    rw [newv, hm]; rfl
  | false =>
    cases hnv : newv W H κ aq Q ma k y with
    | false =>
      rw [← hnv]
      refine same false hnv hm (fun _ => ?_)
      rw [newv, hm] at hnv
      simp only [Bool.false_or, Bool.or_eq_false_iff, Bool.and_eq_false_iff, decide_eq_false_iff_not] at hnv
      exact ⟨hnv.1, fun q => hnv.2.resolve_left (fun p => p q)⟩
    | true =>
      have hw : aq (en W H κ (Q.2 k) y) = true ∨ (en W H κ (Q.2 k) y < 100 ∧ ma (tgN W H κ Q k y - 1) = true) := by
        rw [newv, hm] at hnv
        simp only [Bool.false_or, Bool.or_eq_true, Bool.and_eq_true, decide_eq_true_eq] at hnv
        exact hnv
      refine ⟨⟨updN rk k T, T + 1, fun k' h1 h2 => ?_, fun k' h2 => ?_⟩, ?_⟩
      · by_cases e : k' = k
        · subst e
          refine ⟨y, hy, ?_⟩
          rcases hw with q | ⟨q1, q2⟩
          · exact Or.inl q
          · have hne : tgN W H κ Q k' y - 1 ≠ k' := fun q => by rw [q, hm] at q2; exact absurd q2 (by decide)
            refine Or.inr ⟨q1, ?_, ?_⟩
            · rw [updB_n hne]; exact q2
            · rw [updN_n hne, updN_s]; exact hT _ q2
        · rw [updB_n e] at h2
          obtain ⟨y', a1, a2⟩ := hR k' h1 h2
          refine ⟨y', a1, ?_⟩
          rcases a2 with q | ⟨q1, q2, q3⟩
          · exact Or.inl q
          · have hne : tgN W H κ Q k' y' - 1 ≠ k := fun q => by rw [q, hm] at q2; exact absurd q2 (by decide)
            refine Or.inr ⟨q1, ?_, ?_⟩
            · rw [updB_n hne]; exact q2
            · rw [updN_n hne, updN_n e]; exact q3
      · by_cases e : k' = k
        · subst e; rw [updN_s]; omega
        · rw [updB_n e] at h2
          rw [updN_n e]
          have := hT k' h2
          omega
      · have hc := cntB_up hm Q.1
        rw [if_pos hk] at hc
        rcases hQ with q | q | ⟨q1, q2⟩
        · left; omega
        · have := q k y hk hy (by omega) hm
          rcases hw with w | ⟨w1, w2⟩
          · rw [this.1] at w; exact absurd w (by decide)
          · rw [this.2 w1] at w2; exact absurd w2 (by decide)
        · left; omega
theorem may_turn {t : Nat} {ma : Nat → Bool} (h : May W H κ aq Q t (2 * Q.1) ma) : May W H κ aq Q (t + 1) 0 ma := by
  refine ⟨h.1, ?_⟩
  rcases h.2 with q | q | ⟨q1, q2⟩
  · exact Or.inr (Or.inr ⟨q, fun k y _ _ h3 => absurd h3 (Nat.not_lt_zero _)⟩)
  · exact Or.inr (Or.inl q)
  · exact Or.inr (Or.inl q2)
theorem may_end {ma : Nat → Bool} (h : May W H κ aq Q Q.1 0 ma) : Cl W H κ aq Q (2 * Q.1) ma := by
  rcases h.2 with q | q | ⟨q1, q2⟩
  · have := cntB_le ma Q.1; omega
  · exact q
  · intro k y h1 _ _ h4
    have := cntB_full q1 k h1
    rw [this] at h4
    exact absurd h4 (by decide)
theorem nar0 : vp_nar .boolean (0 : Int32) = 0 := by decide
theorem nar1 : vp_nar .boolean (1 : Int32) = 1 := by decide
theorem cl_tg {E0 : Nat} {mk : Nat → Int32} (hI : NdI W H κ E0 (2 * Q.1) Q mk) {k y : Nat} (hk : k < Q.1) (hy : y < 2) (h : en W H κ (Q.2 k) y < 100) : tgN W H κ Q k y ≠ 0 ∧ tgN W H κ Q k y ≤ Q.1 ∧ Q.2 (tgN W H κ Q k y - 1) = en W H κ (Q.2 k) y := by
  obtain ⟨hB, -, -, hall⟩ := hI
  obtain ⟨-, h2, -⟩ := hall k y hy (by omega)
  obtain ⟨j, j1, j2⟩ := h2 h
  have e : tgN W H κ Q k y = j + 1 := by
    rw [tgN, if_pos h, ← j2]
    exact ixq_hit Q.1 hB.2 j1
  rw [e]
  exact ⟨by omega, by omega, by rw [show j + 1 - 1 = j by omega]; exact j2⟩
def AskOk (W H : Nat) (κ : Nat → Nat) (aq : Nat → Bool) (x : Int32) : Prop := ∀ E, EndOk W H κ E → f_X6_isAsked (rc E) x = some (bI (aq E)) ∧ (aq E = true → ¬ E < 100)
def RPl (Q : Nds) (mq : Nat → Int32) : Prop := ∀ E, E < 80 → mq E = if ixq Q.2 Q.1 E = 0 then (-4 : Int32) else nI (ixq Q.2 Q.1 E - 1)
def RMy (Q : Nds) (ma : Nat → Bool) (my : Nat → Int32) : Prop := ∀ k, k < Q.1 → my k = bI (ma k)
theorem m_may1 (hd : Dim W H) (hk : Kok W H κ) (hh : cntK κ 3 4 (W * H) ≤ 5) {x : Int32} (hA : AskOk W H κ aq x) {E0 : Nat} {mk : Nat → Int32} (hI : NdI W H κ E0 (2 * Q.1) Q mk) {md mq my : Nat → Int32} (hP : RPl Q mq) {ma : Nat → Bool} (hY : RMy Q ma my) (y2 : Int32) {k y : Nat} (hkq : k < Q.1) (hy : y < 2) : f_X6_findsMay_80 (nI Q.1) md mk mq x y2 (nI k) (nI y) my = some (Sum.inl (nI (y + 1), upd my k (bI (newv W H κ aq Q ma k y)))) := by
  have hN := hd.le
  have hm := nd_le hh hI.1
  obtain ⟨s1, s2⟩ := hI.1.1 k hkq
  obtain ⟨-, -, hmk⟩ := hI.2.2.2 k y hy (by omega)
  have hE : EndOk W H κ (en W H κ (Q.2 k) y) := en_end hd hk s1
  have hrc := rc_neg hd hE
  obtain ⟨ha1, ha2⟩ := hA _ hE
  have bz : ∀ b, bI b = 0 ↔ b = false := by decide
  rw [f_X6_findsMay_80, show (2 : Int32) = nI 2 from rfl, if_neg (by rw [n_le (by omega) (by omega)]; omega), pk_mul, nI_add, chk_t (aix_n (by omega) (by decide)), chk_t (aix_n (by omega) (by decide)), nI_c k (by omega), nI_c (2 * k + y) (by omega), hY k hkq, hmk, ha1, nar0, nar1, bind_s, nI_1, newv]
  cases hmk1 : ma k with
  | true => rw [if_neg (by decide), Bool.true_or, Bool.true_or]; rfl
  | false =>
    rw [if_pos (show bI false = 0 from rfl)]
    cases haq : aq (en W H κ (Q.2 k) y) with
    | true => rw [if_neg (by decide), Bool.false_or, Bool.true_or]; rfl
    | false =>
      rw [if_pos (show bI false = 0 from rfl), Bool.false_or, Bool.false_or]
      by_cases g : en W H κ (Q.2 k) y < 100
      · obtain ⟨c1, c2, c3⟩ := hrc.1 g
        obtain ⟨t1, t2, t3⟩ := cl_tg hI hkq hy g
        have hlt : en W H κ (Q.2 k) y < 80 := by rw [← t3]; have := (hI.1.1 (tgN W H κ Q k y - 1) (by omega)).1; omega
        have hpe := hP _ hlt
        have etg : ixq Q.2 Q.1 (en W H κ (Q.2 k) y) = tgN W H κ Q k y := by rw [tgN, if_pos g]
        rw [etg, if_neg t1] at hpe
        rw [if_neg c2, c3, chk_t (aix_n hlt (by decide)), nI_c _ (by omega), hpe, chk_t (aix_n (by omega) (by decide)), nI_c _ (by omega), hY _ (by omega), decide_eq_true g, Bool.true_and]
        cases ma (tgN W H κ Q k y - 1) with
        | true => rw [if_neg (by decide)]; rfl
        | false => rw [if_pos (show bI false = 0 from rfl)]; rfl
      · rw [if_pos (hrc.2 g).2, decide_eq_false g, Bool.false_and]
        rfl
theorem rmy_up {ma : Nat → Bool} {my : Nat → Int32} (h : RMy Q ma my) {k : Nat} {v : Bool} : RMy Q (updB ma k v) (upd my k (bI v)) := by
  intro a ha
  by_cases e : a = k
  · subst e; rw [pk_us, updB_s]
  · rw [pk_un e, updB_n e]; exact h a ha
theorem m_mayK (hd : Dim W H) (hk : Kok W H κ) (hh : cntK κ 3 4 (W * H) ≤ 5) {x : Int32} (hA : AskOk W H κ aq x) {E0 : Nat} {mk : Nat → Int32} (hI : NdI W H κ E0 (2 * Q.1) Q mk) {md mq my : Nat → Int32} (hP : RPl Q mq) {ma : Nat → Bool} (hY : RMy Q ma my) (y2 : Int32) {t : Nat} (hM : May W H κ aq Q t 0 ma) : ∃ my' ma', lpf (fun s : Int32 × (Nat → Int32) => f_X6_findsMay_69 (nI Q.1) md mk mq x y2 s.1 s.2) 1000 ((0 : Int32), my) = some my' ∧ RMy Q ma' my' ∧ May W H κ aq Q (t + 1) 0 ma' := by
  have hm := nd_le hh hI.1
  have key : ∃ my', lpf (fun s : Int32 × (Nat → Int32) => f_X6_findsMay_69 (nI Q.1) md mk mq x y2 s.1 s.2) 1000 ((0 : Int32), my) = some my' ∧ ∃ ma', RMy Q ma' my' ∧ May W H κ aq Q t (2 * Q.1) ma' := by
    refine lpf_run (σ := Int32 × (Nat → Int32)) (τ := Nat → Int32) (fun s => ∃ (k : Nat) (ma : Nat → Bool), k ≤ Q.1 ∧ s.1 = nI k ∧ RMy Q ma s.2 ∧ May W H κ aq Q t (2 * k) ma) _ (fun s => 999 - s.1.toNatClampNeg) ?_ 1000 _ ⟨0, ma, by omega, rfl, hY, hM⟩ (by omega)
    rintro ⟨z, my⟩ ⟨k, ma, hkq, rfl, hY, hM⟩
    dsimp only at hY ⊢
    by_cases he : Q.1 ≤ k
    · have ek : k = Q.1 := by omega
      subst ek
      exact Or.inr ⟨my, by rw [f_X6_findsMay_69, if_pos ((n_le (by omega) (by omega)).mpr he)], ma, hY, hM⟩
    · have hlt : k < Q.1 := by omega
      have g1 := m_may1 (md := md) (y := 0) hd hk hh hA hI hP hY y2 hlt (by decide)
      have hY1 := rmy_up (k := k) (v := newv W H κ aq Q ma k 0) hY
      have hM1 := may_step hM hlt (show 0 < 2 by decide)
      have g2 := m_may1 (md := md) (y := 1) hd hk hh hA hI hP hY1 y2 hlt (by decide)
      have hY2 := rmy_up (k := k) (v := newv W H κ aq Q (updB ma k (newv W H κ aq Q ma k 0)) k 1) hY1
      have hM2 := may_step hM1 hlt (show 1 < 2 by decide)
      have g3 : ∀ m, f_X6_findsMay_80 (nI Q.1) md mk mq x y2 (nI k) (nI 2) m = some (Sum.inr m) := fun m => by
        rw [f_X6_findsMay_80, if_pos (by decide)]
      have hl : lpf (fun s : Int32 × (Nat → Int32) => f_X6_findsMay_80 (nI Q.1) md mk mq x y2 (nI k) s.1 s.2) 1000 ((0 : Int32), my) = some (upd (upd my k (bI (newv W H κ aq Q ma k 0))) k (bI (newv W H κ aq Q (updB ma k (newv W H κ aq Q ma k 0)) k 1))) := by
        rw [lpf_inl (n := 999) (s := ((0 : Int32), my)) (s' := (nI (0 + 1), upd my k (bI (newv W H κ aq Q ma k 0)))) g1, lpf_inl (n := 998) (s := (nI (0 + 1), upd my k (bI (newv W H κ aq Q ma k 0)))) (s' := (nI (1 + 1), upd (upd my k (bI (newv W H κ aq Q ma k 0))) k (bI (newv W H κ aq Q (updB ma k (newv W H κ aq Q ma k 0)) k 1)))) g2]
        exact lpf_inr (n := 997) (g3 _)
      refine Or.inl ⟨(nI (k + 1), upd (upd my k (bI (newv W H κ aq Q ma k 0))) k (bI (newv W H κ aq Q (updB ma k (newv W H κ aq Q ma k 0)) k 1))), ?_, ⟨k + 1, _, by omega, rfl, hY2, hM2⟩, ?_⟩
      · rw [f_X6_findsMay_69, if_neg (by rw [n_le (by omega) (by omega)]; exact he), hl, bind_s, nI_1]
      · show 999 - (nI (k + 1)).toNatClampNeg < 999 - (nI k).toNatClampNeg
        rw [nI_c _ (by omega), nI_c _ (by omega)]
        omega
  obtain ⟨my', h1, ma', h2, h3⟩ := key
  exact ⟨my', ma', h1, h2, may_turn h3⟩
theorem m_findsMay (hd : Dim W H) (hk : Kok W H κ) (hh : cntK κ 3 4 (W * H) ≤ 5) {x : Int32} (hA : AskOk W H κ aq x) {E0 : Nat} {mk : Nat → Int32} (hI : NdI W H κ E0 (2 * Q.1) Q mk) {md : Nat → Int32} (hmd : ∀ i, i < Q.1 → md i = nI (Q.2 i)) (my mq : Nat → Int32) : ∃ my' mq' ma, f_X6_findsMay (nI Q.1) md mk my mq x = some (my', mq') ∧ RMy Q ma my' ∧ RPl Q mq' ∧ Cl W H κ aq Q (2 * Q.1) ma ∧ ∃ rk, Rk W H κ aq Q ma rk := by
  have hN := hd.le
  have hm := nd_le hh hI.1
  have h1 : ∃ t, lpf (fun s : Int32 × (Nat → Int32) => f_X6_findsMay_2 (nI Q.1) md mk my x s.1 s.2) 1000 ((0 : Int32), mq) = some t ∧ ∀ i, i < 80 → t i = (-4 : Int32) := by
    refine lpf_run (σ := Int32 × (Nat → Int32)) (τ := Nat → Int32) (fun s => ∃ k : Nat, k ≤ 80 ∧ s.1 = nI k ∧ ∀ i, i < k → s.2 i = (-4 : Int32)) _ (fun s => 999 - s.1.toNatClampNeg) ?_ 1000 _ ⟨0, by omega, rfl, fun i hi => absurd hi (Nat.not_lt_zero i)⟩ (by omega)
    rintro ⟨z, g⟩ ⟨k, hk, rfl, hg⟩
    dsimp only at hg ⊢
    by_cases h : 80 ≤ k
    · exact Or.inr ⟨g, by rw [f_X6_findsMay_2, show (80 : Int32) = nI 80 from rfl, if_pos ((n_le (by omega) (by omega)).mpr h)], fun i hi => hg i (by omega)⟩
    · refine Or.inl ⟨(nI (k + 1), upd g k (-4)), ?_, ⟨k + 1, by omega, rfl, fun i hi => ?_⟩, ?_⟩
      · rw [f_X6_findsMay_2, show (80 : Int32) = nI 80 from rfl, if_neg (by rw [n_le (by omega) (by omega)]; exact h), chk_t (aix_n (by omega) (by decide)), nI_c _ (by omega), nI_1]
      · show upd g k (-4) i = (-4 : Int32)
        by_cases e : i = k
        · subst e; rw [pk_us]
        · rw [pk_un e]; exact hg i (by omega)
      · show 999 - (nI (k + 1)).toNatClampNeg < 999 - (nI k).toNatClampNeg
        rw [nI_c _ (by omega), nI_c _ (by omega)]
        omega
  obtain ⟨mq0, hq0, hq4⟩ := h1
  have h2 : ∃ t, lpf (fun s : Int32 × (Nat → Int32) × (Nat → Int32) => f_X6_findsMay_24 (nI Q.1) md mk x s.1 s.2.1 s.2.2) 1000 ((0 : Int32), my, mq0) = some t ∧ (∀ k, k < Q.1 → t.1 k = 0) ∧ RPl Q t.2 := by
    refine lpf_run (σ := Int32 × (Nat → Int32) × (Nat → Int32)) (τ := (Nat → Int32) × (Nat → Int32)) (fun s => ∃ k : Nat, k ≤ Q.1 ∧ s.1 = nI k ∧ (∀ a, a < k → s.2.1 a = 0) ∧ ∀ E, E < 80 → s.2.2 E = if ixq Q.2 k E = 0 then (-4 : Int32) else nI (ixq Q.2 k E - 1)) _ (fun s => 999 - s.1.toNatClampNeg) ?_ 1000 _ ⟨0, by omega, rfl, fun i hi => absurd hi (Nat.not_lt_zero i), fun E hE => by rw [ixq, if_pos rfl]; exact hq4 E hE⟩ (by omega)
    rintro ⟨z, g, g2⟩ ⟨k, hkq, rfl, hg, hg2⟩
    dsimp only at hg hg2 ⊢
    by_cases h : Q.1 ≤ k
    · have ek : k = Q.1 := by omega
      subst ek
      exact Or.inr ⟨(g, g2), by rw [f_X6_findsMay_24, if_pos ((n_le (by omega) (by omega)).mpr h)], hg, hg2⟩
    · have hlt : k < Q.1 := by omega
      have hs := (hI.1.1 k hlt).1
      refine Or.inl ⟨(nI (k + 1), upd g k 0, upd g2 (Q.2 k) (nI k)), ?_, ⟨k + 1, by omega, rfl, fun i hi => ?_, fun E hE => ?_⟩, ?_⟩
      · rw [f_X6_findsMay_24, if_neg (by rw [n_le (by omega) (by omega)]; exact h), chk_t (aix_n (by omega) (by decide)), nI_c k (by omega), hmd k hlt, chk_t (aix_n (by omega) (by decide)), nI_c _ (by omega), nar0, nI_1]
      · show upd g k 0 i = 0
        by_cases e : i = k
        · subst e; rw [pk_us]
        · rw [pk_un e]; exact hg i (by omega)
      · show upd g2 (Q.2 k) (nI k) E = if ixq Q.2 (k + 1) E = 0 then (-4 : Int32) else nI (ixq Q.2 (k + 1) E - 1)
        rw [ixq]
        by_cases e : E = Q.2 k
        · subst e; rw [pk_us, if_pos rfl, if_neg (by omega), show k + 1 - 1 = k by omega]
        · rw [pk_un e, if_neg (show ¬ Q.2 k = E from fun q => e q.symm)]; exact hg2 E hE
      · show 999 - (nI (k + 1)).toNatClampNeg < 999 - (nI k).toNatClampNeg
        rw [nI_c _ (by omega), nI_c _ (by omega)]
        omega
  obtain ⟨⟨my1, mq1⟩, ht, hmy, hP⟩ := h2
  have h3 : ∃ t, lpf (fun s : Int32 × (Nat → Int32) => f_X6_findsMay_59 (nI Q.1) md mk mq1 x s.1 s.2) 1000 ((0 : Int32), my1) = some t ∧ ∃ ma, RMy Q ma t ∧ May W H κ aq Q Q.1 0 ma := by
    refine lpf_run (σ := Int32 × (Nat → Int32)) (τ := Nat → Int32) (fun s => ∃ (t : Nat) (ma : Nat → Bool), t ≤ Q.1 ∧ s.1 = nI t ∧ RMy Q ma s.2 ∧ May W H κ aq Q t 0 ma) _ (fun s => 999 - s.1.toNatClampNeg) ?_ 1000 _ ⟨0, fun _ => false, by omega, rfl, fun k hk => hmy k hk, ⟨⟨fun _ => 0, 0, fun k _ h => absurd h Bool.false_ne_true, fun k h => absurd h Bool.false_ne_true⟩, Or.inr (Or.inr ⟨Nat.zero_le _, fun k y _ _ h => absurd h (Nat.not_lt_zero _)⟩)⟩⟩ (by omega)
    rintro ⟨z, my⟩ ⟨t, ma, htq, rfl, hY, hM⟩
    dsimp only at hY ⊢
    by_cases he : Q.1 ≤ t
    · have ek : t = Q.1 := by omega
      subst ek
      exact Or.inr ⟨my, by rw [f_X6_findsMay_59, if_pos ((n_le (by omega) (by omega)).mpr he)], ma, hY, hM⟩
    · obtain ⟨my', ma', hl, hY', hM'⟩ := m_mayK (md := md) hd hk hh hA hI hP hY (nI t) hM
      refine Or.inl ⟨(nI (t + 1), my'), ?_, ⟨t + 1, ma', by omega, rfl, hY', hM'⟩, ?_⟩
      · rw [f_X6_findsMay_59, if_neg (by rw [n_le (by omega) (by omega)]; exact he), hl, bind_s, nI_1]
      · show 999 - (nI (t + 1)).toNatClampNeg < 999 - (nI t).toNatClampNeg
        rw [nI_c _ (by omega), nI_c _ (by omega)]
        omega
  obtain ⟨my2, ht2, ma, hY, hM⟩ := h3
  refine ⟨my2, mq1, ma, ?_, hY, hP, may_end hM, ?_⟩
  · rw [f_X6_findsMay, hq0, bind_s, ht, bind_s, ht2, bind_s]
  · obtain ⟨⟨rk, T, h1, -⟩, -⟩ := hM
    exact ⟨rk, h1⟩
end MY
