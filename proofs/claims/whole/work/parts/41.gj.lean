/-! ===== elimination without fractions ===== -/
def gT (A : Nat → Nat → Int) : Nat → Nat → Nat → Rat
  | 0 => fun i j => (A i j : Rat)
  | k + 1 => fun i j => if i = k then gT A k k j / gT A k k k else gT A k i j - gT A k i k * (gT A k k j / gT A k k k)
def gD (A : Nat → Nat → Int) : Nat → Rat
  | 0 => 1
  | k + 1 => gD A k * gT A k k k
def MM (n : Nat) (A : Nat → Nat → Int) (rk : Nat → Nat) : Prop := (∀ i j, i < n → j < n → j ≠ i → (A i j : Rat) ≤ 0) ∧ (∀ i, i < n → 0 ≤ (A i n : Rat) ∧ (A i n : Rat) ≤ sm n (fun j => (A i j : Rat))) ∧ (∀ i, i < n → (A i i : Rat) ≤ 2) ∧ (∀ i, i < n → 0 < sm n (fun j => (A i j : Rat)) ∨ ∃ j, j < n ∧ j ≠ i ∧ (A i j : Rat) < 0 ∧ rk j < rk i)
def GI (n : Nat) (T : Nat → Nat → Rat) (rk : Nat → Nat) (k : Nat) : Prop := (∀ i j, i < n → j < k → T i j = if i = j then 1 else 0) ∧ (∀ i j, i < n → j < n → j ≠ i → T i j ≤ 0) ∧ (∀ i, i < n → 0 ≤ T i n ∧ T i n ≤ sm n (T i)) ∧ (∀ i, i < n → T i i ≤ 2) ∧ (∀ i, k ≤ i → i < n → 0 < sm n (T i) ∨ ∃ j, k ≤ j ∧ j < n ∧ j ≠ i ∧ T i j < 0 ∧ rk j < rk i)
theorem sm_np {n : Nat} {f : Nat → Rat} (h : ∀ i, i < n → f i ≤ 0) : sm n f ≤ 0 := by
  have := sm_le (n := n) (f := f) (g := fun _ => 0) h
  rw [sm_zero (fun i _ => rfl)] at this
  exact this
theorem off_le {n i : Nat} {f : Nat → Rat} (h : ∀ j, j < n → j ≠ i → f j ≤ 0) : sm n (fun j => if j = i then 0 else f j) ≤ 0 := sm_np (fun j hj => by
  by_cases e : j = i
  · rw [if_pos e]; exact Rat.le_refl
  · rw [if_neg e]; exact h j hj e)
theorem off_le1 {n i p : Nat} {f : Nat → Rat} (hp : p < n) (hne : p ≠ i) (h : ∀ j, j < n → j ≠ i → f j ≤ 0) : sm n (fun j => if j = i then 0 else f j) ≤ f p := by
  rw [sm_out (p := p) hp, if_neg hne]
  have : sm n (fun j => if j = p then 0 else if j = i then 0 else f j) ≤ 0 := sm_np (fun j hj => by
    by_cases e : j = p
    · rw [if_pos e]; exact Rat.le_refl
    · rw [if_neg e]
      by_cases e2 : j = i
      · rw [if_pos e2]; exact Rat.le_refl
      · rw [if_neg e2]; exact h j hj e2)
  grind
theorem gi_piv {n : Nat} {T : Nat → Nat → Rat} {rk : Nat → Nat} {k : Nat} (h : GI n T rk k) (hk : k < n) : 0 < T k k := by
  obtain ⟨-, h1, h2, -, h4⟩ := h
  have hs := sm_out (f := T k) hk
  have h0 := h2 k hk
  rcases h4 k (Nat.le_refl k) hk with h | ⟨j, hj1, hj2, hj3, hj4, -⟩
  · have := off_le (n := n) (i := k) (f := T k) (fun j hj hne => h1 k j hk hj hne)
    grind
  · have := off_le1 (n := n) (i := k) (f := T k) hj2 hj3 (fun j hj hne => h1 k j hk hj hne)
    grind
theorem gi_abs {n : Nat} {T : Nat → Nat → Rat} {rk : Nat → Nat} {k : Nat} (h : GI n T rk k) {i j : Nat} (hi : i < n) (hj : j ≤ n) : -2 ≤ T i j ∧ T i j ≤ 2 := by
  obtain ⟨-, h1, h2, h3, -⟩ := h
  have hs := sm_out (f := T i) hi
  have h0 := h2 i hi
  have hd := h3 i hi
  have ho := off_le (n := n) (i := i) (f := T i) (fun j hj hne => h1 i j hi hj hne)
  by_cases e : j = n
  · subst e
    constructor
    · grind
    · grind
  · by_cases e2 : j = i
    · subst e2
      constructor
      · grind
      · grind
    · have := off_le1 (n := n) (i := i) (f := T i) (p := j) (by omega) e2 (fun j hj hne => h1 i j hi hj hne)
      have h5 := h1 i j hi (by omega) e2
      constructor
      · grind
      · grind
theorem np_mul {a b : Rat} (ha : a ≤ 0) (hb : b ≤ 0) : 0 ≤ a * b := by
  have := Rat.mul_nonneg (show 0 ≤ -a by grind) (show 0 ≤ -b by grind)
  grind
theorem pn_mul {a b : Rat} (ha : a ≤ 0) (hb : 0 ≤ b) : a * b ≤ 0 := by
  have := Rat.mul_nonneg (show 0 ≤ -a by grind) hb
  grind
theorem gi_step {n : Nat} {T : Nat → Nat → Rat} {rk : Nat → Nat} {k : Nat} (h : GI n T rk k) (hk : k < n) : GI n (fun i j => if i = k then T k j / T k k else T i j - T i k * (T k j / T k k)) rk (k + 1) := by
  have hp := gi_piv h hk
  obtain ⟨h0, h1, h2, h3, h4⟩ := h
  generalize hq : (fun j => T k j / T k k) = q
  have hqj : ∀ j, T k j / T k k = q j := fun j => by rw [← hq]
  have hv : 0 < (T k k)⁻¹ := Rat.inv_pos.mpr hp
  have hqe : ∀ j, q j = T k j * (T k k)⁻¹ := fun j => by rw [← hqj, Rat.div_def]
  have hqk : q k = 1 := by rw [hqe]; exact Rat.mul_inv_cancel _ (fun e => by rw [e] at hp; exact Rat.lt_irrefl hp)
  have hqn : ∀ j, j < n → j ≠ k → q j ≤ 0 := fun j hj hne => by rw [hqe]; exact pn_mul (h1 k j hk hj hne) (Rat.le_of_lt hv)
  have hqp : 0 ≤ q n := by rw [hqe]; exact Rat.mul_nonneg (h2 k hk).1 (Rat.le_of_lt hv)
  have hqs : sm n q = sm n (T k) * (T k k)⁻¹ := by
    have : sm n q = sm n (fun j => (T k k)⁻¹ * T k j) := sm_cong (fun j _ => by rw [hqe]; grind)
    rw [this, sm_mul]
    grind
  have hqnn : q n ≤ sm n q := by
    rw [hqs, hqe]
    have := Rat.mul_nonneg (show 0 ≤ sm n (T k) - T k n by have := h2 k hk; grind) (Rat.le_of_lt hv)
    grind
  have hrow : ∀ i, i ≠ k → sm n (fun j => T i j - T i k * q j) = sm n (T i) - T i k * sm n q := fun i _ => by
    have := sm_lin (n := n) (f := fun j => T i j - T i k * q j) (g := T i) (h := q) (a := 1) (b := - T i k) (fun j _ => by grind)
    rw [this]
    grind
  simp only [hqj]
  refine ⟨fun i j hi hj => ?_, fun i j hi hj hne => ?_, fun i hi => ?_, fun i hi => ?_, fun i hi hn => ?_⟩
  · dsimp only
    by_cases e : j = k
    · subst e
      by_cases g : i = j
      · rw [if_pos g, if_pos g, hqk]
      · rw [if_neg g, if_neg g, hqk]; grind
    · have hz : q j = 0 := by rw [hqe, h0 k j hk (by omega), if_neg (fun q => e q.symm)]; grind
      by_cases g : i = k
      · rw [if_pos g, hz, if_neg (by omega)]
      · rw [if_neg g, hz, ← h0 i j hi (by omega)]; grind
  · dsimp only
    by_cases g : i = k
    · rw [if_pos g]; exact hqn j hj (by omega)
    · rw [if_neg g]
      have hik := h1 i k hi hk (fun q => g q.symm)
      by_cases e : j = k
      · subst e; rw [hqk]; grind
      · have := np_mul hik (hqn j hj e)
        have := h1 i j hi hj hne
        grind
  · by_cases g : i = k
    · subst g
      simp only [if_true]
      exact ⟨hqp, hqnn⟩
    · simp only [if_neg g]
      have hik := h1 i k hi hk (fun q => g q.symm)
      have a1 := h2 i hi
      have a2 := pn_mul hik hqp
      have a3 := Rat.mul_nonneg (show 0 ≤ - T i k by grind) (show 0 ≤ sm n q - q n by grind)
      rw [hrow i g]
      constructor
      · grind
      · grind
  · by_cases g : i = k
    · subst g
      simp only [if_true, hqk]
      decide
    · simp only [if_neg g]
      have hik := h1 i k hi hk (fun q => g q.symm)
      have := np_mul hik (hqn i hi g)
      have := h3 i hi
      grind
  · have g : i ≠ k := by omega
    simp only [if_neg g]
    have hik := h1 i k hn hk (fun q => g q.symm)
    have hsn : 0 ≤ sm n q := by grind
    have hpr := Rat.mul_nonneg (show 0 ≤ - T i k by grind) hsn
    rw [hrow i g]
    rcases h4 i (by omega) hn with ha | ⟨j, j1, j2, j3, j4, j5⟩
    · refine Or.inl ?_
      grind
    · by_cases e : j = k
      · subst e
        rcases h4 j (Nat.le_refl j) hk with ha | ⟨l, l1, l2, l3, l4, l5⟩
        · refine Or.inl ?_
          have b1 : 0 < sm n q := by rw [hqs]; exact Rat.mul_pos ha hv
          have b2 := Rat.mul_pos (show 0 < - T i j by grind) b1
          have b3 := h2 i hn
          grind
        · refine Or.inr ⟨l, by omega, l2, ?_, ?_, by omega⟩
          · intro q; subst q; omega
          · have b1 : q l < 0 := by
              have := Rat.mul_pos (show 0 < - T j l by grind) hv
              rw [hqe]
              grind
            have b2 := Rat.mul_pos (show 0 < - T i j by grind) (show 0 < - q l by grind)
            have b3 := h1 i l hn l2 (by intro q; subst q; omega)
            grind
      · refine Or.inr ⟨j, by omega, j2, j3, ?_, j5⟩
        have b2 := np_mul hik (hqn j j2 e)
        grind
section GJ
variable {n : Nat} {A : Nat → Nat → Int} {rk : Nat → Nat}
theorem gi_all (h : MM n A rk) : ∀ k, k ≤ n → GI n (gT A k) rk k := by
  intro k
  induction k with
  | zero =>
    intro _
    obtain ⟨a, b, c, d⟩ := h
    refine ⟨fun i j _ hj => absurd hj (Nat.not_lt_zero j), a, b, c, fun i _ hi => ?_⟩
    rcases d i hi with h | ⟨j, j1, j2, j3, j4⟩
    · exact Or.inl h
    · exact Or.inr ⟨j, Nat.zero_le _, j1, j2, j3, j4⟩
  | succ k ih =>
    intro hk
    exact gi_step (ih (by omega)) (by omega)
theorem gT_piv (h : MM n A rk) {k : Nat} (hk : k < n) : 0 < gT A k k k := gi_piv (gi_all h k (by omega)) hk
theorem gT_s (k i j : Nat) : gT A (k + 1) i j = if i = k then gT A k k j / gT A k k k else gT A k i j - gT A k i k * (gT A k k j / gT A k k k) := rfl
theorem gT_sk (k j : Nat) : gT A (k + 1) k j = gT A k k j / gT A k k k := if_pos rfl
theorem gT_sn {k i : Nat} (h : i ≠ k) (j : Nat) : gT A (k + 1) i j = gT A k i j - gT A k i k * (gT A k k j / gT A k k k) := if_neg h
theorem ne_of_pos {a : Rat} (h : 0 < a) : a ≠ 0 := fun e => by rw [e] at h; exact Rat.lt_irrefl h
/-- what the elimination keeps -/
theorem gT_keep (h : MM n A rk) : ∀ k, k ≤ n → ∀ r j, r < n → (A r j : Rat) = sm k (fun c => gT A k c j * (A r c : Rat)) + (if k ≤ r then gT A k r j else 0) := by
  intro k
  induction k with
  | zero => intro _ r j _; rw [if_pos (Nat.zero_le r)]; show (A r j : Rat) = 0 + (A r j : Rat); grind
  | succ k ih =>
    intro hk r j hr
    have hp := ne_of_pos (gT_piv h (show k < n by omega))
    have e1 := ih (by omega) r j hr
    have e2 := ih (by omega) r k hr
    rw [sm_s, gT_sk]
    have e3 := sm_lin (n := k) (f := fun c => gT A (k + 1) c j * (A r c : Rat)) (g := fun c => gT A k c j * (A r c : Rat)) (h := fun c => gT A k c k * (A r c : Rat)) (a := 1) (b := - (gT A k k j / gT A k k k)) (fun c hc => by rw [gT_sn (by omega)]; grind)
    rw [e3]
    rcases Nat.lt_trichotomy r k with g | g | g
    · rw [if_neg (by omega)] at e1 e2
      rw [if_neg (by omega)]
      grind
    · subst g
      rw [if_pos (Nat.le_refl r)] at e1 e2
      rw [if_neg (by omega)]
      grind
    · rw [if_pos (by omega)] at e1 e2
      rw [if_pos (by omega), gT_sn (by omega)]
      grind
theorem lead (h : MM n A rk) : ∀ k, k ≤ n → dt k (fun c r => (A r c : Rat)) = gD A k := by
  intro k
  induction k with
  | zero => intro _; rfl
  | succ k ih =>
    intro hk
    have h1 := dt_more (k := k) (i := k) (j := k) (A := fun r c => (A r c : Rat)) (x := fun c => gT A k c k) (t := gT A k k k) (fun r hr => by
      have := gT_keep h k (by omega) r k (by omega)
      rw [if_neg (by omega)] at this
      rw [this]
      grind) (by
      have := gT_keep h k (by omega) k k (by omega)
      rw [if_pos (Nat.le_refl k)] at this
      exact this)
    rw [ih (by omega)] at h1
    have h2 : dt (k + 1) (fun c r => (A r c : Rat)) = dt (k + 1) (fun c r => (A (if r < k then r else k) (if c < k then c else k) : Rat)) := dt_cong (k + 1) (fun c r hc hr => by
      have e1 : (if r < k then r else k) = r := by split <;> omega
      have e2 : (if c < k then c else k) = c := by split <;> omega
      rw [e1, e2])
    rw [h2, h1, gD]
    grind
theorem isI_A (i j : Nat) : isI (A i j : Rat) := ⟨_, rfl⟩
theorem gT_int (h : MM n A rk) {k i j : Nat} (hk : k ≤ n) (hi : i < n) : isI (gD A k * gT A k i j) := by
  rw [← lead h k hk]
  by_cases g : i < k
  · have h1 := dt_cram (k := k) (p := i) (A := fun r c => (A r c : Rat)) (x := fun c => gT A k c j) (b := fun r => (A r j : Rat)) g (fun r hr => by
      have := gT_keep h k hk r j (by omega)
      rw [if_neg (by omega)] at this
      rw [this]
      grind)
    have h2 := dt_int k (v := up (fun c r => (A r c : Rat)) i (fun r => (A r j : Rat))) (fun c r hc hr => by
      by_cases e : c = i
      · subst e; rw [up_s]; exact isI_A _ _
      · rw [up_n e]; exact isI_A _ _)
    rw [h1] at h2
    rw [Rat.mul_comm]
    exact h2
  · have h1 := dt_more (k := k) (i := i) (j := j) (A := fun r c => (A r c : Rat)) (x := fun c => gT A k c j) (t := gT A k i j) (fun r hr => by
      have := gT_keep h k hk r j (by omega)
      rw [if_neg (by omega)] at this
      rw [this]
      grind) (by
      have := gT_keep h k hk i j hi
      rw [if_pos (by omega)] at this
      exact this)
    have h2 := dt_int (k + 1) (v := fun c r => (A (if r < k then r else i) (if c < k then c else j) : Rat)) (fun c r hc hr => isI_A _ _)
    rw [h1] at h2
    rw [Rat.mul_comm]
    exact h2
theorem gD_pos (h : MM n A rk) : ∀ k, k ≤ n → 0 < gD A k ∧ gD A k ≤ ((2 ^ k : Nat) : Rat) ∧ isI (gD A k) := by
  intro k
  induction k with
  | zero => intro _; exact ⟨show (0 : Rat) < 1 by decide, show (1 : Rat) ≤ ((2 ^ 0 : Nat) : Rat) by decide, 1, rfl⟩
  | succ k ih =>
    intro hk
    obtain ⟨a, b, c⟩ := ih (by omega)
    have hp := gT_piv h (show k < n by omega)
    have h2 := (gi_abs (gi_all h k (by omega)) (show k < n by omega) (show k ≤ n by omega)).2
    refine ⟨Rat.mul_pos a hp, ?_, gT_int h (by omega) (by omega)⟩
    have e : ((2 ^ (k + 1) : Nat) : Rat) = ((2 ^ k : Nat) : Rat) * 2 := by rw [Nat.pow_succ, Rat.natCast_mul]; rfl
    rw [gD, e]
    have m1 := Rat.mul_nonneg (Rat.le_of_lt a) (show 0 ≤ 2 - gT A k k k by grind)
    grind
-- the whole numbers of it
def gZ (A : Nat → Nat → Int) (k i j : Nat) : Int := (gD A k * gT A k i j).num
def gd (A : Nat → Nat → Int) (k : Nat) : Int := (gD A k).num
theorem isI_num {x : Rat} (h : isI x) : (x.num : Rat) = x := by
  obtain ⟨z, rfl⟩ := h
  rw [Rat.num_intCast]
theorem gZ_e (h : MM n A rk) {k i j : Nat} (hk : k ≤ n) (hi : i < n) : (gZ A k i j : Rat) = gD A k * gT A k i j := isI_num (gT_int h hk hi)
theorem gd_e (h : MM n A rk) {k : Nat} (hk : k ≤ n) : (gd A k : Rat) = gD A k := isI_num (gD_pos h k hk).2.2
theorem gZ_0 (i j : Nat) : gZ A 0 i j = A i j := by
  have : gD A 0 * gT A 0 i j = ((A i j : Int) : Rat) := by show 1 * (A i j : Rat) = _; grind
  rw [gZ, this, Rat.num_intCast]
theorem gd_0 : gd A 0 = 1 := rfl
theorem gd_s (k : Nat) : gd A (k + 1) = gZ A k k k := rfl
theorem gZ_k (h : MM n A rk) {k : Nat} (hk : k < n) (j : Nat) : gZ A (k + 1) k j = gZ A k k j := by
  refine Rat.intCast_inj.mp ?_
  rw [gZ_e h (by omega) hk, gZ_e h (by omega) hk, gT_sk, gD]
  have := ne_of_pos (gT_piv h hk)
  grind
theorem gZ_s (h : MM n A rk) {k i : Nat} (hk : k < n) (hi : i < n) (hne : i ≠ k) (j : Nat) : gZ A k k k * gZ A k i j - gZ A k i k * gZ A k k j = gZ A (k + 1) i j * gd A k := by
  refine Rat.intCast_inj.mp ?_
  rw [Rat.intCast_sub, Rat.intCast_mul, Rat.intCast_mul, Rat.intCast_mul, gZ_e h (by omega) hi, gZ_e h (by omega) hk, gZ_e h (by omega) hk, gZ_e h (by omega) hi, gZ_e h (by omega) hi, gd_e h (by omega), gT_sn hne, gD]
  have := ne_of_pos (gT_piv h hk)
  grind
theorem gd_b (h : MM n A rk) {k : Nat} (hk : k ≤ n) : 0 < gd A k ∧ gd A k ≤ 2 ^ k := by
  obtain ⟨a, b, -⟩ := gD_pos h k hk
  rw [← gd_e h hk] at a b
  refine ⟨Rat.intCast_pos.mp a, ?_⟩
  have : ((gd A k : Int) : Rat) ≤ (((2 ^ k : Nat) : Int) : Rat) := by rw [Rat.intCast_natCast]; exact b
  have := Rat.intCast_le_intCast.mp this
  have e : ((2 ^ k : Nat) : Int) = (2 : Int) ^ k := by rw [Int.natCast_pow]; rfl
  rw [← e]
  exact this
theorem gZ_b (h : MM n A rk) {k i j : Nat} (hk : k ≤ n) (hi : i < n) (hj : j ≤ n) : -(2 * gd A k) ≤ gZ A k i j ∧ gZ A k i j ≤ 2 * gd A k := by
  have h1 := gi_abs (gi_all h k hk) hi hj
  have h2 := (gD_pos h k hk).1
  have e1 := gZ_e (j := j) h hk hi
  have e2 := gd_e h hk
  have m1 := Rat.mul_nonneg (Rat.le_of_lt h2) (show 0 ≤ 2 - gT A k i j by grind)
  have m2 := Rat.mul_nonneg (Rat.le_of_lt h2) (show 0 ≤ 2 + gT A k i j by grind)
  constructor
  · refine Rat.intCast_le_intCast.mp ?_
    rw [Rat.intCast_neg, Rat.intCast_mul, e1, e2]
    show -((2 : Rat) * gD A k) ≤ _
    grind
  · refine Rat.intCast_le_intCast.mp ?_
    rw [Rat.intCast_mul, e1, e2]
    show _ ≤ (2 : Rat) * gD A k
    grind
/-- the solution -/
theorem gZ_sol (h : MM n A rk) {r : Nat} (hr : r < n) : sm n (fun c => (A r c : Rat) * (gZ A n c n : Rat)) = (gd A n : Rat) * (A r n : Rat) := by
  have h1 := gT_keep h n (Nat.le_refl n) r n hr
  rw [if_neg (by omega)] at h1
  rw [gd_e h (Nat.le_refl n), h1]
  have : sm n (fun c => (A r c : Rat) * (gZ A n c n : Rat)) = sm n (fun c => gD A n * (gT A n c n * (A r c : Rat))) := sm_cong (fun c hc => by rw [gZ_e h (Nat.le_refl n) hc]; grind)
  rw [this, sm_mul]
  grind
theorem gZ_x (h : MM n A rk) {c : Nat} (hc : c < n) : 0 ≤ gZ A n c n ∧ gZ A n c n ≤ gd A n := by
  obtain ⟨h0, -, h2, -, -⟩ := gi_all h n (Nat.le_refl n)
  have h3 := h2 c hc
  have hs : sm n (gT A n c) = 1 := by
    rw [sm_one (p := c) hc (fun i hi hne => by rw [h0 c i hc hi, if_neg (fun q => hne q.symm)]), h0 c c hc hc, if_pos rfl]
  rw [hs] at h3
  have hp := (gD_pos h n (Nat.le_refl n)).1
  have e1 := gZ_e (j := n) h (Nat.le_refl n) hc
  have e2 := gd_e h (Nat.le_refl n)
  have m1 := Rat.mul_nonneg (Rat.le_of_lt hp) h3.1
  have m2 := Rat.mul_nonneg (Rat.le_of_lt hp) (show 0 ≤ 1 - gT A n c n by grind)
  constructor
  · refine Rat.intCast_nonneg.mp ?_
    rw [e1]; exact m1
  · refine Rat.intCast_le_intCast.mp ?_
    rw [e1, e2]
    grind
end GJ
