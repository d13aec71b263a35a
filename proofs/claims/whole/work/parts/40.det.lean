/-! ===== sums and determinants over the rationals ===== -/
def sm : Nat → (Nat → Rat) → Rat
  | 0, _ => 0
  | n + 1, f => sm n f + f n
theorem sm_s (n : Nat) (f : Nat → Rat) : sm (n + 1) f = sm n f + f n := rfl
theorem sm_cong {n : Nat} {f g : Nat → Rat} (h : ∀ i, i < n → f i = g i) : sm n f = sm n g := by
  induction n with
  | zero => rfl
  | succ n ih => rw [sm_s, sm_s, ih (fun i hi => h i (by omega)), h n (by omega)]
theorem sm_lin {n : Nat} {f g h : Nat → Rat} {a b : Rat} (e : ∀ i, i < n → f i = a * g i + b * h i) : sm n f = a * sm n g + b * sm n h := by
  induction n with
  | zero => show (0 : Rat) = a * 0 + b * 0; grind
  | succ n ih =>
    rw [sm_s, sm_s, sm_s, ih (fun i hi => e i (by omega)), e n (by omega)]
    grind
theorem sm_zero {n : Nat} {f : Nat → Rat} (h : ∀ i, i < n → f i = 0) : sm n f = 0 := by
  induction n with
  | zero => rfl
  | succ n ih => rw [sm_s, ih (fun i hi => h i (by omega)), h n (by omega)]; grind
theorem sm_one {n p : Nat} {f : Nat → Rat} (hp : p < n) (h : ∀ i, i < n → i ≠ p → f i = 0) : sm n f = f p := by
  induction n with
  | zero => exact absurd hp (Nat.not_lt_zero p)
  | succ n ih =>
    rw [sm_s]
    by_cases e : p = n
    · subst e
      rw [sm_zero (fun i hi => h i (by omega) (by omega))]
      grind
    · rw [ih (by omega) (fun i hi hne => h i (by omega) hne), h n (by omega) (fun q => e q.symm)]
      grind
theorem sm_two {n p : Nat} {f : Nat → Rat} (hp : p + 1 < n) (h : ∀ i, i < n → i ≠ p → i ≠ p + 1 → f i = 0) : sm n f = f p + f (p + 1) := by
  induction n with
  | zero => exact absurd hp (Nat.not_lt_zero _)
  | succ n ih =>
    rw [sm_s]
    by_cases e : p + 1 = n
    · subst e
      rw [sm_one (p := p) (by omega) (fun i hi hne => h i (by omega) hne (by omega))]
    · rw [ih (by omega) (fun i hi h1 h2 => h i (by omega) h1 h2), h n (by omega) (by omega) (fun q => e q.symm)]
      grind
theorem sm_swap {n m : Nat} {f : Nat → Nat → Rat} : sm n (fun i => sm m (fun j => f i j)) = sm m (fun j => sm n (fun i => f i j)) := by
  induction n with
  | zero => exact (sm_zero (fun i _ => rfl)).symm
  | succ n ih =>
    rw [sm_s, ih]
    have h := sm_lin (n := m) (f := fun j => sm (n + 1) (fun i => f i j)) (g := fun j => sm n (fun i => f i j)) (h := fun j => f n j) (a := 1) (b := 1) (fun i _ => by rw [sm_s]; grind)
    rw [h]
    grind
theorem sm_mul {n : Nat} {f : Nat → Rat} {a : Rat} : sm n (fun i => a * f i) = a * sm n f := by
  have h := sm_lin (n := n) (f := fun i => a * f i) (g := f) (h := fun _ => 0) (a := a) (b := 0) (fun i _ => by grind)
  rw [h]
  grind
theorem sm_add {n : Nat} {f g : Nat → Rat} : sm n (fun i => f i + g i) = sm n f + sm n g := by
  have h := sm_lin (n := n) (f := fun i => f i + g i) (g := f) (h := g) (a := 1) (b := 1) (fun i _ => by grind)
  rw [h]
  grind
theorem sm_nn {n : Nat} {f : Nat → Rat} (h : ∀ i, i < n → 0 ≤ f i) : 0 ≤ sm n f := by
  induction n with
  | zero => exact Rat.le_refl
  | succ n ih =>
    have h1 := ih (fun i hi => h i (by omega))
    have h2 := h n (by omega)
    rw [sm_s]
    grind
theorem sm_le {n : Nat} {f g : Nat → Rat} (h : ∀ i, i < n → f i ≤ g i) : sm n f ≤ sm n g := by
  induction n with
  | zero => exact Rat.le_refl
  | succ n ih =>
    have h1 := ih (fun i hi => h i (by omega))
    have h2 := h n (by omega)
    rw [sm_s, sm_s]
    grind
-- a sum with one member taken out
theorem sm_out {n p : Nat} {f : Nat → Rat} (hp : p < n) : sm n f = f p + sm n (fun i => if i = p then 0 else f i) := by
  have h := sm_one (n := n) (p := p) (f := fun i => if i = p then f i else 0) hp (fun i _ hne => if_neg hne)
  rw [if_pos rfl] at h
  rw [← h, ← sm_add]
  refine sm_cong (fun i _ => ?_)
  by_cases e : i = p
  · rw [if_pos e, if_pos e]; grind
  · rw [if_neg e, if_neg e]; grind
def sg (n : Nat) : Rat := if n % 2 = 0 then 1 else -1
theorem sg_s (n : Nat) : sg (n + 1) = - sg n := by
  rw [sg, sg]
  rcases Nat.mod_two_eq_zero_or_one n with h | h
  · rw [if_neg (by omega), if_pos h]
  · rw [if_pos (by omega), if_neg (by omega)]; grind
def om (v : Nat → Nat → Rat) (i : Nat) : Nat → Nat → Rat := fun c => if c < i then v c else v (c + 1)
def up (v : Nat → Nat → Rat) (p : Nat) (w : Nat → Rat) : Nat → Nat → Rat := fun c => if c = p then w else v c
theorem up_s {v : Nat → Nat → Rat} {p : Nat} {w : Nat → Rat} : up v p w p = w := if_pos rfl
theorem up_n {v : Nat → Nat → Rat} {p c : Nat} {w : Nat → Rat} (h : c ≠ p) : up v p w c = v c := if_neg h
theorem om_l {v : Nat → Nat → Rat} {i c : Nat} (h : c < i) : om v i c = v c := if_pos h
theorem om_g {v : Nat → Nat → Rat} {i c : Nat} (h : i ≤ c) : om v i c = v (c + 1) := if_neg (by omega)
theorem om_up_lt {v : Nat → Nat → Rat} {p i : Nat} {w : Nat → Rat} (h : p < i) : om (up v p w) i = up (om v i) p w := by
  funext c
  by_cases e : c = p
  · subst e; rw [up_s, om_l h, up_s]
  · rw [up_n e]
    by_cases g : c < i
    · rw [om_l g, om_l g, up_n e]
    · rw [om_g (by omega), om_g (by omega), up_n (by omega)]
theorem om_up_eq {v : Nat → Nat → Rat} {p : Nat} {w : Nat → Rat} : om (up v p w) p = om v p := by
  funext c
  by_cases g : c < p
  · rw [om_l g, om_l g, up_n (by omega)]
  · rw [om_g (by omega), om_g (by omega), up_n (by omega)]
theorem om_up_gt {v : Nat → Nat → Rat} {p i : Nat} {w : Nat → Rat} (h : i < p) : om (up v p w) i = up (om v i) (p - 1) w := by
  funext c
  by_cases e : c = p - 1
  · subst e; rw [up_s, om_g (by omega), show p - 1 + 1 = p by omega, up_s]
  · rw [up_n e]
    by_cases g : c < i
    · rw [om_l g, om_l g, up_n (by omega)]
    · rw [om_g (by omega), om_g (by omega), up_n (by omega)]
def dt : Nat → (Nat → Nat → Rat) → Rat
  | 0, _ => 1
  | n + 1, v => sm (n + 1) (fun i => sg (n + i) * v i n * dt n (om v i))
theorem dt_s (n : Nat) (v : Nat → Nat → Rat) : dt (n + 1) v = sm (n + 1) (fun i => sg (n + i) * v i n * dt n (om v i)) := rfl
theorem dt_cong : ∀ (n : Nat) {v w : Nat → Nat → Rat}, (∀ c r, c < n → r < n → v c r = w c r) → dt n v = dt n w := by
  intro n
  induction n with
  | zero => intro v w _; rfl
  | succ n ih =>
    intro v w h
    rw [dt_s, dt_s]
    refine sm_cong (fun i hi => ?_)
    rw [h i n hi (by omega), ih (v := om v i) (w := om w i) (fun c r hc hr => ?_)]
    by_cases g : c < i
    · rw [om_l g, om_l g]; exact h c r (by omega) (by omega)
    · rw [om_g (by omega), om_g (by omega)]; exact h (c + 1) r (by omega) (by omega)
theorem dt_lin : ∀ (n : Nat) {v : Nat → Nat → Rat} {p : Nat} (a b : Rat) (x y : Nat → Rat), p < n → dt n (up v p (fun r => a * x r + b * y r)) = a * dt n (up v p x) + b * dt n (up v p y) := by
  intro n
  induction n with
  | zero => intro v p a b x y h; exact absurd h (Nat.not_lt_zero p)
  | succ n ih =>
    intro v p a b x y hp
    rw [dt_s, dt_s, dt_s]
    refine sm_lin (fun i hi => ?_)
    rcases Nat.lt_trichotomy i p with h | h | h
    · rw [up_n (by omega), up_n (by omega), up_n (by omega), om_up_gt h, om_up_gt h, om_up_gt h, ih a b x y (show p - 1 < n by omega)]
      grind
    · subst h
      rw [up_s, up_s, up_s, om_up_eq, om_up_eq, om_up_eq]
      grind
    · rw [up_n (by omega), up_n (by omega), up_n (by omega), om_up_lt h, om_up_lt h, om_up_lt h, ih a b x y (show p < n by omega)]
      grind
theorem dt_adj : ∀ (n : Nat) {v : Nat → Nat → Rat} {p : Nat}, p + 1 < n → v p = v (p + 1) → dt n v = 0 := by
  intro n
  induction n with
  | zero => intro v p h; exact absurd h (Nat.not_lt_zero _)
  | succ n ih =>
    intro v p hp e
    rw [dt_s, sm_two hp]
    · have ho : om v p = om v (p + 1) := by
        funext c
        rcases Nat.lt_trichotomy c p with h | h | h
        · rw [om_l h, om_l (by omega)]
        · subst h; rw [om_g (by omega), om_l (by omega), e]
        · rw [om_g (by omega), om_g (by omega)]
      rw [ho, ← e, ← Nat.add_assoc, sg_s]
      grind
    · intro i hi h1 h2
      have hz : dt n (om v i) = 0 := by
        by_cases g : i < p
        · refine ih (p := p - 1) (by omega) ?_
          rw [om_g (by omega), om_g (by omega), show p - 1 + 1 = p by omega]
          exact e
        · refine ih (p := p) (by omega) ?_
          rw [om_l (by omega), om_l (by omega)]
          exact e
      rw [hz]
      grind
theorem up_self {v : Nat → Nat → Rat} {p : Nat} : up v p (v p) = v := by
  funext c
  by_cases e : c = p
  · subst e; rw [up_s]
  · rw [up_n e]
theorem up_up {v : Nat → Nat → Rat} {p : Nat} {x y : Nat → Rat} : up (up v p x) p y = up v p y := by
  funext c
  by_cases e : c = p
  · subst e; rw [up_s, up_s]
  · rw [up_n e, up_n e, up_n e]
theorem up_comm {v : Nat → Nat → Rat} {p q : Nat} {x y : Nat → Rat} (h : p ≠ q) : up (up v p x) q y = up (up v q y) p x := by
  funext c
  by_cases e : c = p
  · subst e; rw [up_s, up_n h, up_s]
  · rw [up_n e]
    by_cases g : c = q
    · subst g; rw [up_s, up_s]
    · rw [up_n g, up_n g, up_n e]
theorem dt_swap {n : Nat} {v : Nat → Nat → Rat} {p : Nat} (hp : p + 1 < n) : dt n (up (up v p (v (p + 1))) (p + 1) (v p)) = - dt n v := by
  have hs : ∀ x : Nat → Rat, dt n (up (up v p x) (p + 1) x) = 0 := fun x => dt_adj n (p := p) hp (by rw [up_s, up_n (by omega), up_s])
  have h0 := hs (fun r => 1 * v p r + 1 * v (p + 1) r)
  rw [dt_lin n 1 1 (v p) (v (p + 1)) hp] at h0
  have hx : ∀ y : Nat → Rat, dt n (up (up v p (fun r => 1 * v p r + 1 * v (p + 1) r)) (p + 1) y) = 1 * dt n (up (up v p (v p)) (p + 1) y) + 1 * dt n (up (up v p (v (p + 1))) (p + 1) y) := fun y => by
    rw [up_comm (x := fun r => 1 * v p r + 1 * v (p + 1) r) (show p ≠ p + 1 by omega), dt_lin n 1 1 (v p) (v (p + 1)) (show p < n by omega), up_comm (x := v p) (show p ≠ p + 1 by omega), up_comm (x := v (p + 1)) (show p ≠ p + 1 by omega)]
  rw [hx, hx] at h0
  rw [hs (v p), hs (v (p + 1)), up_self, up_self] at h0
  grind
theorem dt_eq {n : Nat} : ∀ (d : Nat) {v : Nat → Nat → Rat} {p q : Nat}, q = p + 1 + d → q < n → v p = v q → dt n v = 0 := by
  intro d
  induction d with
  | zero => intro v p q h hq e; exact dt_adj n (p := p) (by omega) (by rw [e, h])
  | succ d ih =>
    intro v p q h hq e
    have h1 := dt_swap (n := n) (v := v) (p := q - 1) (by omega)
    have h2 := ih (v := up (up v (q - 1) (v (q - 1 + 1))) (q - 1 + 1) (v (q - 1))) (p := p) (q := q - 1) (by omega) (by omega) (by
      rw [up_n (by omega), up_n (by omega), up_n (by omega), up_s, show q - 1 + 1 = q by omega]
      exact e)
    rw [h2] at h1
    grind
theorem dt_two {n p q : Nat} {v : Nat → Nat → Rat} (hp : p < n) (hq : q < n) (hne : p ≠ q) (e : v p = v q) : dt n v = 0 := by
  rcases Nat.lt_or_gt_of_ne hne with h | h
  · exact dt_eq (q - p - 1) (p := p) (q := q) (by omega) hq e
  · exact dt_eq (p - q - 1) (p := q) (q := p) (by omega) hp e.symm
theorem dt_z {n p : Nat} {v : Nat → Nat → Rat} (hp : p < n) {w : Nat → Rat} (h : ∀ r, r < n → w r = 0) : dt n (up v p w) = 0 := by
  have h1 := dt_lin n (v := v) 0 0 w w hp
  have h2 : dt n (up v p w) = dt n (up v p (fun r => 0 * w r + 0 * w r)) := dt_cong n (fun c r hc hr => by
    by_cases e : c = p
    · subst e; rw [up_s, up_s, h r hr]; grind
    · rw [up_n e, up_n e])
  rw [h2, h1]
  grind
theorem dt_comb {n p : Nat} {v : Nat → Nat → Rat} (hp : p < n) : ∀ (m : Nat) (x : Nat → Rat) (u : Nat → Nat → Rat), dt n (up v p (fun r => sm m (fun c => x c * u c r))) = sm m (fun c => x c * dt n (up v p (u c))) := by
  intro m
  induction m with
  | zero => intro x u; exact dt_z hp (fun r _ => rfl)
  | succ m ih =>
    intro x u
    have h1 := dt_lin n (v := v) 1 (x m) (fun r => sm m (fun c => x c * u c r)) (u m) hp
    have e : (fun r => sm (m + 1) (fun c => x c * u c r)) = fun r => 1 * sm m (fun c => x c * u c r) + x m * u m r := by
      funext r
      rw [sm_s]
      grind
    rw [e, h1, ih, sm_s]
    grind
def isI (x : Rat) : Prop := ∃ z : Int, x = (z : Rat)
theorem isI_add {x y : Rat} (h1 : isI x) (h2 : isI y) : isI (x + y) := by
  obtain ⟨a, rfl⟩ := h1
  obtain ⟨b, rfl⟩ := h2
  exact ⟨a + b, by rw [Rat.intCast_add]⟩
theorem isI_mul {x y : Rat} (h1 : isI x) (h2 : isI y) : isI (x * y) := by
  obtain ⟨a, rfl⟩ := h1
  obtain ⟨b, rfl⟩ := h2
  exact ⟨a * b, by rw [Rat.intCast_mul]⟩
theorem isI_sm {n : Nat} {f : Nat → Rat} (h : ∀ i, i < n → isI (f i)) : isI (sm n f) := by
  induction n with
  | zero => exact ⟨0, rfl⟩
  | succ n ih => exact isI_add (ih (fun i hi => h i (by omega))) (h n (by omega))
theorem isI_sg (n : Nat) : isI (sg n) := by
  rw [sg]
  split
  · exact ⟨1, rfl⟩
  · exact ⟨-1, rfl⟩
theorem dt_int : ∀ (n : Nat) {v : Nat → Nat → Rat}, (∀ c r, c < n → r < n → isI (v c r)) → isI (dt n v) := by
  intro n
  induction n with
  | zero => intro v _; exact ⟨1, rfl⟩
  | succ n ih =>
    intro v h
    rw [dt_s]
    refine isI_sm (fun i hi => isI_mul (isI_mul (isI_sg _) (h i n hi (by omega))) (ih (fun c r hc hr => ?_)))
    by_cases g : c < i
    · rw [om_l g]; exact h c r (by omega) (by omega)
    · rw [om_g (by omega)]; exact h (c + 1) r (by omega) (by omega)
/-- Cramer's rule in place p -/
theorem dt_cram {k p : Nat} {A : Nat → Nat → Rat} {x b : Nat → Rat} (hp : p < k) (h : ∀ r, r < k → b r = sm k (fun c => x c * A r c)) : dt k (up (fun c r => A r c) p b) = x p * dt k (fun c r => A r c) := by
  have h1 : dt k (up (fun c r => A r c) p b) = dt k (up (fun c r => A r c) p (fun r => sm k (fun c => x c * A r c))) := dt_cong k (fun c r hc hr => by
    by_cases e : c = p
    · subst e; rw [up_s, up_s, h r hr]
    · rw [up_n e, up_n e])
  have h2 := dt_comb (n := k) (p := p) (v := fun c r => A r c) hp k x (fun c r => A r c)
  rw [h1, h2, sm_one (p := p) hp (fun i hi hne => ?_)]
  · rw [show up (fun c r => A r c) p (fun r => A r p) = fun c r => A r c from up_self (v := fun c r => A r c)]
  · rw [dt_two (p := i) (q := p) hi hp hne (by rw [up_n hne, up_s])]
    grind
/-- one row and one column more -/
theorem dt_more {k i j : Nat} {A : Nat → Nat → Rat} {x : Nat → Rat} {t : Rat} (h : ∀ r, r < k → A r j = sm k (fun c => x c * A r c)) (hi : A i j = sm k (fun c => x c * A i c) + t) : dt (k + 1) (fun c r => A (if r < k then r else i) (if c < k then c else j)) = t * dt k (fun c r => A r c) := by
  generalize hv : (fun c r => A (if r < k then r else i) (if c < k then c else j) : Nat → Nat → Rat) = v
  have hvc : ∀ c r, v c r = A (if r < k then r else i) (if c < k then c else j) := fun c r => by rw [← hv]
  have h1 : dt (k + 1) v = dt (k + 1) (up v k (fun r => 1 * sm k (fun c => x c * v c r) + 1 * (if r < k then 0 else t))) := dt_cong (k + 1) (fun c r hc hr => by
    by_cases e : c = k
    · subst e
      rw [up_s, hvc, if_neg (Nat.lt_irrefl c)]
      by_cases g : r < c
      · rw [if_pos g, if_pos g, h r g]
        have : sm c (fun c_1 => x c_1 * v c_1 r) = sm c (fun c_1 => x c_1 * A r c_1) := sm_cong (fun q hq => by rw [hvc, if_pos g, if_pos hq])
        rw [this]
        grind
      · rw [if_neg g, if_neg g, hi]
        have : sm c (fun c_1 => x c_1 * v c_1 r) = sm c (fun c_1 => x c_1 * A i c_1) := sm_cong (fun q hq => by rw [hvc, if_neg g, if_pos hq])
        rw [this]
        grind
    · rw [up_n e])
  rw [h1, dt_lin (k + 1) 1 1 _ _ (by omega), dt_comb (by omega), sm_zero (fun c hc => ?_), dt_s, sm_one (p := k) (by omega) (fun c hc hne => ?_)]
  · rw [up_s, if_neg (Nat.lt_irrefl k), om_up_eq, show sg (k + k) = 1 from if_pos (by omega), dt_cong k (v := om v k) (w := fun c r => A r c) (fun c r hc hr => by rw [om_l hc, hvc, if_pos hr, if_pos hc])]
    grind
  · rw [om_up_gt (show c < k by omega), dt_z (show k - 1 < k by omega) (fun r hr => if_pos hr)]
    grind
  · rw [dt_two (p := c) (q := k) (by omega) (by omega) (by omega) (by rw [up_n (by omega), up_s])]
    grind
