/-! ===== the pure part: numbers, loops, rooms ===== -/
theorem lpf_succ {σ τ : Type} (f : σ → Option (σ ⊕ τ)) (n : Nat) (s : σ) : lpf f (n + 1) s = (f s).bind (fun o => Sum.elim (lpf f n) some o) := rfl
theorem lpf_inl {σ τ : Type} {f : σ → Option (σ ⊕ τ)} {n : Nat} {s s' : σ} (h : f s = some (Sum.inl s')) : lpf f (n + 1) s = lpf f n s' := by rw [lpf_succ, h]; rfl
theorem lpf_inr {σ τ : Type} {f : σ → Option (σ ⊕ τ)} {n : Nat} {s : σ} {t : τ} (h : f s = some (Sum.inr t)) : lpf f (n + 1) s = some t := by rw [lpf_succ, h]; rfl
/-- a loop that goes through the states g 0, g 1, .. and ends at g N -/
theorem lpf_seq {σ τ : Type} {f : σ → Option (σ ⊕ τ)} {t : τ} : ∀ (N : Nat) (g : Nat → σ), (∀ i, i < N → f (g i) = some (Sum.inl (g (i + 1)))) → f (g N) = some (Sum.inr t) → ∀ n, N < n → lpf f n (g 0) = some t := by
  intro N
  induction N with
  | zero =>
    intro g _ he n hn
    obtain ⟨m, rfl⟩ : ∃ m, n = m + 1 := ⟨n - 1, by omega⟩
    exact lpf_inr he
  | succ N ih =>
    intro g hs he n hn
    obtain ⟨m, rfl⟩ : ∃ m, n = m + 1 := ⟨n - 1, by omega⟩
    rw [lpf_inl (hs 0 (by omega))]
    exact ih (fun i => g (i + 1)) (fun i hi => hs (i + 1) (by omega)) he m (by omega)
/-- a loop with an invariant and a measure -/
theorem lpf_run {σ τ : Type} {f : σ → Option (σ ⊕ τ)} (P : σ → Prop) (Post : τ → Prop) (μ : σ → Nat) (step : ∀ s, P s → (∃ s', f s = some (Sum.inl s') ∧ P s' ∧ μ s' < μ s) ∨ ∃ t, f s = some (Sum.inr t) ∧ Post t) : ∀ (n : Nat) (s : σ), P s → μ s < n → ∃ t, lpf f n s = some t ∧ Post t := by
  intro n
  induction n with
  | zero => intro s _ h; exact absurd h (Nat.not_lt_zero _)
  | succ n ih =>
    intro s hP hn
    rcases step s hP with ⟨s', h1, h2, h3⟩ | ⟨t, h1, h2⟩
    · rw [lpf_inl h1]
      exact ih s' h2 (by omega)
    · rw [lpf_inr h1]
      exact ⟨t, rfl, h2⟩
theorem chk_t {β : Type} {c : Prop} [Decidable c] {k : Option β} (h : c) : chk c k = k := if_pos h
theorem bind_s {α β : Type} (x : α) (f : α → Option β) : Option.bind (some x) f = f x := rfl
theorem nI_c (n : Nat) (h : n < 1000) : (nI n).toNatClampNeg = n := nI_clamp (by omega)
theorem aix_n {n N : Nat} (h : n < N) (hN : N < 2 ^ 31) : aix (nI n) N := nI_in h hN
theorem n_le {a b : Nat} (ha : a < 1000000) (hb : b < 1000000) : nI a ≤ nI b ↔ a ≤ b := nI_leI (by omega) (by omega)
theorem n_lt {a b : Nat} (ha : a < 1000000) (hb : b < 1000000) : nI a < nI b ↔ a < b := nI_ltI (by omega) (by omega)
theorem n_eq {a b : Nat} (ha : a < 1000000) (hb : b < 1000000) : nI a = nI b ↔ a = b := nI_eq (by omega) (by omega)
theorem n_neg {a : Nat} (ha : a < 1000000) : ¬ nI a < 0 := nI_pos (by omega)
theorem n_z {a : Nat} (ha : a < 1000000) : nI a = 0 ↔ a = 0 := n_eq (b := 0) ha (by decide)
theorem i10 : ((1 : Int32) = 0) = False := by simp
theorem i00 : ((0 : Int32) = 0) = True := by simp
theorem all2 {A B : Nat} {P : Nat → Nat → Prop} [∀ a b, Decidable (P a b)] (h : ((List.range A).all fun a => (List.range B).all fun b => decide (P a b)) = true) {a b : Nat} (ha : a < A) (hb : b < B) : P a b := of_decide_eq_true (List.all_eq_true.mp (List.all_eq_true.mp h a (List.mem_range.mpr ha)) b (List.mem_range.mpr hb))
theorem all3 {A B C : Nat} {P : Nat → Nat → Nat → Prop} [∀ a b c, Decidable (P a b c)] (h : ((List.range A).all fun a => (List.range B).all fun b => (List.range C).all fun c => decide (P a b c)) = true) {a b c : Nat} (ha : a < A) (hb : b < B) (hc : c < C) : P a b c := all2 (P := P a) (List.all_eq_true.mp h a (List.mem_range.mpr ha)) hb hc
theorem all4 {A B C D : Nat} {P : Nat → Nat → Nat → Nat → Prop} [∀ a b c d, Decidable (P a b c d)] (h : ((List.range A).all fun a => (List.range B).all fun b => (List.range C).all fun c => (List.range D).all fun d => decide (P a b c d)) = true) {a b c d : Nat} (ha : a < A) (hb : b < B) (hc : c < C) (hd : d < D) : P a b c d := all3 (P := P a) (List.all_eq_true.mp h a (List.mem_range.mpr ha)) hb hc hd
theorem tc0 : Int32.toNatClampNeg (0 : Int32) = 0 := by decide
theorem tc1 : Int32.toNatClampNeg (1 : Int32) = 1 := by decide
theorem m1_ne {a : Nat} (ha : a < 1000000) : ¬ nI a = -1 := by
  intro h
  have h1 : (nI a).toInt = (a : Int) := nI_toInt (by omega)
  rw [h] at h1
  have h2 : (-1 : Int32).toInt = -1 := by decide
  omega
-- how many cells below n are of a kind from a to b
def cntK (κ : Nat → Nat) (a b : Nat) : Nat → Nat
  | 0 => 0
  | n + 1 => cntK κ a b n + (if a ≤ κ n ∧ κ n ≤ b then 1 else 0)
theorem cntK_le (κ : Nat → Nat) (a b n : Nat) : cntK κ a b n ≤ n := by
  induction n with
  | zero => exact Nat.le_refl _
  | succ n ih => rw [cntK]; split <;> omega
theorem cntK_cong {κ κ' : Nat → Nat} {a b n : Nat} (h : ∀ c, c < n → κ c = κ' c) : cntK κ a b n = cntK κ' a b n := by
  induction n with
  | zero => rfl
  | succ n ih => rw [cntK, cntK, ih (fun c hc => h c (by omega)), h n (by omega)]
-- a room: W columns, H rows, the kinds of its cells
def RoomX (W H : Nat) (κ : Nat → Nat) (co ro : Int32) (kd : Nat → Int32) : Prop := co = nI W ∧ ro = nI H ∧ ∀ c, c < W * H → kd c = nI (κ c)
def RoomM (W H : Nat) (κ : Nat → Nat) (f : Nat → Int32) : Prop := f 0 = nI W ∧ f 1 = nI H ∧ ∀ c, c < W * H → f (2 + c) = nI (κ c)
def Dim (W H : Nat) : Prop := 2 ≤ W ∧ W ≤ 5 ∧ 1 ≤ H ∧ H ≤ 4
def Kok (W H : Nat) (κ : Nat → Nat) : Prop := ∀ c, c < W * H → κ c ≤ 7
theorem Dim.le {W H : Nat} (h : Dim W H) : W * H ≤ 20 := show W * H ≤ 5 * 4 from Nat.mul_le_mul h.2.1 h.2.2.2
theorem Dim.ge {W H : Nat} (h : Dim W H) : W ≤ W * H := Nat.le_mul_of_pos_right W h.2.2.1
/-! the class's room -/
section RX
variable {W H : Nat} {κ : Nat → Nat} {co ro : Int32} {kd : Nat → Int32}
theorem x_cells (h : RoomX W H κ co ro kd) : f_X2_cells co ro = some (nI (W * H)) := by
  rw [f_X2_cells, h.1, h.2.1, pk_mul]
theorem x_ports (h : RoomX W H κ co ro kd) : f_X2_ports co ro = some (nI (2 * (W + H))) := by
  rw [f_X2_ports, h.1, h.2.1, nI_add, show (2 : Int32) = nI 2 from rfl, pk_mul]
theorem x_kindIn (h : RoomX W H κ co ro kd) (hd : Dim W H) {c : Nat} (hc : c < W * H) : f_X2_kindAt co ro kd (nI c) = some (nI (κ c)) := by
  have := hd.le
  rw [f_X2_kindAt, if_neg (n_neg (by omega)), x_cells h, bind_s, if_neg (by rw [n_le (by omega) (by omega)]; omega), if_neg (by rw [show (20 : Int32) = nI 20 from rfl, n_le (by decide) (by omega)]; omega), chk_t (aix_n (by omega) (by decide)), nI_c _ (by omega), h.2.2 c hc]
theorem x_kindOut (h : RoomX W H κ co ro kd) {x : Int32} (hx : x < 0 ∨ nI (W * H) ≤ x) : f_X2_kindAt co ro kd x = some (-1) := by
  rw [f_X2_kindAt]
  by_cases h0 : x < 0
  · rw [if_pos h0]
  · rw [if_neg h0, x_cells h, bind_s, if_pos (hx.resolve_left h0)]
theorem x_count (h : RoomX W H κ co ro kd) (hd : Dim W H) (hk : Kok W H κ) {a b : Nat} (ha : a ≤ 7) (hb : b ≤ 7) : f_X2_countKinds co ro kd (nI a) (nI b) = some (nI (cntK κ a b (W * H))) := by
  have hN := hd.le
  have key : lpf (fun s : Int32 × Int32 => f_X2_countKinds_5 co ro kd (nI a) (nI b) s.1 s.2) 1000 (nI (cntK κ a b 0), nI 0) = some (nI (cntK κ a b (W * H))) := by
    refine lpf_seq (W * H) (fun i => (nI (cntK κ a b i), nI i)) (fun i hi => ?_) ?_ 1000 (by omega)
    · have hki := hk i hi
      show f_X2_countKinds_5 co ro kd (nI a) (nI b) (nI (cntK κ a b i)) (nI i) = _
      rw [f_X2_countKinds_5, x_cells h, bind_s, if_neg (by rw [n_le (by omega) (by omega)]; omega), x_kindIn h hd hi, bind_s, cntK]
      by_cases h1 : κ i < a
      · rw [if_pos ((n_lt (by omega) (by omega)).mpr h1), if_neg (by omega), nI_1]
        rfl
      · rw [if_neg (by rw [n_lt (by omega) (by omega)]; exact h1)]
        by_cases h2 : b < κ i
        · rw [if_pos ((n_lt (by omega) (by omega)).mpr h2), if_neg (by omega), nI_1]
          rfl
        · rw [if_neg (by rw [n_lt (by omega) (by omega)]; exact h2), if_pos (by omega), nI_1, nI_1]
    · show f_X2_countKinds_5 co ro kd (nI a) (nI b) (nI (cntK κ a b (W * H))) (nI (W * H)) = _
      rw [f_X2_countKinds_5, x_cells h, bind_s, if_pos ((n_le (by omega) (by omega)).mpr (Nat.le_refl _))]
  rw [f_X2_countKinds]
  have e : ((0 : Int32), (0 : Int32)) = (nI (cntK κ a b 0), nI 0) := rfl
  rw [e, key, bind_s]
end RX
/-! the reference's room -/
section RM
variable {W H : Nat} {κ : Nat → Nat} {f : Nat → Int32}
theorem m_in (a lo hi : Int32) : f_X6_in a lo hi = some (if a < lo then 0 else if hi < a then 0 else 1) := by
  rw [f_X6_in]; split
  · rfl
  · split <;> rfl
theorem m_inN {a lo hi : Nat} (ha : a < 1000000) (hl : lo < 1000000) (hh : hi < 1000000) : f_X6_in (nI a) (nI lo) (nI hi) = some (if lo ≤ a ∧ a ≤ hi then 1 else 0) := by
  rw [m_in]
  by_cases h1 : a < lo
  · rw [if_pos ((n_lt ha hl).mpr h1), if_neg (by omega)]
  · rw [if_neg (by rw [n_lt ha hl]; exact h1)]
    by_cases h2 : hi < a
    · rw [if_pos ((n_lt hh ha).mpr h2), if_neg (by omega)]
    · rw [if_neg (by rw [n_lt hh ha]; exact h2), if_pos (by omega)]
theorem m_cells (h : RoomM W H κ f) : f_X6_cells f = some (nI (W * H)) := by
  rw [f_X6_cells, tc0, tc1, h.1, h.2.1, pk_mul]
theorem m_ports (h : RoomM W H κ f) : f_X6_ports f = some (nI (2 * (W + H))) := by
  rw [f_X6_ports, tc0, tc1, h.1, h.2.1, nI_add, show (2 : Int32) = nI 2 from rfl, pk_mul]
theorem m_isHalf {k : Nat} (hk : k ≤ 7) : f_X6_isHalf (nI k) = some (if 3 ≤ k ∧ k ≤ 4 then 1 else 0) := by
  rw [f_X6_isHalf, show (3 : Int32) = nI 3 from rfl, show (4 : Int32) = nI 4 from rfl, m_inN (by omega) (by decide) (by decide), bind_s, chk_t]
  split <;> simp
theorem m_isDoor {k : Nat} (hk : k ≤ 7) : f_X6_isDoor (nI k) = some (if 6 ≤ k ∧ k ≤ 7 then 1 else 0) := by
  rw [f_X6_isDoor, show (6 : Int32) = nI 6 from rfl, show (7 : Int32) = nI 7 from rfl, m_inN (by omega) (by decide) (by decide), bind_s, chk_t]
  split <;> simp
theorem m_at (h : RoomM W H κ f) (hd : Dim W H) {c : Nat} (hc : c < W * H) : aix ((2 : Int32) + nI c) 22 ∧ f (Int32.toNatClampNeg ((2 : Int32) + nI c)) = nI (κ c) := by
  have := hd.le
  rw [show (2 : Int32) = nI 2 from rfl, nI_add]
  exact ⟨aix_n (by omega) (by decide), by rw [nI_c _ (by omega)]; exact h.2.2 c hc⟩
end RM
