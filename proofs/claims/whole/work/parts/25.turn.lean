/-! ===== turn, undo ===== -/
theorem idx_lt {W H x r : Nat} (hx : x < W) (hr : r < H) : x * H + r < W * H := by
  have h : (x + 1) * H ≤ W * H := Nat.mul_le_mul_right H hx
  rw [Nat.add_mul, Nat.one_mul] at h
  omega
theorem idx_inj {H x r x' r' : Nat} (hr : r < H) (hr' : r' < H) (e : x * H + r = x' * H + r') : x = x' ∧ r = r' := by
  rcases Nat.lt_trichotomy x x' with h | h | h
  · have h2 : (x + 1) * H ≤ x' * H := Nat.mul_le_mul_right H h
    rw [Nat.add_mul, Nat.one_mul] at h2
    omega
  · subst h
    exact ⟨rfl, by omega⟩
  · have h2 : (x' + 1) * H ≤ x * H := Nat.mul_le_mul_right H h
    rw [Nat.add_mul, Nat.one_mul] at h2
    omega
theorem idx_dm {H k : Nat} (hH : 0 < H) : k = (k / H) * H + k % H ∧ k % H < H := ⟨by rw [Nat.mul_comm]; exact (Nat.div_add_mod k H).symm, Nat.mod_lt k hH⟩
def turnK (W H : Nat) (κ : Nat → Nat) : Nat → Nat := fun k => tk (κ ((H - 1 - k % H) * W + k / H))
theorem turnK_at {W H : Nat} {κ : Nat → Nat} {x y : Nat} (hy : y < H) : turnK W H κ (x * H + (H - 1 - y)) = tk (κ (y * W + x)) := by
  have h1 : (x * H + (H - 1 - y)) % H = H - 1 - y := by rw [Nat.mul_comm, Nat.mul_add_mod]; exact Nat.mod_eq_of_lt (by omega)
  have h2 : (x * H + (H - 1 - y)) / H = x := by rw [Nat.mul_comm, Nat.mul_add_div (by omega), Nat.div_eq_of_lt (by omega)]; rfl
  unfold turnK
  rw [h1, h2, show H - 1 - (H - 1 - y) = y by omega]
theorem tk_le {k : Nat} (h : k ≤ 7) : tk k ≤ 7 := by
  unfold tk
  repeat' split
  all_goals omega
theorem tk_tk (k : Nat) : tk (tk k) = k := by
  unfold tk
  by_cases h1 : k = 1
  · subst h1; rfl
  by_cases h2 : k = 2
  · subst h2; rfl
  by_cases h3 : k = 3
  · subst h3; rfl
  by_cases h4 : k = 4
  · subst h4; rfl
  simp [h1, h2, h3, h4]
/-- what is written when all of the rows above y, and x cells of row y, are done -/
def TI (W H : Nat) (κ : Nat → Nat) (o : Nat) (kd : Nat → Int32) (y x : Nat) : Prop := ∀ x' y', x' < W → y' < H → (y' < y ∨ (y' = y ∧ x' < x)) → kd (o + (x' * H + (H - 1 - y'))) = nI (tk (κ (y' * W + x')))
theorem TI_step {W H : Nat} {κ : Nat → Nat} {o : Nat} {kd : Nat → Int32} {y x : Nat} (hy : y < H) (h : TI W H κ o kd y x) : TI W H κ o (upd kd (o + (x * H + (H - 1 - y))) (nI (tk (κ (y * W + x))))) y (x + 1) := by
  intro x' y' hx' hy' hq
  by_cases e : x' = x ∧ y' = y
  · obtain ⟨rfl, rfl⟩ := e
    rw [pk_us]
  · rw [pk_un (fun q => e ?_)]
    · exact h x' y' hx' hy' (by omega)
    · obtain ⟨q1, q2⟩ := idx_inj (show H - 1 - y' < H by omega) (show H - 1 - y < H by omega) (Nat.add_left_cancel q)
      exact ⟨q1, by omega⟩
theorem TI_row {W H : Nat} {κ : Nat → Nat} {o : Nat} {kd : Nat → Int32} {y : Nat} (h : TI W H κ o kd y W) : TI W H κ o kd (y + 1) 0 := fun x' y' hx' hy' hq => h x' y' hx' hy' (by omega)
theorem TI_room {W H : Nat} {κ : Nat → Nat} {o : Nat} {kd : Nat → Int32} (hH : 0 < H) (h : TI W H κ o kd H 0) : ∀ k, k < H * W → kd (o + k) = nI (turnK W H κ k) := by
  intro k hk
  obtain ⟨h1, h2⟩ := idx_dm (k := k) hH
  have h3 : k / H < W := Nat.div_lt_of_lt_mul hk
  have h4 := h (k / H) (H - 1 - k % H) h3 (by omega) (Or.inl (by omega))
  rw [show H - 1 - (H - 1 - k % H) = k % H by omega, ← h1] at h4
  rw [h4]
  rfl
theorem x_tk {k : Nat} (hk : k ≤ 7) : f_X2_turnedKind (nI k) = some (nI (tk k)) := by
  have h : ∀ k, k < 8 → f_X2_turnedKind (nI k) = some (nI (tk k)) := by decide +kernel
  exact h k (by omega)
section TU
variable {W H : Nat} {κ : Nat → Nat} {co ro : Int32} {kd : Nat → Int32}
theorem x_turned (h : RoomX W H κ co ro kd) (hd : Dim W H) (hd2 : Dim H W) (hk : Kok W H κ) (coT roT : Int32) (kdT : Nat → Int32) : ∃ g, f_X2_becomeTurned coT roT kdT co ro kd = some (ro, co, g) ∧ RoomX H W (turnK W H κ) ro co g := by
  have hN := hd.le
  have hc : W * H = H * W := Nat.mul_comm W H
  obtain ⟨eco, ero, -⟩ := id h
  have hW5 := hd.2.1
  have hH4 := hd.2.2.2
  have inner : ∀ y, y < H → ∀ g, TI W H κ 0 g y 0 → ∃ g', lpf (fun s : Int32 × (Nat → Int32) => f_X2_becomeTurned_28 ro co co ro kd (nI y) s.1 s.2) 1000 (nI 0, g) = some g' ∧ TI W H κ 0 g' y W := by
    intro y hy g hg
    refine lpf_run (fun s => ∃ x, x ≤ W ∧ s.1 = nI x ∧ TI W H κ 0 s.2 y x) (fun t => TI W H κ 0 t y W) (fun s => W - s.1.toNatClampNeg) ?_ 1000 (nI 0, g) ⟨0, Nat.zero_le _, rfl, hg⟩ (by show W - (nI 0).toNatClampNeg < 1000; omega)
    rintro ⟨sx, sg⟩ ⟨x, hx, rfl, hT⟩
    show (∃ s', f_X2_becomeTurned_28 ro co co ro kd (nI y) (nI x) sg = some (Sum.inl s') ∧ _) ∨ ∃ t, f_X2_becomeTurned_28 ro co co ro kd (nI y) (nI x) sg = some (Sum.inr t) ∧ _
    rw [f_X2_becomeTurned_28]
    by_cases e : x = W
    · subst e
      rw [if_pos (by rw [eco]; exact (n_le (by omega) (by omega)).mpr (Nat.le_refl _))]
      exact Or.inr ⟨_, rfl, hT⟩
    · have hxl : x < W := by omega
      have i1 : y * W + x < W * H := by rw [hc]; exact idx_lt hy hxl
      have i2 : x * H + (H - 1 - y) < H * W := by rw [← hc]; exact idx_lt hxl (by omega)
      have hxH : x * H ≤ x * H + (H - 1 - y) := by omega
      have hsg : RoomX H W (fun c => (sg c).toNatClampNeg) ro co sg → True := fun _ => trivial
      have e1 : nI y * co + nI x = nI (y * W + x) := by rw [eco, pk_mul, nI_add]
      have e2 : nI x * ro + ro - 1 - nI y = nI (x * H + (H - 1 - y)) := by rw [ero, pk_mul, nI_add, show (1 : Int32) = nI 1 from rfl, pk_sub (by omega), pk_sub (by omega), show x * H + H - 1 - y = x * H + (H - 1 - y) by omega]
      have e3 : f_X2_tell ro co sg (nI (x * H + (H - 1 - y))) (nI (tk (κ (y * W + x)))) = some (upd sg (x * H + (H - 1 - y)) (nI (tk (κ (y * W + x))))) := by
        rw [f_X2_tell, if_neg (n_neg (by omega)), f_X2_cells, eco, ero, pk_mul, bind_s, if_neg (by rw [n_le (by omega) (by omega)]; omega), if_neg (by rw [show (20 : Int32) = nI 20 from rfl, n_le (by decide) (by omega)]; omega), chk_t (aix_n (by omega) (by decide)), nI_c _ (by omega)]
      rw [if_neg (by rw [eco, n_le (by omega) (by omega)]; omega), e1, x_kindIn h hd i1, bind_s, x_tk (hk _ i1), bind_s, e2, e3, bind_s, nI_1]
      refine Or.inl ⟨_, rfl, ⟨x + 1, hxl, rfl, ?_⟩, ?_⟩
      · have := TI_step hy hT
        rw [Nat.zero_add] at this
        exact this
      · show W - (nI (x + 1)).toNatClampNeg < W - (nI x).toNatClampNeg
        rw [nI_c _ (by omega), nI_c _ (by omega)]
        omega
  obtain ⟨g, hg, hT⟩ := lpf_run (f := fun s : Int32 × (Nat → Int32) => f_X2_becomeTurned_18 ro co co ro kd s.1 s.2) (fun s => ∃ y, y ≤ H ∧ s.1 = nI y ∧ TI W H κ 0 s.2 y 0) (fun t => TI W H κ 0 t H 0) (fun s => H - s.1.toNatClampNeg) (by
    rintro ⟨sy, sg⟩ ⟨y, hy, rfl, hT⟩
    show (∃ s', f_X2_becomeTurned_18 ro co co ro kd (nI y) sg = some (Sum.inl s') ∧ _) ∨ ∃ t, f_X2_becomeTurned_18 ro co co ro kd (nI y) sg = some (Sum.inr t) ∧ _
    rw [f_X2_becomeTurned_18]
    by_cases e : y = H
    · subst e
      rw [if_pos (by rw [ero]; exact (n_le (by omega) (by omega)).mpr (Nat.le_refl _))]
      exact Or.inr ⟨_, rfl, hT⟩
    · obtain ⟨g', h1, h2⟩ := inner y (by omega) sg hT
      rw [if_neg (by rw [ero, n_le (by omega) (by omega)]; omega), show ((0 : Int32), sg) = (nI 0, sg) from rfl, h1, bind_s, nI_1]
      refine Or.inl ⟨_, rfl, ⟨y + 1, by omega, rfl, TI_row h2⟩, ?_⟩
      show H - (nI (y + 1)).toNatClampNeg < H - (nI y).toNatClampNeg
      rw [nI_c _ (by omega), nI_c _ (by omega)]
      omega) 1000 (nI 0, kdT) ⟨0, Nat.zero_le _, rfl, fun x' y' _ _ q => absurd q (by omega)⟩ (by show H - (nI 0).toNatClampNeg < 1000; omega)
  refine ⟨g, ?_, ero, eco, fun k hk => ?_⟩
  · rw [f_X2_becomeTurned, show ((0 : Int32), kdT) = (nI 0, kdT) from rfl, hg]
    rfl
  · have := TI_room hd.2.2.1 hT k hk
    rw [Nat.zero_add] at this
    exact this
theorem x_turnRoom (h : RoomX W H κ co ro kd) (hd : Dim W H) (hd2 : Dim H W) (hk : Kok W H κ) (coT roT : Int32) (kdT : Nat → Int32) : ∃ g gT, f_X5_turnRoom co ro kd coT roT kdT = some (ro, co, g, ro, co, gT) ∧ RoomX H W (turnK W H κ) ro co g := by
  obtain ⟨g, h1, h2⟩ := x_turned h hd hd2 hk coT roT kdT
  refine ⟨va_cpy g kd 0 0 20, g, ?_, x_become h2 hd2 kd⟩
  rw [f_X5_turnRoom, h1, bind_s, f_X2_become, bind_s, tc0, tc20]
end TU
theorem Kok_turn {W H : Nat} {κ : Nat → Nat} (hH : 0 < H) (h : Kok W H κ) : Kok H W (turnK W H κ) := by
  intro k hk
  have h3 : k / H < W := Nat.div_lt_of_lt_mul hk
  have h4 := Nat.mod_lt k hH
  refine tk_le (h _ ?_)
  rw [Nat.mul_comm W H]
  exact idx_lt (by omega) h3
/-! counts stay when the room is turned -/
def cntS (p : Nat → Nat) : Nat → Nat
  | 0 => 0
  | n + 1 => cntS p n + p n
theorem cntS_cong {p q : Nat → Nat} {n : Nat} (h : ∀ c, c < n → p c = q c) : cntS p n = cntS q n := by
  induction n with
  | zero => rfl
  | succ n ih => rw [cntS, cntS, ih (fun c hc => h c (by omega)), h n (by omega)]
theorem cntK_S (κ : Nat → Nat) (a b n : Nat) : cntK κ a b n = cntS (fun c => if a ≤ κ c ∧ κ c ≤ b then 1 else 0) n := by
  induction n with
  | zero => rfl
  | succ n ih => rw [cntK, cntS, ih]
theorem cntS_turn {W H : Nat} (hW : 2 ≤ W) (hW4 : W ≤ 4) (hH : 2 ≤ H) (hH4 : H ≤ 4) (p : Nat → Nat) : cntS (fun k => p ((H - 1 - k % H) * W + k / H)) (H * W) = cntS p (W * H) := by
  rcases (show W = 2 ∨ W = 3 ∨ W = 4 by omega) with rfl | rfl | rfl <;> rcases (show H = 2 ∨ H = 3 ∨ H = 4 by omega) with rfl | rfl | rfl <;> simp [cntS] <;> omega
theorem cntK_turn {W H : Nat} (hW : 2 ≤ W) (hW4 : W ≤ 4) (hH : 2 ≤ H) (hH4 : H ≤ 4) (κ : Nat → Nat) {a b : Nat} (hab : ∀ k, (a ≤ tk k ∧ tk k ≤ b) ↔ (a ≤ k ∧ k ≤ b)) : cntK (turnK W H κ) a b (H * W) = cntK κ a b (W * H) := by
  rw [cntK_S, cntK_S, ← cntS_turn hW hW4 hH hH4]
  refine cntS_cong (fun c _ => ?_)
  show (if a ≤ tk _ ∧ tk _ ≤ b then 1 else 0) = _
  by_cases q : a ≤ κ ((H - 1 - c % H) * W + c / H) ∧ κ ((H - 1 - c % H) * W + c / H) ≤ b
  · rw [if_pos q, if_pos ((hab _).mpr q)]
  · rw [if_neg q, if_neg (fun z => q ((hab _).mp z))]
theorem tk34 (k : Nat) : (3 ≤ tk k ∧ tk k ≤ 4) ↔ (3 ≤ k ∧ k ≤ 4) := by
  unfold tk
  repeat' split
  all_goals omega
theorem tk67 (k : Nat) : (6 ≤ tk k ∧ tk k ≤ 7) ↔ (6 ≤ k ∧ k ≤ 7) := by
  unfold tk
  repeat' split
  all_goals omega
theorem Good_turn {W H : Nat} {κ : Nat → Nat} (h : Good (W, H, κ)) (hW4 : W ≤ 4) (hH : 2 ≤ H) : Good (H, W, turnK W H κ) := by
  obtain ⟨hd, hk, h1, h2⟩ := h
  simp only at hd hk h1 h2
  obtain ⟨d1, d2, d3, d4⟩ := hd
  refine ⟨⟨hH, by show H ≤ 5; omega, by show 1 ≤ W; omega, hW4⟩, Kok_turn d3 hk, ?_, ?_⟩
  · show cntK (turnK W H κ) 3 4 (H * W) ≤ 5
    rw [cntK_turn d1 hW4 hH d4 κ tk34]; exact h1
  · show cntK (turnK W H κ) 6 7 (H * W) ≤ 4
    rw [cntK_turn d1 hW4 hH d4 κ tk67]; exact h2
/-! the reference's turn -/
section TMm
variable {W H : Nat} {κ : Nat → Nat} {f : Nat → Int32}
theorem m_tkx {k : Nat} (hk : k ≤ 7) : Option.bind (f_X6_in (nI k) 1 2) (fun r => if r = 0 then Option.bind (f_X6_isHalf (nI k)) (fun r155 => if r155 = 0 then some (nI k) else some (7 - nI k)) else some (3 - nI k)) = some (nI (tk k)) := by
  have h : ∀ k, k < 8 → Option.bind (f_X6_in (nI k) 1 2) (fun r => if r = 0 then Option.bind (f_X6_isHalf (nI k)) (fun r155 => if r155 = 0 then some (nI k) else some (7 - nI k)) else some (3 - nI k)) = some (nI (tk k)) := by decide +kernel
  exact h k (by omega)
theorem m_turn45 (h : RoomM W H κ f) (hd : Dim W H) (hd2 : Dim H W) (hk : Kok W H κ) (mc : Int32) (mp : Nat → Int32) {y : Nat} (hy : y < H) {g : Nat → Int32} (hg : TI W H κ 2 g y 0) : ∃ g', lpf (fun s : Int32 × (Nat → Int32) => f_X6_turn_45 mc f mp (nI W) (nI H) (nI y) s.1 s.2) 1000 (nI 0, g) = some g' ∧ TI W H κ 2 g' y W := by
  have hN := hd.le
  have hc : W * H = H * W := Nat.mul_comm W H
  have hW5 := hd.2.1
  have hH4 := hd.2.2.2
  refine lpf_run (fun s => ∃ x, x ≤ W ∧ s.1 = nI x ∧ TI W H κ 2 s.2 y x) (fun t => TI W H κ 2 t y W) (fun s => W - s.1.toNatClampNeg) ?_ 1000 (nI 0, g) ⟨0, Nat.zero_le _, rfl, hg⟩ (by show W - (nI 0).toNatClampNeg < 1000; omega)
  rintro ⟨sx, sg⟩ ⟨x, hx, rfl, hT⟩
  show (∃ s', f_X6_turn_45 mc f mp (nI W) (nI H) (nI y) (nI x) sg = some (Sum.inl s') ∧ _) ∨ ∃ t, f_X6_turn_45 mc f mp (nI W) (nI H) (nI y) (nI x) sg = some (Sum.inr t) ∧ _
  rw [f_X6_turn_45]
  by_cases e : x = W
  · subst e
    rw [if_pos ((n_le (by omega) (by omega)).mpr (Nat.le_refl _))]
    exact Or.inr ⟨_, rfl, hT⟩
  · have hxl : x < W := by omega
    have i1 : y * W + x < W * H := by rw [hc]; exact idx_lt hy hxl
    have i2 : x * H + (H - 1 - y) < H * W := by rw [← hc]; exact idx_lt hxl (by omega)
    have e1 : (2 : Int32) + nI W * nI y + nI x = (2 : Int32) + nI (y * W + x) := by
      rw [pk_mul, show (2 : Int32) = nI 2 from rfl, nI_add, nI_add, nI_add, Nat.mul_comm W y, Nat.add_assoc]
    have e2 : (2 : Int32) + nI H * nI x + nI H - 1 - nI y = nI (2 + (x * H + (H - 1 - y))) := by
      rw [pk_mul, show (2 : Int32) = nI 2 from rfl, nI_add, nI_add, show (1 : Int32) = nI 1 from rfl, pk_sub (by omega), pk_sub (by omega), Nat.mul_comm H x, show 2 + x * H + H - 1 - y = 2 + (x * H + (H - 1 - y)) by omega]
    rw [if_neg (by rw [n_le (by omega) (by omega)]; omega), e1, e2, chk_t (m_at h hd i1).1, (m_at h hd i1).2]
    have e5 := m_tkx (hk _ i1)
    have e6 : ∀ (F : Int32 → Option ((Int32 × (Nat → Int32)) ⊕ (Nat → Int32))), Option.bind (f_X6_in (nI (κ (y * W + x))) 1 2) (fun r150 => Option.bind (if r150 = 0 then Option.bind (f_X6_isHalf (nI (κ (y * W + x)))) (fun r155 => if r155 = 0 then some (nI (κ (y * W + x))) else some (7 - nI (κ (y * W + x)))) else some (3 - nI (κ (y * W + x)))) F) = F (nI (tk (κ (y * W + x)))) := by
      intro F
      have := congrArg (fun o => Option.bind o F) e5
      simp only [Option.bind_assoc, Option.bind_some] at this
      exact this
    rw [e6, chk_t (aix_n (by omega) (by decide)), nI_c _ (by omega), nI_1]
    refine Or.inl ⟨_, rfl, ⟨x + 1, hxl, rfl, TI_step hy hT⟩, ?_⟩
    show W - (nI (x + 1)).toNatClampNeg < W - (nI x).toNatClampNeg
    rw [nI_c _ (by omega), nI_c _ (by omega)]
    omega
theorem m_turn37 (h : RoomM W H κ f) (hd : Dim W H) (hd2 : Dim H W) (hk : Kok W H κ) (mc : Int32) (mp ma : Nat → Int32) : ∃ g, lpf (fun s : Int32 × (Nat → Int32) => f_X6_turn_37 mc f mp (nI W) (nI H) s.1 s.2) 1000 (nI 0, ma) = some g ∧ TI W H κ 2 g H 0 := by
  have hN := hd.le
  have hH4 := hd.2.2.2
  refine lpf_run (fun s => ∃ y, y ≤ H ∧ s.1 = nI y ∧ TI W H κ 2 s.2 y 0) (fun t => TI W H κ 2 t H 0) (fun s => H - s.1.toNatClampNeg) ?_ 1000 (nI 0, ma) ⟨0, Nat.zero_le _, rfl, fun x' y' _ _ q => absurd q (by omega)⟩ (by show H - (nI 0).toNatClampNeg < 1000; omega)
  rintro ⟨sy, sg⟩ ⟨y, hy, rfl, hT⟩
  show (∃ s', f_X6_turn_37 mc f mp (nI W) (nI H) (nI y) sg = some (Sum.inl s') ∧ _) ∨ ∃ t, f_X6_turn_37 mc f mp (nI W) (nI H) (nI y) sg = some (Sum.inr t) ∧ _
  rw [f_X6_turn_37]
  by_cases e : y = H
  · subst e
    rw [if_pos ((n_le (by omega) (by omega)).mpr (Nat.le_refl _))]
    exact Or.inr ⟨_, rfl, hT⟩
  · obtain ⟨g', h1, h2⟩ := m_turn45 h hd hd2 hk mc mp (y := y) (by omega) hT
    rw [if_neg (by rw [n_le (by omega) (by omega)]; omega), show ((0 : Int32), sg) = (nI 0, sg) from rfl, h1, bind_s, nI_1]
    refine Or.inl ⟨_, rfl, ⟨y + 1, by omega, rfl, TI_row h2⟩, ?_⟩
    show H - (nI (y + 1)).toNatClampNeg < H - (nI y).toNatClampNeg
    rw [nI_c _ (by omega), nI_c _ (by omega)]
    omega
end TMm
theorem turned_turn {W H : Nat} {κ : Nat → Nat} : Turned (W, H, κ) (H, W, turnK W H κ) := ⟨rfl, rfl, fun x y _ hy => turnK_at hy⟩
theorem m_roomC {W H : Nat} {κ : Nat → Nat} {f f' : Nat → Int32} (hd : Dim W H) (hff : ∀ j, j < 22 → f' j = f j) (hm : RoomM W H κ f) : RoomM W H κ f' := by
  have := hd.le
  exact ⟨by rw [hff 0 (by omega)]; exact hm.1, by rw [hff 1 (by omega)]; exact hm.2.1, fun c hc => by rw [hff (2 + c) (by omega)]; exact hm.2.2 c hc⟩
theorem op_turn : Op_turn InvP := by
  intro coR roR kdR tn tl pz pg mn mp mc ml mt coT roT kdT ma hI
  have hI0 := hI
  obtain ⟨⟨W, H, κ⟩, z, h, hR, hX, hM, hz, hpz, hmc, hp, hT⟩ := hI
  have hR0 := hR
  obtain ⟨hd, hk, hh, hdo⟩ := hR
  subst hpz hmc
  simp only at hd hk hh hdo hX hM
  have hN := hd.le
  obtain ⟨d1, d2, d3, d4⟩ := id hd
  have ein : f_X6_in (nI H) 2 5 = some (if 2 ≤ H ∧ H ≤ 5 then 1 else 0) := m_inN (lo := 2) (hi := 5) (by omega) (by omega) (by omega)
  rw [f_X5_turn, f_X6_turn, tc0, tc1, hM.1, hM.2.1, ein, bind_s]
  by_cases h2 : H < 2
  · rw [if_pos (show roR < 2 by rw [hX.2.1]; exact (n_lt (b := 2) (by omega) (by omega)).mpr h2), if_neg (show ¬ (2 ≤ H ∧ H ≤ 5) by omega), if_pos rfl]
    exact ⟨_, _, rfl, rfl, rfl, hI0⟩
  · rw [if_neg (show ¬ roR < 2 by rw [hX.2.1]; exact fun q => h2 ((n_lt (b := 2) (by omega) (by omega)).mp q)), if_pos (show 2 ≤ H ∧ H ≤ 5 by omega), if_neg (show ¬ (1 : Int32) = 0 by decide)]
    by_cases h4 : W ≤ 4
    · have hd2 : Dim H W := ⟨by omega, by omega, by omega, h4⟩
      obtain ⟨g, gT, t1, t2⟩ := x_turnRoom hX hd hd2 hk coT roT kdT
      obtain ⟨pg', r1, r2, r3⟩ := x_rem hz pg (-1)
      obtain ⟨mp', k1, k2, k3⟩ := m_keeps hz mn mp
      rw [if_pos (show coR ≤ 4 by rw [hX.1]; exact (n_le (b := 4) (by omega) (by omega)).mpr h4), if_pos (show nI W ≤ 4 from (n_le (b := 4) (by omega) (by omega)).mpr h4), t1, k1, f_X1_rememberTurn, r1]
      simp only [Option.bind_some]
      obtain ⟨g2, m1, m2⟩ := m_turn37 hM hd hd2 hk (nI ((if z = 4 then 3 else z) + 1)) mp' ma
      rw [show ((0 : Int32), ma) = (nI 0, ma) from rfl, m1, bind_s]
      obtain ⟨g3, c1, c2⟩ := m_copies (na0 := 22) (na2 := 22) (fa0 := upd (upd g2 0 (nI H)) 1 (nI W)) (fa2 := mn) (i := 0) (j := 0) (by omega) (by omega) (by omega) (by omega)
      rw [show (0 : Int32) = nI 0 from rfl, c1]
      simp only [Option.bind_some]
      obtain ⟨h', hp'⟩ := past_push hz hp hR0 hM (R' := (H, W, turnK W H κ)) (Or.inl ⟨rfl, turned_turn⟩) r2 r3 k2 k3
      have hMM : RoomM H W (turnK W H κ) (upd (upd g2 0 (nI H)) 1 (nI W)) := by
        refine ⟨by rw [pk_un (by omega), pk_us], pk_us, fun c hc => ?_⟩
        rw [pk_un (by omega), pk_un (by omega)]
        exact TI_room d3 m2 c hc
      have hMM' : RoomM H W (turnK W H κ) g3 := m_roomC hd2 (fun j hj => by rw [c2, if_pos (by omega), show 0 + (j - 0) = j by omega]) hMM
      exact ⟨_, _, rfl, rfl, hX.2.1, (H, W, turnK W H κ), _, h', Good_turn hR0 h4 (by omega), t2, hMM', by split <;> omega, rfl, rfl, hp', hT⟩
    · rw [if_neg (show ¬ coR ≤ 4 by rw [hX.1]; exact fun q => h4 ((n_le (b := 4) (by omega) (by omega)).mp q)), if_neg (show ¬ nI W ≤ 4 from fun q => h4 ((n_le (b := 4) (by omega) (by omega)).mp q))]
      exact ⟨_, _, rfl, rfl, rfl, hI0⟩
/-! undo -/
theorem turn3 {W H : Nat} {κp κn : Nat → Nat} (ht : Turned (W, H, κp) (H, W, κn)) {x y : Nat} (hx : x < W) (hy : y < H) : turnK H W (turnK W H (turnK H W κn)) (y * W + x) = κp (y * W + x) := by
  have e1 : turnK H W (turnK W H (turnK H W κn)) (y * W + (W - 1 - (W - 1 - x))) = tk (turnK W H (turnK H W κn) ((W - 1 - x) * H + y)) := turnK_at (by omega)
  have e2 : turnK W H (turnK H W κn) ((W - 1 - x) * H + (H - 1 - (H - 1 - y))) = tk (turnK H W κn ((H - 1 - y) * W + (W - 1 - x))) := turnK_at (by omega)
  have e3 : turnK H W κn ((H - 1 - y) * W + (W - 1 - x)) = tk (κn (x * H + (H - 1 - y))) := turnK_at hx
  rw [show W - 1 - (W - 1 - x) = x by omega] at e1
  rw [show H - 1 - (H - 1 - y) = y by omega] at e2
  have e4 := ht.2.2 x y hx hy
  simp only at e4
  rw [e1, e2, e3, e4, tk_tk, tk_tk]
theorem op_undo : Op_undo InvP := by
  intro coR roR kdR tn tl pz pg mn mp mc ml mt coT roT kdT hI
  have hI0 := hI
  obtain ⟨R, z, h, hR, hX, hM, hz, hpz, hmc, hp, hT⟩ := hI
  subst hpz hmc
  have hd := hR.1
  have hN := hd.le
  rw [f_X5_undo, f_X6_undo]
  by_cases h0 : z = 0
  · subst h0
    have z0 : nI 0 = 0 := rfl
    rw [if_pos z0, if_pos z0]
    exact ⟨_, _, rfl, rfl, rfl, hI0⟩
  · obtain ⟨w, rfl⟩ : ∃ w, z = w + 1 := ⟨z - 1, by omega⟩
    have hz0 : ¬ nI (w + 1) = 0 := by rw [n_z (by omega)]; omega
    have e1 : nI (w + 1) - 1 = nI w := nI_pred w
    obtain ⟨hz1, hpp⟩ := hp
    obtain ⟨g1, g2, g3⟩ := hpp w (by omega)
    rw [hz1] at g3
    obtain ⟨cp, c1, c2⟩ := m_copies (na0 := 88) (na2 := 22) (fa0 := mp) (fa2 := mn) (i := 22 * w) (j := 0) (by omega) (by omega) (by omega) (by omega)
    have em : Option.bind (f_X6_copies 88 22 mp mn ((22 : Int32) * (nI (w + 1) - 1)) 0) (fun r89 => some (nI (w + 1) - 1, nI (w + 1) - 1, r89)) = some (nI w, nI w, cp) := by
      rw [e1, show (22 : Int32) = nI 22 from rfl, pk_mul, show (0 : Int32) = nI 0 from rfl, c1]
      rfl
    have hMp : RoomM (h w).1 (h w).2.1 (h w).2.2 cp := m_roomC g1.1 (fun j hj => by rw [c2, if_pos (by omega), show 22 * w + (j - 0) = 22 * w + j by omega]) g2
    have hPast : Past mp pg w (h w) h := ⟨rfl, fun i hi => hpp i (by omega)⟩
    have et : f_X1_takeLatest (nI (w + 1)) pg = some (pg w, nI w) := by
      rw [f_X1_takeLatest, if_pos (show (0 : Int32) < nI (w + 1) from nI_lt (a := 0) (b := w + 1) (by omega) (by omega)), e1, chk_t (aix_n (by omega) (by decide)), nI_c _ (by omega)]
    rw [if_neg hz0, if_neg hz0, em, et, bind_s]
    rcases g3 with ⟨hg, ht⟩ | ⟨c, hg, ht⟩
    · have hR1 := hR
      obtain ⟨W, H, κ⟩ := R
      obtain ⟨t1, t2, t3⟩ := id ht
      simp only at t1 t2 t3 hX hM hd hN
      obtain ⟨⟨q1, q2, q3, q4⟩, -⟩ := g1
      have hd1 : Dim W H := hd
      have hd2 : Dim H W := ⟨by rw [t2]; exact q1, by rw [t2]; exact q2, by rw [t1]; omega, by rw [t1]; exact q4⟩
      obtain ⟨a1, b1, u1, v1⟩ := x_turnRoom hX hd1 hd2 hR1.2.1 coT roT kdT
      have k1 := Kok_turn hd1.2.2.1 hR1.2.1
      obtain ⟨a2, b2, u2, v2⟩ := x_turnRoom v1 hd2 hd1 k1 roR coR b1
      have k2 := Kok_turn hd2.2.2.1 k1
      obtain ⟨a3, b3, u3, v3⟩ := x_turnRoom v2 hd1 hd2 k2 coR roR b2
      rw [if_pos hg]
      simp only [u1, u2, u3, Option.bind_some]
      refine ⟨_, _, rfl, rfl, rfl, h w, w, h, (hpp w (by omega)).1, ?_, hMp, by omega, rfl, rfl, hPast, hT⟩
      refine ⟨by show roR = _; rw [hX.2.1, t2], by show coR = _; rw [hX.1, t1], fun k hk => ?_⟩
      have hk' : k < H * W := by rw [t2, t1]; exact hk
      show a3 k = _
      rw [v3.2.2 k hk']
      congr 1
      obtain ⟨y1, y2⟩ := idx_dm (k := k) (H := H) hd1.2.2.1
      have y3 : k / H < W := Nat.div_lt_of_lt_mul hk'
      have hT3 : Turned (H, W, (h w).2.2) (W, H, κ) := ⟨rfl, rfl, fun x y hx hy => by have := t3 x y (by rw [← t2]; exact hx) (by rw [← t1]; exact hy); rw [← t1, ← t2] at this; exact this⟩
      have := turn3 hT3 y2 y3
      rw [← y1] at this
      exact this
    · have hkw := g1.2.1 c ht.2.2.1
      have hcl := ht.2.2.1
      have hwN := g1.1.le
      have hgb : ¬ pg w = -1 := by rw [hg]; exact m1_ne (by omega)
      rw [if_neg hgb, hg, f_X1_cellOf, f_X1_kindOf]
      simp only [Option.bind_some]
      rw [show (8 : Int32) = nI 8 from rfl, pk_rem (by omega) (by omega) (by omega), pk_div (by omega) (by omega) (by omega), show (c * 8 + (h w).2.2 c) / 8 = c by omega, show (c * 8 + (h w).2.2 c) % 8 = (h w).2.2 c by omega, x_tellIn hX hd (by rw [ht.1, ht.2.1]; exact hcl), bind_s]
      refine ⟨_, _, rfl, rfl, rfl, h w, w, h, g1, ?_, hMp, by omega, rfl, rfl, hPast, hT⟩
      refine ⟨by show coR = _; rw [hX.1, ht.1], by show roR = _; rw [hX.2.1, ht.2.1], fun k hk => ?_⟩
      show upd kdR c (nI ((h w).2.2 c)) k = _
      by_cases e : k = c
      · subst e; rw [pk_us]
      · rw [pk_un e, hX.2.2 k (by rw [ht.1, ht.2.1]; exact hk), ht.2.2.2 k hk e]
