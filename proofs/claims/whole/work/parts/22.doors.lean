/-! ===== counts and doors ===== -/
section CM
variable {W H : Nat} {κ : Nat → Nat} {f : Nat → Int32}
theorem nI_p0 (a : Nat) : nI a + 0 = nI a := nI_add a 0
theorem m_halves (h : RoomM W H κ f) (hd : Dim W H) (hk : Kok W H κ) : f_X6_halves f = some (nI (cntK κ 3 4 (W * H))) := by
  have hN := hd.le
  have key : lpf (fun s : Int32 × Int32 => f_X6_halves_4 f s.1 s.2) 1000 (nI (cntK κ 3 4 0), nI 0) = some (nI (cntK κ 3 4 (W * H))) := by
    refine lpf_seq (W * H) (fun i => (nI (cntK κ 3 4 i), nI i)) (fun i hi => ?_) ?_ 1000 (by omega)
    · have hki := hk i hi
      show f_X6_halves_4 f (nI (cntK κ 3 4 i)) (nI i) = _
      rw [f_X6_halves_4, m_cells h, bind_s, if_neg (by rw [n_le (by omega) (by omega)]; omega), chk_t (m_at h hd hi).1, (m_at h hd hi).2, m_isHalf hki, bind_s, cntK]
      by_cases h1 : 3 ≤ κ i ∧ κ i ≤ 4
      · rw [if_pos h1, if_pos h1, if_neg (by decide), nI_1, nI_1]
      · rw [if_neg h1, if_neg h1, if_pos rfl, nI_p0, nI_1]
        rfl
    · show f_X6_halves_4 f (nI (cntK κ 3 4 (W * H))) (nI (W * H)) = _
      rw [f_X6_halves_4, m_cells h, bind_s, if_pos ((n_le (by omega) (by omega)).mpr (Nat.le_refl _))]
  rw [f_X6_halves]
  have e : ((0 : Int32), (0 : Int32)) = (nI (cntK κ 3 4 0), nI 0) := rfl
  rw [e, key, bind_s]
theorem m_doors (h : RoomM W H κ f) (hd : Dim W H) (hk : Kok W H κ) : f_X6_doors f = some (nI (cntK κ 6 7 (W * H))) := by
  have hN := hd.le
  have key : lpf (fun s : Int32 × Int32 => f_X6_doors_4 f s.1 s.2) 1000 (nI (cntK κ 6 7 0), nI 0) = some (nI (cntK κ 6 7 (W * H))) := by
    refine lpf_seq (W * H) (fun i => (nI (cntK κ 6 7 i), nI i)) (fun i hi => ?_) ?_ 1000 (by omega)
    · have hki := hk i hi
      show f_X6_doors_4 f (nI (cntK κ 6 7 i)) (nI i) = _
      rw [f_X6_doors_4, m_cells h, bind_s, if_neg (by rw [n_le (by omega) (by omega)]; omega), chk_t (m_at h hd hi).1, (m_at h hd hi).2, m_isDoor hki, bind_s, cntK]
      by_cases h1 : 6 ≤ κ i ∧ κ i ≤ 7
      · rw [if_pos h1, if_pos h1, if_neg (by decide), nI_1, nI_1]
      · rw [if_neg h1, if_neg h1, if_pos rfl, nI_p0, nI_1]
        rfl
    · show f_X6_doors_4 f (nI (cntK κ 6 7 (W * H))) (nI (W * H)) = _
      rw [f_X6_doors_4, m_cells h, bind_s, if_pos ((n_le (by omega) (by omega)).mpr (Nat.le_refl _))]
  rw [f_X6_doors]
  have e : ((0 : Int32), (0 : Int32)) = (nI (cntK κ 6 7 0), nI 0) := rfl
  rw [e, key, bind_s]
theorem m_openOf (h : RoomM W H κ f) (hd : Dim W H) (hk : Kok W H κ) : f_X6_openOf f = some (nI (cntK κ 6 6 (W * H))) := by
  have hN := hd.le
  have key : lpf (fun s : Int32 × Int32 => f_X6_openOf_4 f s.1 s.2) 1000 (nI (cntK κ 6 6 0), nI 0) = some (nI (cntK κ 6 6 (W * H))) := by
    refine lpf_seq (W * H) (fun i => (nI (cntK κ 6 6 i), nI i)) (fun i hi => ?_) ?_ 1000 (by omega)
    · have hki := hk i hi
      show f_X6_openOf_4 f (nI (cntK κ 6 6 i)) (nI i) = _
      rw [f_X6_openOf_4, m_cells h, bind_s, if_neg (by rw [n_le (by omega) (by omega)]; omega), chk_t (m_at h hd hi).1, (m_at h hd hi).2, cntK, show (6 : Int32) = nI 6 from rfl]
      by_cases h1 : κ i = 6
      · rw [if_pos (by rw [h1]), if_pos (by omega), nI_1, nI_1]
      · rw [if_neg (by rw [n_eq (by omega) (by omega)]; exact h1), if_neg (by omega), nI_p0, nI_1]
        rfl
    · show f_X6_openOf_4 f (nI (cntK κ 6 6 (W * H))) (nI (W * H)) = _
      rw [f_X6_openOf_4, m_cells h, bind_s, if_pos ((n_le (by omega) (by omega)).mpr (Nat.le_refl _))]
  rw [f_X6_openOf]
  have e : ((0 : Int32), (0 : Int32)) = (nI (cntK κ 6 6 0), nI 0) := rfl
  rw [e, key, bind_s]
theorem m_count7 (h : RoomM W H κ f) (hd : Dim W H) (hk : Kok W H κ) (mc ml x : Int32) : lpf (fun s : Int32 × Int32 × Int32 => f_X6_count_7 mc ml f x s.1 s.2.1 s.2.2) 1000 (0, 0, 0) = some (nI (cntK κ 5 5 (W * H)), nI (cntK κ 1 2 (W * H))) := by
  have hN := hd.le
  have key : lpf (fun s : Int32 × Int32 × Int32 => f_X6_count_7 mc ml f x s.1 s.2.1 s.2.2) 1000 (nI (cntK κ 5 5 0), nI (cntK κ 1 2 0), nI 0) = some (nI (cntK κ 5 5 (W * H)), nI (cntK κ 1 2 (W * H))) := by
    refine lpf_seq (W * H) (fun i => (nI (cntK κ 5 5 i), nI (cntK κ 1 2 i), nI i)) (fun i hi => ?_) ?_ 1000 (by omega)
    · have hki := hk i hi
      show f_X6_count_7 mc ml f x (nI (cntK κ 5 5 i)) (nI (cntK κ 1 2 i)) (nI i) = _
      rw [f_X6_count_7, m_cells h, bind_s, if_neg (by rw [n_le (by omega) (by omega)]; omega), chk_t (m_at h hd hi).1, (m_at h hd hi).2, cntK, cntK, show (5 : Int32) = nI 5 from rfl]
      have e2 : f_X6_in (nI (κ i)) 1 2 = some (if 1 ≤ κ i ∧ κ i ≤ 2 then 1 else 0) := m_inN (lo := 1) (hi := 2) (by omega) (by omega) (by omega)
      by_cases h1 : κ i = 5
      · rw [if_pos (show nI (κ i) = nI 5 by rw [h1]), bind_s, e2, bind_s, if_neg (show ¬ (1 ≤ κ i ∧ κ i ≤ 2) by omega), if_neg (show ¬ (1 ≤ κ i ∧ κ i ≤ 2) by omega), if_pos (show 5 ≤ κ i ∧ κ i ≤ 5 by omega), if_pos rfl, nI_p0, nI_1, nI_1]
        rfl
      · rw [if_neg (show ¬ nI (κ i) = nI 5 by rw [n_eq (by omega) (by omega)]; exact h1), bind_s, e2, bind_s, if_neg (show ¬ (5 ≤ κ i ∧ κ i ≤ 5) by omega)]
        by_cases h2 : 1 ≤ κ i ∧ κ i ≤ 2
        · rw [if_pos h2, if_pos h2, if_neg (by decide), nI_p0, nI_1, nI_1]
          rfl
        · rw [if_neg h2, if_neg h2, if_pos rfl, nI_p0, nI_p0, nI_1]
          rfl
    · show f_X6_count_7 mc ml f x (nI (cntK κ 5 5 (W * H))) (nI (cntK κ 1 2 (W * H))) (nI (W * H)) = _
      rw [f_X6_count_7, m_cells h, bind_s, if_pos ((n_le (by omega) (by omega)).mpr (Nat.le_refl _))]
  exact key
end CM
theorem op_count : Op_count InvP := by
  intro coR roR kdR tn tl pz pg mn mp mc ml mt x1 hI
  have hI0 := hI
  obtain ⟨R, z, h, ⟨hd, hk, hh, hdo⟩, hX, hM, hz, hpz, hmc, hp, n, hn, htn, hml, ht⟩ := hI
  rw [f_X5_count, f_X6_count, m_count7 hM hd hk, bind_s]
  have c1 := x_count hX hd hk (a := 3) (b := 4) (by decide) (by decide)
  have c2 := x_count hX hd hk (a := 6) (b := 7) (by decide) (by decide)
  have c3 := x_count hX hd hk (a := 6) (b := 6) (by decide) (by decide)
  have c4 := x_count hX hd hk (a := 5) (b := 5) (by decide) (by decide)
  have c5 := x_count hX hd hk (a := 1) (b := 2) (by decide) (by decide)
  by_cases h0 : x1 = 0
  · subst h0
    rw [if_pos rfl, if_pos rfl, chk_t (show aix 0 22 by decide), tc0]
    exact ⟨_, _, rfl, rfl, by rw [hX.1, hM.1], hI0⟩
  rw [if_neg h0, if_neg h0]
  by_cases h1 : x1 = 1
  · subst h1
    rw [if_pos rfl, if_pos rfl, chk_t (show aix 1 22 by decide), tc1]
    exact ⟨_, _, rfl, rfl, by rw [hX.2.1, hM.2.1], hI0⟩
  rw [if_neg h1, if_neg h1]
  by_cases h2 : x1 = 2
  · rw [if_pos h2, if_pos h2, show (3 : Int32) = nI 3 from rfl, show (4 : Int32) = nI 4 from rfl, c1, m_halves hM hd hk]
    exact ⟨_, _, rfl, rfl, rfl, hI0⟩
  rw [if_neg h2, if_neg h2]
  by_cases h3 : x1 = 3
  · rw [if_pos h3, if_pos h3, show (6 : Int32) = nI 6 from rfl, show (7 : Int32) = nI 7 from rfl, c2, m_doors hM hd hk]
    exact ⟨_, _, rfl, rfl, rfl, hI0⟩
  rw [if_neg h3, if_neg h3]
  by_cases h4 : x1 = 4
  · rw [if_pos h4, if_pos h4, show (6 : Int32) = nI 6 from rfl, c3, m_openOf hM hd hk]
    exact ⟨_, _, rfl, rfl, rfl, hI0⟩
  rw [if_neg h4, if_neg h4]
  by_cases h5 : x1 = 5
  · rw [if_pos h5, if_pos h5, show (5 : Int32) = nI 5 from rfl, c4]
    exact ⟨_, _, rfl, rfl, rfl, hI0⟩
  rw [if_neg h5, if_neg h5]
  by_cases h6 : x1 = 6
  · rw [if_pos h6, if_pos h6, show (1 : Int32) = nI 1 from rfl, show (2 : Int32) = nI 2 from rfl, c5]
    exact ⟨_, _, rfl, rfl, rfl, hI0⟩
  rw [if_neg h6, if_neg h6]
  by_cases h7 : x1 = 7
  · rw [if_pos h7, if_pos h7, x_ports hX, m_ports hM]
    exact ⟨_, _, rfl, rfl, rfl, hI0⟩
  rw [if_neg h7, if_neg h7]
  by_cases h8 : x1 = 8
  · rw [if_pos h8, if_pos h8]
    exact ⟨_, _, rfl, rfl, by rw [hpz, hmc], hI0⟩
  rw [if_neg h8, if_neg h8]
  by_cases h9 : x1 = 9
  · rw [if_pos h9, if_pos h9]
    exact ⟨_, _, rfl, rfl, by rw [htn, hml], hI0⟩
  rw [if_neg h9, if_neg h9]
  exact ⟨_, _, rfl, rfl, rfl, hI0⟩
/-! the door of a number -/
theorem cntK_mono (κ : Nat → Nat) (a b : Nat) {m n : Nat} (h : m ≤ n) : cntK κ a b m ≤ cntK κ a b n := by
  induction n with
  | zero => rw [show m = 0 by omega]; exact Nat.le_refl _
  | succ n ih =>
    by_cases e : m = n + 1
    · rw [e]; exact Nat.le_refl _
    · have := ih (by omega)
      rw [cntK]
      omega
theorem cntK_at (κ : Nat → Nat) (a b : Nat) {c n : Nat} (hc : c < n) (h : a ≤ κ c ∧ κ c ≤ b) : cntK κ a b c + 1 ≤ cntK κ a b n := by
  have := cntK_mono κ a b (show c + 1 ≤ n from hc)
  rw [cntK, if_pos h] at this
  exact this
theorem cntK_one {κ : Nat → Nat} {a b c d : Nat} (hc : a ≤ κ c ∧ κ c ≤ b) (hd : a ≤ κ d ∧ κ d ≤ b) (e : cntK κ a b c = cntK κ a b d) : c = d := by
  rcases Nat.lt_trichotomy c d with h | h | h
  · have := cntK_at κ a b h hc; omega
  · exact h
  · have := cntK_at κ a b h hd; omega
section DC
variable {W H : Nat} {κ : Nat → Nat} {co ro : Int32} {kd f : Nat → Int32}
theorem x_doorCell (h : RoomX W H κ co ro kd) (hd : Dim W H) (hk : Kok W H κ) (x : Int32) : (∃ c, c < W * H ∧ (6 ≤ κ c ∧ κ c ≤ 7) ∧ x = nI (cntK κ 6 7 c) ∧ f_X2_doorCell co ro kd x = some (nI c)) ∨ ((∀ c, c < W * H → 6 ≤ κ c → ¬ x = nI (cntK κ 6 7 c)) ∧ f_X2_doorCell co ro kd x = some (-1)) := by
  have hN := hd.le
  obtain ⟨t, ht, hp⟩ := lpf_run (f := fun s : Int32 × Int32 => f_X2_doorCell_4 co ro kd x s.1 s.2) (fun s => ∃ i, i ≤ W * H ∧ s = (nI (cntK κ 6 7 i), nI i) ∧ ∀ c, c < i → 6 ≤ κ c → ¬ x = nI (cntK κ 6 7 c)) (fun t => (∃ c, c < W * H ∧ (6 ≤ κ c ∧ κ c ≤ 7) ∧ x = nI (cntK κ 6 7 c) ∧ t = Sum.inl (nI c)) ∨ ((∀ c, c < W * H → 6 ≤ κ c → ¬ x = nI (cntK κ 6 7 c)) ∧ t = Sum.inr ())) (fun s => W * H - s.2.toNatClampNeg) (by
    rintro s ⟨i, hi, rfl, hno⟩
    have hci := cntK_le κ 6 7 i
    show (∃ s', f_X2_doorCell_4 co ro kd x (nI (cntK κ 6 7 i)) (nI i) = some (Sum.inl s') ∧ _) ∨ ∃ t, f_X2_doorCell_4 co ro kd x (nI (cntK κ 6 7 i)) (nI i) = some (Sum.inr t) ∧ _
    rw [f_X2_doorCell_4, x_cells h, bind_s]
    by_cases he : i = W * H
    · subst he
      rw [if_pos ((n_le (by omega) (by omega)).mpr (Nat.le_refl _))]
      exact Or.inr ⟨_, rfl, Or.inr ⟨hno, rfl⟩⟩
    · have hlt : i < W * H := by omega
      have hki := hk i hlt
      rw [if_neg (by rw [n_le (by omega) (by omega)]; omega), x_kindIn h hd hlt, bind_s, show (6 : Int32) = nI 6 from rfl]
      have hms : W * H - (nI (i + 1)).toNatClampNeg < W * H - (nI i).toNatClampNeg := by rw [nI_c _ (by omega), nI_c _ (by omega)]; omega
      by_cases h6 : κ i < 6
      · rw [if_pos ((n_lt (by omega) (by omega)).mpr h6), nI_1]
        refine Or.inl ⟨_, rfl, ⟨i + 1, hlt, by rw [cntK, if_neg (by omega)]; rfl, fun c hc h7 => ?_⟩, hms⟩
        by_cases e : c = i
        · subst e; omega
        · exact hno c (by omega) h7
      · rw [if_neg (by rw [n_lt (by omega) (by omega)]; exact h6)]
        by_cases hx : nI (cntK κ 6 7 i) = x
        · rw [if_pos hx]
          exact Or.inr ⟨_, rfl, Or.inl ⟨i, hlt, by omega, hx.symm, rfl⟩⟩
        · rw [if_neg hx, nI_1, nI_1]
          refine Or.inl ⟨_, rfl, ⟨i + 1, hlt, by rw [cntK, if_pos (by omega)], fun c hc h7 => ?_⟩, hms⟩
          by_cases e : c = i
          · subst e; exact fun q => hx q.symm
          · exact hno c (by omega) h7) 1000 (nI (cntK κ 6 7 0), nI 0) ⟨0, Nat.zero_le _, rfl, fun c hc => absurd hc (Nat.not_lt_zero c)⟩ (by show W * H - (nI 0).toNatClampNeg < 1000; omega)
  rw [f_X2_doorCell]
  have e : ((0 : Int32), (0 : Int32)) = (nI (cntK κ 6 7 0), nI 0) := rfl
  rw [e, ht, bind_s]
  rcases hp with ⟨c, h1, h2, h3, rfl⟩ | ⟨h1, rfl⟩
  · exact Or.inl ⟨c, h1, h2, h3, rfl⟩
  · exact Or.inr ⟨h1, rfl⟩
theorem m_doorCell (h : RoomM W H κ f) (hd : Dim W H) (hk : Kok W H κ) {c : Nat} (hc : c < W * H) (hk6 : 6 ≤ κ c ∧ κ c ≤ 7) : f_X6_doorCell f (nI (cntK κ 6 7 c)) = some (nI c) := by
  have hN := hd.le
  have hcc := cntK_le κ 6 7 c
  have step : ∀ i, i < W * H → f_X6_doorCell_4 f (nI (cntK κ 6 7 c - cntK κ 6 7 i)) (nI i) = if 6 ≤ κ i ∧ κ i ≤ 7 then (if cntK κ 6 7 c - cntK κ 6 7 i = 0 then some (Sum.inr (Sum.inl (nI i))) else some (Sum.inl (nI (cntK κ 6 7 c - cntK κ 6 7 i - 1), nI (i + 1)))) else some (Sum.inl (nI (cntK κ 6 7 c - cntK κ 6 7 i), nI (i + 1))) := by
    intro i hi
    have hki := hk i hi
    rw [f_X6_doorCell_4, m_cells h, bind_s, if_neg (by rw [n_le (by omega) (by omega)]; omega), chk_t (m_at h hd hi).1, (m_at h hd hi).2, m_isDoor hki, bind_s]
    by_cases h1 : 6 ≤ κ i ∧ κ i ≤ 7
    · rw [if_pos h1, if_pos h1, if_neg (by decide)]
      by_cases h2 : cntK κ 6 7 c - cntK κ 6 7 i = 0
      · rw [if_pos h2, if_pos (by rw [h2]; rfl)]
      · rw [if_neg h2, if_neg (by rw [n_z (by omega)]; exact h2), nI_1, sb_m1 (by omega)]
    · rw [if_neg h1, if_neg h1, if_pos rfl, nI_1]
  have key : lpf (fun s : Int32 × Int32 => f_X6_doorCell_4 f s.1 s.2) 1000 (nI (cntK κ 6 7 c - cntK κ 6 7 0), nI 0) = some (Sum.inl (nI c)) := by
    refine lpf_seq c (fun i => (nI (cntK κ 6 7 c - cntK κ 6 7 i), nI i)) (fun i hi => ?_) ?_ 1000 (by omega)
    · show f_X6_doorCell_4 f (nI (cntK κ 6 7 c - cntK κ 6 7 i)) (nI i) = _
      rw [step i (by omega), cntK]
      by_cases h1 : 6 ≤ κ i ∧ κ i ≤ 7
      · have := cntK_at κ 6 7 hi h1
        rw [if_pos h1, if_pos h1, if_neg (by omega), Nat.sub_sub]
      · rw [if_neg h1, if_neg h1]
        rfl
    · show f_X6_doorCell_4 f (nI (cntK κ 6 7 c - cntK κ 6 7 c)) (nI c) = _
      rw [step c hc, if_pos hk6, if_pos (by omega)]
  rw [f_X6_doorCell]
  have e : (nI (cntK κ 6 7 c), (0 : Int32)) = (nI (cntK κ 6 7 c - cntK κ 6 7 0), nI 0) := rfl
  rw [e, key]
  rfl
theorem m_isDoorIn (h : RoomM W H κ f) (hd : Dim W H) (hk : Kok W H κ) {j : Nat} (hj : j < cntK κ 6 7 (W * H)) : f_X6_isTheDoor f (nI j) = some 1 := by
  have hN := hd.le
  have hc := cntK_le κ 6 7 (W * H)
  rw [f_X6_isTheDoor, m_doors h hd hk, bind_s, show (1 : Int32) = nI 1 from rfl, pk_sub (by omega), show (0 : Int32) = nI 0 from rfl, m_inN (by omega) (by omega) (by omega), bind_s, if_pos (by omega)]
  rfl
theorem m_isDoorOut (h : RoomM W H κ f) (hd : Dim W H) (hk : Kok W H κ) {x : Int32} (hx : x < 0 ∨ nI (cntK κ 6 7 (W * H)) ≤ x) : f_X6_isTheDoor f x = some 0 := by
  have hN := hd.le
  have hc := cntK_le κ 6 7 (W * H)
  rw [f_X6_isTheDoor, m_doors h hd hk, bind_s, m_in]
  by_cases h1 : x < 0
  · rw [if_pos h1]
    rfl
  · obtain ⟨j, hj, rfl⟩ := nI_of h1
    have h3 := (nI_leI (by omega) hj).mp (hx.resolve_left h1)
    rw [if_neg h1]
    by_cases h0 : cntK κ 6 7 (W * H) = 0
    · rw [h0, if_pos (show nI 0 - 1 < nI j from Int32.lt_of_lt_of_le (by decide) (Int32.not_lt.mp h1))]
      rfl
    · rw [show (1 : Int32) = nI 1 from rfl, pk_sub (by omega), if_pos (nI_lt (by omega) hj)]
      rfl
theorem kth (κ : Nat → Nat) (a b n : Nat) : ∀ k, k < cntK κ a b n → ∃ c, c < n ∧ (a ≤ κ c ∧ κ c ≤ b) ∧ cntK κ a b c = k := by
  induction n with
  | zero => intro k h; exact absurd h (Nat.not_lt_zero k)
  | succ n ih =>
    intro k h
    rw [cntK] at h
    by_cases h1 : a ≤ κ n ∧ κ n ≤ b
    · rw [if_pos h1] at h
      by_cases h2 : k < cntK κ a b n
      · obtain ⟨c, q1, q2, q3⟩ := ih k h2
        exact ⟨c, by omega, q2, q3⟩
      · exact ⟨n, by omega, h1, by omega⟩
    · rw [if_neg h1] at h
      obtain ⟨c, q1, q2, q3⟩ := ih k h
      exact ⟨c, by omega, q2, q3⟩
/-- a door or none, for both -/
theorem door_cases (hx : RoomX W H κ co ro kd) (hm : RoomM W H κ f) (hd : Dim W H) (hk : Kok W H κ) (x : Int32) : (f_X2_doorCell co ro kd x = some (-1) ∧ f_X6_isTheDoor f x = some 0) ∨ ∃ c, c < W * H ∧ (6 ≤ κ c ∧ κ c ≤ 7) ∧ x = nI (cntK κ 6 7 c) ∧ f_X2_doorCell co ro kd x = some (nI c) ∧ f_X6_isTheDoor f x = some 1 ∧ f_X6_doorCell f x = some (nI c) := by
  have hN := hd.le
  have hcN := cntK_le κ 6 7 (W * H)
  rcases x_doorCell hx hd hk x with ⟨c, h1, h2, h3, h4⟩ | ⟨h1, h2⟩
  · subst h3
    exact Or.inr ⟨c, h1, h2, rfl, h4, m_isDoorIn hm hd hk (by have := cntK_at κ 6 7 h1 h2; omega), m_doorCell hm hd hk h1 h2⟩
  · refine Or.inl ⟨h2, m_isDoorOut hm hd hk ?_⟩
    rcases pk_ix x (n := cntK κ 6 7 (W * H)) (by omega) with h | h | ⟨j, hj, rfl⟩
    · exact Or.inl h
    · exact Or.inr h
    · obtain ⟨c, q1, q2, q3⟩ := kth κ 6 7 (W * H) j hj
      exact absurd (by rw [q3]) (h1 c q1 q2.1)
end DC
theorem op_doorAt : Op_doorAt InvP := by
  intro coR roR kdR tn tl pz pg mn mp mc ml mt x1 hI
  have hI0 := hI
  obtain ⟨R, z, h, ⟨hd, hk, hh, hdo⟩, hX, hM, -⟩ := hI
  rw [f_X5_doorAt, f_X6_doorAt]
  rcases door_cases hX hM hd hk x1 with ⟨h1, h2⟩ | ⟨c, h1, h2, h3, h4, h5, h6⟩
  · rw [h1, h2]
    exact ⟨_, _, rfl, rfl, rfl, hI0⟩
  · rw [h4, h5, bind_s, bind_s, if_neg (by decide), h6]
    exact ⟨_, _, rfl, rfl, rfl, hI0⟩
