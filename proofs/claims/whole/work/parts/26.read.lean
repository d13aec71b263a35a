/-! ===== the text: fault, lay ===== -/
def kindL (a : Nat) : Nat := if a = 46 then 0 else if a = 47 then 1 else if a = 92 then 2 else if a = 102 then 3 else if a = 98 then 4 else if a = 35 then 5 else if a = 111 then 6 else if a = 120 then 7 else 8
theorem ind_fin : ∀ a, a < 128 → f_J0_indexOf_0f7a4 ((Int32.toUInt32 (nI a) % 65536).toInt32) = some (if kindL a < 8 then nI (kindL a) else -1) ∧ f_X6_kindOf (nI a) = some (if kindL a < 8 then nI (kindL a) else -4) := by decide +kernel
theorem kindL_59 : kindL 59 = 8 := rfl
theorem kindL_114 : kindL 114 = 8 := rfl
/-- the text's letters as numbers -/
def TxtL (n : Nat) (L : Nat → Nat) (t : Nat → Int32) : Prop := n ≤ 60 ∧ ∀ i, i < n → t i = nI (L i) ∧ 32 ≤ L i ∧ L i ≤ 126
def rowK (W H : Nat) (κ L : Nat → Nat) (s : Nat) : Nat → Nat := fun c => if c < W * H then κ c else kindL (L (s + 1 + (c - W * H)))
/-- the item at s is a row of w cells that fits -/
def RowOK (n : Nat) (L : Nat → Nat) (W H : Nat) (κ : Nat → Nat) (s w : Nat) : Prop := L s = 114 ∧ s + 1 + w < n ∧ L (s + 1 + w) = 59 ∧ (∀ i, i < w → kindL (L (s + 1 + i)) < 8) ∧ H < 4 ∧ (H = 0 → 2 ≤ w ∧ w ≤ 5) ∧ (0 < H → w = W) ∧ cntK (rowK W H κ L s) 3 4 (w * (H + 1)) ≤ 5 ∧ cntK (rowK W H κ L s) 6 7 (w * (H + 1)) ≤ 4
def Part (W H : Nat) (κ : Nat → Nat) : Prop := H ≤ 4 ∧ (H = 0 → W = 0) ∧ (0 < H → 2 ≤ W ∧ W ≤ 5) ∧ Kok W H κ
theorem part_dim {W H : Nat} {κ : Nat → Nat} (hp : Part W H κ) {w : Nat} (hH : H < 4) (h0 : H = 0 → 2 ≤ w ∧ w ≤ 5) (h1 : 0 < H → w = W) : Dim w (H + 1) ∧ w * (H + 1) = W * H + w ∧ W * H + w ≤ 20 := by
  have hw : 2 ≤ w ∧ w ≤ 5 := by
    by_cases e : H = 0
    · exact h0 e
    · have := hp.2.2.1 (by omega)
      rw [h1 (by omega)]
      exact this
  have hd : Dim w (H + 1) := ⟨hw.1, hw.2, by omega, by omega⟩
  have e : w * (H + 1) = W * H + w := by
    rw [Nat.mul_add, Nat.mul_one]
    by_cases q : H = 0
    · rw [q, Nat.mul_zero, Nat.mul_zero]
    · rw [h1 (by omega)]
  exact ⟨hd, e, by rw [← e]; exact hd.le⟩
theorem rowK_ok {W H : Nat} {κ L : Nat → Nat} {s w : Nat} (hp : Part W H κ) (e : w * (H + 1) = W * H + w) (hk : ∀ i, i < w → kindL (L (s + 1 + i)) < 8) : Kok w (H + 1) (rowK W H κ L s) := by
  intro c hc
  rw [e] at hc
  unfold rowK
  by_cases h : c < W * H
  · rw [if_pos h]; exact hp.2.2.2 c h
  · rw [if_neg h]
    have := hk (c - W * H) (by omega)
    omega
theorem row_one {n : Nat} {L : Nat → Nat} {W H : Nat} {κ : Nat → Nat} {s e w : Nat} (hse : s ≤ e) (hno : ∀ i, s ≤ i → i < e → L i ≠ 59) (he : e < n → L e = 59) (hen : e ≤ n) (h : RowOK n L W H κ s w) : e < n ∧ e = s + 1 + w := by
  obtain ⟨h1, h2, h3, h4, -⟩ := h
  rcases Nat.lt_trichotomy e (s + 1 + w) with q | q | q
  · exfalso
    have h5 := he (by omega)
    by_cases q2 : e ≤ s
    · rcases Nat.lt_or_ge e s with q3 | q3
      · omega
      · have : e = s := by omega
        subst this
        rw [h1] at h5
        omega
    · have h6 := h4 (e - s - 1) (by omega)
      rw [show s + 1 + (e - s - 1) = e by omega, h5, kindL_59] at h6
      omega
  · exact ⟨by omega, q⟩
  · exact absurd h3 (hno _ (by omega) q)
section RX3
variable {n : Nat} {L : Nat → Nat} {t : Nat → Int32}
theorem x_letter (hL : TxtL n L t) {i : Nat} (hi : i < n) : f_X3_letterAt (nI n) t (nI i) = some (nI (L i)) := by
  have := hL.1
  rw [f_X3_letterAt, if_neg (n_neg (by omega)), if_neg (by rw [n_le (by omega) (by omega)]; omega), if_neg (by rw [show (60 : Int32) = nI 60 from rfl, n_le (by omega) (by omega)]; omega), chk_t (aix_n (by omega) (by decide)), nI_c _ (by omega), (hL.2 i hi).1]
theorem x_end (hL : TxtL n L t) {s : Nat} (hs : s ≤ n) : ∃ e, s ≤ e ∧ e ≤ n ∧ f_X3_endOfItem (nI n) t (nI s) = some (nI e) ∧ (∀ i, s ≤ i → i < e → L i ≠ 59) ∧ (e < n → L e = 59) := by
  have h60 := hL.1
  obtain ⟨r, hr, hp⟩ := lpf_run (f := fun q : Int32 => f_X3_endOfItem_2 (nI n) t q) (fun q => ∃ j, s ≤ j ∧ j ≤ n ∧ q = nI j ∧ ∀ i, s ≤ i → i < j → L i ≠ 59) (fun r => (∃ e, s ≤ e ∧ e < n ∧ r = Sum.inl (nI e) ∧ L e = 59 ∧ ∀ i, s ≤ i → i < e → L i ≠ 59) ∨ (r = Sum.inr () ∧ ∀ i, s ≤ i → i < n → L i ≠ 59)) (fun q => n - q.toNatClampNeg) (by
    rintro q ⟨j, h1, h2, rfl, h3⟩
    show (∃ s', f_X3_endOfItem_2 (nI n) t (nI j) = some (Sum.inl s') ∧ _) ∨ ∃ r, f_X3_endOfItem_2 (nI n) t (nI j) = some (Sum.inr r) ∧ _
    rw [f_X3_endOfItem_2]
    by_cases e : j = n
    · subst e
      rw [if_pos ((n_le (by omega) (by omega)).mpr (Nat.le_refl _))]
      exact Or.inr ⟨_, rfl, Or.inr ⟨rfl, h3⟩⟩
    · have hj : j < n := by omega
      have hl := hL.2 j hj
      rw [if_neg (by rw [n_le (by omega) (by omega)]; omega), x_letter hL hj, bind_s, show (59 : Int32) = nI 59 from rfl]
      by_cases e2 : L j = 59
      · rw [if_pos (by rw [e2])]
        exact Or.inr ⟨_, rfl, Or.inl ⟨j, h1, hj, rfl, e2, h3⟩⟩
      · rw [if_neg (by rw [n_eq (by omega) (by omega)]; exact e2), nI_1]
        refine Or.inl ⟨_, rfl, ⟨j + 1, by omega, hj, rfl, fun i q1 q2 => ?_⟩, ?_⟩
        · by_cases e3 : i = j
          · subst e3; exact e2
          · exact h3 i q1 (by omega)
        · show n - (nI (j + 1)).toNatClampNeg < n - (nI j).toNatClampNeg
          rw [nI_c _ (by omega), nI_c _ (by omega)]
          omega) 1000 (nI s) ⟨s, Nat.le_refl _, hs, rfl, fun i q1 q2 => absurd q2 (by omega)⟩ (by show n - (nI s).toNatClampNeg < 1000; omega)
  rw [f_X3_endOfItem, hr, bind_s]
  rcases hp with ⟨e, h1, h2, rfl, h3, h4⟩ | ⟨rfl, h4⟩
  · exact ⟨e, h1, by omega, rfl, h4, fun _ => h3⟩
  · exact ⟨n, hs, Nat.le_refl _, rfl, h4, fun q => absurd q (by omega)⟩
/-- one row more -/
theorem x_addRow {W H : Nat} {κ : Nat → Nat} {co ro : Int32} {kd : Nat → Int32} (h : RoomX W H κ co ro kd) (hp : Part W H κ) {w : Nat} (hw : w ≤ 60) : (f_X2_addRow co ro (nI w) = some (0, co, ro) ∧ ¬ (H < 4 ∧ (H = 0 → 2 ≤ w ∧ w ≤ 5) ∧ (0 < H → w = W))) ∨ ((H < 4 ∧ (H = 0 → 2 ≤ w ∧ w ≤ 5) ∧ (0 < H → w = W)) ∧ f_X2_addRow co ro (nI w) = some (1, nI w, nI (H + 1))) := by
  obtain ⟨e1, e2, -⟩ := id h
  have hW5 : W ≤ 5 := by
    by_cases q : H = 0
    · rw [hp.2.1 q]; omega
    · exact (hp.2.2.1 (by omega)).2
  have hH := hp.1
  have ej : (if ro = 0 then (if nI w < 2 then some (0 : Int32) else (if (5 : Int32) < nI w then some (0 : Int32) else some (1 : Int32))) else (if nI w = co then some (1 : Int32) else some (0 : Int32))) = some (if (H = 0 → 2 ≤ w ∧ w ≤ 5) ∧ (0 < H → w = W) then 1 else 0) := by
    rw [e1, e2]
    by_cases q : H = 0
    · rw [if_pos (show nI H = 0 by rw [q]; rfl), show (2 : Int32) = nI 2 from rfl, show (5 : Int32) = nI 5 from rfl]
      by_cases q1 : w < 2
      · rw [if_pos ((n_lt (by omega) (by omega)).mpr q1), if_neg (fun z => by have := z.1 q; omega)]
      · rw [if_neg (by rw [n_lt (by omega) (by omega)]; exact q1)]
        by_cases q2 : 5 < w
        · rw [if_pos ((n_lt (by omega) (by omega)).mpr q2), if_neg (fun z => by have := z.1 q; omega)]
        · rw [if_neg (by rw [n_lt (by omega) (by omega)]; exact q2), if_pos ⟨fun _ => by omega, fun z => by omega⟩]
    · rw [if_neg (by rw [n_z (by omega)]; exact q)]
      by_cases q1 : w = W
      · rw [if_pos (by rw [q1]), if_pos ⟨fun z => absurd z q, fun _ => q1⟩]
      · rw [if_neg (by rw [n_eq (by omega) (by omega)]; exact q1), if_neg (fun z => q1 (z.2 (by omega)))]
  rw [f_X2_addRow, ej, bind_s]
  by_cases hf : (H = 0 → 2 ≤ w ∧ w ≤ 5) ∧ (0 < H → w = W)
  · rw [if_pos hf, if_neg (by decide)]
    by_cases h4 : H < 4
    · rw [if_pos (show ro < 4 by rw [e2]; exact (n_lt (b := 4) (by omega) (by omega)).mpr h4), e2, nI_1]
      exact Or.inr ⟨⟨h4, hf.1, hf.2⟩, rfl⟩
    · rw [if_neg (show ¬ ro < 4 by rw [e2]; exact fun q => h4 ((n_lt (b := 4) (by omega) (by omega)).mp q))]
      exact Or.inl ⟨rfl, fun z => h4 z.1⟩
  · rw [if_neg hf, if_pos rfl]
    exact Or.inl ⟨rfl, fun z => hf z.2⟩
end RX3
