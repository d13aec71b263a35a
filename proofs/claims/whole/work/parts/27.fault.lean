/-! ===== a row read by the class, by the reference ===== -/
section RR
variable {n : Nat} {L : Nat → Nat} {t : Nat → Int32} {W H : Nat} {κ : Nat → Nat}
theorem x_readRow {co ro : Int32} {kd : Nat → Int32} (hL : TxtL n L t) (h : RoomX W H κ co ro kd) (hp : Part W H κ) {s e : Nat} (hs : s < n) (hse : s ≤ e) (hen : e ≤ n) (hno : ∀ i, s ≤ i → i < e → L i ≠ 59) (he : e < n → L e = 59) : ∃ b co' ro' kd', f_X3_readRow co ro kd (nI n) t (nI s) (nI e) = some (b, co', ro', kd') ∧ ((b = 0 ∧ ∀ w, ¬ RowOK n L W H κ s w) ∨ (b = 1 ∧ ∃ w, e = s + 1 + w ∧ RowOK n L W H κ s w ∧ RoomX w (H + 1) (rowK W H κ L s) co' ro' kd')) := by
  have h60 := hL.1
  have one : ∀ w, RowOK n L W H κ s w → e < n ∧ e = s + 1 + w := fun w hw => row_one hse hno he hen hw
  rw [f_X3_readRow]
  by_cases hlt : e < n
  · rw [if_neg (by rw [n_le (by omega) (by omega)]; omega), x_letter hL hs, bind_s, show (114 : Int32) = nI 114 from rfl]
    have hls := hL.2 s hs
    by_cases hr : L s = 114
    · have hne : e ≠ s := by
        intro q
        have := he hlt
        rw [q, hr] at this
        omega
      obtain ⟨w, ew⟩ : ∃ w, e = s + 1 + w := ⟨e - s - 1, by omega⟩
      have ew2 : nI e - nI s - 1 = nI w := by
        rw [pk_sub (by omega), show (1 : Int32) = nI 1 from rfl, pk_sub (by omega), show e - s - 1 = w by omega]
      rw [if_pos (by rw [hr]), ew2]
      rcases x_addRow h hp (w := w) (by omega) with ⟨a1, a2⟩ | ⟨a2, a1⟩
      · rw [a1, bind_s]
        refine ⟨_, _, _, _, rfl, Or.inl ⟨rfl, fun w' hw' => a2 ?_⟩⟩
        have e9 := (one w' hw').2
        have e8 : w' = w := by omega
        subst e8
        exact ⟨hw'.2.2.2.2.1, hw'.2.2.2.2.2.1, hw'.2.2.2.2.2.2.1⟩
      · obtain ⟨h4, hf1, hf2⟩ := a2
        obtain ⟨hd, ewH, hN⟩ := part_dim hp h4 hf1 hf2
        rw [a1, bind_s]
        simp only [i10, ↓reduceIte, f_X2_cells, pk_mul, Option.bind_some]
        rw [ewH, pk_sub (by omega), show W * H + w - w = W * H by omega]
        obtain ⟨r, hr9, hq⟩ := lpf_run (f := fun q : Int32 × (Nat → Int32) => f_X3_readRow_48 (nI w) (nI (H + 1)) (nI n) t (nI s) (nI w) (nI (W * H)) q.1 q.2) (fun q => ∃ x, x ≤ w ∧ q.1 = nI x ∧ (∀ c, c < W * H → q.2 c = kd c) ∧ ∀ i, i < x → kindL (L (s + 1 + i)) < 8 ∧ q.2 (W * H + i) = nI (kindL (L (s + 1 + i)))) (fun r => (∃ z, r = Sum.inl ((0 : Int32), z) ∧ ∃ i, i < w ∧ ¬ kindL (L (s + 1 + i)) < 8) ∨ ∃ g, r = Sum.inr g ∧ (∀ c, c < W * H → g c = kd c) ∧ ∀ i, i < w → kindL (L (s + 1 + i)) < 8 ∧ g (W * H + i) = nI (kindL (L (s + 1 + i)))) (fun q => w - q.1.toNatClampNeg) (by
          rintro ⟨sx, sg⟩ ⟨x, hx, rfl, hk1, hk2⟩
          show (∃ s', f_X3_readRow_48 (nI w) (nI (H + 1)) (nI n) t (nI s) (nI w) (nI (W * H)) (nI x) sg = some (Sum.inl s') ∧ _) ∨ ∃ r, f_X3_readRow_48 (nI w) (nI (H + 1)) (nI n) t (nI s) (nI w) (nI (W * H)) (nI x) sg = some (Sum.inr r) ∧ _
          rw [f_X3_readRow_48]
          by_cases e5 : x = w
          · subst e5
            rw [if_pos ((n_le (by omega) (by omega)).mpr (Nat.le_refl _))]
            exact Or.inr ⟨_, rfl, Or.inr ⟨sg, rfl, hk1, hk2⟩⟩
          · have hxw : x < w := by omega
            have e6 : nI s + 1 + nI x = nI (s + 1 + x) := by rw [nI_1, nI_add]
            have hlx := hL.2 (s + 1 + x) (by omega)
            have hix := (ind_fin (L (s + 1 + x)) (by omega)).1
            rw [if_neg (by rw [n_le (by omega) (by omega)]; omega), e6, x_letter hL (by omega), bind_s, hix, bind_s]
            by_cases hk8 : kindL (L (s + 1 + x)) < 8
            · have e4 : f_X2_tell (nI w) (nI (H + 1)) sg (nI (W * H + x)) (nI (kindL (L (s + 1 + x)))) = some (upd sg (W * H + x) (nI (kindL (L (s + 1 + x))))) := by
                rw [f_X2_tell, if_neg (n_neg (by omega)), f_X2_cells, pk_mul, bind_s, ewH, if_neg (by rw [n_le (by omega) (by omega)]; omega), if_neg (by rw [show (20 : Int32) = nI 20 from rfl, n_le (by decide) (by omega)]; omega), chk_t (aix_n (by omega) (by decide)), nI_c _ (by omega)]
              rw [if_pos hk8, if_pos (nI_pos' (by omega)), nI_add, e4, bind_s, nI_1]
              refine Or.inl ⟨_, rfl, ⟨x + 1, by omega, rfl, fun c hc => ?_, fun i hi => ?_⟩, ?_⟩
              · show upd sg (W * H + x) _ c = kd c
                rw [pk_un (by omega)]; exact hk1 c hc
              · show kindL (L (s + 1 + i)) < 8 ∧ upd sg (W * H + x) _ (W * H + i) = _
                by_cases e7 : i = x
                · subst e7; rw [pk_us]; exact ⟨hk8, rfl⟩
                · rw [pk_un (by omega)]; exact hk2 i (by omega)
              · show w - (nI (x + 1)).toNatClampNeg < w - (nI x).toNatClampNeg
                rw [nI_c _ (by omega), nI_c _ (by omega)]; omega
            · rw [if_neg hk8, if_neg (by decide)]
              exact Or.inr ⟨_, rfl, Or.inl ⟨_, rfl, x, hxw, hk8⟩⟩) 1000 (nI 0, kd) ⟨0, Nat.zero_le _, rfl, fun _ _ => rfl, fun i hi => absurd hi (Nat.not_lt_zero i)⟩ (by show w - (nI 0).toNatClampNeg < 1000; omega)
        rw [show ((0 : Int32), kd) = (nI 0, kd) from rfl, hr9, bind_s]
        rcases hq with ⟨z, rfl, i, hi, hk8⟩ | ⟨g, rfl, hg1, hg2⟩
        · refine ⟨_, _, _, _, rfl, Or.inl ⟨rfl, fun w' hw' => hk8 ?_⟩⟩
          have e9 := (one w' hw').2
          exact hw'.2.2.2.1 i (by omega)
        · have hk8 : ∀ i, i < w → kindL (L (s + 1 + i)) < 8 := fun i hi => (hg2 i hi).1
          have hRX : RoomX w (H + 1) (rowK W H κ L s) (nI w) (nI (H + 1)) g := by
            refine ⟨rfl, rfl, fun c hc => ?_⟩
            rw [ewH] at hc
            unfold rowK
            by_cases q : c < W * H
            · rw [if_pos q, hg1 c q]; exact h.2.2 c q
            · rw [if_neg q]
              have := (hg2 (c - W * H) (by omega)).2
              rw [show W * H + (c - W * H) = c by omega] at this
              exact this
          have hKK := rowK_ok (L := L) (s := s) hp ewH hk8
          show ∃ b co' ro' kd', Option.bind (f_X2_isOverfull (nI w) (nI (H + 1)) g) _ = _ ∧ _
          rw [x_over hRX hd hKK, bind_s]
          by_cases ov : cntK (rowK W H κ L s) 3 4 (w * (H + 1)) ≤ 5 ∧ cntK (rowK W H κ L s) 6 7 (w * (H + 1)) ≤ 4
          · rw [if_pos ov, if_pos rfl]
            exact ⟨_, _, _, _, rfl, Or.inr ⟨rfl, w, ew, ⟨hr, by omega, by rw [← ew]; exact he hlt, hk8, h4, hf1, hf2, ov.1, ov.2⟩, hRX⟩⟩
          · rw [if_neg ov, if_neg (by decide)]
            refine ⟨_, _, _, _, rfl, Or.inl ⟨rfl, fun w' hw' => ov ?_⟩⟩
            have e9 := (one w' hw').2
            have e8 : w' = w := by omega
            subst e8
            exact hw'.2.2.2.2.2.2.2
    · rw [if_neg (by rw [n_eq (by omega) (by omega)]; exact hr)]
      exact ⟨_, _, _, _, rfl, Or.inl ⟨rfl, fun w' hw' => hr hw'.1⟩⟩
  · rw [if_pos ((n_le (by omega) (by omega)).mpr (by omega))]
    exact ⟨_, _, _, _, rfl, Or.inl ⟨rfl, fun w' hw' => hlt (one w' hw').1⟩⟩
theorem m_takes {mr : Nat → Int32} (hL : TxtL n L t) (h : RoomM W H κ mr) (hp : Part W H κ) {s : Nat} (hs : s < n) : ∃ b sp mr', f_X6_takesRow (nI n) (nI s) mr t = some (b, sp, mr') ∧ ((b = 0 ∧ ∀ w, ¬ RowOK n L W H κ s w) ∨ (b = 1 ∧ ∃ w, sp = nI (s + 1 + w + 1) ∧ RowOK n L W H κ s w ∧ RoomM w (H + 1) (rowK W H κ L s) mr')) := by
  have h60 := hL.1
  have hls := hL.2 s hs
  have hH := hp.1
  have hW5 : W ≤ 5 := by
    by_cases q : H = 0
    · rw [hp.2.1 q]; omega
    · exact (hp.2.2.1 (by omega)).2
  rw [f_X6_takesRow, chk_t (aix_n (by omega) (by decide)), nI_c s (by omega), hls.1, tc0, tc1, h.1, h.2.1, show (114 : Int32) = nI 114 from rfl]
  by_cases hr : L s = 114
  · rw [if_pos (by rw [hr]), show (4 : Int32) = nI 4 from rfl]
    by_cases h4 : H = 4
    · rw [if_pos (by rw [h4])]
      exact ⟨_, _, _, rfl, Or.inl ⟨rfl, fun w hw => by have := hw.2.2.2.2.1; omega⟩⟩
    · rw [if_neg (by rw [n_eq (by omega) (by omega)]; exact h4)]
      have h4' : H < 4 := by omega
      obtain ⟨wide, hwide, hw5, hw1, hw2⟩ : ∃ wide, (if nI H = 0 then some (5 : Int32) else some (nI W)) = some (nI wide) ∧ wide ≤ 5 ∧ (H = 0 → wide = 5) ∧ (0 < H → wide = W) := by
        by_cases q : H = 0
        · exact ⟨5, by rw [if_pos (by rw [q]; rfl)]; rfl, by omega, fun _ => rfl, fun z => by omega⟩
        · exact ⟨W, by rw [if_neg (by rw [n_z (by omega)]; exact q)], hW5, fun z => absurd z q, fun _ => rfl⟩
      have hWH : W * H + wide ≤ 20 := by
        by_cases q : H = 0
        · rw [q, Nat.mul_zero]; omega
        · have : W * H ≤ 5 * 3 := Nat.mul_le_mul hW5 (by omega)
          omega
      rw [hwide, bind_s, pk_mul, show (2 : Int32) = nI 2 from rfl, nI_add, nI_1]
      obtain ⟨r, hr9, i, hiw, e1, hin, hkeep, hkin, hstop⟩ := lpf_run (f := fun q : Int32 × Int32 × (Nat → Int32) => f_X6_takesRow_74 (nI n) t (nI wide) (nI (2 + W * H)) q.1 q.2.1 q.2.2) (fun q => ∃ i, i ≤ wide ∧ q.1 = nI i ∧ q.2.1 = nI (s + 1 + i) ∧ s + 1 + i ≤ n ∧ (∀ c, c < 2 + W * H → q.2.2 c = mr c) ∧ ∀ j, j < i → kindL (L (s + 1 + j)) < 8 ∧ q.2.2 (2 + W * H + j) = nI (kindL (L (s + 1 + j)))) (fun r => ∃ i, i ≤ wide ∧ (r.1 = nI i ∧ r.2.1 = nI (s + 1 + i)) ∧ s + 1 + i ≤ n ∧ (∀ c, c < 2 + W * H → r.2.2 c = mr c) ∧ (∀ j, j < i → kindL (L (s + 1 + j)) < 8 ∧ r.2.2 (2 + W * H + j) = nI (kindL (L (s + 1 + j)))) ∧ (s + 1 + i = n ∨ i = wide ∨ ¬ kindL (L (s + 1 + i)) < 8)) (fun q => 100 - q.1.toNatClampNeg) (by
        rintro ⟨sx, sy, sg⟩ ⟨i, hi, rfl, rfl, hin, hk1, hk2⟩
        simp only at hk1 hk2
        show (∃ s', f_X6_takesRow_74 (nI n) t (nI wide) (nI (2 + W * H)) (nI i) (nI (s + 1 + i)) sg = some (Sum.inl s') ∧ _) ∨ ∃ r, f_X6_takesRow_74 (nI n) t (nI wide) (nI (2 + W * H)) (nI i) (nI (s + 1 + i)) sg = some (Sum.inr r) ∧ _
        rw [f_X6_takesRow_74]
        by_cases e5 : s + 1 + i = n
        · rw [if_pos ((n_le (by omega) (by omega)).mpr (by omega))]
          exact Or.inr ⟨_, rfl, i, hi, ⟨rfl, rfl⟩, hin, hk1, hk2, Or.inl e5⟩
        · rw [if_neg (by rw [n_le (by omega) (by omega)]; omega)]
          by_cases e6 : i = wide
          · rw [if_pos ((n_le (by omega) (by omega)).mpr (by omega))]
            exact Or.inr ⟨_, rfl, i, hi, ⟨rfl, rfl⟩, hin, hk1, hk2, Or.inr (Or.inl e6)⟩
          · have hlx := hL.2 (s + 1 + i) (by omega)
            have hix := (ind_fin (L (s + 1 + i)) (by omega)).2
            rw [if_neg (by rw [n_le (by omega) (by omega)]; omega), chk_t (aix_n (by omega) (by decide)), nI_c _ (by omega), hlx.1, hix, bind_s, bind_s]
            by_cases hk8 : kindL (L (s + 1 + i)) < 8
            · rw [if_pos hk8, if_neg (fun q => by
                have h9 : (nI (kindL (L (s + 1 + i)))).toInt = (kindL (L (s + 1 + i)) : Int) := nI_toInt (by omega)
                rw [q] at h9
                have h10 : (-4 : Int32).toInt = -4 := by decide
                omega), nI_add, chk_t (aix_n (by omega) (by decide)), nI_c _ (by omega), nI_1, nI_1]
              refine Or.inl ⟨_, rfl, ⟨i + 1, by omega, rfl, rfl, by omega, fun c hc => ?_, fun j hj => ?_⟩, ?_⟩
              · show upd sg (2 + W * H + i) _ c = mr c
                rw [pk_un (by omega)]; exact hk1 c hc
              · show kindL (L (s + 1 + j)) < 8 ∧ upd sg (2 + W * H + i) _ (2 + W * H + j) = _
                by_cases e7 : j = i
                · subst e7; rw [pk_us]; exact ⟨hk8, rfl⟩
                · rw [pk_un (by omega)]; exact hk2 j (by omega)
              · show 100 - (nI (i + 1)).toNatClampNeg < 100 - (nI i).toNatClampNeg
                rw [nI_c _ (by omega), nI_c _ (by omega)]; omega
            · rw [if_neg hk8, if_pos rfl]
              exact Or.inr ⟨_, rfl, i, hi, ⟨rfl, rfl⟩, hin, hk1, hk2, Or.inr (Or.inr hk8)⟩) 1000 (nI 0, nI (s + 1), mr) ⟨0, Nat.zero_le _, rfl, rfl, by omega, fun _ _ => rfl, fun j hj => absurd hj (Nat.not_lt_zero j)⟩ (by show 100 - (nI 0).toNatClampNeg < 1000; omega)
      obtain ⟨r1, r2, g⟩ := r
      obtain ⟨rfl, rfl⟩ := e1
      simp only at hkeep hkin
      rw [show ((0 : Int32), nI (s + 1), mr) = (nI 0, nI (s + 1), mr) from rfl, hr9, bind_s]
      simp only
      rw [hkeep 1 (by omega), h.2.1]
      have one : ∀ w, RowOK n L W H κ s w → w = i := by
        intro w hw
        obtain ⟨-, q2, q3, q4, q5, q6, q7, -⟩ := hw
        have hwl : w ≤ wide := by
          by_cases q : H = 0
          · have := q6 q; have := hw1 q; omega
          · have := q7 (by omega); have := hw2 (by omega); omega
        rcases Nat.lt_trichotomy i w with z | z | z
        · have := q4 i z
          rcases hstop with z1 | z1 | z1
          · omega
          · omega
          · exact absurd this z1
        · exact z.symm
        · have := (hkin w z).1
          rw [q3, kindL_59] at this
          omega
      by_cases hi2 : i < 2
      · rw [if_pos ((n_lt (by omega) (by omega)).mpr hi2)]
        refine ⟨_, _, _, rfl, Or.inl ⟨rfl, fun w hw => ?_⟩⟩
        have e8 := one w hw
        obtain ⟨-, -, -, -, -, q6, q7, -⟩ := hw
        by_cases q : H = 0
        · have := q6 q; omega
        · have := q7 (by omega); have := hp.2.2.1 (by omega); omega
      · rw [if_neg (by rw [n_lt (by omega) (by omega)]; exact hi2)]
        have tail : (0 < H → i = wide) → ∃ b sp mr', (if nI (s + 1 + i) = nI n then some ((0 : Int32), nI (s + 1 + i), g) else chk (aix (nI (s + 1 + i)) 60) (if t (Int32.toNatClampNeg (nI (s + 1 + i))) = 59 then Option.bind (f_X6_halves (upd (upd g 0 (nI i)) 1 (upd g 0 (nI i) 1 + 1))) (fun r49 => if (5 : Int32) < r49 then some ((0 : Int32), nI (s + 1 + i) + 1, upd (upd g 0 (nI i)) 1 (upd g 0 (nI i) 1 + 1)) else Option.bind (f_X6_doors (upd (upd g 0 (nI i)) 1 (upd g 0 (nI i) 1 + 1))) (fun r51 => if nI 4 < r51 then some ((0 : Int32), nI (s + 1 + i) + 1, upd (upd g 0 (nI i)) 1 (upd g 0 (nI i) 1 + 1)) else some ((1 : Int32), nI (s + 1 + i) + 1, upd (upd g 0 (nI i)) 1 (upd g 0 (nI i) 1 + 1)))) else some ((0 : Int32), nI (s + 1 + i), g))) = some (b, sp, mr') ∧ ((b = 0 ∧ ∀ w, ¬ RowOK n L W H κ s w) ∨ (b = 1 ∧ ∃ w, sp = nI (s + 1 + w + 1) ∧ RowOK n L W H κ s w ∧ RoomM w (H + 1) (rowK W H κ L s) mr')) := by
          intro hfull
          by_cases en : s + 1 + i = n
          · rw [if_pos (by rw [en])]
            refine ⟨_, _, _, rfl, Or.inl ⟨rfl, fun w hw => ?_⟩⟩
            have e8 := one w hw
            have := hw.2.1
            omega
          · have hlx := hL.2 (s + 1 + i) (by omega)
            rw [if_neg (by rw [n_eq (by omega) (by omega)]; exact en), chk_t (aix_n (by omega) (by decide)), nI_c _ (by omega), hlx.1, show (59 : Int32) = nI 59 from rfl]
            by_cases e59 : L (s + 1 + i) = 59
            · have hf1 : H = 0 → 2 ≤ i ∧ i ≤ 5 := fun _ => by omega
              have hf2 : 0 < H → i = W := fun q => by rw [hfull q, hw2 q]
              obtain ⟨hd, ewH, hN⟩ := part_dim hp h4' hf1 hf2
              have hk8 : ∀ j, j < i → kindL (L (s + 1 + j)) < 8 := fun j hj => (hkin j hj).1
              have hg1 : g 1 = nI H := by rw [hkeep 1 (by omega)]; exact h.2.1
              have hRM : RoomM i (H + 1) (rowK W H κ L s) (upd (upd g 0 (nI i)) 1 (upd g 0 (nI i) 1 + 1)) := by
                refine ⟨by rw [pk_un (by omega), pk_us], by rw [pk_us, pk_un (by omega), hg1, nI_1], fun c hc => ?_⟩
                rw [ewH] at hc
                rw [pk_un (by omega), pk_un (by omega)]
                unfold rowK
                by_cases q : c < W * H
                · rw [if_pos q, hkeep (2 + c) (by omega)]; exact h.2.2 c q
                · rw [if_neg q]
                  have := (hkin (c - W * H) (by omega)).2
                  rw [show 2 + W * H + (c - W * H) = 2 + c by omega] at this
                  exact this
              have hKK := rowK_ok (L := L) (s := s) hp ewH hk8
              have q1 := cntK_le (rowK W H κ L s) 3 4 (i * (H + 1))
              have q2 := cntK_le (rowK W H κ L s) 6 7 (i * (H + 1))
              rw [if_pos (by rw [e59]), m_halves hRM hd hKK, bind_s, m_doors hRM hd hKK, bind_s, show (5 : Int32) = nI 5 from rfl]
              have fail : ¬ (cntK (rowK W H κ L s) 3 4 (i * (H + 1)) ≤ 5 ∧ cntK (rowK W H κ L s) 6 7 (i * (H + 1)) ≤ 4) → ∀ w, ¬ RowOK n L W H κ s w := by
                intro hno w hw
                have e8 := one w hw
                subst e8
                exact hno hw.2.2.2.2.2.2.2
              by_cases o1 : 5 < cntK (rowK W H κ L s) 3 4 (i * (H + 1))
              · rw [if_pos ((n_lt (by omega) (by omega)).mpr o1)]
                exact ⟨_, _, _, rfl, Or.inl ⟨rfl, fail (by omega)⟩⟩
              · rw [if_neg (by rw [n_lt (by omega) (by omega)]; exact o1)]
                by_cases o2 : 4 < cntK (rowK W H κ L s) 6 7 (i * (H + 1))
                · rw [if_pos ((n_lt (by omega) (by omega)).mpr o2)]
                  exact ⟨_, _, _, rfl, Or.inl ⟨rfl, fail (by omega)⟩⟩
                · rw [if_neg (by rw [n_lt (by omega) (by omega)]; exact o2), nI_1]
                  exact ⟨_, _, _, rfl, Or.inr ⟨rfl, i, rfl, ⟨hr, by omega, e59, hk8, h4', hf1, hf2, by omega, by omega⟩, hRM⟩⟩
            · rw [if_neg (by rw [n_eq (by omega) (by omega)]; exact e59)]
              refine ⟨_, _, _, rfl, Or.inl ⟨rfl, fun w hw => ?_⟩⟩
              have e8 := one w hw
              subst e8
              exact e59 hw.2.2.1
        by_cases q : H = 0
        · rw [if_pos (show nI H ≤ 0 by rw [q]; decide)]
          exact tail (fun z => by omega)
        · rw [if_neg (nI_nle (by omega) (by omega))]
          by_cases q2 : i < wide
          · rw [if_pos ((n_lt (by omega) (by omega)).mpr q2)]
            refine ⟨_, _, _, rfl, Or.inl ⟨rfl, fun w hw => ?_⟩⟩
            have e8 := one w hw
            have := hw.2.2.2.2.2.2.1 (by omega)
            have := hw2 (by omega)
            omega
          · rw [if_neg (by rw [n_lt (by omega) (by omega)]; exact q2)]
            exact tail (fun _ => by omega)
  · rw [if_neg (by rw [n_eq (by omega) (by omega)]; exact hr)]
    exact ⟨_, _, _, rfl, Or.inl ⟨rfl, fun w hw => hr hw.1⟩⟩
end RR
