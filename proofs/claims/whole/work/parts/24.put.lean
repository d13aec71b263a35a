/-! ===== put, door ===== -/
theorem ix_or (x : Int32) {n : Nat} (hn : n < 2 ^ 31) : (x < 0 ∨ nI n ≤ x) ∨ ∃ j, j < n ∧ x = nI j := by
  rcases pk_ix x hn with h | h | h
  · exact Or.inl (Or.inl h)
  · exact Or.inl (Or.inr h)
  · exact Or.inr h
theorem m_more {P Q : Prop} [Decidable P] [Decidable Q] {n m : Nat} (hn : n < 1000) (hm : m < 1000) : (if (if P then (1 : Int32) else 0) = 0 then some (0 : Int32) else Option.bind (some (if Q then (1 : Int32) else 0)) (fun r => if r = 0 then Option.bind (some (nI n)) (fun s => if s = nI m then some (1 : Int32) else some 0) else some 0)) = some (if P ∧ ¬ Q ∧ n = m then (1 : Int32) else 0) := by
  by_cases hp : P
  · by_cases hq : Q
    · simp [hp, hq]
    · by_cases he : n = m
      · simp [hp, hq, he]
      · have : ¬ nI n = nI m := by rw [n_eq (by omega) (by omega)]; exact he
        simp [hp, hq, he, this]
  · simp [hp]
theorem x_change {W H : Nat} {κ : Nat → Nat} {co ro : Int32} {kd : Nat → Int32} (h : RoomX W H κ co ro kd) (hd : Dim W H) {c : Nat} (hc : c < W * H) (hk : κ c ≤ 7) {z : Nat} (hz : z ≤ 4) (pg : Nat → Int32) (k : Nat) : ∃ pg', f_X5_change co ro kd (nI z) pg (nI c) (nI (κ c)) (nI k) = some (upd kd c (nI k), nI ((if z = 4 then 3 else z) + 1), pg') ∧ (∀ i, i < (if z = 4 then 3 else z) → pg' i = pg (i + (if z = 4 then 1 else 0))) ∧ pg' (if z = 4 then 3 else z) = nI (c * 8 + κ c) := by
  obtain ⟨pg', h1, h2, h3⟩ := x_rem hz pg (nI (c * 8 + κ c))
  refine ⟨pg', ?_, h2, h3⟩
  rw [f_X5_change, f_X1_rememberKind, show (8 : Int32) = nI 8 from rfl, pk_mul, nI_add, h1, x_tellIn h hd hc]
  rfl
theorem m_upd {W H : Nat} {κ : Nat → Nat} {f : Nat → Int32} (h : RoomM W H κ f) {c k : Nat} : RoomM W H (updN κ c k) (upd f (2 + c) (nI k)) := by
  refine ⟨by rw [pk_un (by omega)]; exact h.1, by rw [pk_un (by omega)]; exact h.2.1, fun a ha => ?_⟩
  by_cases e : a = c
  · subst e; rw [pk_us, updN_s]
  · rw [pk_un (by omega), updN_n e]; exact h.2.2 a ha
theorem told1 (R : Rm) {c k : Nat} (hc : c < R.1 * R.2.1) : Told1 R (R.1, R.2.1, updN R.2.2 c k) c := ⟨rfl, rfl, hc, fun a _ h => updN_n h⟩
theorem m_ix {c : Nat} (hc : c < 20) : Int32.toNatClampNeg ((2 : Int32) + nI c) = 2 + c := by rw [show (2 : Int32) = nI 2 from rfl, nI_add, nI_c _ (by omega)]
theorem op_put : Op_put InvP := by
  intro coR roR kdR tn tl pz pg mn mp mc ml mt coT roT kdT x1 x2 hI
  have hI0 := hI
  obtain ⟨⟨W, H, κ⟩, z, h, hR, hX, hM, hz, hpz, hmc, hp, hT⟩ := hI
  have hR0 := hR
  obtain ⟨hd, hk, hh, hdo⟩ := hR
  subst hpz hmc
  simp only at hd hk hh hdo hX hM
  have hN := hd.le
  rw [f_X5_put, f_X6_put]
  have bad : ∀ x, (x < 0 ∨ nI (W * H) ≤ x) → f_X2_kindAt coR roR kdR x = some (-1) ∧ f_X6_isCell mn x = some 0 := fun x hx => ⟨x_kindOut hX hx, m_isCellOut hM hd hx⟩
  rcases ix_or x1 (n := W * H) (by omega) with h1 | ⟨c, hc, rfl⟩
  · rw [(bad x1 h1).1, (bad x1 h1).2]
    exact ⟨_, _, rfl, rfl, rfl, hI0⟩
  · have hkc := hk c hc
    have ne1 : ¬ nI (κ c) = -1 := m1_ne (by omega)
    simp only [x_kindIn hX hd hc, m_isCellIn hM hd hc, Option.bind_some, i10, ↓reduceIte, ne1, m_ix (show c < 20 by omega), chk_t (m_at hM hd hc).1, hM.2.2 c hc]
    rcases pk_ix x2 (n := 8) (by omega) with h2 | h2 | ⟨k, hk8, rfl⟩
    · rw [if_pos h2, m_in, if_pos h2]
      exact ⟨_, _, rfl, rfl, rfl, hI0⟩
    · by_cases h0 : x2 < 0
      · rw [if_pos h0, m_in, if_pos h0]
        exact ⟨_, _, rfl, rfl, rfl, hI0⟩
      · have h7 : (7 : Int32) < x2 := Int32.lt_of_lt_of_le (by decide) h2
        rw [if_neg h0, if_neg (Int32.not_le.mpr h7), m_in, if_neg h0, if_pos h7]
        exact ⟨_, _, rfl, rfl, rfl, hI0⟩
    · have hk7 : k ≤ 7 := by omega
      have e3 : f_X6_in (nI k) 0 7 = some 1 := by
        have := m_inN (a := k) (lo := 0) (hi := 7) (by omega) (by omega) (by omega)
        rw [if_pos (by omega)] at this
        exact this
      simp only [e3, Option.bind_some, i10, ↓reduceIte, if_neg (n_neg (show k < 1000000 by omega)), if_pos (show nI k ≤ 7 from (n_le (b := 7) (by omega) (by omega)).mpr hk7)]
      by_cases hs : κ c = k
      · rw [if_pos (show nI (κ c) = nI k by rw [hs]), if_pos (show nI (κ c) = nI k by rw [hs])]
        exact ⟨_, _, rfl, rfl, rfl, hI0⟩
      · have hs' : ¬ nI (κ c) = nI k := by rw [n_eq (by omega) (by omega)]; exact hs
        rw [if_neg hs', if_neg hs']
        obtain ⟨g, hg1, hg2⟩ := x_try hX hd hc k coT roT kdT
        have hk' := Kok_upd (c := c) hk hk7
        simp only [hg1, Option.bind_some, x_over hg2 hd hk', m_isHalf hk7, m_isHalf hkc, m_isDoor hk7, m_isDoor hkc, m_halves hM hd hk, m_doors hM hd hk]
        have u1 := cntK_upd κ 3 4 c k (W * H) hc
        have u2 := cntK_upd κ 6 7 c k (W * H) hc
        have q1 := cntK_le κ 3 4 (W * H)
        have q2 := cntK_le κ 6 7 (W * H)
        have w1 := m_more (P := 3 ≤ k ∧ k ≤ 4) (Q := 3 ≤ κ c ∧ κ c ≤ 4) (n := cntK κ 3 4 (W * H)) (m := 5) (by omega) (by omega)
        have w2 := m_more (P := 6 ≤ k ∧ k ≤ 7) (Q := 6 ≤ κ c ∧ κ c ≤ 7) (n := cntK κ 6 7 (W * H)) (m := 4) (by omega) (by omega)
        simp only [Option.bind_some] at w1 w2
        rw [show (5 : Int32) = nI 5 from rfl, show (4 : Int32) = nI 4 from rfl]
        rw [w1, w2]
        simp only [Option.bind_some]
        by_cases ov : cntK (updN κ c k) 3 4 (W * H) ≤ 5 ∧ cntK (updN κ c k) 6 7 (W * H) ≤ 4
        · have n1 : ¬ ((3 ≤ k ∧ k ≤ 4) ∧ ¬ (3 ≤ κ c ∧ κ c ≤ 4) ∧ cntK κ 3 4 (W * H) = 5) := by
            rintro ⟨a1, a2, a3⟩
            rw [if_pos a1, if_neg a2] at u1
            omega
          have n2 : ¬ ((6 ≤ k ∧ k ≤ 7) ∧ ¬ (6 ≤ κ c ∧ κ c ≤ 7) ∧ cntK κ 6 7 (W * H) = 4) := by
            rintro ⟨a1, a2, a3⟩
            rw [if_pos a1, if_neg a2] at u2
            omega
          obtain ⟨pg', hc1, hc2, hc3⟩ := x_change hX hd hc hkc hz pg k
          obtain ⟨mp', hm1, hm2, hm3⟩ := m_keeps hz mn mp
          simp only [if_pos ov, if_neg n1, if_neg n2, ↓reduceIte, hc1, hm1, Option.bind_some]
          obtain ⟨h', hp'⟩ := past_push hz hp hR0 hM (R' := (W, H, updN κ c k)) (Or.inr ⟨c, rfl, told1 (W, H, κ) hc⟩) hc2 hc3 hm2 hm3
          exact ⟨_, _, rfl, rfl, rfl, (W, H, updN κ c k), _, h', ⟨hd, hk', ov.1, ov.2⟩, x_upd hX, m_upd hM, by split <;> omega, rfl, rfl, hp', hT⟩
        · have n3 : ((3 ≤ k ∧ k ≤ 4) ∧ ¬ (3 ≤ κ c ∧ κ c ≤ 4) ∧ cntK κ 3 4 (W * H) = 5) ∨ ((6 ≤ k ∧ k ≤ 7) ∧ ¬ (6 ≤ κ c ∧ κ c ≤ 7) ∧ cntK κ 6 7 (W * H) = 4) := by
            by_cases a1 : 3 ≤ k ∧ k ≤ 4
            · by_cases a2 : 3 ≤ κ c ∧ κ c ≤ 4
              · exfalso
                rw [if_pos a1, if_pos a2] at u1
                rw [if_neg (show ¬ (6 ≤ k ∧ k ≤ 7) by omega), if_neg (show ¬ (6 ≤ κ c ∧ κ c ≤ 7) by omega)] at u2
                omega
              · rw [if_pos a1, if_neg a2] at u1
                rw [if_neg (show ¬ (6 ≤ k ∧ k ≤ 7) by omega)] at u2
                left
                refine ⟨a1, a2, ?_⟩
                split at u2 <;> omega
            · rw [if_neg a1] at u1
              by_cases a3 : 6 ≤ k ∧ k ≤ 7
              · rw [if_pos a3] at u2
                by_cases a4 : 6 ≤ κ c ∧ κ c ≤ 7
                · exfalso
                  rw [if_pos a4] at u2
                  split at u1 <;> omega
                · rw [if_neg a4] at u2
                  right
                  refine ⟨a3, a4, ?_⟩
                  split at u1 <;> omega
              · exfalso
                rw [if_neg a3] at u2
                split at u1 <;> split at u2 <;> omega
          rcases n3 with n3 | n3
          · simp only [if_neg ov, if_pos n3, i10, ↓reduceIte]
            exact ⟨_, _, rfl, rfl, rfl, hI0⟩
          · by_cases n1 : (3 ≤ k ∧ k ≤ 4) ∧ ¬ (3 ≤ κ c ∧ κ c ≤ 4) ∧ cntK κ 3 4 (W * H) = 5
            · simp only [if_neg ov, if_pos n1, i10, ↓reduceIte]
              exact ⟨_, _, rfl, rfl, rfl, hI0⟩
            · simp only [if_neg ov, if_neg n1, if_pos n3, i10, ↓reduceIte]
              exact ⟨_, _, rfl, rfl, rfl, hI0⟩
theorem op_door : Op_door InvP := by
  intro coR roR kdR tn tl pz pg mn mp mc ml mt x1 x2 hI
  have hI0 := hI
  obtain ⟨⟨W, H, κ⟩, z, h, hR, hX, hM, hz, hpz, hmc, hp, hT⟩ := hI
  have hR0 := hR
  obtain ⟨hd, hk, hh, hdo⟩ := hR
  subst hpz hmc
  simp only at hd hk hh hdo hX hM
  have hN := hd.le
  rw [f_X5_door, f_X6_door]
  rcases door_cases hX hM hd hk x1 with ⟨h1, h2⟩ | ⟨c, hc, hk6, h3, h4, h5, h6⟩
  · rw [h1, h2]
    exact ⟨_, _, rfl, rfl, rfl, hI0⟩
  · have hkc := hk c hc
    have ne1 : ¬ nI c = -1 := m1_ne (by omega)
    rcases part_cases x2 2 (n' := 2) (h' := 1) rfl rfl (by decide) (by decide) with ⟨p3, p4⟩ | ⟨j, hj, rfl, p3, p4⟩
    · simp only [h4, h5, p3, p4, Option.bind_some, i10, ↓reduceIte, ne1]
      exact ⟨_, _, rfl, rfl, rfl, hI0⟩
    · have e7 : (7 : Int32) - nI j = nI (7 - j) := pk_sub (a := 7) (b := j) (by omega)
      have ej : (if nI j = 1 then some (6 : Int32) else some 7) = some (nI (7 - j)) := by
        rcases (show j = 0 ∨ j = 1 by omega) with rfl | rfl
        · rfl
        · rfl
      simp only [h4, h5, h6, p3, p4, Option.bind_some, i10, ↓reduceIte, ne1, x_kindIn hX hd hc, ej, e7, m_ix (show c < 20 by omega), chk_t (m_at hM hd hc).1, hM.2.2 c hc]
      by_cases hs : κ c = 7 - j
      · rw [if_pos (show nI (κ c) = nI (7 - j) by rw [hs]), if_pos (show nI (κ c) = nI (7 - j) by rw [hs])]
        exact ⟨_, _, rfl, rfl, rfl, hI0⟩
      · have hs' : ¬ nI (κ c) = nI (7 - j) := by rw [n_eq (by omega) (by omega)]; exact hs
        rw [if_neg hs', if_neg hs']
        obtain ⟨pg', hc1, hc2, hc3⟩ := x_change hX hd hc hkc hz pg (7 - j)
        obtain ⟨mp', hm1, hm2, hm3⟩ := m_keeps hz mn mp
        have hX' := x_upd hX (c := c) (k := 7 - j)
        have hM' := m_upd hM (c := c) (k := 7 - j)
        have hk' := Kok_upd (c := c) (k := 7 - j) hk (by omega)
        have c6 := x_count hX' hd hk' (a := 6) (b := 6) (by decide) (by decide)
        simp only [hc1, hm1, Option.bind_some, show (6 : Int32) = nI 6 from rfl, c6, m_openOf hM' hd hk']
        obtain ⟨h', hp'⟩ := past_push hz hp hR0 hM (R' := (W, H, updN κ c (7 - j))) (Or.inr ⟨c, rfl, told1 (W, H, κ) hc⟩) hc2 hc3 hm2 hm3
        have u1 := cntK_upd κ 3 4 c (7 - j) (W * H) hc
        have u2 := cntK_upd κ 6 7 c (7 - j) (W * H) hc
        rw [if_neg (by omega), if_neg (by omega)] at u1
        rw [if_pos hk6, if_pos (by omega)] at u2
        exact ⟨_, _, rfl, rfl, rfl, (W, H, updN κ c (7 - j)), _, h', ⟨hd, hk', by show cntK (updN κ c (7 - j)) 3 4 (W * H) ≤ 5; omega, by show cntK (updN κ c (7 - j)) 6 7 (W * H) ≤ 4; omega⟩, hX', hM', by split <;> omega, rfl, rfl, hp', hT⟩
