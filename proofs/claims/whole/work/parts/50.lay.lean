/-! ===== the reference's rows ===== -/
theorem cntB_s (ma : Nat → Bool) (n : Nat) : cntB ma (n + 1) = cntB ma n + (if ma n = true then 1 else 0) := rfl
theorem cntB_mono {ma : Nat → Bool} {a b : Nat} (h : a ≤ b) : cntB ma a ≤ cntB ma b := by
  obtain ⟨d, rfl⟩ : ∃ d, b = a + d := ⟨b - a, by omega⟩
  induction d with
  | zero => exact Nat.le_refl _
  | succ d ih =>
    have := ih (by omega)
    rw [show a + (d + 1) = a + d + 1 from rfl, cntB_s]
    omega
theorem cntB_at {ma : Nat → Bool} {v : Nat} (hv : 0 < v) : ∀ m, v ≤ cntB ma m → ∃ k, k < m ∧ ma k = true ∧ cntB ma (k + 1) = v := by
  intro m
  induction m with
  | zero => intro h; have : v ≤ 0 := h; omega
  | succ m ih =>
    intro h
    by_cases g : v ≤ cntB ma m
    · obtain ⟨k, a, b, c⟩ := ih g
      exact ⟨k, by omega, b, c⟩
    · rw [cntB_s] at h
      by_cases e : ma m = true
      · rw [if_pos e] at h
        exact ⟨m, by omega, e, by rw [cntB_s, if_pos e]; omega⟩
      · rw [if_neg e] at h; omega
-- the row of a node that may
def pl (ma : Nat → Bool) (m k : Nat) : Nat := cntB ma m - cntB ma (k + 1)
theorem pl_lt {ma : Nat → Bool} {m k : Nat} (hk : k < m) (h : ma k = true) : pl ma m k < cntB ma m := by
  have h1 := cntB_mono (ma := ma) (show k + 1 ≤ m by omega)
  have h2 := cntB_s ma k
  rw [if_pos h] at h2
  rw [pl]
  omega
theorem pl_inj {ma : Nat → Bool} {m k k' : Nat} (hk : k < m) (hk' : k' < m) (h : ma k = true) (h' : ma k' = true) (e : pl ma m k = pl ma m k') : k = k' := by
  have h1 := cntB_mono (ma := ma) (show k + 1 ≤ m by omega)
  have h1' := cntB_mono (ma := ma) (show k' + 1 ≤ m by omega)
  have h2 := cntB_s ma k
  have h2' := cntB_s ma k'
  rw [if_pos h] at h2
  rw [if_pos h'] at h2'
  rw [pl, pl] at e
  rcases Nat.lt_trichotomy k k' with g | g | g
  · have := cntB_mono (ma := ma) (show k + 1 ≤ k' by omega); omega
  · exact g
  · have := cntB_mono (ma := ma) (show k' + 1 ≤ k by omega); omega
theorem i_dec {k : Nat} : nI (k + 1) - 1 = nI k := by
  have h := nI_1 k
  rw [← h, Int32.sub_eq_add_neg, Int32.add_assoc]
  show nI k + ((1 : Int32) + (-1)) = nI k
  rw [show (1 : Int32) + (-1) = 0 by decide, Int32.add_zero]
section LR
variable {W H : Nat} {κ : Nat → Nat} {f : Nat → Int32} {aq : Nat → Bool} {Q : Nds} {ma : Nat → Bool}
def dB (W H : Nat) (κ : Nat → Nat) (aq : Nat → Bool) (Q : Nds) (ma : Nat → Bool) (k y c : Nat) : Int := if aq (en W H κ (Q.2 k) y) = true then (if c = cntB ma Q.1 then 1 else 0) else if en W H κ (Q.2 k) y < 100 ∧ ma (tgN W H κ Q k y - 1) = true then (if c = pl ma Q.1 (tgN W H κ Q k y - 1) then -1 else 0) else 0
def rowB (W H : Nat) (κ : Nat → Nat) (aq : Nat → Bool) (Q : Nds) (ma : Nat → Bool) (k c : Nat) : Int := (if c = pl ma Q.1 k then 2 else 0) + dB W H κ aq Q ma k 0 c + dB W H κ aq Q ma k 1 c
-- the places: rows of the nodes that may
def RPm (Q : Nds) (ma : Nat → Bool) (mq : Nat → Int32) : Prop := ∀ j, j < Q.1 → mq (Q.2 j) = if ma j = true then nI (pl ma Q.1 j) else (-4 : Int32)
theorem m_places (hd : Dim W H) (hh : cntK κ 3 4 (W * H) ≤ 5) (hB : NdB W H κ Q) {md mk my mq : Nat → Int32} {mw : Nat → Int64} (x : Int32) (hmd : ∀ i, i < Q.1 → md i = nI (Q.2 i)) (hY : RMy Q ma my) : ∃ mq', lpf (fun s : Int32 × Int32 × (Nat → Int32) => f_X6_laysRows_9 (nI Q.1) md mk my mw x s.1 s.2.1 s.2.2) 1000 ((0 : Int32), (nI Q.1 - (1 : Int32)), mq) = some (nI (cntB ma Q.1), mq') ∧ RPm Q ma mq' := by
  have hN := hd.le
  have hm := nd_le hh hB
  have hcl := cntB_le ma Q.1
  have key : ∃ t, lpf (fun s : Int32 × Int32 × (Nat → Int32) => f_X6_laysRows_9 (nI Q.1) md mk my mw x s.1 s.2.1 s.2.2) 1000 ((0 : Int32), (nI Q.1 - (1 : Int32)), mq) = some t ∧ t.1 = nI (cntB ma Q.1) ∧ RPm Q ma t.2 := by
    refine lpf_run (σ := Int32 × Int32 × (Nat → Int32)) (τ := Int32 × (Nat → Int32)) (fun s => ∃ kk : Nat, kk ≤ Q.1 ∧ s.2.1 = nI kk - 1 ∧ s.1 = nI (cntB ma Q.1 - cntB ma kk) ∧ ∀ j, kk ≤ j → j < Q.1 → s.2.2 (Q.2 j) = if ma j = true then nI (pl ma Q.1 j) else (-4 : Int32)) _ (fun s => (s.2.1 + 1).toNatClampNeg) ?_ 1000 _ ⟨Q.1, Nat.le_refl _, rfl, by rw [Nat.sub_self]; rfl, fun j h1 h2 => by omega⟩ ?_
    · rintro ⟨y2, y3, g⟩ ⟨kk, hkk, rfl, rfl, hg⟩
      dsimp only at hg ⊢
      rcases Nat.eq_zero_or_pos kk with e | e
      · subst e
        refine Or.inr ⟨(nI (cntB ma Q.1 - cntB ma 0), g), ?_, ?_, fun j hj => hg j (Nat.zero_le _) hj⟩
        · rw [f_X6_laysRows_9, if_pos (by decide)]
        · rfl
      · obtain ⟨k, rfl⟩ : ∃ k, kk = k + 1 := ⟨kk - 1, by omega⟩
        have hlt : k < Q.1 := by omega
        have hs := (hB.1 k hlt).1
        have hmono := cntB_mono (ma := ma) (show k + 1 ≤ Q.1 by omega)
        have e2 := cntB_s ma k
        have st : f_X6_laysRows_9 (nI Q.1) md mk my mw x (nI (cntB ma Q.1 - cntB ma (k + 1))) (nI (k + 1) - 1) g = some (Sum.inl (nI (cntB ma Q.1 - cntB ma k), nI k - 1, upd g (Q.2 k) (if ma k = true then nI (pl ma Q.1 k) else (-4 : Int32)))) := by
          rw [i_dec, f_X6_laysRows_9, if_neg (n_neg (by omega)), chk_t (aix_n (by omega) (by decide)), nI_c k (by omega), hY k hlt, hmd k hlt, show nI k + (-1 : Int32) = nI k - 1 from (Int32.sub_eq_add_neg (nI k) 1).symm]
          cases hmk : ma k with
          | true =>
            rw [hmk, if_pos rfl] at e2
            rw [if_neg (show ¬ bI true = 0 by decide), bind_s, chk_t (aix_n (by omega) (by decide)), if_neg (show ¬ bI true = 0 by decide), nI_c _ (by omega), nI_1, if_pos rfl, pl, show cntB ma Q.1 - cntB ma k = cntB ma Q.1 - cntB ma (k + 1) + 1 by omega]
          | false =>
            rw [hmk, if_neg (by decide)] at e2
            rw [if_pos (show bI false = 0 from rfl), bind_s, chk_t (aix_n (by omega) (by decide)), if_pos (show bI false = 0 from rfl), nI_c _ (by omega), if_neg (by decide), Int32.add_zero, show cntB ma Q.1 - cntB ma k = cntB ma Q.1 - cntB ma (k + 1) by omega]
        refine Or.inl ⟨_, st, ⟨k, by omega, rfl, rfl, fun j h1 h2 => ?_⟩, ?_⟩
        · show upd g (Q.2 k) _ (Q.2 j) = _
          by_cases q : j = k
          · subst q; rw [pk_us]
          · rw [pk_un (fun r => hB.2 k j (by omega) h2 r.symm)]
            exact hg j (by omega) h2
        · show (nI k - 1 + 1).toNatClampNeg < (nI (k + 1) - 1 + 1).toNatClampNeg
          have c : ∀ a : Int32, a - 1 + 1 = a := fun a => Int32.sub_add_cancel a 1
          rw [c, c, nI_c _ (by omega), nI_c _ (by omega)]
          omega
    · show (nI Q.1 - 1 + 1).toNatClampNeg < 1000
      have c : ∀ a : Int32, a - 1 + 1 = a := fun a => Int32.sub_add_cancel a 1
      rw [c, nI_c _ (by omega)]
      omega
  obtain ⟨⟨t1, t2⟩, ht, rfl, h2⟩ := key
  exact ⟨t2, ht, h2⟩
theorem m_lay1 (hd : Dim W H) (hk : Kok W H κ) (hh : cntK κ 3 4 (W * H) ≤ 5) {x : Int32} (hA : AskOk W H κ aq x) {E0 : Nat} {mk : Nat → Int32} (hI : NdI W H κ E0 (2 * Q.1) Q mk) {md my mq : Nat → Int32} (hP : RPm Q ma mq) (mw : Nat → Int64) {k y : Nat} (hkq : k < Q.1) (hmk1 : ma k = true) (hy : y < 2) : ∃ mw', f_X6_laysRows_147 (nI Q.1) md mk my mq x (nI (cntB ma Q.1)) (nI k) (nI (21 * pl ma Q.1 k)) (nI y) mw = some (Sum.inl (nI (y + 1), mw')) ∧ ∀ r c, c ≤ cntB ma Q.1 → mw' (21 * r + c) = if r = pl ma Q.1 k then mw (21 * r + c) + lZ (dB W H κ aq Q ma k y c) else mw (21 * r + c) := by
  have hN := hd.le
  have hm := nd_le hh hI.1
  have hcl := cntB_le ma Q.1
  have hpl := pl_lt hkq hmk1
  obtain ⟨s1, s2⟩ := hI.1.1 k hkq
  obtain ⟨-, -, hmk⟩ := hI.2.2.2 k y hy (by omega)
  have hE : EndOk W H κ (en W H κ (Q.2 k) y) := en_end hd hk s1
  have hrc := rc_neg hd hE
  obtain ⟨ha1, ha2⟩ := hA _ hE
  have hz : lZ 0 = 0 := rfl
  have none : ∀ mw' : Nat → Int64, mw' = mw → (∀ c, c ≤ cntB ma Q.1 → dB W H κ aq Q ma k y c = 0) → ∀ r c, c ≤ cntB ma Q.1 → mw' (21 * r + c) = if r = pl ma Q.1 k then mw (21 * r + c) + lZ (dB W H κ aq Q ma k y c) else mw (21 * r + c) := by
    intro mw' e h r c hc
    rw [e, h c hc, hz, Int64.add_zero]
    split <;> rfl
  have one : ∀ (c0 : Nat) (v : Int), c0 ≤ cntB ma Q.1 → (∀ c, dB W H κ aq Q ma k y c = if c = c0 then v else 0) → ∀ r c, c ≤ cntB ma Q.1 → vp_updL mw (21 * pl ma Q.1 k + c0) (mw (21 * pl ma Q.1 k + c0) + lZ v) (21 * r + c) = if r = pl ma Q.1 k then mw (21 * r + c) + lZ (dB W H κ aq Q ma k y c) else mw (21 * r + c) := by
    intro c0 v hc0 h r c hc
    rw [h c]
    by_cases e : 21 * r + c = 21 * pl ma Q.1 k + c0
    · have e1 : r = pl ma Q.1 k := by omega
      have e2 : c = c0 := by omega
      subst e1 e2
      rw [pk_uLs, if_pos rfl, if_pos rfl]
    · rw [pk_uLn e]
      by_cases e1 : r = pl ma Q.1 k
      · rw [if_pos e1, if_neg (by omega), hz, Int64.add_zero]
      · rw [if_neg e1]
  rw [f_X6_laysRows_147, show (2 : Int32) = nI 2 from rfl, if_neg (by rw [n_le (by omega) (by omega)]; omega), pk_mul, nI_add, chk_t (aix_n (by omega) (by decide)), nI_c (2 * k + y) (by omega), hmk, ha1, bind_s, nI_1]
  cases haq : aq (en W H κ (Q.2 k) y) with
  | true =>
    rw [if_neg (show ¬ bI true = 0 by decide), nI_add, chk_t (aix_n (by omega) (by decide)), nI_c _ (by omega)]
    exact ⟨_, rfl, one _ 1 (Nat.le_refl _) (fun c => by rw [dB, if_pos haq])⟩
  | false =>
    rw [if_pos (show bI false = 0 from rfl)]
    by_cases g : en W H κ (Q.2 k) y < 100
    · obtain ⟨c1, c2, c3⟩ := hrc.1 g
      obtain ⟨t1, t2, t3⟩ := cl_tg hI hkq hy g
      have hlt : en W H κ (Q.2 k) y < 80 := by rw [← t3]; have := (hI.1.1 (tgN W H κ Q k y - 1) (by omega)).1; omega
      have hpe := hP (tgN W H κ Q k y - 1) (by omega)
      rw [t3] at hpe
      rw [if_neg c2, c3, chk_t (aix_n hlt (by decide)), nI_c _ (by omega), hpe]
      cases hmt : ma (tgN W H κ Q k y - 1) with
      | true =>
        have hpl2 := pl_lt (show tgN W H κ Q k y - 1 < Q.1 by omega) hmt
        rw [if_pos rfl, if_neg (by rw [(m4_fin (q := 0) (show pl ma Q.1 (tgN W H κ Q k y - 1) < 90 by omega) (by decide)).1]; exact not_false), nI_add, chk_t (aix_n (by omega) (by decide)), nI_c _ (by omega)]
        refine ⟨_, rfl, ?_⟩
        rw [show mw (21 * pl ma Q.1 k + pl ma Q.1 (tgN W H κ Q k y - 1)) - (1 : Int64) = mw (21 * pl ma Q.1 k + pl ma Q.1 (tgN W H κ Q k y - 1)) + lZ (-1) from Int64.sub_eq_add_neg _ _]
        exact one _ (-1) (by omega) (fun c => by rw [dB, if_neg (by rw [haq]; decide), if_pos ⟨g, hmt⟩])
      | false =>
        rw [if_neg (show ¬ false = true by decide), if_pos rfl]
        exact ⟨_, rfl, none _ rfl (fun c _ => by rw [dB, if_neg (by rw [haq]; decide), if_neg (by rw [hmt]; exact fun q => absurd q.2 (by decide))])⟩
    · rw [if_pos (hrc.2 g).2]
      exact ⟨_, rfl, none _ rfl (fun c _ => by rw [dB, if_neg (by rw [haq]; decide), if_neg (fun q => g q.1)])⟩
theorem m_laysRows (hd : Dim W H) (hk : Kok W H κ) (hh : cntK κ 3 4 (W * H) ≤ 5) {x : Int32} (hA : AskOk W H κ aq x) {E0 : Nat} {mk : Nat → Int32} (hI : NdI W H κ E0 (2 * Q.1) Q mk) {md my mq : Nat → Int32} (hmd : ∀ i, i < Q.1 → md i = nI (Q.2 i)) (hY : RMy Q ma my) (mw : Nat → Int64) : ∃ mq' mw', f_X6_laysRows (nI Q.1) md mk my mq mw x = some (nI (cntB ma Q.1), mq', mw') ∧ ∀ k c, k < Q.1 → ma k = true → c ≤ cntB ma Q.1 → mw' (21 * pl ma Q.1 k + c) = lZ (rowB W H κ aq Q ma k c) := by
  have hN := hd.le
  have hm := nd_le hh hI.1
  have hcl := cntB_le ma Q.1
  obtain ⟨mq', hq, hP⟩ := m_places (ma := ma) (mk := mk) (mq := mq) (mw := mw) hd hh hI.1 x hmd hY
  have h1 : ∃ t, lpf (fun s : Int32 × (Nat → Int64) => f_X6_laysRows_64 (nI Q.1) md mk my mq' x (nI (cntB ma Q.1)) s.1 s.2) 1000 ((0 : Int32), mw) = some t ∧ ∀ i, i < 420 → t i = 0 := by
    refine lpf_run (σ := Int32 × (Nat → Int64)) (τ := Nat → Int64) (fun s => ∃ k : Nat, k ≤ 420 ∧ s.1 = nI k ∧ ∀ i, i < k → s.2 i = 0) _ (fun s => 999 - s.1.toNatClampNeg) ?_ 1000 _ ⟨0, by omega, rfl, fun i hi => absurd hi (Nat.not_lt_zero i)⟩ (by omega)
    rintro ⟨z, g⟩ ⟨k, hk, rfl, hg⟩
    dsimp only at hg ⊢
    by_cases h : 420 ≤ k
    · exact Or.inr ⟨g, by rw [f_X6_laysRows_64, show (420 : Int32) = nI 420 from rfl, if_pos ((n_le (by omega) (by omega)).mpr h)], fun i hi => hg i (by omega)⟩
    · refine Or.inl ⟨(nI (k + 1), vp_updL g k 0), ?_, ⟨k + 1, by omega, rfl, fun i hi => ?_⟩, ?_⟩
      · rw [f_X6_laysRows_64, show (420 : Int32) = nI 420 from rfl, if_neg (by rw [n_le (by omega) (by omega)]; exact h), chk_t (aix_n (by omega) (by decide)), nI_c _ (by omega), nI_1]
      · show vp_updL g k 0 i = 0
        by_cases e : i = k
        · subst e; rw [pk_uLs]
        · rw [pk_uLn e]; exact hg i (by omega)
      · show 999 - (nI (k + 1)).toNatClampNeg < 999 - (nI k).toNatClampNeg
        rw [nI_c _ (by omega), nI_c _ (by omega)]
        omega
  obtain ⟨mw0, hw0, hz⟩ := h1
  have h2 : ∃ t, lpf (fun s : Int32 × (Nat → Int64) => f_X6_laysRows_86 (nI Q.1) md mk my mq' x (nI (cntB ma Q.1)) s.1 s.2) 1000 ((0 : Int32), mw0) = some t ∧ ∀ k c, k < Q.1 → ma k = true → c ≤ cntB ma Q.1 → t (21 * pl ma Q.1 k + c) = lZ (rowB W H κ aq Q ma k c) := by
    refine lpf_run (σ := Int32 × (Nat → Int64)) (τ := Nat → Int64) (fun s => ∃ k : Nat, k ≤ Q.1 ∧ s.1 = nI k ∧ (∀ a c, a < k → ma a = true → c ≤ cntB ma Q.1 → s.2 (21 * pl ma Q.1 a + c) = lZ (rowB W H κ aq Q ma a c)) ∧ ∀ a c, k ≤ a → a < Q.1 → ma a = true → c ≤ cntB ma Q.1 → s.2 (21 * pl ma Q.1 a + c) = 0) _ (fun s => 999 - s.1.toNatClampNeg) ?_ 1000 _ ⟨0, by omega, rfl, fun a c h => absurd h (Nat.not_lt_zero a), fun a c _ h1 h2 h3 => hz _ (by have := pl_lt h1 h2; omega)⟩ (by omega)
    rintro ⟨z, g⟩ ⟨k, hkq, rfl, hg1, hg2⟩
    dsimp only at hg1 hg2 ⊢
    have meas : 999 - (nI (k + 1)).toNatClampNeg < 999 - (nI k).toNatClampNeg ∨ Q.1 ≤ k := by
      by_cases h : Q.1 ≤ k
      · exact Or.inr h
      · left
        rw [nI_c _ (by omega), nI_c _ (by omega)]
        omega
    by_cases h : Q.1 ≤ k
    · have ek : k = Q.1 := by omega
      subst ek
      exact Or.inr ⟨g, by rw [f_X6_laysRows_86, if_pos ((n_le (by omega) (by omega)).mpr h)], hg1⟩
    · have hlt : k < Q.1 := by omega
      have hs := (hI.1.1 k hlt).1
      cases hmk : ma k with
      | false =>
        have st : f_X6_laysRows_86 (nI Q.1) md mk my mq' x (nI (cntB ma Q.1)) (nI k) g = some (Sum.inl (nI (k + 1), g)) := by
          rw [f_X6_laysRows_86, if_neg (by rw [n_le (by omega) (by omega)]; exact h), chk_t (aix_n (by omega) (by decide)), nI_c k (by omega), hY k hlt, hmk, if_pos (show bI false = 0 from rfl), nI_1]
        refine Or.inl ⟨_, st, ⟨k + 1, by omega, rfl, fun a c q1 q2 q3 => ?_, fun a c q1 q2 q3 q4 => hg2 a c (by omega) q2 q3 q4⟩, meas.resolve_right h⟩
        by_cases e : a = k
        · subst e; rw [hmk] at q2; exact absurd q2 (by decide)
        · exact hg1 a c (by omega) q2 q3
      | true =>
        have hpl := pl_lt hlt hmk
        have hpe := hP k hlt
        rw [if_pos hmk] at hpe
        obtain ⟨w1, g1, e1⟩ := m_lay1 (md := md) (my := my) (y := 0) hd hk hh hA hI hP (vp_updL g (21 * pl ma Q.1 k + pl ma Q.1 k) (g (21 * pl ma Q.1 k + pl ma Q.1 k) + 2)) hlt hmk (by decide)
        obtain ⟨w2, g2, e2⟩ := m_lay1 (md := md) (my := my) (y := 1) hd hk hh hA hI hP w1 hlt hmk (by decide)
        have g3 : f_X6_laysRows_147 (nI Q.1) md mk my mq' x (nI (cntB ma Q.1)) (nI k) (nI (21 * pl ma Q.1 k)) (nI 2) w2 = some (Sum.inr w2) := by
          rw [f_X6_laysRows_147, if_pos (by decide)]
        have hl : lpf (fun s : Int32 × (Nat → Int64) => f_X6_laysRows_147 (nI Q.1) md mk my mq' x (nI (cntB ma Q.1)) (nI k) (nI (21 * pl ma Q.1 k)) s.1 s.2) 1000 ((0 : Int32), vp_updL g (21 * pl ma Q.1 k + pl ma Q.1 k) (g (21 * pl ma Q.1 k + pl ma Q.1 k) + 2)) = some w2 := by
          rw [lpf_inl (n := 999) (s := ((0 : Int32), _)) (s' := (nI (0 + 1), w1)) g1, lpf_inl (n := 998) (s := (nI (0 + 1), w1)) (s' := (nI (1 + 1), w2)) g2]
          exact lpf_inr (n := 997) g3
        have st : f_X6_laysRows_86 (nI Q.1) md mk my mq' x (nI (cntB ma Q.1)) (nI k) g = some (Sum.inl (nI (k + 1), w2)) := by
          rw [f_X6_laysRows_86, if_neg (by rw [n_le (by omega) (by omega)]; exact h), chk_t (aix_n (by omega) (by decide)), nI_c k (by omega), hY k hlt, hmk, if_neg (show ¬ bI true = 0 by decide), hmd k hlt, chk_t (aix_n (by omega) (by decide)), nI_c (Q.2 k) (by omega), hpe, show (21 : Int32) = nI 21 from rfl, pk_mul, nI_add, chk_t (aix_n (by omega) (by decide)), nI_c _ (by omega), hl, bind_s, nI_1]
        have other : ∀ a c, a < Q.1 → ma a = true → c ≤ cntB ma Q.1 → a ≠ k → w2 (21 * pl ma Q.1 a + c) = g (21 * pl ma Q.1 a + c) := by
          intro a c q1 q2 q3 q4
          have hne : pl ma Q.1 a ≠ pl ma Q.1 k := fun q => q4 (pl_inj q1 hlt q2 hmk q)
          rw [e2 _ c q3, if_neg hne, e1 _ c q3, if_neg hne, pk_uLn (by omega)]
        refine Or.inl ⟨_, st, ⟨k + 1, by omega, rfl, fun a c q1 q2 q3 => ?_, fun a c q1 q2 q3 q4 => ?_⟩, meas.resolve_right h⟩
        · show w2 (21 * pl ma Q.1 a + c) = _
          by_cases e : a = k
          · subst e
            rw [e2 _ c q3, if_pos rfl, e1 _ c q3, if_pos rfl, rowB, ← lZ_add, ← lZ_add]
            by_cases g : c = pl ma Q.1 a
            · subst g
              rw [pk_uLs, hg2 a _ (Nat.le_refl a) hlt hmk (by omega), if_pos rfl, Int64.zero_add]
              rfl
            · rw [pk_uLn (by omega), hg2 a c (Nat.le_refl a) hlt hmk q3, if_neg g]
              rfl
          · rw [other a c (by omega) q2 q3 e]
            exact hg1 a c (by omega) q2 q3
        · show w2 (21 * pl ma Q.1 a + c) = _
          rw [other a c q2 q3 q4 (by omega)]
          exact hg2 a c (by omega) q2 q3 q4
  obtain ⟨mw1, hw1, hrow⟩ := h2
  refine ⟨mq', mw1, ?_, hrow⟩
  rw [f_X6_laysRows, hq, bind_s, hw0, bind_s, hw1, bind_s]
end LR
