/-! ===== the class's splits ===== -/
-- the state that a split's number stands for
def cs (j : Nat) : Nat := 4 * (j / 2) + 2 * (j % 2)
theorem cs_d (j : Nat) : cs j / 4 = j / 2 := by rw [cs]; omega
theorem cs_m (j : Nat) : cs j % 4 = 2 * (j % 2) := by rw [cs]; omega
-- the rank of a half mirror among them
theorem cnt_mono {κ : Nat → Nat} {a b c : Nat} : ∀ n, cntK κ a b c ≤ cntK κ a b (c + n) := by
  intro n
  induction n with
  | zero => exact Nat.le_refl _
  | succ n ih =>
    show _ ≤ cntK κ a b (c + n) + _
    omega
theorem half_rank {κ : Nat → Nat} {c c' : Nat} (h : nw (κ c) = 2) (hlt : c < c') : cntK κ 3 4 c < cntK κ 3 4 c' := by
  have h1 : cntK κ 3 4 (c + 1) = cntK κ 3 4 c + 1 := by
    rw [cntK, if_pos]
    rw [nw] at h
    by_cases e : κ c = 3 ∨ κ c = 4
    · omega
    · rw [if_neg e] at h
      split at h <;> omega
  have h2 := cnt_mono (κ := κ) (a := 3) (b := 4) (c := c + 1) (c' - (c + 1))
  rw [show c + 1 + (c' - (c + 1)) = c' by omega] at h2
  omega
theorem half_inj {κ : Nat → Nat} {c c' : Nat} (h : nw (κ c) = 2) (h' : nw (κ c') = 2) (e : cntK κ 3 4 c = cntK κ 3 4 c') : c = c' := by
  rcases Nat.lt_trichotomy c c' with g | g | g
  · have := half_rank h g; omega
  · exact g
  · have := half_rank h' g; omega
def SpB (W H : Nat) (κ : Nat → Nat) (B : Bst) : Prop := (∀ i, i < B.1 → B.2.1 i < 2 * (W * H) ∧ nw (κ (B.2.1 i / 2)) = 2 ∧ B.2.2 (B.2.1 i) = i + 1) ∧ ∀ e, B.2.2 e ≠ 0 → B.2.2 e ≤ B.1 ∧ B.2.1 (B.2.2 e - 1) = e
section SP
variable {W H : Nat} {κ : Nat → Nat} {co ro : Int32} {kd f : Nat → Int32}
theorem sp_le (hh : cntK κ 3 4 (W * H) ≤ 5) {B : Bst} (h : SpB W H κ B) : B.1 ≤ 10 := by
  refine fb_holes 10 B.1 (fun i => 2 * cntK κ 3 4 (B.2.1 i / 2) + B.2.1 i % 2) (fun i hi => ?_) (fun i j hij hj e => ?_)
  · obtain ⟨h1, h2, -⟩ := h.1 i hi
    have := half_rank h2 (show B.2.1 i / 2 < W * H by omega)
    show 2 * cntK κ 3 4 (B.2.1 i / 2) + B.2.1 i % 2 < 10
    omega
  · obtain ⟨a1, a2, a3⟩ := h.1 i (by omega)
    obtain ⟨b1, b2, b3⟩ := h.1 j hj
    have e : 2 * cntK κ 3 4 (B.2.1 i / 2) + B.2.1 i % 2 = 2 * cntK κ 3 4 (B.2.1 j / 2) + B.2.1 j % 2 := e
    have := half_inj a2 b2 (by omega)
    have hq : B.2.1 i = B.2.1 j := by omega
    rw [hq] at a3
    omega
theorem sp_ent {B : Bst} (h : SpB W H κ B) {e : Nat} (he : e < 2 * (W * H)) (h2 : nw (κ (e / 2)) = 2) : SpB W H κ (ent B e (B.1 + 1)) := by
  rw [ent]
  by_cases h0 : B.2.2 e = 0
  · rw [if_pos h0]
    refine ⟨fun i hi => ?_, fun x hx => ?_⟩
    · show updN B.2.1 B.1 e i < 2 * (W * H) ∧ nw (κ (updN B.2.1 B.1 e i / 2)) = 2 ∧ updN B.2.2 e (B.1 + 1) (updN B.2.1 B.1 e i) = i + 1
      by_cases g : i = B.1
      · subst g; rw [updN_s, updN_s]; exact ⟨he, h2, rfl⟩
      · have hi : i < B.1 + 1 := hi
        obtain ⟨a1, a2, a3⟩ := h.1 i (by omega)
        rw [updN_n g, updN_n (fun q => by rw [q] at a3; omega)]
        exact ⟨a1, a2, a3⟩
    · have hx : updN B.2.2 e (B.1 + 1) x ≠ 0 := hx
      show updN B.2.2 e (B.1 + 1) x ≤ B.1 + 1 ∧ updN B.2.1 B.1 e (updN B.2.2 e (B.1 + 1) x - 1) = x
      by_cases g : x = e
      · subst g
        rw [updN_s, show B.1 + 1 - 1 = B.1 by omega, updN_s]
        exact ⟨Nat.le_refl _, rfl⟩
      · rw [updN_n g] at hx ⊢
        obtain ⟨b1, b2⟩ := h.2 x hx
        rw [updN_n (by omega)]
        exact ⟨by omega, b2⟩
  · rw [if_neg h0]; exact h
theorem ent_in (B : Bst) {e v : Nat} (hv : v ≠ 0) : (ent B e v).2.2 e ≠ 0 := by
  rw [ent]
  by_cases h0 : B.2.2 e = 0
  · rw [if_pos h0]
    show updN B.2.2 e v e ≠ 0
    rw [updN_s]; exact hv
  · rw [if_neg h0]; exact h0
-- the split of a half state
theorem sp_lt {e : Nat} (he : e < 4 * (W * H)) : sp κ e < 2 * (W * H) := by
  rw [sp]
  split <;> omega
theorem sp_d {e : Nat} : sp κ e / 2 = e / 4 := by
  rw [sp]
  split <;> omega
def nt (κ : Nat → Nat) (B : Bst) (E : Nat) : Bst := if E < 100 then ent B (sp κ E) (B.1 + 1) else B
def EndOk (W H : Nat) (κ : Nat → Nat) (E : Nat) : Prop := (E < 4 * (W * H) ∧ nw (κ (E / 4)) = 2) ∨ (∃ p, p < 2 * (W + H) ∧ E = 100 + p) ∨ E = 200 ∨ E = 300
theorem nt_ext {B : Bst} {E : Nat} : Ext B (nt κ B E) := by
  rw [nt]
  split
  · exact ent_ext
  · exact Ext.rf
theorem nt_sp (hd : Dim W H) {B : Bst} (h : SpB W H κ B) {E : Nat} (hE : EndOk W H κ E) : SpB W H κ (nt κ B E) := by
  have hN := hd.le
  rw [nt]
  rcases hE with ⟨h1, h2⟩ | ⟨p, hp, rfl⟩ | rfl | rfl
  · rw [if_pos (by omega)]
    exact sp_ent h (sp_lt h1) (by rw [sp_d]; exact h2)
  · rw [if_neg (by omega)]; exact h
  · rw [if_neg (by omega)]; exact h
  · rw [if_neg (by omega)]; exact h
def RS (B : Bst) (bq : Int32) (bp bn : Nat → Int32) : Prop := bq = nI B.1 ∧ (∀ i, i < B.1 → bp i = nI (B.2.1 i)) ∧ ∀ e, e < 60 → bn e = if B.2.2 e = 0 then (-4 : Int32) else nI (B.2.2 e - 1)
theorem x_note (hd : Dim W H) (hh : cntK κ 3 4 (W * H) ≤ 5) {B : Bst} {bq : Int32} {bp bn : Nat → Int32} (hS : SpB W H κ B) (hR : RS B bq bp bn) {E : Nat} (hE : EndOk W H κ E) : ∃ r, f_X0_noteSplit bq bp bn (nI (ce κ E)) = some r ∧ RS (nt κ B E) r.1 r.2.1 r.2.2 := by
  have hN := hd.le
  have hdd := hd
  obtain ⟨d1, d2, d3, d4⟩ := hdd
  have hm := sp_le hh hS
  obtain ⟨rfl, hp, hn⟩ := hR
  have out : ∀ x, 40 ≤ x → x < 60 → ¬ E < 100 → ce κ E = x → ∃ r, f_X0_noteSplit (nI B.1) bp bn (nI (ce κ E)) = some r ∧ RS (nt κ B E) r.1 r.2.1 r.2.2 := by
    intro x h1 h2 h3 h4
    rw [h4, f_X0_noteSplit, if_neg (n_neg (by omega)), show (40 : Int32) = nI 40 from rfl, if_pos ((n_le (by omega) (by omega)).mpr h1), nt, if_neg h3]
    exact ⟨_, rfl, rfl, hp, hn⟩
  rcases hE with ⟨h1, h2⟩ | ⟨p, hp', rfl⟩ | rfl | rfl
  · have hlt := sp_lt (κ := κ) h1
    rw [ce, if_pos (by omega), nt, if_pos (by omega), f_X0_noteSplit, if_neg (n_neg (by omega)), show (40 : Int32) = nI 40 from rfl, if_neg (by rw [n_le (by omega) (by omega)]; omega)]
    by_cases h0 : B.2.2 (sp κ E) = 0
    · have hroom := sp_le hh (sp_ent hS hlt (by rw [sp_d]; exact h2))
      rw [ent, if_pos h0] at hroom
      have hroom : B.1 + 1 ≤ 10 := hroom
      rw [show (10 : Int32) = nI 10 from rfl, if_neg (by rw [n_le (by omega) (by omega)]; omega), chk_t (aix_n (by omega) (by decide)), nI_c _ (by omega), hn _ (by omega), if_pos h0, if_pos rfl, chk_t (aix_n (by omega) (by decide)), nI_c _ (by omega), ent, if_pos h0]
      refine ⟨_, rfl, nI_1 _, fun i hi => ?_, fun e he => ?_⟩
      · have hi : i < B.1 + 1 := hi
        show upd bp B.1 (nI (sp κ E)) i = nI (updN B.2.1 B.1 (sp κ E) i)
        by_cases g : i = B.1
        · subst g; rw [pk_us, updN_s]
        · rw [pk_un g, updN_n g]; exact hp i (by omega)
      · show upd bn (sp κ E) (nI B.1) e = if updN B.2.2 (sp κ E) (B.1 + 1) e = 0 then (-4 : Int32) else nI (updN B.2.2 (sp κ E) (B.1 + 1) e - 1)
        by_cases g : e = sp κ E
        · subst g; rw [pk_us, updN_s, if_neg (by omega), show B.1 + 1 - 1 = B.1 by omega]
        · rw [pk_un g, updN_n g]; exact hn e he
    · rw [ent, if_neg h0]
      have hb := (hS.2 _ h0).1
      by_cases h8 : 10 ≤ B.1
      · rw [show (10 : Int32) = nI 10 from rfl, if_pos ((n_le (by omega) (by omega)).mpr h8)]
        exact ⟨_, rfl, rfl, hp, hn⟩
      · rw [show (10 : Int32) = nI 10 from rfl, if_neg (by rw [n_le (by omega) (by omega)]; exact h8), chk_t (aix_n (by omega) (by decide)), nI_c _ (by omega), hn _ (by omega), if_neg h0, if_neg (by rw [(m4_fin (q := 0) (show B.2.2 (sp κ E) - 1 < 90 by omega) (by decide)).1]; exact not_false)]
        exact ⟨_, rfl, rfl, hp, hn⟩
  · exact out (40 + p) (by omega) (by omega) (by omega) (by rw [ce, if_neg (by omega), if_pos (by omega), show 100 + p - 100 = p by omega])
  · exact out 58 (by omega) (by omega) (by omega) rfl
  · exact out 59 (by omega) (by omega) (by omega) rfl
-- what the splits found keep
def SpI (W H : Nat) (κ : Nat → Nat) (E0 k : Nat) (B : Bst) : Prop := SpB W H κ B ∧ (∀ i y, i < k → y < 2 → en W H κ (cs (B.2.1 i)) y < 100 → B.2.2 (sp κ (en W H κ (cs (B.2.1 i)) y)) ≠ 0) ∧ (∀ i, 0 < i → i < B.1 → ∃ j y, j < i ∧ y < 2 ∧ en W H κ (cs (B.2.1 j)) y < 100 ∧ sp κ (en W H κ (cs (B.2.1 j)) y) = B.2.1 i) ∧ (E0 < 100 → 0 < B.1 ∧ B.2.1 0 = sp κ E0) ∧ (¬ E0 < 100 → B.1 = 0)
-- a ray more
theorem spi_nt (hd : Dim W H) {E0 k y : Nat} {B : Bst} (hB : SpB W H κ B) (hC : ∀ i, 0 < i → i < B.1 → ∃ j y, j < i ∧ y < 2 ∧ en W H κ (cs (B.2.1 j)) y < 100 ∧ sp κ (en W H κ (cs (B.2.1 j)) y) = B.2.1 i) (hk : k < B.1) (hy : y < 2) (hE : EndOk W H κ (en W H κ (cs (B.2.1 k)) y)) : ∀ i, 0 < i → i < (nt κ B (en W H κ (cs (B.2.1 k)) y)).1 → ∃ j y', j < i ∧ y' < 2 ∧ en W H κ (cs ((nt κ B (en W H κ (cs (B.2.1 k)) y)).2.1 j)) y' < 100 ∧ sp κ (en W H κ (cs ((nt κ B (en W H κ (cs (B.2.1 k)) y)).2.1 j)) y') = (nt κ B (en W H κ (cs (B.2.1 k)) y)).2.1 i := by
  intro i hi0 hi
  have hX := nt_ext (κ := κ) (B := B) (E := en W H κ (cs (B.2.1 k)) y)
  by_cases g : i < B.1
  · obtain ⟨j, y', h1, h2, h3, h4⟩ := hC i hi0 g
    refine ⟨j, y', h1, h2, ?_, ?_⟩
    · rw [hX.2.1 j (by omega)]; exact h3
    · rw [hX.2.1 j (by omega), hX.2.1 i g]; exact h4
  · rw [nt] at hi
    by_cases g2 : en W H κ (cs (B.2.1 k)) y < 100
    · rw [if_pos g2, ent] at hi
      by_cases h0 : B.2.2 (sp κ (en W H κ (cs (B.2.1 k)) y)) = 0
      · rw [if_pos h0] at hi
        have hi : i < B.1 + 1 := hi
        have e : i = B.1 := by omega
        subst e
        refine ⟨k, y, hk, hy, ?_, ?_⟩
        · rw [hX.2.1 k hk]; exact g2
        · rw [hX.2.1 k hk, nt, if_pos g2, ent, if_pos h0]
          show _ = updN B.2.1 B.1 _ B.1
          rw [updN_s]
      · rw [if_neg h0] at hi; exact absurd hi g
    · rw [if_neg g2] at hi; exact absurd hi g
theorem x_findSplits (hX0 : RoomX W H κ co ro kd) (hd : Dim W H) (hk : Kok W H κ) (hh : cntK κ 3 4 (W * H) ≤ 5) (bq : Int32) (bp bn br : Nat → Int32) {E0 : Nat} (hE0 : EndOk W H κ E0) : ∃ r B, f_X0_findSplits co ro kd bq bp bn br (nI (ce κ E0)) = some r ∧ SpI W H κ E0 B.1 B ∧ RS B r.1 r.2.1 r.2.2.1 ∧ ∀ i y, i < B.1 → y < 2 → r.2.2.2 (2 * i + y) = nI (ce κ (en W H κ (cs (B.2.1 i)) y)) := by
  have hN := hd.le
  obtain ⟨a, ha, hb⟩ := fill_x (na := 60) (by decide) bn (-4)
  have hS0 : SpB W H κ (0, fun _ => 0, fun _ => 0) := ⟨fun i hi => absurd hi (Nat.not_lt_zero i), fun e he => absurd rfl he⟩
  obtain ⟨r1, hr1, hR1⟩ := x_note (bq := 0) (bp := bp) hd hh hS0 ⟨rfl, fun i hi => absurd hi (Nat.not_lt_zero i), hb⟩ hE0
  rw [f_X0_findSplits, ha, bind_s, hr1, bind_s]
  have i1 : ∀ i, 0 < i → i < (nt κ (0, fun _ => 0, fun _ => 0) E0).1 → ∃ j y, j < i ∧ y < 2 ∧ en W H κ (cs ((nt κ (0, fun _ => 0, fun _ => 0) E0).2.1 j)) y < 100 ∧ sp κ (en W H κ (cs ((nt κ (0, fun _ => 0, fun _ => 0) E0).2.1 j)) y) = (nt κ (0, fun _ => 0, fun _ => 0) E0).2.1 i := by
    intro i hi0 hi
    rw [nt] at hi
    by_cases g : E0 < 100
    · rw [if_pos g, ent, if_pos rfl] at hi
      have hi : i < 0 + 1 := hi
      omega
    · rw [if_neg g] at hi
      exact absurd hi (Nat.not_lt_zero i)
  have i2 : E0 < 100 → 0 < (nt κ (0, fun _ => 0, fun _ => 0) E0).1 ∧ (nt κ (0, fun _ => 0, fun _ => 0) E0).2.1 0 = sp κ E0 := by
    intro h
    rw [nt, if_pos h, ent, if_pos rfl]
    exact ⟨Nat.zero_lt_one, show updN (fun _ => 0) 0 (sp κ E0) 0 = sp κ E0 from updN_s⟩
  have i3 : ¬ E0 < 100 → (nt κ (0, fun _ => 0, fun _ => 0) E0).1 = 0 := by
    intro h
    rw [nt, if_neg h]
  obtain ⟨t, ht, B, hI, hR, hbr⟩ := lpf_run (f := fun s : Int32 × Int32 × (Nat → Int32) × (Nat → Int32) × (Nat → Int32) => f_X0_findSplits_21 co ro kd s.1 s.2.1 s.2.2.1 s.2.2.2.1 s.2.2.2.2)
    (fun s => ∃ k B, s.1 = nI k ∧ k ≤ B.1 ∧ SpI W H κ E0 k B ∧ RS B s.2.1 s.2.2.1 s.2.2.2.1 ∧ ∀ i y, i < k → y < 2 → s.2.2.2.2 (2 * i + y) = nI (ce κ (en W H κ (cs (B.2.1 i)) y)))
    (fun t => ∃ B, SpI W H κ E0 B.1 B ∧ RS B t.1 t.2.1 t.2.2.1 ∧ ∀ i y, i < B.1 → y < 2 → t.2.2.2 (2 * i + y) = nI (ce κ (en W H κ (cs (B.2.1 i)) y)))
    (fun s => 500 - s.1.toNatClampNeg) (by
      rintro ⟨x, bq, bp, bn, br⟩ ⟨k, B, rfl, hkm, hI, hR, hbr⟩
      dsimp only at hR hbr ⊢
      have hI' := hI
      obtain ⟨hB, hcl, hC, hf1, hf2⟩ := hI'
      have hm := sp_le hh hB
      rw [f_X0_findSplits_21]
      by_cases he : B.1 ≤ k
      · have ek : k = B.1 := by omega
        refine Or.inr ⟨(bq, bp, bn, br), ?_, B, ?_, hR, ?_⟩
        · by_cases h8 : (10 : Int32) ≤ nI k
          · rw [if_pos h8]
          · rw [if_neg h8, hR.1, if_pos ((n_le (by omega) (by omega)).mpr he)]
        · rw [← ek]; exact hI
        · rw [← ek]; exact hbr
      · have hlt : k < B.1 := by omega
        obtain ⟨q1, q2, q3⟩ := hB.1 k hlt
        have e1 : bq = nI B.1 := hR.1
        have hs : cs (B.2.1 k) < 4 * (W * H) := by rw [cs]; omega
        have hE : ∀ y, EndOk W H κ (en W H κ (cs (B.2.1 k)) y) := fun y => en_end hd hk hs
        have h7 : κ (B.2.1 k / 2) ≤ 7 := hk _ (by omega)
        obtain ⟨-, hf, -⟩ := hf_fin (show κ (B.2.1 k / 2) < 8 by omega) (show 2 * (B.2.1 k % 2) < 4 by omega)
        obtain ⟨-, ho0, ho1⟩ := hf q2
        have b0 := x_endBeyond (y := 0) hX0 hd hk hs
        have b1 := x_endBeyond (y := 1) hX0 hd hk hs
        rw [cs_d, cs_m, ho0] at b0
        rw [cs_d, cs_m, ho1] at b1
        have ktd := (kd_fin (show κ (B.2.1 k / 2) < 8 by omega) (show 2 * (B.2.1 k % 2) < 4 by omega)).2.2.2.1
        have hS1 := nt_sp hd hB (hE 0)
        obtain ⟨r1, hr1, hR1⟩ := x_note hd hh hB hR (hE 0)
        obtain ⟨r2, hr2, hR2⟩ := x_note hd hh hS1 hR1 (hE 1)
        have hX1 := nt_ext (κ := κ) (B := B) (E := en W H κ (cs (B.2.1 k)) 0)
        have hX2 := nt_ext (κ := κ) (B := nt κ B (en W H κ (cs (B.2.1 k)) 0)) (E := en W H κ (cs (B.2.1 k)) 1)
        have hX := hX1.tr hX2
        have hC1 := spi_nt (E0 := E0) hd hB hC hlt (show 0 < 2 by decide) (hE 0)
        have hlt1 : k < (nt κ B (en W H κ (cs (B.2.1 k)) 0)).1 := Nat.lt_of_lt_of_le hlt hX1.1
        have ek1 : (nt κ B (en W H κ (cs (B.2.1 k)) 0)).2.1 k = B.2.1 k := hX1.2.1 k hlt
        have hC2 := spi_nt (E0 := E0) hd hS1 hC1 hlt1 (show 1 < 2 by decide) (by rw [ek1]; exact hE 1)
        rw [ek1] at hC2
        have hS2 := nt_sp hd hS1 (hE 1)
        refine Or.inl ⟨(nI (k + 1), r2.1, r2.2.1, r2.2.2, upd (upd br (2 * k) (nI (ce κ (en W H κ (cs (B.2.1 k)) 0)))) (2 * k + 1) (nI (ce κ (en W H κ (cs (B.2.1 k)) 1)))), ?_, ⟨k + 1, nt κ (nt κ B (en W H κ (cs (B.2.1 k)) 0)) (en W H κ (cs (B.2.1 k)) 1), rfl, ?_, ⟨hS2, ?_, hC2, ?_, ?_⟩, hR2, ?_⟩, ?_⟩
        · rw [if_neg (by rw [show (10 : Int32) = nI 10 from rfl, n_le (by omega) (by omega)]; omega), if_neg (by rw [e1, n_le (by omega) (by omega)]; omega), chk_t (aix_n (by omega) (by decide)), nI_c _ (by omega), hR.2.1 k hlt, show (2 : Int32) = nI 2 from rfl, pk_rem (by omega) (by omega) (by omega), pk_div (by omega) (by omega) (by omega)]
          have ed : (if nI (B.2.1 k % 2) = 0 then some (0 : Int32) else some (nI 2)) = some (nI (2 * (B.2.1 k % 2))) := by
            rcases Nat.mod_two_eq_zero_or_one (B.2.1 k) with g | g
            · rw [g]; rfl
            · rw [g]; rfl
          rw [ed, bind_s, b0, bind_s, pk_mul, chk_t (aix_n (by omega) (by decide)), x_kindIn hX0 hd (show B.2.1 k / 2 < W * H by omega), bind_s, ktd, bind_s, b1, bind_s, nI_1, chk_t (aix_n (by omega) (by decide)), nI_c _ (by omega), nI_c _ (by omega), pk_un (show 2 * k ≠ 2 * k + 1 by omega), pk_us, pk_us, hr1, bind_s, hr2, bind_s, nI_1]
        · have := hX.1
          omega
        · intro i y hi hy hlt100
          by_cases g : i = k
          · subst g
            rw [hX.2.1 i hlt] at hlt100 ⊢
            rcases (show y = 0 ∨ y = 1 by omega) with rfl | rfl
            · have a1 : (nt κ B (en W H κ (cs (B.2.1 i)) 0)).2.2 (sp κ (en W H κ (cs (B.2.1 i)) 0)) ≠ 0 := by
                rw [nt, if_pos hlt100]; exact ent_in _ (by omega)
              rw [hX2.2.2 _ a1]; exact a1
            · have a1 : (nt κ (nt κ B (en W H κ (cs (B.2.1 i)) 0)) (en W H κ (cs (B.2.1 i)) 1)).2.2 (sp κ (en W H κ (cs (B.2.1 i)) 1)) ≠ 0 := by
                generalize nt κ B (en W H κ (cs (B.2.1 i)) 0) = B1
                rw [nt, if_pos hlt100]; exact ent_in _ (by omega)
              exact a1
          · rw [hX.2.1 i (by omega)] at hlt100 ⊢
            have a1 := hcl i y (by omega) hy hlt100
            rw [hX.2.2 _ a1]; exact a1
        · intro h
          obtain ⟨c1, c2⟩ := hf1 h
          exact ⟨Nat.lt_of_lt_of_le c1 hX.1, by rw [hX.2.1 0 c1]; exact c2⟩
        · intro h
          have := hf2 h
          omega
        · intro i y hi hy
          show upd (upd br (2 * k) _) (2 * k + 1) _ (2 * i + y) = _
          by_cases g : i = k
          · subst g
            rw [hX.2.1 i hlt]
            rcases (show y = 0 ∨ y = 1 by omega) with rfl | rfl
            · rw [pk_un (by omega), show 2 * i + 0 = 2 * i from rfl, pk_us]
            · rw [pk_us]
          · rw [pk_un (by omega), pk_un (by omega), hX.2.1 i (by omega)]
            exact hbr i y (by omega) hy
        · show 500 - (nI (k + 1)).toNatClampNeg < 500 - (nI k).toNatClampNeg
          rw [nI_c _ (by omega), nI_c _ (by omega)]
          omega) 1000 ((0 : Int32), r1.1, r1.2.1, r1.2.2, br) ⟨0, nt κ (0, fun _ => 0, fun _ => 0) E0, rfl, Nat.zero_le _, ⟨nt_sp hd hS0 hE0, fun i y hi => absurd hi (Nat.not_lt_zero i), i1, i2, i3⟩, hR1, fun i y hi => absurd hi (Nat.not_lt_zero i)⟩ (by dsimp only; omega)
  rw [ht, bind_s]
  exact ⟨_, B, rfl, hI, hR, hbr⟩
end SP
