/-! ===== the class's parts as shares ===== -/
theorem iv_x (p : Prop) [Decidable p] (x : Int) : ((if p then x else 0 : Int) : Rat) = (x : Rat) * iv p := by
  by_cases h : p
  · rw [if_pos h, iv_t h, Rat.mul_one]
  · rw [if_neg h, iv_f h, Rat.mul_zero]; rfl
theorem pz_r {c0 : Nat} {w : Int} {ec : Nat → Nat} {X : Nat → Int} {e : Nat} (n : Nat) : (pz (c0 : Int) w ec X e (2 * n) : Rat) = iv (c0 = e) * (w : Rat) + sm n (fun j => (X j : Rat) * (iv (ec (2 * j) = e) + iv (ec (2 * j + 1) = e))) := by
  induction n with
  | zero =>
    show ((if (c0 : Int) = (e : Int) then w else 0 : Int) : Rat) = _ + 0
    rw [iv_x, iv_iff (p := (c0 : Int) = (e : Int)) (q := c0 = e) (by omega)]
    grind
  | succ n ih =>
    have e1 : pz (c0 : Int) w ec X e (2 * (n + 1)) = pz (c0 : Int) w ec X e (2 * n) + (if ec (2 * n) = e then X n else 0) + (if ec (2 * n + 1) = e then X n else 0) := by
      show pz (c0 : Int) w ec X e (2 * n + 1 + 1) = _
      rw [pz, pz, show 2 * n / 2 = n by omega, show (2 * n + 1) / 2 = n by omega]
    rw [e1, Rat.intCast_add, Rat.intCast_add, ih, sm_s, iv_x, iv_x]
    grind
section PT
variable {W H : Nat} {κ : Nat → Nat} {B : Bst} {E0 : Nat}
theorem PZ_r (e : Nat) : (PZ W H κ E0 B e : Rat) = iv (ce κ E0 = e) * (wZ W H κ B : Rat) + sm B.1 (fun j => (XZ W H κ B j : Rat) * (iv (ce κ (en W H κ (cs (B.2.1 j)) 0) = e) + iv (ce κ (en W H κ (cs (B.2.1 j)) 1) = e))) := by
  rw [PZ, pz_r]
  congr 1
  refine sm_cong (fun j _ => ?_)
  rw [show 2 * j / 2 = j by omega, show (2 * j + 1) / 2 = j by omega, show 2 * j % 2 = 0 by omega, show (2 * j + 1) % 2 = 1 by omega]
-- what comes to the ends that are asked
def PA (W H : Nat) (κ : Nat → Nat) (aq : Nat → Bool) (E0 : Nat) (B : Bst) : Rat := iv (aq E0 = true) * (wZ W H κ B : Rat) + sm B.1 (fun j => (XZ W H κ B j : Rat) * (iv (aq (en W H κ (cs (B.2.1 j)) 0) = true) + iv (aq (en W H κ (cs (B.2.1 j)) 1) = true)))
theorem ends_ok (hd : Dim W H) (hk : Kok W H κ) (hB : SpB W H κ B) {j : Nat} (hj : j < B.1) (y : Nat) : EndOk W H κ (en W H κ (cs (B.2.1 j)) y) := en_end hd hk (by have := (hB.1 j hj).1; rw [cs]; omega)
/-- one end -/
theorem PA_1 (hd : Dim W H) (hk : Kok W H κ) (hB : SpB W H κ B) (hE : EndOk W H κ E0) {aq : Nat → Bool} {e : Nat} (h : ∀ E, EndOk W H κ E → (aq E = true ↔ ce κ E = e)) : (PZ W H κ E0 B e : Rat) = PA W H κ aq E0 B := by
  rw [PZ_r, PA, iv_iff (h E0 hE)]
  congr 1
  refine sm_cong (fun j hj => ?_)
  rw [iv_iff (h _ (ends_ok hd hk hB hj 0)), iv_iff (h _ (ends_ok hd hk hB hj 1))]
def sI : Nat → (Nat → Int) → Int
  | 0, _ => 0
  | n + 1, f => sI n f + f n
theorem sI_r (n : Nat) (f : Nat → Int) : ((sI n f : Int) : Rat) = sm n (fun i => (f i : Rat)) := by
  induction n with
  | zero => rfl
  | succ n ih => rw [sI, sm_s, Rat.intCast_add, ih]
/-- all ends but going round -/
theorem PA_any (hd : Dim W H) (hk : Kok W H κ) (hB : SpB W H κ B) (hE : EndOk W H κ E0) {aq : Nat → Bool} (h : ∀ E, EndOk W H κ E → iv (aq E = true) = iv (ce κ E = 58) + sm 18 (fun q => iv (ce κ E = 40 + q))) : ((PZ W H κ E0 B 58 + sI 18 (fun q => PZ W H κ E0 B (40 + q)) : Int) : Rat) = PA W H κ aq E0 B := by
  have e1 : sm 18 (fun q => (PZ W H κ E0 B (40 + q) : Rat)) = sm 18 (fun q => iv (ce κ E0 = 40 + q)) * (wZ W H κ B : Rat) + sm B.1 (fun j => (XZ W H κ B j : Rat) * (sm 18 (fun q => iv (ce κ (en W H κ (cs (B.2.1 j)) 0) = 40 + q)) + sm 18 (fun q => iv (ce κ (en W H κ (cs (B.2.1 j)) 1) = 40 + q)))) := by
    have a1 : sm 18 (fun q => (PZ W H κ E0 B (40 + q) : Rat)) = sm 18 (fun q => iv (ce κ E0 = 40 + q) * (wZ W H κ B : Rat)) + sm 18 (fun q => sm B.1 (fun j => (XZ W H κ B j : Rat) * (iv (ce κ (en W H κ (cs (B.2.1 j)) 0) = 40 + q) + iv (ce κ (en W H κ (cs (B.2.1 j)) 1) = 40 + q)))) := by
      rw [← sm_add]
      exact sm_cong (fun q _ => PZ_r (40 + q))
    have a2 : sm 18 (fun q => iv (ce κ E0 = 40 + q) * (wZ W H κ B : Rat)) = sm 18 (fun q => iv (ce κ E0 = 40 + q)) * (wZ W H κ B : Rat) := by
      rw [Rat.mul_comm, ← sm_mul]
      exact sm_cong (fun q _ => Rat.mul_comm _ _)
    rw [a1, a2, sm_swap]
    congr 1
    refine sm_cong (fun j _ => ?_)
    rw [sm_mul, sm_add]
  rw [Rat.intCast_add, sI_r, e1, PZ_r, PA, h E0 hE]
  have e2 : sm B.1 (fun j => (XZ W H κ B j : Rat) * (iv (aq (en W H κ (cs (B.2.1 j)) 0) = true) + iv (aq (en W H κ (cs (B.2.1 j)) 1) = true))) = sm B.1 (fun j => (XZ W H κ B j : Rat) * (iv (ce κ (en W H κ (cs (B.2.1 j)) 0) = 58) + iv (ce κ (en W H κ (cs (B.2.1 j)) 1) = 58))) + sm B.1 (fun j => (XZ W H κ B j : Rat) * (sm 18 (fun q => iv (ce κ (en W H κ (cs (B.2.1 j)) 0) = 40 + q)) + sm 18 (fun q => iv (ce κ (en W H κ (cs (B.2.1 j)) 1) = 40 + q)))) := by
    rw [← sm_add]
    refine sm_cong (fun j hj => ?_)
    rw [h _ (ends_ok hd hk hB hj 0), h _ (ends_ok hd hk hB hj 1)]
    grind
  rw [e2]
  grind
theorem X_eq (hd : Dim W H) (hk : Kok W H κ) {p : Nat} (hp : p < 2 * (W + H)) (hI : SpI W H κ (tr W H κ 80 (4 * pcell W H p + pdir W H p)) B.1 B) : ∀ t, t < B.1 → sm B.1 (fun j => (cA B.1 (tgB W H κ B) t j : Rat) * (XZ W H κ B j : Rat)) = (wZ W H κ B : Rat) * iv (t = 0) := by
  intro t ht
  have := gZ_sol (cA_MM hd hk hp hI) ht
  rw [cA_n] at this
  exact this
theorem w_b (hd : Dim W H) (hk : Kok W H κ) (hh : cntK κ 3 4 (W * H) ≤ 5) {p : Nat} (hp : p < 2 * (W + H)) (hI : SpI W H κ (tr W H κ 80 (4 * pcell W H p + pdir W H p)) B.1 B) : 0 < wZ W H κ B ∧ wZ W H κ B ≤ 1048576 := gd_c (cA_MM hd hk hp hI) (by have := sp_le hh hI.1; omega) (Nat.le_refl _)
/-- the ends' numbers -/
theorem ce_fin (hd : Dim W H) {E : Nat} (hE : EndOk W H κ E) : (∀ q, q < 18 → (ce κ E = 40 + q ↔ E = 100 + q)) ∧ (ce κ E = 58 ↔ E = 200) := by
  have hN := hd.le
  have hdd := hd
  obtain ⟨d1, d2, d3, d4⟩ := hdd
  rcases hE with ⟨h1, h2⟩ | ⟨p, hp, rfl⟩ | rfl | rfl
  · have := sp_lt (κ := κ) h1
    rw [ce, if_pos (by omega)]
    exact ⟨fun q hq => by omega, by omega⟩
  · rw [ce, if_neg (by omega), if_pos (by omega)]
    exact ⟨fun q hq => by omega, by omega⟩
  · have e : ce κ 200 = 58 := rfl
    rw [e]
    exact ⟨fun q hq => by omega, by omega⟩
  · have e : ce κ 300 = 59 := rfl
    rw [e]
    exact ⟨fun q hq => by omega, by omega⟩
end PT
-- what may be asked: a port, what is swallowed, all that does not go round
def aqP (q E : Nat) : Bool := decide (E = 100 + q)
def aqW (E : Nat) : Bool := decide (E = 200)
def aqA (E : Nat) : Bool := decide (100 ≤ E ∧ E ≤ 200)
theorem aqP_n (q E : Nat) (h : E < 100) : ¬ aqP q E = true := by rw [aqP, decide_eq_true_eq]; omega
theorem aqW_n (E : Nat) (h : E < 100) : ¬ aqW E = true := by rw [aqW, decide_eq_true_eq]; omega
theorem aqA_n (E : Nat) (h : E < 100) : ¬ aqA E = true := by rw [aqA, decide_eq_true_eq]; omega
abbrev AkP (p q : Nat) : Prop := f_X6_isAsked ((-2 : Int32) - nI p) (nI q) = some (if p = q then 1 else 0) ∧ f_X6_isAsked ((-2 : Int32) - nI p) (-1) = some 0 ∧ f_X6_isAsked ((-2 : Int32) - nI p) (-2) = some 1
theorem ak_fin {p q : Nat} (hp : p < 20) (hq : q < 20) : AkP p q := all2 (A := 20) (B := 20) (P := AkP) (by decide +kernel) hp hq
abbrev AcP (q e : Nat) : Prop := f_X6_isAsked (nI e) (nI q) = some 0 ∧ f_X6_isAsked (nI e) (-1) = some 0 ∧ f_X6_isAsked (nI e) (-2) = some 0 ∧ f_X6_isAsked (-1) (nI q) = some 0 ∧ f_X6_isAsked (-100) (nI q) = some 0
theorem ac_fin {q e : Nat} (hq : q < 20) (he : e < 80) : AcP q e := all2 (A := 20) (B := 80) (P := AcP) (by decide +kernel) hq he
section AK
variable {W H : Nat} {κ : Nat → Nat}
theorem bI_f {b : Bool} (h : ¬ b = true) : bI b = 0 := if_neg h
theorem bI_t {b : Bool} (h : b = true) : bI b = 1 := if_pos h
theorem ask_P (hd : Dim W H) {q : Nat} (hq : q < 2 * (W + H)) : AskOk W H κ (aqP q) (nI q) := by
  intro E hE
  have hN := hd.le
  have hdd := hd
  obtain ⟨d1, d2, d3, d4⟩ := hdd
  refine ⟨?_, fun h => by rw [aqP, decide_eq_true_eq] at h; omega⟩
  rcases hE with ⟨h1, h2⟩ | ⟨p, hp, rfl⟩ | rfl | rfl
  · rw [rc, if_pos (by omega), (ac_fin (q := q) (by omega) (show E < 80 by omega)).1, bI_f (aqP_n q E (by omega))]
  · rw [rc, if_neg (by omega), if_pos (by omega), show 100 + p - 100 = p by omega, (ak_fin (show p < 20 by omega) (show q < 20 by omega)).1]
    by_cases e : p = q
    · rw [if_pos e, bI_t (by rw [aqP, decide_eq_true_eq]; omega)]
    · rw [if_neg e, bI_f (by rw [aqP, decide_eq_true_eq]; omega)]
  · rw [show rc 200 = -1 from rfl, (ac_fin (q := q) (e := 0) (by omega) (by decide)).2.2.2.1, bI_f (by rw [aqP, decide_eq_true_eq]; omega)]
  · rw [show rc 300 = -100 from rfl, (ac_fin (q := q) (e := 0) (by omega) (by decide)).2.2.2.2, bI_f (by rw [aqP, decide_eq_true_eq]; omega)]
theorem ask_W (hd : Dim W H) : AskOk W H κ aqW (-1) := by
  intro E hE
  have hN := hd.le
  have hdd := hd
  obtain ⟨d1, d2, d3, d4⟩ := hdd
  refine ⟨?_, fun h => by rw [aqW, decide_eq_true_eq] at h; omega⟩
  rcases hE with ⟨h1, h2⟩ | ⟨p, hp, rfl⟩ | rfl | rfl
  · rw [rc, if_pos (by omega), (ac_fin (q := 0) (by omega) (show E < 80 by omega)).2.1, bI_f (aqW_n E (by omega))]
  · rw [rc, if_neg (by omega), if_pos (by omega), show 100 + p - 100 = p by omega, (ak_fin (q := 0) (show p < 20 by omega) (by omega)).2.1, bI_f (by rw [aqW, decide_eq_true_eq]; omega)]
  · rfl
  · rfl
theorem ask_A (hd : Dim W H) : AskOk W H κ aqA (-2) := by
  intro E hE
  have hN := hd.le
  have hdd := hd
  obtain ⟨d1, d2, d3, d4⟩ := hdd
  refine ⟨?_, fun h => by rw [aqA, decide_eq_true_eq] at h; omega⟩
  rcases hE with ⟨h1, h2⟩ | ⟨p, hp, rfl⟩ | rfl | rfl
  · rw [rc, if_pos (by omega), (ac_fin (q := 0) (by omega) (show E < 80 by omega)).2.2.1, bI_f (aqA_n E (by omega))]
  · rw [rc, if_neg (by omega), if_pos (by omega), show 100 + p - 100 = p by omega, (ak_fin (q := 0) (show p < 20 by omega) (by omega)).2.2, bI_t (by rw [aqA, decide_eq_true_eq]; omega)]
  · rfl
  · rfl
theorem any_r (hd : Dim W H) {E : Nat} (hE : EndOk W H κ E) : iv (aqA E = true) = iv (ce κ E = 58) + sm 18 (fun q => iv (ce κ E = 40 + q)) := by
  obtain ⟨c1, c2⟩ := ce_fin hd hE
  have hdd := hd
  obtain ⟨d1, d2, d3, d4⟩ := hdd
  have hN := hd.le
  have e : sm 18 (fun q => iv (ce κ E = 40 + q)) = sm 18 (fun q => iv (E = 100 + q)) := sm_cong (fun q hq => iv_iff (c1 q hq))
  rw [iv_iff c2, e]
  have other : (¬ ∃ p, p < 18 ∧ E = 100 + p) → sm 18 (fun q => iv (E = 100 + q)) = 0 := fun h => sm_zero (fun q hq => iv_f (fun z => h ⟨q, hq, z⟩))
  rcases hE with ⟨h1, h2⟩ | ⟨p, hp, rfl⟩ | rfl | rfl
  · rw [other (fun ⟨p, h3, h4⟩ => by omega), iv_f (aqA_n E (by omega)), iv_f (show ¬ E = 200 by omega)]
    grind
  · rw [sm_one (p := p) (by omega) (fun i hi hne => iv_f (by omega)), iv_t rfl, iv_t (by rw [aqA, decide_eq_true_eq]; omega), iv_f (show ¬ 100 + p = 200 by omega)]
    grind
  · rw [other (fun ⟨p, h3, h4⟩ => by omega), iv_t (show aqA 200 = true from rfl), iv_t rfl]
    grind
  · rw [other (fun ⟨p, h3, h4⟩ => by omega), iv_f (show ¬ aqA 300 = true by decide), iv_f (show ¬ 300 = 200 by decide)]
    grind
end AK
