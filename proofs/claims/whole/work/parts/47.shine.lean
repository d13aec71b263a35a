/-! ===== the class's matrix, and its beam ===== -/
def iv (p : Prop) [Decidable p] : Rat := if p then 1 else 0
theorem iv_t {p : Prop} [Decidable p] (h : p) : iv p = 1 := if_pos h
theorem iv_f {p : Prop} [Decidable p] (h : ¬ p) : iv p = 0 := if_neg h
theorem iv_b (p : Prop) [Decidable p] : 0 ≤ iv p ∧ iv p ≤ 1 := by
  by_cases h : p
  · rw [iv_t h]; decide
  · rw [iv_f h]; decide
theorem iv_pos {p : Prop} [Decidable p] (h : iv p ≠ 0) : p := Classical.byContradiction fun q => h (iv_f q)
theorem iv_cast (p : Prop) [Decidable p] : ((if p then (1 : Int) else 0 : Int) : Rat) = iv p := by
  by_cases h : p
  · rw [if_pos h, iv_t h]; rfl
  · rw [if_neg h, iv_f h]; rfl
theorem iv_cast2 (p : Prop) [Decidable p] : ((if p then (2 : Int) else 0 : Int) : Rat) = 2 * iv p := by
  by_cases h : p
  · rw [if_pos h, iv_t h, Rat.mul_one]; rfl
  · rw [if_neg h, iv_f h, Rat.mul_zero]; rfl
theorem sm_le1 {n : Nat} {f : Nat → Rat} (h1 : ∀ i, i < n → 0 ≤ f i ∧ f i ≤ 1) (h2 : ∀ i j, i < j → j < n → f i = 0 ∨ f j = 0) : sm n f ≤ 1 := by
  induction n with
  | zero => show (0 : Rat) ≤ 1; decide
  | succ n ih =>
    rw [sm_s]
    by_cases g : f n = 0
    · have := ih (fun i hi => h1 i (by omega)) (fun i j hi hj => h2 i j hi (by omega))
      rw [g]; grind
    · rw [sm_zero (fun i hi => (h2 i n hi (by omega)).resolve_right g)]
      have := (h1 n (by omega)).2
      grind
theorem cA_e {n : Nat} {tg : Nat → Nat → Nat} {t j : Nat} (hj : j < n) : (cA n tg t j : Rat) = 2 * iv (j = t) - iv (tg j 0 = t + 1) - iv (tg j 1 = t + 1) := by
  rw [cA, pa, if_neg (by omega), ite_iff (p := 2 * j < 2 * n ∧ tg j 0 = t + 1) (q := tg j 0 = t + 1) (by omega), ite_iff (p := 2 * j + 1 < 2 * n ∧ tg j 1 = t + 1) (q := tg j 1 = t + 1) (by omega), Rat.intCast_sub, Rat.intCast_sub, iv_cast2, iv_cast, iv_cast]
theorem cA_n {n : Nat} {tg : Nat → Nat → Nat} {t : Nat} : (cA n tg t n : Rat) = iv (t = 0) := by
  rw [cA, pa_n, iv_cast]
theorem iv_sum {n t : Nat} (ht : t < n) (f : Nat → Rat) : sm n (fun j => f j * iv (j = t)) = f t := by
  rw [sm_one (p := t) ht (fun i _ hne => by rw [iv_f hne]; grind), iv_t rfl]
  grind
theorem cA_sum {n : Nat} {tg : Nat → Nat → Nat} {t : Nat} (ht : t < n) : sm n (fun j => (cA n tg t j : Rat)) = 2 - sm n (fun j => iv (tg j 0 = t + 1) + iv (tg j 1 = t + 1)) := by
  have h1 : sm n (fun j => (cA n tg t j : Rat)) = sm n (fun j => 1 * (2 * iv (j = t)) + (-1) * (iv (tg j 0 = t + 1) + iv (tg j 1 = t + 1))) := sm_cong (fun j hj => by rw [cA_e hj]; grind)
  rw [h1, sm_lin (fun i _ => rfl), iv_sum ht (fun _ => 2)]
  grind
abbrev OdP (k x y : Nat) : Prop := (k = 3 ∨ k = 4) → od k (2 * (x / 2)) (x % 2) = od k (2 * (y / 2)) (y % 2) → x = y
theorem od_fin {k x y : Nat} (h1 : k < 8) (h2 : x < 4) (h3 : y < 4) : OdP k x y := all3 (A := 8) (B := 4) (C := 4) (P := OdP) (by decide +kernel) h1 h2 h3
abbrev SdP (k d : Nat) : Prop := (k = 3 ∨ k = 4) → (d = 2 * (if d = 0 ∨ td k d = 0 then 0 else 1) ∨ d = td k (2 * (if d = 0 ∨ td k d = 0 then 0 else 1)))
theorem sd_fin {k d : Nat} (h1 : k < 8) (h2 : d < 4) : SdP k d := all2 (A := 8) (B := 4) (P := SdP) (by decide +kernel) h1 h2
section SH
variable {W H : Nat} {κ : Nat → Nat} {co ro : Int32} {kd f : Nat → Int32}
theorem half_k (hk : Kok W H κ) {c : Nat} (hc : c < W * H) (h : nw (κ c) = 2) : κ c < 8 ∧ (κ c = 3 ∨ κ c = 4) := by
  have h7 := hk c hc
  exact ⟨by omega, (hf_fin (show κ c < 8 by omega) (show 0 < 4 by decide)).1.mp h⟩
/-- a half state is one of the two of its split -/
theorem sp_two (hk : Kok W H κ) {e : Nat} (he : e < 4 * (W * H)) (h : nw (κ (e / 4)) = 2) {j : Nat} (hj : sp κ e = j) : e = cs j ∨ e = 4 * (j / 2) + td (κ (j / 2)) (2 * (j % 2)) := by
  obtain ⟨h8, h34⟩ := half_k hk (show e / 4 < W * H by omega) h
  have h4 : e % 4 < 4 := Nat.mod_lt _ (by decide)
  have h1 := sd_fin h8 h4 h34
  have hd2 : j / 2 = e / 4 := by rw [← hj]; exact sp_d
  have hm : j % 2 = if e % 4 = 0 ∨ td (κ (e / 4)) (e % 4) = 0 then 0 else 1 := by
    rw [← hj, sp]
    split <;> omega
  rw [← hm] at h1
  rw [cs, hd2]
  rcases h1 with h1 | h1
  · left; omega
  · right; omega
theorem ray_two (hd : Dim W H) (hk : Kok W H κ) {B : Bst} (hB : SpB W H κ B) {i j y y' : Nat} (hi : i < B.1) (hj : j < B.1) (hy : y < 2) (hy' : y' < 2) (h : en W H κ (cs (B.2.1 i)) y < 100) (e : en W H κ (cs (B.2.1 i)) y = en W H κ (cs (B.2.1 j)) y') : i = j ∧ y = y' := by
  obtain ⟨a1, a2, a3⟩ := hB.1 i hi
  obtain ⟨b1, b2, b3⟩ := hB.1 j hj
  have h1 := en_inj hd hk (show cs (B.2.1 i) < 4 * (W * H) by rw [cs]; omega) (show cs (B.2.1 j) < 4 * (W * H) by rw [cs]; omega) (by rw [cs_d]; exact a2) (by rw [cs_d]; exact b2) h e
  rw [cs_d, cs_d, cs_m, cs_m] at h1
  obtain ⟨h8, h34⟩ := half_k hk (show B.2.1 i / 2 < W * H by omega) a2
  have h2 := od_fin h8 (show 2 * (B.2.1 i % 2) + y < 4 by omega) (show 2 * (B.2.1 j % 2) + y' < 4 by omega) h34 (by
    rw [show (2 * (B.2.1 i % 2) + y) / 2 = B.2.1 i % 2 by omega, show (2 * (B.2.1 j % 2) + y') / 2 = B.2.1 j % 2 by omega, show (2 * (B.2.1 i % 2) + y) % 2 = y by omega, show (2 * (B.2.1 j % 2) + y') % 2 = y' by omega]
    exact h1.2)
  have hq : B.2.1 i = B.2.1 j := by omega
  rw [hq] at a3
  exact ⟨by omega, by omega⟩
theorem rays1 (hd : Dim W H) (hk : Kok W H κ) {B : Bst} (hB : SpB W H κ B) {e : Nat} (he : e < 100) : sm B.1 (fun j => iv (en W H κ (cs (B.2.1 j)) 0 = e) + iv (en W H κ (cs (B.2.1 j)) 1 = e)) ≤ 1 := by
  refine sm_le1 (fun i hi => ?_) (fun i j hij hj => ?_)
  · have b0 := iv_b (en W H κ (cs (B.2.1 i)) 0 = e)
    have b1 := iv_b (en W H κ (cs (B.2.1 i)) 1 = e)
    by_cases g : en W H κ (cs (B.2.1 i)) 0 = e
    · rw [iv_f (p := en W H κ (cs (B.2.1 i)) 1 = e) (fun q => by
        have := (ray_two hd hk hB hi hi (show 0 < 2 by decide) (show 1 < 2 by decide) (by omega) (by rw [g, q])).2
        omega)]
      constructor
      · grind
      · grind
    · rw [iv_f g]
      constructor
      · grind
      · grind
  · refine Classical.byContradiction fun hx => ?_
    have some : ∀ l, ¬ (iv (en W H κ (cs (B.2.1 l)) 0 = e) + iv (en W H κ (cs (B.2.1 l)) 1 = e) = 0) → ∃ y, y < 2 ∧ en W H κ (cs (B.2.1 l)) y = e := by
      intro l hl
      by_cases g : en W H κ (cs (B.2.1 l)) 0 = e
      · exact ⟨0, by decide, g⟩
      · rw [iv_f g] at hl
        exact ⟨1, by decide, iv_pos (fun q => hl (by rw [q]; grind))⟩
    obtain ⟨y, hy, h1⟩ := some i (fun q => hx (Or.inl q))
    obtain ⟨y', hy', h2⟩ := some j (fun q => hx (Or.inr q))
    have := (ray_two hd hk hB (show i < B.1 by omega) hj hy hy' (by omega) (by rw [h1, h2])).1
    omega
theorem cA_MM (hd : Dim W H) (hk : Kok W H κ) {p : Nat} (hp : p < 2 * (W + H)) {B : Bst} (hI : SpI W H κ (tr W H κ 80 (4 * pcell W H p + pdir W H p)) B.1 B) : MM B.1 (cA B.1 (tgB W H κ B)) (fun i => i) := by
  have hN := hd.le
  obtain ⟨hB, hcl, hC, hf1, hf2⟩ := hI
  obtain ⟨-, -, -, q1, q2⟩ := pt hd hp
  have hS0 : 4 * pcell W H p + pdir W H p < 4 * (W * H) := by omega
  have hE0 : EndOk W H κ (tr W H κ 80 (4 * pcell W H p + pdir W H p)) := tr_end hd hk 80 _ hS0
  have hEn : ∀ j y, j < B.1 → EndOk W H κ (en W H κ (cs (B.2.1 j)) y) := fun j y hj => en_end hd hk (by have := (hB.1 j hj).1; rw [cs]; omega)
  generalize hE : tr W H κ 80 (4 * pcell W H p + pdir W H p) = E0 at *
  -- a ray to split t ends in one of two states
  have tw : ∀ t, t < B.1 → ∀ j y, j < B.1 → tgB W H κ B j y = t + 1 → en W H κ (cs (B.2.1 j)) y = cs (B.2.1 t) ∨ en W H κ (cs (B.2.1 j)) y = 4 * (B.2.1 t / 2) + td (κ (B.2.1 t / 2)) (2 * (B.2.1 t % 2)) := by
    intro t ht j y hj h
    rw [tgB] at h
    by_cases g : en W H κ (cs (B.2.1 j)) y < 100
    · rw [if_pos g] at h
      have hq := (hB.2 _ (show B.2.2 (sp κ (en W H κ (cs (B.2.1 j)) y)) ≠ 0 by omega)).2
      rw [h, show t + 1 - 1 = t by omega] at hq
      rcases hEn j y hj with ⟨e1, e2⟩ | ⟨p, hp, e1⟩ | e1 | e1
      · exact sp_two hk e1 e2 hq.symm
      · omega
      · omega
      · omega
    · rw [if_neg g] at h; omega
  have low : ∀ t, t < B.1 → iv (t = 0) ≤ sm B.1 (fun j => (cA B.1 (tgB W H κ B) t j : Rat)) := by
    intro t ht
    obtain ⟨a1, a2, a3⟩ := hB.1 t ht
    obtain ⟨h8, h34⟩ := half_k hk (show B.2.1 t / 2 < W * H by omega) a2
    have htd : td (κ (B.2.1 t / 2)) (2 * (B.2.1 t % 2)) < 4 := (kd_fin h8 (show 2 * (B.2.1 t % 2) < 4 by omega)).2.2.2.2.2.1
    have hcs : cs (B.2.1 t) < 100 := by rw [cs]; omega
    have s1 := rays1 hd hk hB hcs
    have s2 := rays1 hd hk hB (show 4 * (B.2.1 t / 2) + td (κ (B.2.1 t / 2)) (2 * (B.2.1 t % 2)) < 100 by omega)
    have s3 : sm B.1 (fun j => iv (tgB W H κ B j 0 = t + 1) + iv (tgB W H κ B j 1 = t + 1)) ≤ sm B.1 (fun j => iv (en W H κ (cs (B.2.1 j)) 0 = cs (B.2.1 t)) + iv (en W H κ (cs (B.2.1 j)) 1 = cs (B.2.1 t))) + sm B.1 (fun j => iv (en W H κ (cs (B.2.1 j)) 0 = 4 * (B.2.1 t / 2) + td (κ (B.2.1 t / 2)) (2 * (B.2.1 t % 2))) + iv (en W H κ (cs (B.2.1 j)) 1 = 4 * (B.2.1 t / 2) + td (κ (B.2.1 t / 2)) (2 * (B.2.1 t % 2)))) := by
      rw [← sm_add]
      refine sm_le (fun j hj => ?_)
      have one : ∀ y, iv (tgB W H κ B j y = t + 1) ≤ iv (en W H κ (cs (B.2.1 j)) y = cs (B.2.1 t)) + iv (en W H κ (cs (B.2.1 j)) y = 4 * (B.2.1 t / 2) + td (κ (B.2.1 t / 2)) (2 * (B.2.1 t % 2))) := by
        intro y
        have b1 := iv_b (en W H κ (cs (B.2.1 j)) y = cs (B.2.1 t))
        have b2 := iv_b (en W H κ (cs (B.2.1 j)) y = 4 * (B.2.1 t / 2) + td (κ (B.2.1 t / 2)) (2 * (B.2.1 t % 2)))
        by_cases g : tgB W H κ B j y = t + 1
        · rw [iv_t g]
          rcases tw t ht j y hj g with q | q
          · rw [iv_t q]; grind
          · rw [iv_t q]; grind
        · rw [iv_f g]; grind
      have o0 := one 0
      have o1 := one 1
      grind
    rw [cA_sum ht]
    by_cases g : t = 0
    · subst g
      rw [iv_t rfl]
      have hE1 : E0 < 100 := Classical.byContradiction fun q => by have := hf2 q; omega
      have hq0 := (hf1 hE1).2
      have none : ∀ e, e = E0 → sm B.1 (fun j => iv (en W H κ (cs (B.2.1 j)) 0 = e) + iv (en W H κ (cs (B.2.1 j)) 1 = e)) = 0 := by
        intro e he
        refine sm_zero (fun j hj => ?_)
        obtain ⟨b1, b2, b3⟩ := hB.1 j hj
        have ne : ∀ y, ¬ en W H κ (cs (B.2.1 j)) y = e := fun y q => en_port hd hk (show cs (B.2.1 j) < 4 * (W * H) by rw [cs]; omega) (by rw [cs_d]; exact b2) hp (show en W H κ (cs (B.2.1 j)) y < 100 by omega) (by rw [q, he, hE])
        rw [iv_f (ne 0), iv_f (ne 1)]
        grind
      have hE2 : E0 < 4 * (W * H) ∧ nw (κ (E0 / 4)) = 2 := by
        rcases hE0 with h | ⟨p, hp, e1⟩ | e1 | e1
        · exact h
        · omega
        · omega
        · omega
      rcases sp_two hk hE2.1 hE2.2 hq0.symm with q | q
      · rw [none _ q.symm] at s3
        grind
      · rw [none _ q.symm] at s3
        grind
    · rw [iv_f g]
      grind
  refine ⟨fun i j hi hj hne => ?_, fun i hi => ?_, fun i hi => ?_, fun i hi => ?_⟩
  · have b1 := iv_b (tgB W H κ B j 0 = i + 1)
    have b2 := iv_b (tgB W H κ B j 1 = i + 1)
    rw [cA_e hj, iv_f hne]
    grind
  · rw [cA_n]
    exact ⟨(iv_b _).1, low i hi⟩
  · have b1 := iv_b (tgB W H κ B i 0 = i + 1)
    have b2 := iv_b (tgB W H κ B i 1 = i + 1)
    rw [cA_e hi, iv_t rfl]
    grind
  · by_cases g : i = 0
    · left
      have := low i hi
      rw [iv_t g] at this
      grind
    · right
      obtain ⟨j, y, h1, h2, h3, h4⟩ := hC i (by omega) hi
      have htg : tgB W H κ B j y = i + 1 := by
        rw [tgB, if_pos h3, h4]
        exact (hB.1 i hi).2.2
      refine ⟨j, by omega, by omega, ?_, h1⟩
      have b1 := iv_b (tgB W H κ B j 0 = i + 1)
      have b2 := iv_b (tgB W H κ B j 1 = i + 1)
      rw [cA_e (by omega), iv_f (show ¬ j = i by omega)]
      rcases (show y = 0 ∨ y = 1 by omega) with rfl | rfl
      · rw [iv_t htg]; grind
      · rw [iv_t htg]; grind
-- the class's parts
def XZ (W H : Nat) (κ : Nat → Nat) (B : Bst) (i : Nat) : Int := gZ (cA B.1 (tgB W H κ B)) B.1 i B.1
def wZ (W H : Nat) (κ : Nat → Nat) (B : Bst) : Int := gd (cA B.1 (tgB W H κ B)) B.1
def PZ (W H : Nat) (κ : Nat → Nat) (E0 : Nat) (B : Bst) (e : Nat) : Int := pz (ce κ E0 : Nat) (wZ W H κ B) (fun r => ce κ (en W H κ (cs (B.2.1 (r / 2))) (r % 2))) (XZ W H κ B) e (2 * B.1)
theorem x_shine (hX : RoomX W H κ co ro kd) (hd : Dim W H) (hk : Kok W H κ) (hh : cntK κ 3 4 (W * H) ≤ 5) (bq : Int32) (bw : Int64) (bp bn br : Nat → Int32) (bs : Nat → Int64) (bM : Nat → Nat → Int64) {p : Nat} (hp : p < 2 * (W + H)) : ∃ r B, f_X0_shine co ro kd bq bw bp bn br bs bM (nI p) = some r ∧ SpI W H κ (tr W H κ 80 (4 * pcell W H p + pdir W H p)) B.1 B ∧ r.2.1 = lZ (wZ W H κ B) ∧ ∀ e, e < 60 → r.2.2.2.2.2.1 e = lZ (PZ W H κ (tr W H κ 80 (4 * pcell W H p + pdir W H p)) B e) := by
  have hN := hd.le
  obtain ⟨-, -, -, q1, q2⟩ := pt hd hp
  have hS0 : 4 * pcell W H p + pdir W H p < 4 * (W * H) := by omega
  have hE0 : EndOk W H κ (tr W H κ 80 (4 * pcell W H p + pdir W H p)) := tr_end hd hk 80 _ hS0
  have hend := x_endOf hX hd hk hS0
  rw [show (4 * pcell W H p + pdir W H p) / 4 = pcell W H p by omega, show (4 * pcell W H p + pdir W H p) % 4 = pdir W H p by omega] at hend
  obtain ⟨r1, B, hr1, hI, hR, hbr⟩ := x_findSplits hX hd hk hh bq bp bn br hE0
  have hB := hI.1
  have hm := sp_le hh hB
  obtain ⟨M, hM, hMe⟩ := x_setRows hd hk hh hB hR hbr bM
  obtain ⟨r2, hr2, hw, hx⟩ := x_solveRows (cA_MM hd hk hp hI) hm bw hMe
  obtain ⟨r3, hr3, hp3⟩ := x_addParts (c0 := ce κ (tr W H κ 80 (4 * pcell W H p + pdir W H p))) (w := wZ W H κ B) (X := XZ W H κ B) (ec := fun r => ce κ (en W H κ (cs (B.2.1 (r / 2))) (r % 2))) (br := r1.2.2.2) hm (ce_lt hd hE0).1 (fun r hr => by
    have hi := (hB.1 (r / 2) (by omega)).1
    have := hbr (r / 2) (r % 2) (by omega) (by omega)
    rw [show 2 * (r / 2) + r % 2 = r by omega] at this
    exact ⟨(ce_lt hd (en_end hd hk (show cs (B.2.1 (r / 2)) < 4 * (W * H) by rw [cs]; omega))).1, this⟩) hx bs
  have e1 : r1.1 = nI B.1 := hR.1
  rw [← e1] at hr2 hr3
  rw [f_X0_shine, x_pcell hX hd hp, bind_s, x_pdir hX hd hp, bind_s, hend, bind_s, hr1, bind_s, hM, bind_s, hr2, bind_s, hw]
  have hr3' : f_X0_addParts r1.1 (lZ (gd (cA B.1 (tgB W H κ B)) B.1)) r1.2.2.2 bs r2.2 (nI (ce κ (tr W H κ 80 (4 * pcell W H p + pdir W H p)))) = some r3 := hr3
  rw [hr3', bind_s]
  exact ⟨_, B, rfl, hI, rfl, hp3⟩
end SH
