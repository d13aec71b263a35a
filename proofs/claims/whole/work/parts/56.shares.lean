/-! ===== the reference's shares ===== -/
section SR
variable {W H : Nat} {κ : Nat → Nat} {f : Nat → Int32} {aq : Nat → Bool}
/-- a / b is the share of the beam from p that comes to what is asked, in lowest terms, and so says the class -/
def ShOk (W H : Nat) (κ : Nat → Nat) (aq : Nat → Bool) (p a b : Nat) : Prop := 0 < b ∧ b ≤ 1048576 ∧ a ≤ b ∧ Nat.gcd a b = 1 ∧ ∀ B, SpI W H κ (tr W H κ 80 (4 * pcell W H p + pdir W H p)) B.1 B → PA W H κ aq (tr W H κ 80 (4 * pcell W H p + pdir W H p)) B * (b : Rat) = (wZ W H κ B : Rat) * (a : Rat)
theorem m_shares (hM : RoomM W H κ f) (hd : Dim W H) (hk : Kok W H κ) (hh : cntK κ 3 4 (W * H) ≤ 5) {x : Int32} (hA : AskOk W H κ aq x) (hA0 : ∀ E, E < 100 → ¬ aq E = true) {p : Nat} (hp : p < 2 * (W + H)) (mm : Int32) (mu mv : Int64) (md mk my mq : Nat → Int32) (mw : Nat → Int64) : ∃ r, ∃ a b : Nat, f_X6_shares mm mu mv md mk my mq mw f (nI p) x = some r ∧ r.2.1 = lZ (a : Int) ∧ r.2.2.1 = lZ (b : Int) ∧ ShOk W H κ aq p a b := by
  have hN := hd.le
  obtain ⟨-, -, -, q1, q2⟩ := pt hd hp
  have hS0 : 4 * pcell W H p + pdir W H p < 4 * (W * H) := by omega
  have hE0 : EndOk W H κ (tr W H κ 80 (4 * pcell W H p + pdir W H p)) := tr_end hd hk 80 _ hS0
  have hfo := m_follows hM hd hk hS0
  rw [f_X6_shares, m_pst hM hd hp, bind_s, hfo, bind_s, (hA _ hE0).1, bind_s]
  have hX : ∀ B, SpI W H κ (tr W H κ 80 (4 * pcell W H p + pdir W H p)) B.1 B → ∀ t, t < B.1 → sm B.1 (fun j => (cA B.1 (tgB W H κ B) t j : Rat) * (XZ W H κ B j : Rat)) = (wZ W H κ B : Rat) * iv (t = 0) := fun B hB => X_eq hd hk hp hB
  unfold ShOk
  generalize hE : tr W H κ 80 (4 * pcell W H p + pdir W H p) = E0 at *
  have hrc := rc_neg hd hE0
  by_cases g : E0 < 100
  · obtain ⟨c1, c2, c3⟩ := hrc.1 g
    have hEh : E0 < 4 * (W * H) ∧ nw (κ (E0 / 4)) = 2 := by
      rcases hE0 with h | ⟨p, hp, e1⟩ | e1 | e1
      · exact h
      · omega
      · omega
      · omega
    obtain ⟨Q, md', mk', h1, hI, hmd⟩ := m_gathers hM hd hk hh mm md mk hEh.1 hEh.2
    obtain ⟨my', mq', ma, h2, hY, hP, hC, rk, hR⟩ := m_findsMay hd hk hh hA hI hmd my mq
    have hMM := mB_MM hI hR
    have hm := nd_le hh hI.1
    have hcl := cntB_le ma Q.1
    have hwb := gd_c hMM (show cntB ma Q.1 ≤ 20 by omega) (Nat.le_refl _)
    have hUb := UU_b hI hR hI.2.1
    have hdu : ∀ B, SpI W H κ E0 B.1 B → (wR W H κ aq Q ma : Rat) * PA W H κ aq E0 B = (wZ W H κ B : Rat) * (UU W H κ aq Q ma 0 : Rat) := by
      intro B hB
      rw [← dual hk hB hI hR hC hA0 g (hX B hB), PA, iv_f (hA0 E0 g), Rat.zero_mul, Rat.zero_add]
    have hwp : (0 : Rat) < (wR W H κ aq Q ma : Rat) := Rat.intCast_pos.mpr hwb.1
    rw [show bI (aq E0) = 0 from bI_f (hA0 E0 g), if_pos rfl, bind_s, if_pos c1, c3, h1, bind_s, h2, bind_s, tc0]
    dsimp only
    have hy0 := hY 0 hI.2.1
    by_cases hm0 : ma 0 = true
    · rw [if_neg (by rw [hy0, bI_t hm0]; decide)]
      obtain ⟨mq2, mw2, h3, hrow⟩ := m_laysRows (mq := mq') hd hk hh hA hI hmd hY mw
      have hn0 : 0 < cntB ma Q.1 := by
        have := pl_lt hI.2.1 hm0
        omega
      have hp0 : pl ma Q.1 0 = cntB ma Q.1 - 1 := by
        have e := cntB_s ma 0
        rw [if_pos hm0] at e
        have e0 : cntB ma 0 = 0 := rfl
        rw [pl]
        omega
      obtain ⟨r4, h4, e4, e5⟩ := m_solves hMM (by omega) hn0 0 1 (mw := mw2) (fun a j ha hj => by
        obtain ⟨n1, n2, n3⟩ := ndr_e (Q := Q) ha
        have := hrow _ j n1 n2 hj
        rw [n3] at this
        exact this)
      have eU : UU W H κ aq Q ma 0 = gZ (mB W H κ aq Q ma) (cntB ma Q.1) (cntB ma Q.1 - 1) (cntB ma Q.1) := by rw [UU, if_pos hm0, hp0]
      rw [← eU] at e4
      have eW : wR W H κ aq Q ma = gd (mB W H κ aq Q ma) (cntB ma Q.1) := rfl
      rw [← eW] at e5 hwb
      obtain ⟨a0, ha0⟩ : ∃ a0 : Nat, UU W H κ aq Q ma 0 = (a0 : Int) := ⟨(UU W H κ aq Q ma 0).toNat, by omega⟩
      obtain ⟨b0, hb0⟩ : ∃ b0 : Nat, wR W H κ aq Q ma = (b0 : Int) := ⟨(wR W H κ aq Q ma).toNat, by omega⟩
      rw [ha0] at e4 hUb hdu
      rw [hb0] at e5 hUb hwb hdu hwp
      obtain ⟨gg, hg0, ea, eb, hcop⟩ := low_cop (a0 := a0) (b0 := b0) (by omega)
      have h5 := m_lowers (a := a0) (b := b0) (by omega) (by omega) (by omega)
      rw [h3, bind_s, h4, bind_s, e4, e5, h5, bind_s]
      generalize a0 / Nat.gcd a0 b0 = a at *
      generalize b0 / Nat.gcd a0 b0 = b at *
      have hbp : 0 < b := by
        rcases Nat.eq_zero_or_pos b with q | q
        · rw [q, Nat.zero_mul] at eb; omega
        · exact q
      refine ⟨_, a, b, rfl, rfl, rfl, hbp, ?_, ?_, hcop, fun B hB => ?_⟩
      · have : b * 1 ≤ b * gg := Nat.mul_le_mul_left b hg0
        omega
      · have : a * gg ≤ b * gg := by rw [← ea, ← eb]; omega
        exact Nat.le_of_mul_le_mul_right this hg0
      · have h6 := hdu B hB
        have ea' : ((a0 : Int) : Rat) = (a : Rat) * (gg : Rat) := by rw [← Rat.natCast_mul, ← ea]; rfl
        have eb' : ((b0 : Int) : Rat) = (b : Rat) * (gg : Rat) := by rw [← Rat.natCast_mul, ← eb]; rfl
        rw [ea', eb'] at h6
        have hgn : (gg : Rat) ≠ 0 := fun q => by
          have : (gg : Rat) = ((0 : Nat) : Rat) := q
          have := Rat.natCast_inj.mp this
          omega
        generalize PA W H κ aq E0 B = P at *
        grind
    · have hz : UU W H κ aq Q ma 0 = 0 := by rw [UU, if_neg hm0]
      rw [if_pos (by rw [hy0, bI_f hm0])]
      refine ⟨_, 0, 1, rfl, rfl, rfl, by decide, by decide, by decide, by decide, fun B hB => ?_⟩
      have h6 := hdu B hB
      rw [hz] at h6
      have hne := ne_of_pos hwp
      have h7 : (wR W H κ aq Q ma : Rat) * PA W H κ aq E0 B = 0 := by rw [h6]; exact Rat.mul_zero _
      have h8 : PA W H κ aq E0 B = 0 := (Rat.mul_eq_zero.mp h7).resolve_left hne
      rw [h8]
      show (0 : Rat) * _ = _ * 0
      grind
  · obtain ⟨c1, c2⟩ := hrc.2 g
    have hP : ∀ B, SpI W H κ E0 B.1 B → PA W H κ aq E0 B = iv (aq E0 = true) ∧ (wZ W H κ B : Rat) = 1 := by
      intro B hB
      have e := hB.2.2.2.2 g
      have ew : wZ W H κ B = 1 := by rw [wZ, e]; rfl
      rw [PA, ew, e]
      refine ⟨?_, rfl⟩
      show iv (aq E0 = true) * (1 : Rat) + 0 = _
      grind
    by_cases ha : aq E0 = true
    · rw [bI_t ha, if_neg (by decide), bind_s, if_neg c1]
      refine ⟨_, 1, 1, rfl, rfl, rfl, by decide, by decide, by decide, by decide, fun B hB => ?_⟩
      rw [(hP B hB).1, (hP B hB).2, iv_t ha]
    · rw [bI_f ha, if_pos rfl, bind_s, if_neg c1]
      refine ⟨_, 0, 1, rfl, rfl, rfl, by decide, by decide, by decide, by decide, fun B hB => ?_⟩
      rw [(hP B hB).1, (hP B hB).2, iv_f ha]
      show (0 : Rat) * 1 = 1 * 0
      grind
theorem to_nat {P w : Int} {a b : Nat} (h : (P : Rat) * (b : Rat) = (w : Rat) * (a : Rat)) (hb : 0 < b) (hw : 0 < w) (hab : a ≤ b) : ∃ P' w' : Nat, P = (P' : Int) ∧ w = (w' : Int) ∧ P' * b = w' * a ∧ P' ≤ w' ∧ 0 < w' := by
  have h1 : P * (b : Int) = w * (a : Int) := by
    refine Rat.intCast_inj.mp ?_
    rw [Rat.intCast_mul, Rat.intCast_mul]
    exact h
  obtain ⟨w', rfl⟩ : ∃ w' : Nat, w = (w' : Int) := ⟨w.toNat, by omega⟩
  have hP : 0 ≤ P := by
    refine Classical.byContradiction fun q => ?_
    have h2 : P * (b : Int) < 0 := Int.mul_neg_of_neg_of_pos (by omega) (by omega)
    have h3 : 0 ≤ (w' : Int) * (a : Int) := Int.mul_nonneg (by omega) (by omega)
    omega
  obtain ⟨P', rfl⟩ : ∃ P' : Nat, P = (P' : Int) := ⟨P.toNat, by omega⟩
  have h4 : P' * b = w' * a := by
    rw [← Int.natCast_mul, ← Int.natCast_mul] at h1
    exact Int.ofNat_inj.mp h1
  refine ⟨P', w', rfl, rfl, h4, ?_, by omega⟩
  refine Nat.le_of_mul_le_mul_right ?_ hb
  rw [h4]
  exact Nat.mul_le_mul_left w' hab
/-- the reference's share out of the class's parts -/
theorem sh_ref (hM : RoomM W H κ f) (hd : Dim W H) (hk : Kok W H κ) (hh : cntK κ 3 4 (W * H) ≤ 5) {x : Int32} (hA : AskOk W H κ aq x) (hA0 : ∀ E, E < 100 → ¬ aq E = true) {p : Nat} (hp : p < 2 * (W + H)) {B : Bst} (hB : SpI W H κ (tr W H κ 80 (4 * pcell W H p + pdir W H p)) B.1 B) {P : Int} (hP : (P : Rat) = PA W H κ aq (tr W H κ 80 (4 * pcell W H p + pdir W H p)) B) : ∃ P' w' : Nat, P = (P' : Int) ∧ wZ W H κ B = (w' : Int) ∧ P' ≤ w' ∧ 0 < w' ∧ w' ≤ 1048576 ∧ ∀ (mm : Int32) (mu mv : Int64) (md mk my mq : Nat → Int32) (mw : Nat → Int64), ∃ r, f_X6_shares mm mu mv md mk my mq mw f (nI p) x = some r ∧ r.2.1 = lZ ((P' / Nat.gcd P' w' : Nat) : Int) ∧ r.2.2.1 = lZ ((w' / Nat.gcd P' w' : Nat) : Int) := by
  have hwb := w_b hd hk hh hp hB
  obtain ⟨-, a, b, -, -, -, s1, s2, s3, s4, s5⟩ := m_shares hM hd hk hh hA hA0 hp 0 0 0 (fun _ => 0) (fun _ => 0) (fun _ => 0) (fun _ => 0) (fun _ => 0)
  have h5 := s5 B hB
  rw [← hP] at h5
  obtain ⟨P', w', rfl, ew, e3, e4, e5⟩ := to_nat h5 s1 hwb.1 s3
  refine ⟨P', w', rfl, ew, e4, e5, by omega, fun mm mu mv md mk my mq mw => ?_⟩
  obtain ⟨r, a, b, r1, r2, r3, s1, s2, s3, s4, s5⟩ := m_shares hM hd hk hh hA hA0 hp mm mu mv md mk my mq mw
  have h5 := s5 B hB
  rw [← hP] at h5
  obtain ⟨P2, w2, q1, q2, q3, q4, q5⟩ := to_nat h5 s1 hwb.1 s3
  have x1 : P' = P2 := by omega
  have x2 : w' = w2 := by omega
  subst x1 x2
  obtain ⟨z1, z2⟩ := low_eq q3 s4 s1 q5
  exact ⟨r, r1, by rw [r2, z1], by rw [r3, z2]⟩
end SR
