/-! ===== rooms with other doors, and their shares ===== -/
section SU
variable {W H : Nat} {κ κ' : Nat → Nat} {co ro : Int32} {kd f : Nat → Int32}
theorem rx_cong (h : RoomX W H κ co ro kd) (e : ∀ c, c < W * H → κ c = κ' c) : RoomX W H κ' co ro kd := ⟨h.1, h.2.1, fun c hc => by rw [← e c hc]; exact h.2.2 c hc⟩
theorem rm_cong (h : RoomM W H κ f) (e : ∀ c, c < W * H → κ c = κ' c) : RoomM W H κ' f := ⟨h.1, h.2.1, fun c hc => by rw [← e c hc]; exact h.2.2 c hc⟩
theorem rm_cpy (h : RoomM W H κ f) (hd : Dim W H) {g : Nat → Int32} (e : ∀ j, j < 22 → g j = f j) : RoomM W H κ g := by
  have hN := hd.le
  exact ⟨by rw [e 0 (by decide)]; exact h.1, by rw [e 1 (by decide)]; exact h.2.1, fun c hc => by rw [e _ (by omega)]; exact h.2.2 c hc⟩
theorem m_cpy (h : RoomM W H κ f) (hd : Dim W H) (ma : Nat → Int32) : ∃ g, f_X6_copies 22 22 f ma 0 0 = some g ∧ RoomM W H κ g := by
  obtain ⟨g, h1, h2⟩ := m_copies (na0 := 22) (na2 := 22) (fa0 := f) (fa2 := ma) (i := 0) (j := 0) (by decide) (by decide) (by decide) (by decide)
  refine ⟨g, h1, rm_cpy h hd (fun j hj => ?_)⟩
  rw [h2 j, if_pos (by omega), show 0 + (j - 0) = j by omega]
theorem sh_ex (hd : Dim W H) (hk : Kok W H κ) (hh : cntK κ 3 4 (W * H) ≤ 5) {p q : Nat} (hp : p < 2 * (W + H)) (hq : q < 2 * (W + H)) : ∃ ab : Nat × Nat, ShOk W H κ (aqP q) p ab.1 ab.2 := by
  have hM : RoomM W H κ (fun i => if i = 0 then nI W else if i = 1 then nI H else nI (κ (i - 2))) := by
    refine ⟨if_pos rfl, ?_, fun c hc => ?_⟩
    · dsimp only
      rw [if_neg (by decide), if_pos rfl]
    · dsimp only
      rw [if_neg (by omega), if_neg (by omega), show 2 + c - 2 = c by omega]
  obtain ⟨r, a, b, -, -, -, h⟩ := m_shares hM hd hk hh (ask_P hd hq) (aqP_n q) hp 0 0 0 (fun _ => 0) (fun _ => 0) (fun _ => 0) (fun _ => 0) (fun _ => 0)
  exact ⟨(a, b), h⟩
theorem sh_P (hd : Dim W H) (hk : Kok W H κ) (hh : cntK κ 3 4 (W * H) ≤ 5) {p q a b : Nat} (hp : p < 2 * (W + H)) (hq : q < 2 * (W + H)) (h : ShOk W H κ (aqP q) p a b) {B : Bst} (hB : SpI W H κ (tr W H κ 80 (4 * pcell W H p + pdir W H p)) B.1 B) : ∃ P w : Nat, PZ W H κ (tr W H κ 80 (4 * pcell W H p + pdir W H p)) B (40 + q) = (P : Int) ∧ wZ W H κ B = (w : Int) ∧ P * b = w * a ∧ P ≤ w ∧ 0 < w ∧ w ≤ 1048576 := by
  have hdd := hd
  obtain ⟨d1, d2, d3, d4⟩ := hdd
  have hwb := w_b hd hk hh hp hB
  have hP := PA_1 (aq := aqP q) (e := 40 + q) hd hk hB.1 (E0_ok hd hk hp) (fun E hE => by rw [aqP, decide_eq_true_eq]; exact ((ce_fin hd hE).1 q (by omega)).symm)
  obtain ⟨s1, s2, s3, s4, s5⟩ := h
  have e1 := s5 B hB
  rw [← hP] at e1
  obtain ⟨P, w, a1, a2, a3, a4, a5⟩ := to_nat e1 s1 hwb.1 s3
  exact ⟨P, w, a1, a2, a3, a4, a5, by omega⟩
theorem sh_uniq (hd : Dim W H) (hk : Kok W H κ) (hh : cntK κ 3 4 (W * H) ≤ 5) {p q a b a' b' : Nat} (hp : p < 2 * (W + H)) (hq : q < 2 * (W + H)) (h : ShOk W H κ (aqP q) p a b) (h' : ShOk W H κ (aqP q) p a' b') : a = a' ∧ b = b' := by
  obtain ⟨r, B, -, hB, -, -⟩ := x_shine (co := nI W) (ro := nI H) (kd := fun c => nI (κ c)) ⟨rfl, rfl, fun _ _ => rfl⟩ hd hk hh 0 0 (fun _ => 0) (fun _ => 0) (fun _ => 0) (fun _ => 0) (fun _ _ => 0) hp
  obtain ⟨P, w, a1, a2, a3, a4, a5, -⟩ := sh_P hd hk hh hp hq h hB
  obtain ⟨P2, w2, c1, c2, c3, c4, c5, -⟩ := sh_P hd hk hh hp hq h' hB
  have x1 : P = P2 := by omega
  have x2 : w = w2 := by omega
  subst x1 x2
  obtain ⟨z1, z2⟩ := low_eq a3 h.2.2.2.1 h.1 a5
  obtain ⟨z3, z4⟩ := low_eq c3 h'.2.2.2.1 h'.1 a5
  exact ⟨by omega, by omega⟩
theorem m_sh (hM : RoomM W H κ f) (hd : Dim W H) (hk : Kok W H κ) (hh : cntK κ 3 4 (W * H) ≤ 5) {p q a b : Nat} (hp : p < 2 * (W + H)) (hq : q < 2 * (W + H)) (h : ShOk W H κ (aqP q) p a b) (mm : Int32) (mu mv : Int64) (md mk my mq : Nat → Int32) (mw : Nat → Int64) : ∃ r, f_X6_shares mm mu mv md mk my mq mw f (nI p) (nI q) = some r ∧ r.2.1 = lZ (a : Int) ∧ r.2.2.1 = lZ (b : Int) := by
  obtain ⟨r, a', b', h1, h2, h3, h4⟩ := m_shares hM hd hk hh (ask_P hd hq) (aqP_n q) hp mm mu mv md mk my mq mw
  obtain ⟨rfl, rfl⟩ := sh_uniq hd hk hh hp hq h h4
  exact ⟨r, h1, h2, h3⟩
theorem x_sh (hX : RoomX W H κ co ro kd) (hd : Dim W H) (hk : Kok W H κ) (hh : cntK κ 3 4 (W * H) ≤ 5) {p q a b : Nat} (hp : p < 2 * (W + H)) (hq : q < 2 * (W + H)) (h : ShOk W H κ (aqP q) p a b) (bq : Int32) (bw : Int64) (bp bn br : Nat → Int32) (bs : Nat → Int64) (bM : Nat → Nat → Int64) : ∃ r, ∃ P w : Nat, f_X0_shine co ro kd bq bw bp bn br bs bM (nI p) = some r ∧ f_X0_outAt r.2.2.2.2.2.1 (nI q) = some (lZ (P : Int)) ∧ r.2.1 = lZ (w : Int) ∧ P * b = w * a ∧ P ≤ w ∧ 0 < w ∧ w ≤ 1048576 := by
  have hdd := hd
  obtain ⟨d1, d2, d3, d4⟩ := hdd
  obtain ⟨r, B, h1, h2, h3, h4⟩ := x_shine hX hd hk hh bq bw bp bn br bs bM hp
  obtain ⟨P, w, a1, a2, a3, a4, a5, a6⟩ := sh_P hd hk hh hp hq h h2
  refine ⟨r, P, w, h1, ?_, by rw [h3, a2], a3, a4, a5, a6⟩
  rw [f_X0_outAt, if_neg (n_neg (by omega)), show (18 : Int32) = nI 18 from rfl, if_neg (by rw [n_le (by omega) (by omega)]; omega), show (40 : Int32) = nI 40 from rfl, nI_add, chk_t (aix_n (by omega) (by decide)), nI_c _ (by omega), h4 _ (by omega), a1]
end SU
abbrev BitP (s d : Nat) : Prop := (nI s >>> (nI d &&& 31)) &&& (1 : Int32) = nI (s / 2 ^ d % 2)
theorem bit_fin {s d : Nat} (hs : s < 16) (hd : d < 4) : BitP s d := all2 (A := 16) (B := 4) (P := BitP) (by decide +kernel) hs hd
def pcn (s : Nat) : Nat := s % 2 + s / 2 % 2 + s / 4 % 2 + s / 8 % 2
abbrev PcP (s _z : Nat) : Prop := f_J6_bitCount_0f7a4 (nI s) = some (nI (pcn s)) ∧ f_X6_ones (nI s) = some (nI (pcn s)) ∧ pcn s ≤ 4
theorem pc_fin {s : Nat} (hs : s < 16) : PcP s 0 := all2 (A := 16) (B := 1) (P := PcP) (by decide +kernel) hs (by decide)
abbrev ShP (n _z : Nat) : Prop := (1 : Int32) <<< (nI n &&& 31) = nI (2 ^ n) ∧ 2 ^ n ≤ 16
theorem sh_fin {n : Nat} (h : n < 5) : ShP n 0 := all2 (A := 5) (B := 1) (P := ShP) (by decide +kernel) h (by decide)
-- the room with its first d doors as the set s says
def ko (κ : Nat → Nat) (s d c : Nat) : Nat := if 6 ≤ κ c ∧ cntK κ 6 7 c < d then 7 - s / 2 ^ (cntK κ 6 7 c) % 2 else κ c
section KO
variable {W H : Nat} {κ : Nat → Nat} {co ro : Int32} {kd f : Nat → Int32}
theorem ko_same {s d d' c : Nat} (h : 6 ≤ κ c → (cntK κ 6 7 c < d ↔ cntK κ 6 7 c < d')) : ko κ s d c = ko κ s d' c := by
  rw [ko, ko]
  refine ite_iff ?_
  constructor
  · exact fun q => ⟨q.1, (h q.1).mp q.2⟩
  · exact fun q => ⟨q.1, (h q.1).mpr q.2⟩
theorem ko_step (hk : Kok W H κ) {s d c : Nat} (hc : c < W * H) (hk6 : 6 ≤ κ c ∧ κ c ≤ 7) (e : cntK κ 6 7 c = d) : ∀ a, a < W * H → updN (ko κ s d) c (7 - s / 2 ^ d % 2) a = ko κ s (d + 1) a := by
  intro a ha
  by_cases g : a = c
  · subst g
    rw [updN_s, ko, if_pos ⟨hk6.1, by omega⟩, e]
  · rw [updN_n g]
    refine ko_same (fun h6 => ?_)
    have : cntK κ 6 7 a ≠ d := fun q => g (cntK_one (a := 6) (b := 7) ⟨h6, hk a ha⟩ hk6 (by omega))
    omega
theorem ko_0 (s : Nat) : ko κ s 0 = κ := by
  funext c
  rw [ko, if_neg (by omega)]
theorem ko_kok (hk : Kok W H κ) (s d : Nat) : Kok W H (ko κ s d) := by
  intro c hc
  have := hk c hc
  rw [ko]
  split <;> omega
theorem ko_half (hk : Kok W H κ) (s d : Nat) : ∀ n, n ≤ W * H → cntK (ko κ s d) 3 4 n = cntK κ 3 4 n := by
  intro n
  induction n with
  | zero => intro _; rfl
  | succ n ih =>
    intro hn
    rw [cntK, cntK, ih (by omega)]
    congr 1
    refine ite_iff ?_
    have := hk n (by omega)
    rw [ko]
    split <;> omega
theorem x_open (hX : RoomX W H κ co ro kd) (hd : Dim W H) (hk : Kok W H κ) {s : Nat} (hs : s < 16) (coT roT : Int32) (kdT : Nat → Int32) : ∃ g, f_X5_openOnly co ro kd coT roT kdT (nI s) = some (co, ro, g) ∧ RoomX W H (ko κ s 4) co ro g := by
  have hN := hd.le
  have key : ∃ g, lpf (fun t : Int32 × (Nat → Int32) => f_X5_openOnly_13 co ro kd co ro (nI s) t.1 t.2) 1000 ((0 : Int32), va_cpy kd kdT 0 0 20) = some g ∧ RoomX W H (ko κ s 4) co ro g := by
    refine lpf_run (σ := Int32 × (Nat → Int32)) (τ := Nat → Int32) (fun t => ∃ d : Nat, d ≤ 4 ∧ t.1 = nI d ∧ RoomX W H (ko κ s d) co ro t.2) _ (fun t => 999 - t.1.toNatClampNeg) ?_ 1000 _ ⟨0, by omega, rfl, by rw [ko_0]; exact x_become hX hd kdT⟩ (by dsimp only; omega)
    rintro ⟨x, g⟩ ⟨d, hd4, rfl, hg⟩
    dsimp only at hg ⊢
    by_cases h : 4 ≤ d
    · have e : d = 4 := by omega
      subst e
      exact Or.inr ⟨g, by rw [f_X5_openOnly_13, if_pos (by decide)], hg⟩
    · have meas : 999 - (nI (d + 1)).toNatClampNeg < 999 - (nI d).toNatClampNeg := by
        rw [nI_c _ (by omega), nI_c _ (by omega)]
        omega
      have hn : ¬ (4 : Int32) ≤ nI d := by rw [show (4 : Int32) = nI 4 from rfl, n_le (by omega) (by omega)]; exact h
      have hbit : (if ((nI s >>> (nI d &&& 31)) &&& (1 : Int32)) = (1 : Int32) then some (6 : Int32) else some (7 : Int32)) = some (nI (7 - s / 2 ^ d % 2)) := by
        rw [bit_fin hs (show d < 4 by omega)]
        rcases Nat.mod_two_eq_zero_or_one (s / 2 ^ d) with q | q
        · rw [q]; rfl
        · rw [q]; rfl
      refine Or.inl ?_
      rcases x_doorCell hX hd hk (nI d) with ⟨c, hc, hk6, hx, hdc⟩ | ⟨hno, hdc⟩
      · have hcn := cntK_le κ 6 7 c
        have ed : cntK κ 6 7 c = d := ((n_eq (by omega) (by omega)).mp hx).symm
        refine ⟨(nI (d + 1), upd g c (nI (7 - s / 2 ^ d % 2))), ?_, ⟨d + 1, by omega, rfl, rx_cong (x_upd hg) (ko_step hk hc hk6 ed)⟩, meas⟩
        rw [f_X5_openOnly_13, if_neg hn, hdc, bind_s, hbit, bind_s, x_tellIn hg hd hc, bind_s, nI_1]
      · refine ⟨(nI (d + 1), g), ?_, ⟨d + 1, by omega, rfl, rx_cong hg (fun c hc => ko_same (fun h6 => ?_))⟩, meas⟩
        · rw [f_X5_openOnly_13, if_neg hn, hdc, bind_s, hbit, bind_s, f_X2_tell, if_pos (by decide), bind_s, nI_1]
        · have : cntK κ 6 7 c ≠ d := fun q => hno c hc h6 (by rw [q])
          omega
  obtain ⟨g, h1, h2⟩ := key
  refine ⟨g, ?_, h2⟩
  rw [f_X5_openOnly, f_X2_become, bind_s, tc0, tc20, h1, bind_s]
theorem m_open (hM : RoomM W H κ f) (hd : Dim W H) (hk : Kok W H κ) (h4 : cntK κ 6 7 (W * H) ≤ 4) {s : Nat} (hs : s < 16) {g : Nat → Int32} (hg : RoomM W H κ g) (mm : Int32) (mu mv : Int64) (md mk my mq : Nat → Int32) (mw : Nat → Int64) (y1 y2 y3 y4 : Int32) (y5 y7 : Int64) : ∃ g', lpf (fun t : Int32 × (Nat → Int32) => f_X6_best_75 mm mu mv f md mk my mq mw y1 y2 y3 y4 y5 y7 (nI (cntK κ 6 7 (W * H))) (nI s) t.1 t.2) 1000 ((0 : Int32), g) = some g' ∧ RoomM W H (ko κ s 4) g' := by
  have hN := hd.le
  refine lpf_run (σ := Int32 × (Nat → Int32)) (τ := Nat → Int32) (fun t => ∃ d : Nat, d ≤ cntK κ 6 7 (W * H) ∧ t.1 = nI d ∧ RoomM W H (ko κ s d) t.2) _ (fun t => 999 - t.1.toNatClampNeg) ?_ 1000 _ ⟨0, by omega, rfl, by rw [ko_0]; exact hg⟩ (by dsimp only; omega)
  rintro ⟨x, g⟩ ⟨d, hdn, rfl, hg⟩
  dsimp only at hg ⊢
  by_cases h : cntK κ 6 7 (W * H) ≤ d
  · have e : d = cntK κ 6 7 (W * H) := by omega
    refine Or.inr ⟨g, by rw [f_X6_best_75, if_pos ((n_le (by omega) (by omega)).mpr h)], rm_cong hg (fun c hc => ko_same (fun h6 => ?_))⟩
    have := cntK_at κ 6 7 hc ⟨h6, hk c hc⟩
    omega
  · obtain ⟨c, hc, hk6, hcd⟩ := kth κ 6 7 (W * H) d (by omega)
    have hdc := m_doorCell hM hd hk hc hk6
    rw [hcd] at hdc
    have hval : (7 : Int32) - ((nI s >>> (nI d &&& 31)) &&& (1 : Int32)) = nI (7 - s / 2 ^ d % 2) := by
      rw [bit_fin hs (show d < 4 by omega), show (7 : Int32) = nI 7 from rfl, pk_sub (by omega)]
    refine Or.inl ⟨(nI (d + 1), upd g (2 + c) (nI (7 - s / 2 ^ d % 2))), ?_, ⟨d + 1, by omega, rfl, rm_cong (m_upd hg) (ko_step hk hc hk6 hcd)⟩, ?_⟩
    · rw [f_X6_best_75, if_neg (by rw [n_le (by omega) (by omega)]; exact h), hdc, bind_s, chk_t (by rw [show (2 : Int32) = nI 2 from rfl, nI_add]; exact aix_n (by omega) (by decide)), m_ix (by omega), hval, nI_1]
    · show 999 - (nI (d + 1)).toNatClampNeg < 999 - (nI d).toNatClampNeg
      rw [nI_c _ (by omega), nI_c _ (by omega)]
      omega
end KO
