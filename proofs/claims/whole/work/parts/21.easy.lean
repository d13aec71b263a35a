/-! ===== the invariant; the calls that only look at room and text ===== -/
def tk (k : Nat) : Nat := if k = 1 then 2 else if k = 2 then 1 else if k = 3 then 4 else if k = 4 then 3 else k
abbrev Rm : Type := Nat × Nat × (Nat → Nat)
/-- R2 is R1 turned a quarter to the right -/
def Turned (R1 R2 : Rm) : Prop := R2.1 = R1.2.1 ∧ R2.2.1 = R1.1 ∧ ∀ x y, x < R1.1 → y < R1.2.1 → R2.2.2 (x * R1.2.1 + (R1.2.1 - 1 - y)) = tk (R1.2.2 (y * R1.1 + x))
/-- R2 is R1 with another kind in cell c -/
def Told1 (R1 R2 : Rm) (c : Nat) : Prop := R2.1 = R1.1 ∧ R2.2.1 = R1.2.1 ∧ c < R1.1 * R1.2.1 ∧ ∀ a, a < R1.1 * R1.2.1 → a ≠ c → R2.2.2 a = R1.2.2 a
def Good (R : Rm) : Prop := Dim R.1 R.2.1 ∧ Kok R.1 R.2.1 R.2.2 ∧ cntK R.2.2 3 4 (R.1 * R.2.1) ≤ 5 ∧ cntK R.2.2 6 7 (R.1 * R.2.1) ≤ 4
/-- the change by which R1 became R2, as the class keeps it -/
def Chg (R1 R2 : Rm) (g : Int32) : Prop := (g = -1 ∧ Turned R1 R2) ∨ ∃ c, g = nI (c * 8 + R1.2.2 c) ∧ Told1 R1 R2 c
/-- the last z rooms, the newest last: R is the room now -/
def Past (mp : Nat → Int32) (pg : Nat → Int32) (z : Nat) (R : Rm) (h : Nat → Rm) : Prop := h z = R ∧ ∀ i, i < z → Good (h i) ∧ RoomM (h i).1 (h i).2.1 (h i).2.2 (fun j => mp (22 * i + j)) ∧ Chg (h i) (h (i + 1)) (pg i)
def TextP (tn : Int32) (tl : Nat → Int32) (ml : Int32) (mt : Nat → Int32) : Prop := ∃ n : Nat, n ≤ 60 ∧ tn = nI n ∧ ml = nI n ∧ ∀ i, i < n → tl i = mt i ∧ ∃ a : Nat, 32 ≤ a ∧ a ≤ 126 ∧ mt i = nI a
def InvP : InvT := fun coR roR kdR tn tl pz pg mn mp mc ml mt => ∃ (R : Rm) (z : Nat) (h : Nat → Rm), Good R ∧ RoomX R.1 R.2.1 R.2.2 coR roR kdR ∧ RoomM R.1 R.2.1 R.2.2 mn ∧ z ≤ 4 ∧ pz = nI z ∧ mc = nI z ∧ Past mp pg z R h ∧ TextP tn tl ml mt
theorem op_write : Op_write InvP := by
  intro coR roR kdR tn tl pz pg mn mp mc ml mt x1 hI
  obtain ⟨R, z, h, hR, hX, hM, hz, hpz, hmc, hp, n, hn, htn, hml, ht⟩ := hI
  subst htn hml
  have keep : ∀ {a b}, InvP coR roR kdR a b pz pg mn mp mc a b ↔ InvP coR roR kdR a b pz pg mn mp mc a b := Iff.rfl
  rw [f_X5_write, f_X6_write, m_in, bind_s]
  by_cases h1 : x1 < 32
  · rw [if_pos h1, if_pos h1, if_pos rfl]
    exact ⟨_, _, rfl, rfl, rfl, R, z, h, hR, hX, hM, hz, hpz, hmc, hp, n, hn, rfl, rfl, ht⟩
  · rw [if_neg h1, if_neg h1]
    by_cases h2 : 126 < x1
    · rw [if_neg (Int32.not_le.mpr h2), if_pos h2, if_pos rfl]
      exact ⟨_, _, rfl, rfl, rfl, R, z, h, hR, hX, hM, hz, hpz, hmc, hp, n, hn, rfl, rfl, ht⟩
    · rw [if_pos (Int32.not_lt.mp h2), if_neg h2, if_neg (by decide), f_X3_append, show (60 : Int32) = nI 60 from rfl]
      by_cases h3 : n = 60
      · rw [if_neg (by rw [n_lt (by omega) (by omega)]; omega), if_pos (by rw [h3]), bind_s]
        exact ⟨_, _, rfl, rfl, rfl, R, z, h, hR, hX, hM, hz, hpz, hmc, hp, n, hn, rfl, rfl, ht⟩
      · have hlt : n < 60 := by omega
        rw [if_pos ((n_lt (by omega) (by omega)).mpr hlt), chk_t (aix_n hlt (by decide)), bind_s, if_neg (by rw [n_eq (by omega) (by omega)]; omega), chk_t (aix_n hlt (by decide)), nI_c n (by omega)]
        obtain ⟨a, ha, hxa⟩ : ∃ a : Nat, a ≤ 126 ∧ x1 = nI a := nI_of2 (M := 126) (n := 126) (by decide) (fun q => h1 (Int32.lt_trans q (by decide))) (Int32.not_lt.mp h2)
        have ha2 : 32 ≤ a := by
          rw [hxa, show (32 : Int32) = nI 32 from rfl, n_lt (by omega) (by omega)] at h1
          omega
        refine ⟨_, _, rfl, rfl, rfl, R, z, h, hR, hX, hM, hz, hpz, hmc, hp, n + 1, by omega, nI_1 n, nI_1 n, fun i hi => ?_⟩
        show upd tl n x1 i = upd mt n x1 i ∧ ∃ a : Nat, 32 ≤ a ∧ a ≤ 126 ∧ upd mt n x1 i = nI a
        by_cases hin : i = n
        · subst hin
          exact ⟨by rw [pk_us, pk_us], a, ha2, ha, by rw [pk_us]; exact hxa⟩
        · rw [pk_un hin, pk_un hin]
          exact ht i (by omega)
theorem op_wipe : Op_wipe InvP := by
  intro coR roR kdR tn tl pz pg mn mp mc ml mt hI
  obtain ⟨R, z, h, hR, hX, hM, hz, hpz, hmc, hp, n, hn, htn, hml, ht⟩ := hI
  rw [f_X5_wipe, f_X6_wipe, f_X3_clear, bind_s]
  exact ⟨_, _, rfl, rfl, by rw [htn, hml], R, z, h, hR, hX, hM, hz, hpz, hmc, hp, 0, by omega, rfl, rfl, fun i hi => absurd hi (Nat.not_lt_zero i)⟩
/-! cells -/
theorem m_isCellIn {W H : Nat} {κ : Nat → Nat} {f : Nat → Int32} (h : RoomM W H κ f) (hd : Dim W H) {j : Nat} (hj : j < W * H) : f_X6_isCell f (nI j) = some 1 := by
  have hN := hd.le
  rw [f_X6_isCell, m_cells h, bind_s, show (1 : Int32) = nI 1 from rfl, pk_sub (by omega), show (0 : Int32) = nI 0 from rfl, m_inN (by omega) (by omega) (by omega), bind_s, if_pos (by omega)]
  rfl
theorem m_isCellOut {W H : Nat} {κ : Nat → Nat} {f : Nat → Int32} (h : RoomM W H κ f) (hd : Dim W H) {x : Int32} (hx : x < 0 ∨ nI (W * H) ≤ x) : f_X6_isCell f x = some 0 := by
  have hN := hd.le
  have hG := hd.ge
  have h2 := hd.1
  rw [f_X6_isCell, m_cells h, bind_s, m_in, show (1 : Int32) = nI 1 from rfl, pk_sub (by omega)]
  by_cases h1 : x < 0
  · rw [if_pos h1]
    rfl
  · obtain ⟨j, hj, rfl⟩ := nI_of h1
    have h3 := (nI_leI (by omega) hj).mp (hx.resolve_left h1)
    rw [if_neg h1, if_pos (nI_lt (by omega) hj)]
    rfl
theorem op_cell : Op_cell InvP := by
  intro coR roR kdR tn tl pz pg mn mp mc ml mt x1 hI
  have hI0 := hI
  obtain ⟨R, z, h, hR, hX, hM, -⟩ := hI
  have hd := hR.1
  have hN := hd.le
  rw [f_X5_cell, f_X6_cell]
  rcases pk_ix x1 (n := R.1 * R.2.1) (by omega) with h1 | h1 | ⟨j, hj, rfl⟩
  · rw [x_kindOut hX (Or.inl h1), m_isCellOut hM hd (Or.inl h1)]
    exact ⟨_, _, rfl, rfl, rfl, hI0⟩
  · rw [x_kindOut hX (Or.inr h1), m_isCellOut hM hd (Or.inr h1)]
    exact ⟨_, _, rfl, rfl, rfl, hI0⟩
  · simp only [x_kindIn hX hd hj, m_isCellIn hM hd hj, Option.bind_some, i10, ↓reduceIte, chk_t (m_at hM hd hj).1, (m_at hM hd hj).2]
    exact ⟨_, _, rfl, rfl, rfl, hI0⟩
/-! ports -/
def pdir (W H p : Nat) : Nat := if p < W then 2 else if p < W + H then 3 else if p < 2 * W + H then 0 else 1
def pcell (W H p : Nat) : Nat := if p < W then p else if p < W + H then (p - W) * W + (W - 1) else if p < 2 * W + H then (H - 1) * W + (p - W - H) else (p - 2 * W - H) * W
abbrev PortP (W H p : Nat) : Prop := 2 ≤ W → 1 ≤ H → p < 2 * (W + H) → (f_X2_portCell (nI W) (nI H) (nI p) = some (nI (pcell W H p)) ∧ f_X2_portDirection (nI W) (nI H) (nI p) = some (nI (pdir W H p)) ∧ f_X6_portState (fun k => if k = 0 then nI W else nI H) (nI p) = some (nI (4 * pcell W H p + pdir W H p)) ∧ pcell W H p < W * H ∧ pdir W H p < 4)
theorem port_fin {W H p : Nat} (h1 : W < 6) (h2 : H < 5) (h3 : p < 18) : PortP W H p := all3 (A := 6) (B := 5) (C := 18) (P := PortP) (by decide +kernel) h1 h2 h3
theorem m_pstF (f : Nat → Int32) (x : Int32) : f_X6_portState f x = f_X6_portState (fun k => if k = 0 then f 0 else f 1) x := by
  rw [f_X6_portState, f_X6_portState, tc0, tc1]
  rfl
section PO
variable {W H : Nat} {κ : Nat → Nat} {co ro : Int32} {kd f : Nat → Int32} {p : Nat}
theorem pt (hd : Dim W H) (hp : p < 2 * (W + H)) : f_X2_portCell (nI W) (nI H) (nI p) = some (nI (pcell W H p)) ∧ f_X2_portDirection (nI W) (nI H) (nI p) = some (nI (pdir W H p)) ∧ f_X6_portState (fun k => if k = 0 then nI W else nI H) (nI p) = some (nI (4 * pcell W H p + pdir W H p)) ∧ pcell W H p < W * H ∧ pdir W H p < 4 := by
  obtain ⟨h1, h2, h3, h4⟩ := hd
  exact port_fin (by omega) (by omega) (by omega) h1 h3 hp
theorem x_pcell (h : RoomX W H κ co ro kd) (hd : Dim W H) (hp : p < 2 * (W + H)) : f_X2_portCell co ro (nI p) = some (nI (pcell W H p)) := by rw [h.1, h.2.1]; exact (pt hd hp).1
theorem x_pdir (h : RoomX W H κ co ro kd) (hd : Dim W H) (hp : p < 2 * (W + H)) : f_X2_portDirection co ro (nI p) = some (nI (pdir W H p)) := by rw [h.1, h.2.1]; exact (pt hd hp).2.1
theorem m_pst (h : RoomM W H κ f) (hd : Dim W H) (hp : p < 2 * (W + H)) : f_X6_portState f (nI p) = some (nI (4 * pcell W H p + pdir W H p)) := by rw [m_pstF, h.1, h.2.1]; exact (pt hd hp).2.2.1
theorem x_hasIn (h : RoomX W H κ co ro kd) (hd : Dim W H) (hp : p < 2 * (W + H)) : f_X2_hasPort co ro (nI p) = some 1 := by
  obtain ⟨h1, h2, h3, h4⟩ := hd
  rw [f_X2_hasPort, if_neg (n_neg (by omega)), x_ports h, bind_s, if_neg (by rw [n_le (by omega) (by omega)]; omega)]
theorem x_hasOut (h : RoomX W H κ co ro kd) {x : Int32} (hx : x < 0 ∨ nI (2 * (W + H)) ≤ x) : f_X2_hasPort co ro x = some 0 := by
  rw [f_X2_hasPort]
  by_cases h0 : x < 0
  · rw [if_pos h0]
  · rw [if_neg h0, x_ports h, bind_s, if_pos (hx.resolve_left h0)]
theorem m_hasIn (h : RoomM W H κ f) (hd : Dim W H) (hp : p < 2 * (W + H)) : f_X6_isPort f (nI p) = some 1 := by
  obtain ⟨h1, h2, h3, h4⟩ := hd
  rw [f_X6_isPort, m_ports h, bind_s, show (1 : Int32) = nI 1 from rfl, pk_sub (by omega), show (0 : Int32) = nI 0 from rfl, m_inN (by omega) (by omega) (by omega), bind_s, if_pos (by omega)]
  rfl
theorem m_hasOut (h : RoomM W H κ f) (hd : Dim W H) {x : Int32} (hx : x < 0 ∨ nI (2 * (W + H)) ≤ x) : f_X6_isPort f x = some 0 := by
  obtain ⟨h1, h2, h3, h4⟩ := hd
  rw [f_X6_isPort, m_ports h, bind_s, m_in, show (1 : Int32) = nI 1 from rfl, pk_sub (by omega)]
  by_cases h0 : x < 0
  · rw [if_pos h0]
    rfl
  · obtain ⟨j, hj, rfl⟩ := nI_of h0
    have h5 := (nI_leI (by omega) hj).mp (hx.resolve_left h0)
    rw [if_neg h0, if_pos (nI_lt (by omega) hj)]
    rfl
/-- a port or none, for both -/
theorem port_cases (hx : RoomX W H κ co ro kd) (hm : RoomM W H κ f) (hd : Dim W H) (x : Int32) : (f_X2_hasPort co ro x = some 0 ∧ f_X6_isPort f x = some 0) ∨ ∃ p, p < 2 * (W + H) ∧ x = nI p ∧ f_X2_hasPort co ro x = some 1 ∧ f_X6_isPort f x = some 1 := by
  have hd' := hd
  obtain ⟨h1, h2, h3, h4⟩ := hd'
  rcases pk_ix x (n := 2 * (W + H)) (by omega) with h | h | ⟨j, hj, rfl⟩
  · exact Or.inl ⟨x_hasOut hx (Or.inl h), m_hasOut hm hd (Or.inl h)⟩
  · exact Or.inl ⟨x_hasOut hx (Or.inr h), m_hasOut hm hd (Or.inr h)⟩
  · exact Or.inr ⟨j, hj, rfl, x_hasIn hx hd hj, m_hasIn hm hd hj⟩
end PO
/-- a part from 0 to n less 1, or none, for both -/
theorem part_cases (x : Int32) (n : Nat) {n' h' : Int32} (e1 : n' = nI n) (e2 : h' = nI (n - 1)) (h0 : 0 < n) (hn : n < 100) : (f_X5_isPart x n' = some 0 ∧ f_X6_in x 0 h' = some 0) ∨ ∃ j, j < n ∧ x = nI j ∧ f_X5_isPart x n' = some 1 ∧ f_X6_in x 0 h' = some 1 := by
  subst e1 e2
  rw [f_X5_isPart, m_in]
  rcases pk_ix x (n := n) (by omega) with h | h | ⟨j, hj, rfl⟩
  · exact Or.inl ⟨by rw [if_pos h], by rw [if_pos h]⟩
  · by_cases hx : x < 0
    · exact Or.inl ⟨by rw [if_pos hx], by rw [if_pos hx]⟩
    · obtain ⟨j, hj, rfl⟩ := nI_of hx
      have h3 := (nI_leI (by omega) hj).mp h
      exact Or.inl ⟨by rw [if_neg hx, if_pos h], by rw [if_neg hx, if_pos (nI_lt (by omega) hj)]⟩
  · exact Or.inr ⟨j, hj, rfl, by rw [if_neg (n_neg (by omega)), if_neg (by rw [n_le (by omega) (by omega)]; omega)], by rw [if_neg (n_neg (by omega)), if_neg (by rw [n_lt (by omega) (by omega)]; omega)]⟩
theorem op_port : Op_port InvP := by
  intro coR roR kdR tn tl pz pg mn mp mc ml mt x1 x2 hI
  have hI0 := hI
  obtain ⟨R, z, h, hR, hX, hM, -⟩ := hI
  have hd := hR.1
  rw [f_X5_port, f_X6_port]
  rcases port_cases hX hM hd x1 with ⟨h1, h2⟩ | ⟨p, hp, rfl, h1, h2⟩
  · rw [h1, h2]
    exact ⟨_, _, rfl, rfl, rfl, hI0⟩
  · rcases part_cases x2 2 (n' := 2) (h' := 1) rfl rfl (by decide) (by decide) with ⟨h3, h4⟩ | ⟨j, hj, rfl, h3, h4⟩
    · simp only [h1, h2, h3, h4, Option.bind_some, i10, ↓reduceIte]
      exact ⟨_, _, rfl, rfl, rfl, hI0⟩
    · obtain ⟨-, -, -, q1, q2⟩ := pt hd hp
      have hN := hd.le
      simp only [h1, h2, h3, h4, Option.bind_some, i10, ↓reduceIte, m_pst hM hd hp, x_pcell hX hd hp, x_pdir hX hd hp]
      rw [show (4 : Int32) = nI 4 from rfl, pk_rem (by omega) (by omega) (by omega), pk_div (by omega) (by omega) (by omega), show (4 * pcell R.1 R.2.1 p + pdir R.1 R.2.1 p) / 4 = pcell R.1 R.2.1 p by omega, show (4 * pcell R.1 R.2.1 p + pdir R.1 R.2.1 p) % 4 = pdir R.1 R.2.1 p by omega]
      by_cases hj0 : nI j = 0
      · rw [if_pos hj0]
        exact ⟨_, _, rfl, rfl, rfl, hI0⟩
      · rw [if_neg hj0]
        exact ⟨_, _, rfl, rfl, rfl, hI0⟩
