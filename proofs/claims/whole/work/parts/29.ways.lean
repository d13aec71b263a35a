/-! ===== the ways of a beam ===== -/
-- the next cell in a direction, or 100 and the port
def nx (W H c d : Nat) : Nat :=
  if d = 0 then (if c / W = 0 then 100 + c % W else c - W)
  else if d = 1 then (if W ≤ c % W + 1 then 100 + (W + c / W) else c + 1)
  else if d = 2 then (if H ≤ c / W + 1 then 100 + (W + H + c % W) else c + W)
  else (if c % W = 0 then 100 + (2 * W + H + c / W) else c - 1)
abbrev NxP (W H c d : Nat) : Prop := 2 ≤ W → 1 ≤ H → c < W * H → (f_X2_beyond (nI W) (nI H) (nI c) (nI d) = some (if nx W H c d < 100 then nI (nx W H c d) else nI (nx W H c d - 100) ^^^ (-1 : Int32)) ∧ f_X6_onward (fun k => if k = 0 then nI W else nI H) (nI c) (nI d) = some (if nx W H c d < 100 then nI (4 * nx W H c d + d) else (-2 : Int32) - nI (nx W H c d - 100)) ∧ (nx W H c d < W * H ∨ 100 ≤ nx W H c d ∧ nx W H c d < 100 + 2 * (W + H)))
theorem nx_fin {W H c d : Nat} (h1 : W < 6) (h2 : H < 5) (h3 : c < 20) (h4 : d < 4) : NxP W H c d := all4 (A := 6) (B := 5) (C := 20) (D := 4) (P := NxP) (by decide +kernel) h1 h2 h3 h4
theorem m_onF (f : Nat → Int32) (x y : Int32) : f_X6_onward f x y = f_X6_onward (fun k => if k = 0 then f 0 else f 1) x y := by
  rw [f_X6_onward, f_X6_onward, tc0, tc1]
  rfl
-- a direction turned by a mirror of kind k
def td (k d : Nat) : Nat := if k = 1 ∨ k = 3 then d ^^^ 1 else 3 - d
-- how many ways on, and the direction of each
def nw (k : Nat) : Nat := if k = 3 ∨ k = 4 then 2 else if k = 5 ∨ k = 7 then 0 else 1
def od (k d y : Nat) : Nat := if k = 1 ∨ k = 2 then td k d else if (k = 3 ∨ k = 4) ∧ y = 1 then td k d else d
def onK (k : Nat) : Bool := k == 0 || k == 6 || k == 3 || k == 4
def tuK (k : Nat) : Bool := k == 1 || k == 2 || k == 3 || k == 4
abbrev KdP (k d : Nat) : Prop := f_X5_isHalf (nI k) = some (if k = 3 ∨ k = 4 then 1 else 0) ∧ f_X5_letsOn (nI k) = some (if onK k = true then 1 else 0) ∧ f_X5_turnsBeam (nI k) = some (if tuK k = true then 1 else 0) ∧ f_X5_turnedBy (nI k) (nI d) = some (nI (td k d)) ∧ f_X6_turned (nI k) (nI d) = some (nI (td k d)) ∧ td k d < 4 ∧ td k (td k d) = d
theorem kd_fin {k d : Nat} (hk : k < 8) (hd : d < 4) : KdP k d := all2 (A := 8) (B := 4) (P := KdP) (by decide +kernel) hk hd
theorem od_lt {k d y : Nat} (hk : k ≤ 7) (hd : d < 4) : od k d y < 4 := by
  have h := (kd_fin (show k < 8 by omega) hd).2.2.2.2.2.1
  rw [od]
  split
  · exact h
  · split
    · exact h
    · exact hd
section WY
variable {W H : Nat} {κ : Nat → Nat} {co ro : Int32} {kd f : Nat → Int32}
theorem nx_all (hd : Dim W H) {c d : Nat} (hc : c < W * H) (h4 : d < 4) : f_X2_beyond (nI W) (nI H) (nI c) (nI d) = some (if nx W H c d < 100 then nI (nx W H c d) else nI (nx W H c d - 100) ^^^ (-1 : Int32)) ∧ f_X6_onward (fun k => if k = 0 then nI W else nI H) (nI c) (nI d) = some (if nx W H c d < 100 then nI (4 * nx W H c d + d) else (-2 : Int32) - nI (nx W H c d - 100)) ∧ (nx W H c d < W * H ∨ 100 ≤ nx W H c d ∧ nx W H c d < 100 + 2 * (W + H)) := by
  have hN := hd.le
  obtain ⟨h1, h2, h3, h5⟩ := hd
  exact nx_fin (by omega) (by omega) (by omega) h4 h1 h3 hc
theorem nx_lt (hd : Dim W H) {c d : Nat} (hc : c < W * H) (h4 : d < 4) (h : nx W H c d < 100) : nx W H c d < W * H := by
  have := (nx_all hd hc h4).2.2
  omega
theorem nx_port (hd : Dim W H) {c d : Nat} (hc : c < W * H) (h4 : d < 4) (h : ¬ nx W H c d < 100) : ∃ p, p < 2 * (W + H) ∧ nx W H c d = 100 + p := by
  have := (nx_all hd hc h4).2.2
  have hN := hd.le
  exact ⟨nx W H c d - 100, by omega, by omega⟩
theorem x_beyond (h : RoomX W H κ co ro kd) (hd : Dim W H) {c d : Nat} (hc : c < W * H) (h4 : d < 4) : f_X2_beyond co ro (nI c) (nI d) = some (if nx W H c d < 100 then nI (nx W H c d) else nI (nx W H c d - 100) ^^^ (-1 : Int32)) := by
  rw [h.1, h.2.1]; exact (nx_all hd hc h4).1
theorem m_onward (h : RoomM W H κ f) (hd : Dim W H) {c d : Nat} (hc : c < W * H) (h4 : d < 4) : f_X6_onward f (nI c) (nI d) = some (if nx W H c d < 100 then nI (4 * nx W H c d + d) else (-2 : Int32) - nI (nx W H c d - 100)) := by
  rw [m_onF, h.1, h.2.1]; exact (nx_all hd hc h4).2.1
-- the next state in way y out of state s, or 100 and the port
def go (W H : Nat) (κ : Nat → Nat) (s y : Nat) : Nat := nx W H (s / 4) (od (κ (s / 4)) (s % 4) y)
def gs (W H : Nat) (κ : Nat → Nat) (s y : Nat) : Nat := 4 * go W H κ s y + od (κ (s / 4)) (s % 4) y
theorem ks (hk : Kok W H κ) {s : Nat} (hs : s < 4 * (W * H)) : κ (s / 4) ≤ 7 := hk _ (by omega)
theorem go_lt (hd : Dim W H) (hk : Kok W H κ) {s y : Nat} (hs : s < 4 * (W * H)) (h : go W H κ s y < 100) : go W H κ s y < W * H := nx_lt hd (by omega) (od_lt (ks hk hs) (Nat.mod_lt _ (by decide))) h
theorem gs_lt (hd : Dim W H) (hk : Kok W H κ) {s y : Nat} (hs : s < 4 * (W * H)) (h : go W H κ s y < 100) : gs W H κ s y < 4 * (W * H) := by
  have h1 := go_lt hd hk hs h
  have h2 : od (κ (s / 4)) (s % 4) y < 4 := od_lt (ks hk hs) (Nat.mod_lt _ (by decide))
  rw [gs]
  omega
theorem go_port (hd : Dim W H) (hk : Kok W H κ) {s y : Nat} (hs : s < 4 * (W * H)) (h : ¬ go W H κ s y < 100) : ∃ p, p < 2 * (W + H) ∧ go W H κ s y = 100 + p := nx_port hd (by omega) (od_lt (ks hk hs) (Nat.mod_lt _ (by decide))) h
theorem st_at (h : RoomM W H κ f) (hd : Dim W H) {s : Nat} (hs : s < 4 * (W * H)) : aix ((2 : Int32) + nI s / 4) 22 ∧ f (Int32.toNatClampNeg ((2 : Int32) + nI s / 4)) = nI (κ (s / 4)) := by
  have hN := hd.le
  rw [show (4 : Int32) = nI 4 from rfl, pk_div (by omega) (by omega) (by omega)]
  exact m_at h hd (by omega)
theorem m_ways (h : RoomM W H κ f) (hd : Dim W H) (hk : Kok W H κ) {s : Nat} (hs : s < 4 * (W * H)) : f_X6_waysOf f (nI s) = some (nI (nw (κ (s / 4)))) := by
  have h7 := ks hk hs
  rw [f_X6_waysOf, chk_t (st_at h hd hs).1, (st_at h hd hs).2, m_isHalf h7, bind_s]
  generalize κ (s / 4) = k at h7
  exact all2 (A := 8) (B := 1) (P := fun k _ => (if (if 3 ≤ k ∧ k ≤ 4 then (1 : Int32) else 0) = 0 then (if nI k = (5 : Int32) then some (0 : Int32) else if nI k = (7 : Int32) then some 0 else some 1) else some 2) = some (nI (nw k))) (by decide +kernel) (show k < 8 by omega) (show 0 < 1 by decide)
theorem m_goes (h : RoomM W H κ f) (hd : Dim W H) (hk : Kok W H κ) {s y : Nat} (hs : s < 4 * (W * H)) (hy : y < 2) : f_X6_goes f (nI s) (nI y) = some (if go W H κ s y < 100 then nI (gs W H κ s y) else (-2 : Int32) - nI (go W H κ s y - 100)) := by
  have h7 := ks hk hs
  have hN := hd.le
  have h4 : s % 4 < 4 := Nat.mod_lt _ (by decide)
  have hon := m_onward (d := od (κ (s / 4)) (s % 4) y) h hd (show s / 4 < W * H by omega) (od_lt h7 h4)
  rw [f_X6_goes, chk_t (st_at h hd hs).1, (st_at h hd hs).2, show (4 : Int32) = nI 4 from rfl, pk_rem (by omega) (by omega) (by omega), pk_div (by omega) (by omega) (by omega)]
  have hT := (kd_fin (show κ (s / 4) < 8 by omega) h4).2.2.2.2.1
  simp only [hT, m_isHalf h7]
  have key : ∀ k, k < 8 → ∀ y, y < 2 → ∀ d, d < 4 → Option.bind (f_X6_in (nI k) 1 2) (fun r22 => Option.bind (if r22 = 0 then Option.bind (some (if 3 ≤ k ∧ k ≤ 4 then (1 : Int32) else 0)) (fun r31 => if r31 = 0 then some (0 : Int32) else if nI y = 1 then some 1 else some 0) else some (1 : Int32)) (fun j23 => if j23 = 0 then some (nI d) else Option.bind (some (nI (td k d))) (fun r29 => some r29))) = some (nI (od k d y)) := by
    intro k hk y hy d hd
    exact all3 (A := 8) (B := 2) (C := 4) (P := fun k y d => Option.bind (f_X6_in (nI k) 1 2) (fun r22 => Option.bind (if r22 = 0 then Option.bind (some (if 3 ≤ k ∧ k ≤ 4 then (1 : Int32) else 0)) (fun r31 => if r31 = 0 then some (0 : Int32) else if nI y = 1 then some 1 else some 0) else some (1 : Int32)) (fun j23 => if j23 = 0 then some (nI d) else Option.bind (some (nI (td k d))) (fun r29 => some r29))) = some (nI (od k d y))) (by decide +kernel) hk hy hd
  have hkk := key _ (show κ (s / 4) < 8 by omega) y hy (s % 4) h4
  have assoc : ∀ (a : Option Int32) (b : Int32 → Option Int32) (c : Int32 → Option Int32) (g : Int32 → Option Int32), Option.bind a (fun r => Option.bind (b r) (fun j => Option.bind (c j) g)) = Option.bind (Option.bind a (fun r => Option.bind (b r) c)) g := by
    intro a b c g
    rw [Option.bind_assoc]
    congr 1
    funext r
    rw [Option.bind_assoc]
  rw [assoc, hkk, bind_s, hon, bind_s]
  rfl
end WY
