/-! ===== changes: what is kept of them ===== -/
def updN (κ : Nat → Nat) (c k : Nat) : Nat → Nat := fun a => if a = c then k else κ a
theorem updN_s {κ : Nat → Nat} {c k : Nat} : updN κ c k c = k := if_pos rfl
theorem updN_n {κ : Nat → Nat} {c k a : Nat} (h : a ≠ c) : updN κ c k a = κ a := if_neg h
theorem tc20 : Int32.toNatClampNeg (20 : Int32) = 20 := by decide
theorem tc3 : Int32.toNatClampNeg (3 : Int32) = 3 := by decide
theorem cpy20 {f g : Nat → Int32} {j : Nat} (h : j < 20) : va_cpy f g 0 0 20 j = f j := by rw [pk_cpy_in (by omega) (by omega)]; congr 1; omega
section TX
variable {W H : Nat} {κ : Nat → Nat} {co ro : Int32} {kd : Nat → Int32}
theorem x_tellIn (h : RoomX W H κ co ro kd) (hd : Dim W H) {c : Nat} (hc : c < W * H) (v : Int32) : f_X2_tell co ro kd (nI c) v = some (upd kd c v) := by
  have := hd.le
  rw [f_X2_tell, if_neg (n_neg (by omega)), x_cells h, bind_s, if_neg (by rw [n_le (by omega) (by omega)]; omega), if_neg (by rw [show (20 : Int32) = nI 20 from rfl, n_le (by decide) (by omega)]; omega), chk_t (aix_n (by omega) (by decide)), nI_c _ (by omega)]
theorem x_upd (h : RoomX W H κ co ro kd) {c k : Nat} : RoomX W H (updN κ c k) co ro (upd kd c (nI k)) := by
  refine ⟨h.1, h.2.1, fun a ha => ?_⟩
  by_cases e : a = c
  · subst e; rw [pk_us, updN_s]
  · rw [pk_un e, updN_n e]; exact h.2.2 a ha
theorem x_become (h : RoomX W H κ co ro kd) (hd : Dim W H) (g : Nat → Int32) : RoomX W H κ co ro (va_cpy kd g 0 0 20) := by
  have := hd.le
  exact ⟨h.1, h.2.1, fun a ha => by rw [cpy20 (by omega)]; exact h.2.2 a ha⟩
theorem x_try (h : RoomX W H κ co ro kd) (hd : Dim W H) {c : Nat} (hc : c < W * H) (k : Nat) (coT roT : Int32) (kdT : Nat → Int32) : ∃ g, f_X5_tryCell co ro kd coT roT kdT (nI c) (nI k) = some (co, ro, g) ∧ RoomX W H (updN κ c k) co ro g := by
  rw [f_X5_tryCell, f_X2_become, bind_s, tc0, tc20]
  have hb := x_become h hd kdT
  exact ⟨_, by rw [x_tellIn hb hd hc]; rfl, x_upd hb⟩
theorem x_over (h : RoomX W H κ co ro kd) (hd : Dim W H) (hk : Kok W H κ) : f_X2_isOverfull co ro kd = some (if cntK κ 3 4 (W * H) ≤ 5 ∧ cntK κ 6 7 (W * H) ≤ 4 then 0 else 1) := by
  have hN := hd.le
  have q1 := cntK_le κ 3 4 (W * H)
  have q2 := cntK_le κ 6 7 (W * H)
  have c1 := x_count h hd hk (a := 3) (b := 4) (by decide) (by decide)
  have c2 := x_count h hd hk (a := 6) (b := 7) (by decide) (by decide)
  rw [f_X2_isOverfull, show (3 : Int32) = nI 3 from rfl, show (4 : Int32) = nI 4 from rfl, show (6 : Int32) = nI 6 from rfl, show (7 : Int32) = nI 7 from rfl, show (5 : Int32) = nI 5 from rfl, c1, c2, bind_s, bind_s]
  by_cases h1 : 5 < cntK κ 3 4 (W * H)
  · rw [if_pos ((n_lt (by omega) (by omega)).mpr h1), if_neg (by omega)]
  · rw [if_neg (by rw [n_lt (by omega) (by omega)]; exact h1)]
    by_cases h2 : cntK κ 6 7 (W * H) ≤ 4
    · rw [if_pos ((n_le (by omega) (by omega)).mpr h2), if_pos (by omega)]
    · rw [if_neg (by rw [n_le (by omega) (by omega)]; exact h2), if_neg (by omega)]
end TX
theorem Kok_upd {W H : Nat} {κ : Nat → Nat} (h : Kok W H κ) {c k : Nat} (hk : k ≤ 7) : Kok W H (updN κ c k) := by
  intro a ha
  by_cases e : a = c
  · subst e; rw [updN_s]; exact hk
  · rw [updN_n e]; exact h a ha
theorem cntK_upd (κ : Nat → Nat) (a b c k : Nat) : ∀ n, c < n → cntK (updN κ c k) a b n + (if a ≤ κ c ∧ κ c ≤ b then 1 else 0) = cntK κ a b n + (if a ≤ k ∧ k ≤ b then 1 else 0) := by
  intro n
  induction n with
  | zero => intro h; exact absurd h (Nat.not_lt_zero c)
  | succ n ih =>
    intro h
    rw [cntK, cntK]
    by_cases e : c = n
    · subst e
      rw [updN_s, cntK_cong (κ := updN κ c k) (κ' := κ) (fun a ha => updN_n (by omega))]
      omega
    · have := ih (by omega)
      rw [updN_n (show n ≠ c by omega)]
      omega
/-! the class's record of changes -/
theorem x_rem {z : Nat} (hz : z ≤ 4) (pg : Nat → Int32) (g : Int32) : ∃ pg', f_X1_remember (nI z) pg g = some (nI ((if z = 4 then 3 else z) + 1), pg') ∧ (∀ i, i < (if z = 4 then 3 else z) → pg' i = pg (i + (if z = 4 then 1 else 0))) ∧ pg' (if z = 4 then 3 else z) = g := by
  rw [f_X1_remember, show (4 : Int32) = nI 4 from rfl]
  by_cases h : z = 4
  · subst h
    rw [if_neg (by decide), bind_s, chk_t (show aix 3 4 by decide), tc1, tc0, tc3]
    refine ⟨_, rfl, fun i hi => ?_, pk_us⟩
    have hi3 : i < 3 := hi
    show upd (va_cpy pg pg 1 0 3) 3 g i = pg (i + 1)
    rw [pk_un (by omega), pk_cpy_in (by omega) (by omega)]
    congr 1
    omega
  · rw [if_pos ((n_lt (by omega) (by omega)).mpr (by omega)), bind_s, if_neg h, if_neg h]
    show ∃ pg', chk (aix (nI z) 4) (some (nI z + 1, upd pg (nI z).toNatClampNeg g)) = some (nI (z + 1), pg') ∧ _
    rw [chk_t (aix_n (by omega) (by decide)), nI_c _ (by omega), nI_1]
    exact ⟨_, rfl, fun i hi => by rw [pk_un (by omega)]; rfl, pk_us⟩
/-! the reference's copies -/
theorem m_copies {na0 na2 : Nat} {fa0 fa2 : Nat → Int32} {i j : Nat} (hi : i + 22 ≤ na0) (hj : j + 22 ≤ na2) (h0 : na0 ≤ 88) (h2 : na2 ≤ 88) : ∃ g, f_X6_copies na0 na2 fa0 fa2 (nI i) (nI j) = some g ∧ ∀ k, g k = if j ≤ k ∧ k < j + 22 then fa0 (i + (k - j)) else fa2 k := by
  let G : Nat → Nat → Int32 := fun n k => if j ≤ k ∧ k < j + n then fa0 (i + (k - j)) else fa2 k
  have key : lpf (fun s : Int32 × (Nat → Int32) => f_X6_copies_3 na0 na2 fa0 (nI i) (nI j) s.1 s.2) 1000 (nI 0, G 0) = some (G 22) := by
    refine lpf_seq 22 (fun n => (nI n, G n)) (fun n hn => ?_) ?_ 1000 (by omega)
    · show f_X6_copies_3 na0 na2 fa0 (nI i) (nI j) (nI n) (G n) = _
      rw [f_X6_copies_3, show (22 : Int32) = nI 22 from rfl, if_neg (by rw [n_le (by omega) (by omega)]; omega), nI_add, nI_add, nI_1, chk_t (aix_n (by omega) (by omega)), chk_t (aix_n (by omega) (by omega)), nI_c _ (by omega), nI_c _ (by omega)]
      refine congrArg (fun q => some (Sum.inl (nI (n + 1), q))) (funext fun k => ?_)
      by_cases e : k = j + n
      · subst e
        rw [pk_us]
        show _ = if j ≤ j + n ∧ j + n < j + (n + 1) then fa0 (i + (j + n - j)) else fa2 (j + n)
        rw [if_pos (by omega), Nat.add_sub_cancel_left]
      · rw [pk_un e]
        show (if j ≤ k ∧ k < j + n then fa0 (i + (k - j)) else fa2 k) = if j ≤ k ∧ k < j + (n + 1) then fa0 (i + (k - j)) else fa2 k
        by_cases q : j ≤ k ∧ k < j + n
        · rw [if_pos q, if_pos (by omega)]
        · rw [if_neg q, if_neg (by omega)]
    · show f_X6_copies_3 na0 na2 fa0 (nI i) (nI j) (nI 22) (G 22) = _
      rw [f_X6_copies_3, if_pos (by decide)]
  have e0 : G 0 = fa2 := funext fun k => if_neg (by omega)
  rw [e0] at key
  refine ⟨G 22, ?_, fun k => rfl⟩
  rw [f_X6_copies]
  have e : ((0 : Int32), fa2) = (nI 0, fa2) := rfl
  rw [e, key]
  rfl
theorem m_keeps {z : Nat} (hz : z ≤ 4) (mn mp : Nat → Int32) : ∃ mp', f_X6_keeps (nI z) mn mp = some (nI ((if z = 4 then 3 else z) + 1), mp') ∧ (∀ i, i < (if z = 4 then 3 else z) → ∀ j, j < 22 → mp' (22 * i + j) = mp (22 * (i + (if z = 4 then 1 else 0)) + j)) ∧ ∀ j, j < 22 → mp' (22 * (if z = 4 then 3 else z) + j) = mn j := by
  rw [f_X6_keeps, show (4 : Int32) = nI 4 from rfl]
  by_cases h : z = 4
  · subst h
    let G : Nat → Nat → Int32 := fun n k => if k < n then mp (k + 22) else mp k
    have key : lpf (fun s : Int32 × (Nat → Int32) => f_X6_keeps_10 (nI 4) mn s.1 s.2) 1000 (nI 0, G 0) = some (G 66) := by
      refine lpf_seq 66 (fun n => (nI n, G n)) (fun n hn => ?_) ?_ 1000 (by omega)
      · show f_X6_keeps_10 (nI 4) mn (nI n) (G n) = _
        rw [f_X6_keeps_10, show (66 : Int32) = nI 66 from rfl, show (22 : Int32) = nI 22 from rfl, if_neg (by rw [n_le (by omega) (by omega)]; omega), nI_add, nI_1, chk_t (aix_n (by omega) (by omega)), chk_t (aix_n (by omega) (by omega)), nI_c _ (by omega), nI_c _ (by omega)]
        refine congrArg (fun q => some (Sum.inl (nI (n + 1), q))) (funext fun k => ?_)
        have e1 : G n (n + 22) = mp (n + 22) := if_neg (by omega)
        rw [e1]
        by_cases e : k = n
        · subst e
          rw [pk_us]
          exact (if_pos (by omega)).symm
        · rw [pk_un e]
          show (if k < n then mp (k + 22) else mp k) = if k < n + 1 then mp (k + 22) else mp k
          by_cases q : k < n
          · rw [if_pos q, if_pos (by omega)]
          · rw [if_neg q, if_neg (by omega)]
      · show f_X6_keeps_10 (nI 4) mn (nI 66) (G 66) = _
        rw [f_X6_keeps_10, if_pos (by decide)]
    have e0 : G 0 = mp := funext fun k => if_neg (by omega)
    rw [e0] at key
    have e : ((0 : Int32), mp) = (nI 0, mp) := rfl
    obtain ⟨g, hg, hgk⟩ := m_copies (na0 := 22) (na2 := 88) (fa0 := mn) (fa2 := G 66) (i := 0) (j := 66) (by omega) (by omega) (by omega) (by omega)
    rw [if_pos rfl, e, key, bind_s, bind_s]
    have e3 : (nI 4 - 1, G 66).1 = nI 3 := rfl
    show ∃ mp', Option.bind (f_X6_copies 22 88 mn (G 66) (nI 0) (nI 66)) _ = _ ∧ _
    rw [hg]
    refine ⟨g, rfl, fun i hi j hj => ?_, fun j hj => ?_⟩
    · have hi3 : i < 3 := hi
      show g (22 * i + j) = mp (22 * (i + 1) + j)
      rw [hgk, if_neg (by omega)]
      show (if 22 * i + j < 66 then mp (22 * i + j + 22) else mp (22 * i + j)) = _
      rw [if_pos (by omega), show 22 * i + j + 22 = 22 * (i + 1) + j by omega]
    · show g (22 * 3 + j) = mn j
      rw [hgk, if_pos (by omega), show 0 + (22 * 3 + j - 66) = j by omega]
  · have hz4 : z < 4 := by omega
    obtain ⟨g, hg, hgk⟩ := m_copies (na0 := 22) (na2 := 88) (fa0 := mn) (fa2 := mp) (i := 0) (j := 22 * z) (by omega) (by omega) (by omega) (by omega)
    rw [if_neg (by rw [n_eq (by omega) (by omega)]; exact h), bind_s, if_neg h, if_neg h]
    show ∃ mp', Option.bind (f_X6_copies 22 88 mn mp (nI 0) (nI 22 * nI z)) (fun r82 => some (nI z + 1, r82)) = _ ∧ _
    rw [pk_mul, hg, bind_s, nI_1]
    refine ⟨g, rfl, fun i hi j hj => ?_, fun j hj => ?_⟩
    · rw [hgk, if_neg (by omega)]
      rfl
    · rw [hgk, if_pos (by omega), show 0 + (22 * z + j - 22 * z) = j by omega]
/-- the record grows by a change from R to R' -/
theorem past_push {mp mp' pg pg' mn : Nat → Int32} {z : Nat} {R R' : Rm} {h : Nat → Rm} (hz : z ≤ 4) (hp : Past mp pg z R h) (hR : Good R) (hM : RoomM R.1 R.2.1 R.2.2 mn) {g : Int32} (hc : Chg R R' g) (h1 : ∀ i, i < (if z = 4 then 3 else z) → pg' i = pg (i + (if z = 4 then 1 else 0))) (h2 : pg' (if z = 4 then 3 else z) = g) (h3 : ∀ i, i < (if z = 4 then 3 else z) → ∀ j, j < 22 → mp' (22 * i + j) = mp (22 * (i + (if z = 4 then 1 else 0)) + j)) (h4 : ∀ j, j < 22 → mp' (22 * (if z = 4 then 3 else z) + j) = mn j) : ∃ h', Past mp' pg' ((if z = 4 then 3 else z) + 1) R' h' := by
  obtain ⟨hz1, hp⟩ := hp
  have hz' : (if z = 4 then 3 else z) + (if z = 4 then 1 else 0) = z := by split <;> omega
  generalize (if z = 4 then 3 else z) = w at *
  generalize (if z = 4 then 1 else 0) = d at *
  have mcong : ∀ {W H κ} {f f' : Nat → Int32}, Dim W H → (∀ j, j < 22 → f' j = f j) → RoomM W H κ f → RoomM W H κ f' := by
    intro W H κ f f' hd hff hm
    have := hd.le
    exact ⟨by rw [hff 0 (by omega)]; exact hm.1, by rw [hff 1 (by omega)]; exact hm.2.1, fun c hc => by rw [hff (2 + c) (by omega)]; exact hm.2.2 c hc⟩
  refine ⟨fun i => if i = w + 1 then R' else h (i + d), if_pos rfl, fun i hi => ?_⟩
  have ei : (if i = w + 1 then R' else h (i + d)) = h (i + d) := if_neg (by omega)
  show Good (if i = w + 1 then R' else h (i + d)) ∧ RoomM (if i = w + 1 then R' else h (i + d)).1 (if i = w + 1 then R' else h (i + d)).2.1 (if i = w + 1 then R' else h (i + d)).2.2 (fun j => mp' (22 * i + j)) ∧ Chg (if i = w + 1 then R' else h (i + d)) (if i + 1 = w + 1 then R' else h (i + 1 + d)) (pg' i)
  rw [ei]
  by_cases e : i = w
  · subst e
    rw [if_pos rfl, hz', hz1, h2]
    exact ⟨hR, mcong hR.1 (fun j hj => h4 j hj) hM, hc⟩
  · rw [if_neg (by omega), h1 i (by omega), show i + 1 + d = i + d + 1 by omega]
    obtain ⟨g1, g2, g3⟩ := hp (i + d) (by omega)
    exact ⟨g1, mcong g1.1 (fun j hj => h3 i (by omega) j hj) g2, g3⟩
