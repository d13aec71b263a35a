/-! ===== the whole text ===== -/
def PartG (W H : Nat) (κ : Nat → Nat) : Prop := Part W H κ ∧ cntK κ 3 4 (W * H) ≤ 5 ∧ cntK κ 6 7 (W * H) ≤ 4
theorem PartG.good {W H : Nat} {κ : Nat → Nat} (h : PartG W H κ) (hH : 0 < H) : Good (W, H, κ) := by
  obtain ⟨⟨h1, h2, h3, h4⟩, h5, h6⟩ := h
  have := h3 hH
  exact ⟨⟨this.1, this.2, hH, h1⟩, h4, h5, h6⟩
section PB
variable {n : Nat} {L : Nat → Nat} {t u : Nat → Int32}
theorem parse_both (hL : TxtL n L t) (hL2 : TxtL n L u) : ∀ (m s i W H : Nat) (κ : Nat → Nat) (co ro : Int32) (kd mr : Nat → Int32), n - s ≤ m → s ≤ n → i ≤ s → PartG W H κ → RoomX W H κ co ro kd → RoomM W H κ mr → ∀ k1 k2, m < k1 → m < k2 →
    (∃ p z1 z2, p < n ∧ lpf (fun q : Int32 × Int32 × Int32 × Int32 × (Nat → Int32) => f_X3_readInto_8 (nI n) t q.1 q.2.1 q.2.2.1 q.2.2.2.1 q.2.2.2.2) k1 (nI s, nI i, co, ro, kd) = some (Sum.inl (nI p, z1)) ∧ lpf (fun q : Int32 × (Nat → Int32) => f_X6_reads_26 (nI n) u q.1 q.2) k2 (nI s, mr) = some (Sum.inl (nI p, z2))) ∨
    (∃ W' H' κ' co' ro' kd' sp mr', lpf (fun q : Int32 × Int32 × Int32 × Int32 × (Nat → Int32) => f_X3_readInto_8 (nI n) t q.1 q.2.1 q.2.2.1 q.2.2.2.1 q.2.2.2.2) k1 (nI s, nI i, co, ro, kd) = some (Sum.inr (co', ro', kd')) ∧ lpf (fun q : Int32 × (Nat → Int32) => f_X6_reads_26 (nI n) u q.1 q.2) k2 (nI s, mr) = some (Sum.inr (sp, mr')) ∧ PartG W' H' κ' ∧ RoomX W' H' κ' co' ro' kd' ∧ RoomM W' H' κ' mr') := by
  have h60 := hL.1
  intro m
  induction m with
  | zero =>
    intro s i W H κ co ro kd mr hm hs hi hP hX hM k1 k2 hk1 hk2
    have e : s = n := by omega
    subst e
    obtain ⟨k1, rfl⟩ : ∃ a, k1 = a + 1 := ⟨k1 - 1, by omega⟩
    obtain ⟨k2, rfl⟩ : ∃ a, k2 = a + 1 := ⟨k2 - 1, by omega⟩
    refine Or.inr ⟨W, H, κ, co, ro, kd, nI s, mr, lpf_inr ?_, lpf_inr ?_, hP, hX, hM⟩
    · show f_X3_readInto_8 (nI s) t (nI s) (nI i) co ro kd = _
      rw [f_X3_readInto_8]
      split
      · rfl
      · rw [if_pos ((n_le (by omega) (by omega)).mpr (Nat.le_refl _))]
    · show f_X6_reads_26 (nI s) u (nI s) mr = _
      rw [f_X6_reads_26, if_pos ((n_le (by omega) (by omega)).mpr (Nat.le_refl _))]
  | succ m ih =>
    intro s i W H κ co ro kd mr hm hs hi hP hX hM k1 k2 hk1 hk2
    obtain ⟨k1, rfl⟩ : ∃ a, k1 = a + 1 := ⟨k1 - 1, by omega⟩
    obtain ⟨k2, rfl⟩ : ∃ a, k2 = a + 1 := ⟨k2 - 1, by omega⟩
    by_cases e : s = n
    · subst e
      refine Or.inr ⟨W, H, κ, co, ro, kd, nI s, mr, lpf_inr ?_, lpf_inr ?_, hP, hX, hM⟩
      · show f_X3_readInto_8 (nI s) t (nI s) (nI i) co ro kd = _
        rw [f_X3_readInto_8]
        split
        · rfl
        · rw [if_pos ((n_le (by omega) (by omega)).mpr (Nat.le_refl _))]
      · show f_X6_reads_26 (nI s) u (nI s) mr = _
        rw [f_X6_reads_26, if_pos ((n_le (by omega) (by omega)).mpr (Nat.le_refl _))]
    · have hsn : s < n := by omega
      obtain ⟨en, q1, q2, q3, q4, q5⟩ := x_end hL (s := s) hs
      obtain ⟨b, co', ro', kd', r1, r2⟩ := x_readRow hL hX hP.1 hsn q1 q2 q4 q5
      obtain ⟨b2, sp, mr', v1, v2⟩ := m_takes hL2 hM hP.1 hsn
      have c1 : f_X3_readInto_8 (nI n) t (nI s) (nI i) co ro kd = if b = 0 then some (Sum.inr (Sum.inl (nI s, co', ro', kd'))) else some (Sum.inl (nI en + 1, nI i + 1, co', ro', kd')) := by
        rw [f_X3_readInto_8, if_neg (by rw [show (60 : Int32) = nI 60 from rfl, n_le (by omega) (by omega)]; omega), if_neg (by rw [n_le (by omega) (by omega)]; omega), q3, bind_s, r1, bind_s]
      have c2 : f_X6_reads_26 (nI n) u (nI s) mr = if b2 = 0 then some (Sum.inr (Sum.inl (nI s, sp, mr'))) else some (Sum.inl (sp, mr')) := by
        rw [f_X6_reads_26, if_neg (by rw [n_le (by omega) (by omega)]; omega), v1, bind_s]
      rcases r2 with ⟨rb, rno⟩ | ⟨rb, w, ew, hrow, hX'⟩
      · rcases v2 with ⟨vb, vno⟩ | ⟨vb, w2, -, hrow2, -⟩
        · rw [if_pos rb] at c1
          rw [if_pos vb] at c2
          exact Or.inl ⟨s, _, _, hsn, lpf_inr c1, lpf_inr c2⟩
        · exact absurd hrow2 (rno w2)
      · rcases v2 with ⟨vb, vno⟩ | ⟨vb, w2, hsp, hrow2, hM'⟩
        · exact absurd hrow (vno w)
        · have o1 := (row_one q1 q4 q5 q2 hrow2).2
          have e8 : w2 = w := by omega
          subst e8
          rw [if_neg (by rw [rb]; decide), nI_1, nI_1] at c1
          rw [if_neg (by rw [vb]; decide), hsp] at c2
          rw [show lpf (fun q : Int32 × Int32 × Int32 × Int32 × (Nat → Int32) => f_X3_readInto_8 (nI n) t q.1 q.2.1 q.2.2.1 q.2.2.2.1 q.2.2.2.2) (k1 + 1) (nI s, nI i, co, ro, kd) = _ from lpf_inl c1, show lpf (fun q : Int32 × (Nat → Int32) => f_X6_reads_26 (nI n) u q.1 q.2) (k2 + 1) (nI s, mr) = _ from lpf_inl c2, show s + 1 + w2 + 1 = en + 1 by omega]
          obtain ⟨hd, ewH, hN⟩ := part_dim hP.1 hrow.2.2.2.2.1 hrow.2.2.2.2.2.1 hrow.2.2.2.2.2.2.1
          have hKK := rowK_ok (L := L) (s := s) hP.1 ewH hrow.2.2.2.1
          have hlt := hrow.2.1
          exact ih (en + 1) (i + 1) w2 (H + 1) _ co' ro' kd' mr' (by omega) (by omega) (by omega) ⟨⟨by have := hrow.2.2.2.2.1; omega, fun z => by omega, fun _ => ⟨hd.1, hd.2.1⟩, hKK⟩, hrow.2.2.2.2.2.2.2.1, hrow.2.2.2.2.2.2.2.2⟩ hX' hM' k1 k2 (by omega) (by omega)
end PB
theorem m_zero (ml ms : Int32) (mt mr : Nat → Int32) : ∃ g, lpf (fun s : Int32 × (Nat → Int32) => f_X6_reads_2 ml ms mt s.1 s.2) 1000 (nI 0, mr) = some g ∧ ∀ k, k < 22 → g k = 0 := by
  refine lpf_run (fun s => ∃ i, i ≤ 22 ∧ s.1 = nI i ∧ ∀ k, k < i → s.2 k = 0) (fun g : Nat → Int32 => ∀ k, k < 22 → g k = 0) (fun s => 22 - s.1.toNatClampNeg) ?_ 1000 (nI 0, mr) ⟨0, Nat.zero_le _, rfl, fun k hk => absurd hk (Nat.not_lt_zero k)⟩ (by show 22 - (nI 0).toNatClampNeg < 1000; omega)
  rintro ⟨si, sg⟩ ⟨i, hi, rfl, hk⟩
  show (∃ s', f_X6_reads_2 ml ms mt (nI i) sg = some (Sum.inl s') ∧ _) ∨ ∃ r, f_X6_reads_2 ml ms mt (nI i) sg = some (Sum.inr r) ∧ _
  rw [f_X6_reads_2, show (22 : Int32) = nI 22 from rfl]
  by_cases e : i = 22
  · subst e
    rw [if_pos ((n_le (by omega) (by omega)).mpr (Nat.le_refl _))]
    exact Or.inr ⟨_, rfl, hk⟩
  · rw [if_neg (by rw [n_le (by omega) (by omega)]; omega), chk_t (aix_n (by omega) (by decide)), nI_c _ (by omega), nI_1]
    refine Or.inl ⟨_, rfl, ⟨i + 1, by omega, rfl, fun k hk2 => ?_⟩, ?_⟩
    · show upd sg i 0 k = 0
      by_cases e2 : k = i
      · subst e2; rw [pk_us]
      · rw [pk_un e2]; exact hk k (by omega)
    · show 22 - (nI (i + 1)).toNatClampNeg < 22 - i
      rw [nI_c _ (by omega)]; omega
/-- both read the text alike -/
theorem read_both {tn ml : Int32} {tl mt : Nat → Int32} (hT : TextP tn tl ml mt) (coT roT ms : Int32) (kdT mr : Nat → Int32) : (∃ p z1 z2, p < 60 ∧ f_X3_readInto coT roT kdT tn tl = some (nI p, z1) ∧ f_X6_reads ml ms mr mt = some (nI p, z2)) ∨ ∃ W H κ co ro kd sp mr', f_X3_readInto coT roT kdT tn tl = some (-4, co, ro, kd) ∧ f_X6_reads ml ms mr mt = some (-4, sp, mr') ∧ PartG W H κ ∧ RoomX W H κ co ro kd ∧ RoomM W H κ mr' := by
  obtain ⟨n, hn, rfl, rfl, ht⟩ := hT
  have hL2 : TxtL n (fun i => (mt i).toNatClampNeg) mt := ⟨hn, fun i hi => by
    obtain ⟨-, a, h1, h2, h3⟩ := ht i hi
    show mt i = nI (mt i).toNatClampNeg ∧ 32 ≤ (mt i).toNatClampNeg ∧ (mt i).toNatClampNeg ≤ 126
    rw [h3, nI_c _ (by omega)]
    exact ⟨rfl, h1, h2⟩⟩
  have hL : TxtL n (fun i => (mt i).toNatClampNeg) tl := ⟨hn, fun i hi => by rw [(ht i hi).1]; exact hL2.2 i hi⟩
  obtain ⟨g, hg, hg0⟩ := m_zero (nI n) ms mt mr
  have hM0 : RoomM 0 0 (fun _ => 0) g := ⟨by rw [hg0 0 (by omega)]; rfl, by rw [hg0 1 (by omega)]; rfl, fun c hc => absurd hc (by omega)⟩
  have hX0 : RoomX 0 0 (fun _ => 0) 0 0 kdT := ⟨rfl, rfl, fun c hc => absurd hc (by omega)⟩
  have hP0 : PartG 0 0 (fun _ => 0) := ⟨⟨by omega, fun _ => rfl, fun z => absurd z (by omega), fun c hc => absurd hc (by omega)⟩, Nat.zero_le _, Nat.zero_le _⟩
  rw [f_X3_readInto, f_X2_empty, bind_s, f_X6_reads, show ((0 : Int32), mr) = (nI 0, mr) from rfl, hg, bind_s]
  rcases parse_both hL hL2 60 0 0 0 0 _ 0 0 kdT g (by omega) (by omega) (by omega) hP0 hX0 hM0 1000 1000 (by omega) (by omega) with ⟨p, z1, z2, hp, c1, c2⟩ | ⟨W, H, κ, co, ro, kd, sp, mr', c1, c2, c3, c4, c5⟩
  · refine Or.inl ⟨p, z1, z2, by omega, ?_, ?_⟩
    · show Option.bind (lpf _ 1000 (nI 0, nI 0, 0, 0, kdT)) _ = _
      rw [c1]; rfl
    · show Option.bind (lpf _ 1000 (nI 0, g)) _ = _
      rw [c2]; rfl
  · refine Or.inr ⟨W, H, κ, co, ro, kd, sp, mr', ?_, ?_, c3, c4, c5⟩
    · show Option.bind (lpf _ 1000 (nI 0, nI 0, 0, 0, kdT)) _ = _
      rw [c1]; rfl
    · show Option.bind (lpf _ 1000 (nI 0, g)) _ = _
      rw [c2]; rfl
theorem op_fault : Op_fault InvP := by
  intro coR roR kdR tn tl pz pg mn mp mc ml mt coT roT kdT ms mr hI
  have hI0 := hI
  obtain ⟨R, z, h, hR, hX, hM, hz, hpz, hmc, hp, hT⟩ := hI
  rw [f_X5_fault, f_X6_fault]
  rcases read_both hT coT roT ms kdT mr with ⟨p, z1, z2, h1, h2, h3⟩ | ⟨W, H, κ, co, ro, kd, sp, mr', h2, h3, -⟩
  · rw [h2, h3]
    exact ⟨_, _, rfl, rfl, rfl, hI0⟩
  · rw [h2, h3]
    exact ⟨_, _, rfl, rfl, rfl, hI0⟩
theorem m4_ne {a : Nat} (ha : a < 1000000) : ¬ nI a = -4 := by
  intro h
  have h1 : (nI a).toInt = (a : Int) := nI_toInt (by omega)
  rw [h] at h1
  have h2 : (-4 : Int32).toInt = -4 := by decide
  omega
theorem op_lay : Op_lay InvP := by
  intro coR roR kdR tn tl pz pg mn mp mc ml mt coT roT kdT ms mr hI
  have hI0 := hI
  obtain ⟨R, z, h, hR, hX, hM, hz, hpz, hmc, hp, hT⟩ := hI
  rw [f_X5_lay, f_X6_lay]
  rcases read_both hT coT roT ms kdT mr with ⟨p, z1, z2, h1, h2, h3⟩ | ⟨W, H, κ, co, ro, kd, sp, mr', h2, h3, hP, hX', hM'⟩
  · rw [h2, h3, bind_s, bind_s, if_neg (m4_ne (by omega)), if_neg (m4_ne (by omega))]
    exact ⟨_, _, rfl, rfl, rfl, hI0⟩
  · rw [h2, h3, bind_s, bind_s, if_pos rfl, if_pos rfl]
    simp only [tc1, hM'.2.1, hX'.2.1]
    have hH := hP.1.1
    by_cases h0 : H = 0
    · have hz0 : nI H = 0 := by rw [h0]; rfl
      rw [if_pos hz0, if_pos hz0]
      exact ⟨_, _, rfl, rfl, rfl, hI0⟩
    · have hz0 : ¬ nI H = 0 := by rw [n_z (by omega)]; exact h0
      have hG := hP.good (by omega)
      have hd : Dim W H := hG.1
      rw [if_neg hz0, if_neg hz0]
      obtain ⟨g3, c1, c2⟩ := m_copies (na0 := 22) (na2 := 22) (fa0 := mr') (fa2 := mn) (i := 0) (j := 0) (by omega) (by omega) (by omega) (by omega)
      have hM3 : RoomM W H κ g3 := m_roomC hd (fun j hj => by rw [c2, if_pos (by omega), show 0 + (j - 0) = j by omega]) hM'
      have hX3 : RoomX W H κ (nI W) (nI H) (va_cpy kd kdR 0 0 20) := x_become ⟨rfl, rfl, hX'.2.2⟩ hd kdR
      rw [f_X2_become, bind_s, f_X1_forget, bind_s, tc0, tc20, hX'.1]
      simp only
      rw [x_cells hX3, bind_s, show (0 : Int32) = nI 0 from rfl, c1, bind_s, m_cells hM3, bind_s]
      exact ⟨_, _, rfl, rfl, rfl, (W, H, κ), 0, fun _ => (W, H, κ), hG, hX3, hM3, by omega, rfl, rfl, ⟨rfl, fun i hi => absurd hi (Nat.not_lt_zero i)⟩, hT⟩
