/-! ===== lit and far: both spread alike ===== -/
theorem fb_holes : ∀ (m n : Nat) (f : Nat → Nat), (∀ i, i < n → f i < m) → (∀ i j, i < j → j < n → f i ≠ f j) → n ≤ m := by
  intro m
  induction m with
  | zero =>
    intro n f h1 _
    rcases Nat.eq_zero_or_pos n with h | h
    · omega
    · exact absurd (h1 0 h) (Nat.not_lt_zero _)
  | succ m ih =>
    intro n f h1 h2
    by_cases hx : ∃ i, i < n ∧ f i = m
    · obtain ⟨a, ha, hfa⟩ := hx
      have hg := ih (n - 1) (fun i => if i < a then f i else f (i + 1)) (by
        intro i hi
        by_cases q : i < a
        · simp only [if_pos q]
          have b1 := h1 i (by omega)
          have b2 := h2 i a q ha
          omega
        · simp only [if_neg q]
          have b1 := h1 (i + 1) (by omega)
          have b2 := h2 a (i + 1) (by omega) (by omega)
          omega) (by
        intro i j hij hj
        by_cases q : i < a
        · by_cases r : j < a
          · simp only [if_pos q, if_pos r]
            exact h2 i j hij (by omega)
          · simp only [if_pos q, if_neg r]
            exact h2 i (j + 1) (by omega) (by omega)
        · have r : ¬ j < a := by omega
          simp only [if_neg q, if_neg r]
          exact h2 (i + 1) (j + 1) (by omega) (by omega))
      omega
    · have hg := ih n f (fun i hi => by
        have b1 := h1 i hi
        have b2 : f i ≠ m := fun e => hx ⟨i, hi, e⟩
        omega) h2
      omega
theorem fill_x {na : Nat} (hna : na < 900) (fa : Nat → Int32) (v : Int32) : ∃ r, f_J7_fill_53178 na fa v = some r ∧ ∀ i, i < na → r i = v := by
  have key : ∃ t, lpf (fun s : Int32 × (Nat → Int32) => f_J7_fill_53178_5 na v (Int32.ofNat na) s.1 s.2) 1000 ((0 : Int32), fa) = some t ∧ ∀ i, i < na → t i = v := by
    refine lpf_run (σ := Int32 × (Nat → Int32)) (τ := Nat → Int32) (fun s => ∃ k : Nat, k ≤ na ∧ s.1 = nI k ∧ ∀ i, i < k → s.2 i = v) (fun t => ∀ i, i < na → t i = v) (fun s => 999 - s.1.toNatClampNeg) ?_ 1000 _ ⟨0, by omega, rfl, fun i hi => absurd hi (Nat.not_lt_zero i)⟩ (by omega)
    rintro ⟨x, g⟩ ⟨k, hk, rfl, hg⟩
    show (∃ s', f_J7_fill_53178_5 na v (nI na) (nI k) g = some (Sum.inl s') ∧ _) ∨ _
    rw [f_J7_fill_53178_5]
    by_cases h : na ≤ k
    · refine Or.inr ⟨g, ?_, fun i hi => hg i (by omega)⟩
      show f_J7_fill_53178_5 na v (nI na) (nI k) g = _
      rw [f_J7_fill_53178_5, if_pos ((n_le (by omega) (by omega)).mpr h)]
    · refine Or.inl ⟨(nI (k + 1), upd g k v), ?_, ⟨k + 1, by omega, rfl, fun i hi => ?_⟩, ?_⟩
      · rw [if_neg (by rw [n_le (by omega) (by omega)]; exact h), chk_t (aix_n (by omega) (by omega)), nI_c _ (by omega), nI_1]
      · show upd g k v i = v
        by_cases e : i = k
        · subst e; rw [pk_us]
        · rw [pk_un e]; exact hg i (by omega)
      · show 999 - (nI (k + 1)).toNatClampNeg < 999 - (nI k).toNatClampNeg
        rw [nI_c _ (by omega), nI_c _ (by omega)]
        omega
  obtain ⟨t, ht, h2⟩ := key
  exact ⟨t, by rw [f_J7_fill_53178, ht, bind_s], h2⟩
abbrev Bst : Type := Nat × (Nat → Nat) × (Nat → Nat)
def ent (B : Bst) (t v : Nat) : Bst := if B.2.2 t = 0 then (B.1 + 1, updN B.2.1 B.1 t, updN B.2.2 t v) else B
def Val (N : Nat) (B : Bst) : Prop := (∀ i, i < B.1 → B.2.1 i < N ∧ B.2.2 (B.2.1 i) ≠ 0) ∧ (∀ i j, i < j → j < B.1 → B.2.1 i ≠ B.2.1 j) ∧ ∀ s, B.2.2 s ≤ B.1
theorem Val.le {N : Nat} {B : Bst} (h : Val N B) : B.1 ≤ N := fb_holes N B.1 B.2.1 (fun i hi => (h.1 i hi).1) h.2.1
theorem ent_val {N : Nat} {B : Bst} (h : Val N B) {t v : Nat} (ht : t < N) (hv : v ≠ 0) (hm : v ≤ B.1 + 1) : Val N (ent B t v) := by
  rw [ent]
  by_cases h0 : B.2.2 t = 0
  · rw [if_pos h0]
    refine ⟨fun i hi => ?_, fun i j hij hj => ?_, fun s => ?_⟩
    · show updN B.2.1 B.1 t i < N ∧ updN B.2.2 t v (updN B.2.1 B.1 t i) ≠ 0
      by_cases e : i = B.1
      · subst e
        rw [updN_s, updN_s]
        exact ⟨ht, hv⟩
      · have hi2 : i < B.1 := by
          have : i < B.1 + 1 := hi
          omega
        have hq := h.1 i hi2
        rw [updN_n e, updN_n (fun q => hq.2 (by rw [q]; exact h0))]
        exact hq
    · show updN B.2.1 B.1 t i ≠ updN B.2.1 B.1 t j
      have hj2 : j < B.1 + 1 := hj
      rw [updN_n (show i ≠ B.1 by omega)]
      by_cases e : j = B.1
      · subst e
        rw [updN_s]
        exact fun q => (h.1 i hij).2 (by rw [q]; exact h0)
      · rw [updN_n e]
        exact h.2.1 i j hij (by omega)
    · show updN B.2.2 t v s ≤ B.1 + 1
      by_cases e : s = t
      · subst e; rw [updN_s]; exact hm
      · rw [updN_n e]
        have := h.2.2 s
        omega
  · rw [if_neg h0]
    exact h
theorem ent_room {N : Nat} {B : Bst} (h : Val N B) {t : Nat} (ht : t < N) (h0 : B.2.2 t = 0) : B.1 + 1 ≤ N := by
  have h1 := (ent_val h (v := 1) ht (by decide) (by omega)).le
  rw [ent, if_pos h0] at h1
  exact h1
-- B' is B and more
def Ext (B B' : Bst) : Prop := B.1 ≤ B'.1 ∧ (∀ i, i < B.1 → B'.2.1 i = B.2.1 i) ∧ ∀ s, B.2.2 s ≠ 0 → B'.2.2 s = B.2.2 s
theorem Ext.rf {B : Bst} : Ext B B := ⟨Nat.le_refl _, fun _ _ => rfl, fun _ _ => rfl⟩
theorem Ext.tr {B C D : Bst} (h1 : Ext B C) (h2 : Ext C D) : Ext B D := ⟨Nat.le_trans h1.1 h2.1, fun i hi => (h2.2.1 i (Nat.lt_of_lt_of_le hi h1.1)).trans (h1.2.1 i hi), fun s hs => (h2.2.2 s (by rw [h1.2.2 s hs]; exact hs)).trans (h1.2.2 s hs)⟩
theorem ent_ext {B : Bst} {t v : Nat} : Ext B (ent B t v) := by
  rw [ent]
  by_cases h0 : B.2.2 t = 0
  · rw [if_pos h0]
    exact ⟨Nat.le_succ _, fun i hi => updN_n (show i ≠ B.1 by omega), fun s hs => updN_n (fun e => hs (by rw [e]; exact h0))⟩
  · rw [if_neg h0]
    exact Ext.rf
def lvS (W H : Nat) (κ : Nat → Nat) (B : Bst) (s v y : Nat) : Bst := if go W H κ s y < 100 then ent B (gs W H κ s y) (v + 1) else B
def pwS (W H : Nat) (κ : Nat → Nat) (B : Bst) (s v : Nat) : Nat → Bst
  | 0 => B
  | y + 1 => lvS W H κ (pwS W H κ B s v y) s v y
def fwS (W H : Nat) (κ : Nat → Nat) (fa : Nat → Nat) (s v : Nat) : Nat → Nat → Nat
  | 0 => fa
  | y + 1 => fun p => if go W H κ s y = 100 + p ∧ fwS W H κ fa s v y p = 0 then v else fwS W H κ fa s v y p
def bsS (W H : Nat) (κ : Nat → Nat) (s0 : Nat) : Nat → Bst
  | 0 => ent (0, fun _ => 0, fun _ => 0) s0 1
  | k + 1 => pwS W H κ (bsS W H κ s0 k) ((bsS W H κ s0 k).2.1 k) ((bsS W H κ s0 k).2.2 ((bsS W H κ s0 k).2.1 k)) (nw (κ ((bsS W H κ s0 k).2.1 k / 4)))
def faS (W H : Nat) (κ : Nat → Nat) (s0 : Nat) : Nat → Nat → Nat
  | 0 => fun _ => 0
  | k + 1 => fwS W H κ (faS W H κ s0 k) ((bsS W H κ s0 k).2.1 k) ((bsS W H κ s0 k).2.2 ((bsS W H κ s0 k).2.1 k)) (nw (κ ((bsS W H κ s0 k).2.1 k / 4)))
section BF
variable {W H : Nat} {κ : Nat → Nat} {co ro : Int32} {kd f : Nat → Int32}
theorem lvS_val (hd : Dim W H) (hk : Kok W H κ) {B : Bst} (h : Val (4 * (W * H)) B) {s v y : Nat} (hs : s < 4 * (W * H)) (hv : v ≤ B.1) : Val (4 * (W * H)) (lvS W H κ B s v y) := by
  rw [lvS]
  by_cases h1 : go W H κ s y < 100
  · rw [if_pos h1]
    exact ent_val h (gs_lt hd hk hs h1) (by omega) (by omega)
  · rw [if_neg h1]
    exact h
theorem lvS_ext {B : Bst} {s v y : Nat} : Ext B (lvS W H κ B s v y) := by
  rw [lvS]
  split
  · exact ent_ext
  · exact Ext.rf
theorem pwS_ext {B : Bst} {s v : Nat} (n : Nat) : Ext B (pwS W H κ B s v n) := by
  induction n with
  | zero => exact Ext.rf
  | succ n ih => exact ih.tr lvS_ext
theorem pwS_val (hd : Dim W H) (hk : Kok W H κ) {B : Bst} (h : Val (4 * (W * H)) B) {s v : Nat} (hs : s < 4 * (W * H)) (hv : v ≤ B.1) (n : Nat) : Val (4 * (W * H)) (pwS W H κ B s v n) := by
  induction n with
  | zero => exact h
  | succ n ih => exact lvS_val hd hk ih hs (Nat.le_trans hv (pwS_ext n).1)
theorem bs0_val {N s0 : Nat} (h : s0 < N) : Val N (bsS W H κ s0 0) := ent_val ⟨fun i hi => absurd hi (Nat.not_lt_zero i), fun i j _ hj => absurd hj (Nat.not_lt_zero j), fun s => Nat.le_refl _⟩ h (by decide) (by decide)
theorem bs_val (hd : Dim W H) (hk : Kok W H κ) {s0 k : Nat} (h : Val (4 * (W * H)) (bsS W H κ s0 k)) (hlt : k < (bsS W H κ s0 k).1) : Val (4 * (W * H)) (bsS W H κ s0 (k + 1)) := pwS_val hd hk h (h.1 k hlt).1 (h.2.2 _) _
theorem bs_ext {s0 k : Nat} : Ext (bsS W H κ s0 k) (bsS W H κ s0 (k + 1)) := pwS_ext _
theorem bs_exts {s0 k : Nat} : ∀ n, Ext (bsS W H κ s0 k) (bsS W H κ s0 (k + n)) := by
  intro n
  induction n with
  | zero => exact Ext.rf
  | succ n ih => exact ih.tr bs_ext
-- the lit cells of a queue
def litQ (q : Nat → Nat) : Nat → Int32
  | 0 => 0
  | n + 1 => litQ q n ||| ((1 : Int32) <<< (nI (q n / 4) &&& 31))
theorem litQ_cong {q q' : Nat → Nat} {n : Nat} (h : ∀ i, i < n → q i = q' i) : litQ q n = litQ q' n := by
  induction n with
  | zero => rfl
  | succ n ih => rw [litQ, litQ, ih (fun i hi => h i (by omega)), h n (by omega)]
def RC (B : Bst) (ww wl : Int32) (wq wt : Nat → Int32) : Prop := ww = nI B.1 ∧ wl = litQ B.2.1 B.1 ∧ (∀ i, i < B.1 → wq i = nI (B.2.1 i)) ∧ ∀ s, s < 80 → wt s = nI (B.2.2 s)
def RF (fa : Nat → Nat) (wp : Nat → Int32) : Prop := ∀ p, p < 18 → wp p = nI (fa p) ∧ fa p ≤ 80
theorem x_enter (hd : Dim W H) {B : Bst} {ww wl : Int32} {wq wt : Nat → Int32} (hV : Val (4 * (W * H)) B) (hR : RC B ww wl wq wt) {c d v : Nat} (hc : c < W * H) (h4 : d < 4) : ∃ r, f_X4_enter ww wl wq wt (nI c) (nI d) (nI v) = some r ∧ RC (ent B (4 * c + d) v) r.1 r.2.1 r.2.2.1 r.2.2.2 := by
  have hN := hd.le
  have hm := hV.le
  have hdl := hV.2.2 (4 * c + d)
  obtain ⟨rfl, rfl, hq, ht⟩ := hR
  rw [f_X4_enter, show (4 : Int32) = nI 4 from rfl, pk_mul, nI_add, Nat.mul_comm c 4, if_neg (n_neg (by omega)), show (80 : Int32) = nI 80 from rfl, if_neg (by rw [n_le (by omega) (by omega)]; omega), ent]
  by_cases h0 : B.2.2 (4 * c + d) = 0
  · have hr := ent_room hV (show 4 * c + d < 4 * (W * H) by omega) h0
    rw [if_neg (by rw [n_le (by omega) (by omega)]; omega), chk_t (aix_n (by omega) (by decide)), nI_c _ (by omega), ht _ (by omega), if_pos (by rw [h0]; rfl), chk_t (aix_n (by omega) (by decide)), nI_c _ (by omega), if_pos h0]
    refine ⟨_, rfl, nI_1 _, ?_, fun i hi => ?_, fun s hs => ?_⟩
    · show litQ B.2.1 B.1 ||| _ = litQ (updN B.2.1 B.1 (4 * c + d)) (B.1 + 1)
      rw [litQ, updN_s, litQ_cong (q := updN B.2.1 B.1 (4 * c + d)) (q' := B.2.1) (fun i hi => updN_n (by omega)), show (4 * c + d) / 4 = c by omega]
    · show upd wq B.1 (nI (4 * c + d)) i = nI (updN B.2.1 B.1 (4 * c + d) i)
      have hi2 : i < B.1 + 1 := hi
      by_cases e : i = B.1
      · subst e; rw [pk_us, updN_s]
      · rw [pk_un e, updN_n e]; exact hq i (by omega)
    · show upd wt (4 * c + d) (nI v) s = nI (updN B.2.2 (4 * c + d) v s)
      by_cases e : s = 4 * c + d
      · subst e; rw [pk_us, updN_s]
      · rw [pk_un e, updN_n e]; exact ht s hs
  · rw [if_neg h0]
    by_cases h8 : (80 : Nat) ≤ B.1
    · rw [if_pos ((n_le (by omega) (by omega)).mpr h8)]
      exact ⟨_, rfl, rfl, rfl, hq, ht⟩
    · rw [if_neg (by rw [n_le (by omega) (by omega)]; omega), chk_t (aix_n (by omega) (by decide)), nI_c _ (by omega), ht _ (by omega), if_neg (by rw [n_z (by omega)]; exact h0)]
      exact ⟨_, rfl, rfl, rfl, hq, ht⟩
abbrev NegP (p _q : Nat) : Prop := (nI p ^^^ (-1 : Int32)) < 0 ∧ (nI p ^^^ (-1 : Int32)) ^^^ (-1 : Int32) = nI p
theorem neg_fin {p : Nat} (hp : p < 100) : NegP p 0 := all2 (A := 100) (B := 1) (P := NegP) (by decide +kernel) hp (by decide)
theorem x_leave (hX : RoomX W H κ co ro kd) (hd : Dim W H) {B : Bst} {ww wl : Int32} {wq wt wp : Nat → Int32} {fa : Nat → Nat} (hV : Val (4 * (W * H)) B) (hR : RC B ww wl wq wt) (hF : RF fa wp) {c d v : Nat} (hc : c < W * H) (h4 : d < 4) (hv : v ≤ 80) : ∃ r, f_X4_leave co ro ww wl wq wt wp (nI c) (nI d) (nI v) = some r ∧ RC (if nx W H c d < 100 then ent B (4 * nx W H c d + d) (v + 1) else B) r.1 r.2.1 r.2.2.1 r.2.2.2.1 ∧ RF (fun p => if nx W H c d = 100 + p ∧ fa p = 0 then v else fa p) r.2.2.2.2 := by
  have hD := hd
  obtain ⟨hd1, hd2, hd3, hd4⟩ := hD
  rw [f_X4_leave, x_beyond hX hd hc h4, bind_s]
  by_cases h1 : nx W H c d < 100
  · have h2 := nx_lt hd hc h4 h1
    have hN := hd.le
    rw [if_pos h1, if_neg (n_neg (by omega)), if_pos h1, show nI v + (1 : Int32) = nI (v + 1) from nI_1 v]
    obtain ⟨r, hr, hr2⟩ := x_enter hd hV hR h2 h4 (v := v + 1)
    rw [hr, bind_s]
    refine ⟨_, rfl, hr2, fun p hp => ?_⟩
    dsimp only
    rw [if_neg (by omega)]
    exact hF p hp
  · obtain ⟨p, hp, hpe⟩ := nx_port hd hc h4 h1
    obtain ⟨g1, g2⟩ := neg_fin (show p < 100 by omega)
    rw [if_neg h1, if_neg h1, hpe, show 100 + p - 100 = p by omega, if_pos g1, g2, f_X4_reach, if_neg (n_neg (by omega)), show (18 : Int32) = nI 18 from rfl, if_neg (by rw [n_le (by omega) (by omega)]; omega), chk_t (aix_n (by omega) (by decide)), nI_c _ (by omega), (hF p (by omega)).1]
    have hfp := (hF p (by omega)).2
    by_cases h0 : fa p = 0
    · rw [if_pos (by rw [h0]; rfl), bind_s]
      refine ⟨_, rfl, hR, fun p' hp' => ?_⟩
      show upd wp p (nI v) p' = nI (if 100 + p = 100 + p' ∧ fa p' = 0 then v else fa p') ∧ (if 100 + p = 100 + p' ∧ fa p' = 0 then v else fa p') ≤ 80
      by_cases e : p' = p
      · subst e
        rw [pk_us, if_pos ⟨rfl, h0⟩]
        exact ⟨rfl, hv⟩
      · rw [pk_un e, if_neg (by omega)]
        exact hF p' hp'
    · rw [if_neg (by rw [n_z (by omega)]; exact h0), bind_s]
      refine ⟨_, rfl, hR, fun p' hp' => ?_⟩
      show wp p' = nI (if 100 + p = 100 + p' ∧ fa p' = 0 then v else fa p') ∧ (if 100 + p = 100 + p' ∧ fa p' = 0 then v else fa p') ≤ 80
      rw [if_neg (by intro q; rw [show p' = p by omega] at q; exact h0 q.2)]
      exact hF p' hp'
abbrev WayP (k d : Nat) : Prop := (onK k = true ∧ tuK k = false ∧ nw k = 1 ∧ od k d 0 = d) ∨ (onK k = false ∧ tuK k = true ∧ nw k = 1 ∧ od k d 0 = td k d) ∨ (onK k = true ∧ tuK k = true ∧ nw k = 2 ∧ od k d 0 = d ∧ od k d 1 = td k d) ∨ (onK k = false ∧ tuK k = false ∧ nw k = 0)
theorem way_fin {k d : Nat} (hk : k < 8) (hd : d < 4) : WayP k d := all2 (A := 8) (B := 4) (P := WayP) (by decide +kernel) hk hd
theorem x_spread (hX : RoomX W H κ co ro kd) (hd : Dim W H) (hk : Kok W H κ) {B : Bst} {ww wl : Int32} {wq wt wp : Nat → Int32} {fa : Nat → Nat} (hV : Val (4 * (W * H)) B) (hR : RC B ww wl wq wt) (hF : RF fa wp) {s : Nat} (hs : s < 4 * (W * H)) : ∃ r, f_X4_spread co ro kd ww wl wq wt wp (nI (s / 4)) (nI (s % 4)) = some r ∧ RC (pwS W H κ B s (B.2.2 s) (nw (κ (s / 4)))) r.1 r.2.1 r.2.2.1 r.2.2.2.1 ∧ RF (fwS W H κ fa s (B.2.2 s) (nw (κ (s / 4)))) r.2.2.2.2 := by
  have hN := hd.le
  have hm := hV.le
  have hv := hV.2.2 s
  have hc : s / 4 < W * H := by omega
  have h4 : s % 4 < 4 := Nat.mod_lt _ (by decide)
  have h7 := ks hk hs
  obtain ⟨-, k1, k2, k3, -, k4, -⟩ := kd_fin (show κ (s / 4) < 8 by omega) h4
  rw [f_X4_spread, x_kindIn hX hd hc, bind_s, show (4 : Int32) = nI 4 from rfl, pk_mul, nI_add, show s / 4 * 4 + s % 4 = s by omega, if_neg (n_neg (by omega)), show (80 : Int32) = nI 80 from rfl, if_neg (by rw [n_le (by omega) (by omega)]; omega), chk_t (aix_n (by omega) (by decide)), nI_c _ (by omega), hR.2.2.2 s (by omega), bind_s, k1, bind_s, k2, k3]
  obtain ⟨r1, hr1, hC1, hF1⟩ := x_leave hX hd hV hR hF hc h4 (show B.2.2 s ≤ 80 by omega)
  obtain ⟨r2, hr2, hC2, hF2⟩ := x_leave hX hd hV hR hF hc k4 (show B.2.2 s ≤ 80 by omega)
  rcases way_fin (show κ (s / 4) < 8 by omega) h4 with ⟨a1, a2, a3, a4⟩ | ⟨a1, a2, a3, a4⟩ | ⟨a1, a2, a3, a4, a5⟩ | ⟨a1, a2, a3⟩
  · rw [a1, a2, a3]
    simp only [↓reduceIte, i10, hr1, bind_s, Bool.false_eq_true]
    refine ⟨_, rfl, ?_, ?_⟩
    · rw [pwS, pwS, lvS, gs, go, a4]
      exact hC1
    · rw [fwS, fwS, go, a4]
      exact hF1
  · rw [a1, a2, a3]
    simp only [↓reduceIte, i10, hr2, bind_s, Bool.false_eq_true]
    refine ⟨_, rfl, ?_, ?_⟩
    · rw [pwS, pwS, lvS, gs, go, a4]
      exact hC2
    · rw [fwS, fwS, go, a4]
      exact hF2
  · have hV1 : Val (4 * (W * H)) (if nx W H (s / 4) (s % 4) < 100 then ent B (4 * nx W H (s / 4) (s % 4) + s % 4) (B.2.2 s + 1) else B) := by
      have := lvS_val hd hk (y := 0) hV hs hv
      rw [lvS, gs, go, a4] at this
      exact this
    obtain ⟨r3, hr3, hC3, hF3⟩ := x_leave hX hd hV1 hC1 hF1 hc k4 (show B.2.2 s ≤ 80 by omega)
    rw [a1, a2, a3]
    simp only [↓reduceIte, i10, hr1, hr3, bind_s]
    refine ⟨_, rfl, ?_, ?_⟩
    · have e0 : ∀ B v, lvS W H κ B s v 0 = if nx W H (s / 4) (s % 4) < 100 then ent B (4 * nx W H (s / 4) (s % 4) + s % 4) (v + 1) else B := fun B v => by rw [lvS, gs, go, a4]
      have e1 : ∀ B v, lvS W H κ B s v 1 = if nx W H (s / 4) (td (κ (s / 4)) (s % 4)) < 100 then ent B (4 * nx W H (s / 4) (td (κ (s / 4)) (s % 4)) + td (κ (s / 4)) (s % 4)) (v + 1) else B := fun B v => by rw [lvS, gs, go, a5]
      rw [pwS, pwS, pwS, e0, e1]
      exact hC3
    · rw [fwS, fwS, fwS, go, go, a4, a5]
      exact hF3
  · rw [a1, a2, a3]
    simp only [↓reduceIte, bind_s, Bool.false_eq_true]
    exact ⟨_, rfl, hR, hF⟩
-- the first k at which nothing waits
def Fst (W H : Nat) (κ : Nat → Nat) (s0 K : Nat) : Prop := (bsS W H κ s0 K).1 = K ∧ ∀ j, j < K → j < (bsS W H κ s0 j).1
theorem Fst.uniq {s0 K K' : Nat} (h : Fst W H κ s0 K) (h' : Fst W H κ s0 K') : K = K' := by
  have h1 := h.2 K'
  have h2 := h'.2 K
  have h3 := h.1
  have h4 := h'.1
  omega
theorem x_goFrom (hX : RoomX W H κ co ro kd) (hd : Dim W H) (hk : Kok W H κ) (ww wl : Int32) (wq wt wp : Nat → Int32) {p : Nat} (hp : p < 2 * (W + H)) : ∃ r K, f_X4_goFrom co ro kd ww wl wq wt wp (nI p) = some r ∧ Fst W H κ (4 * pcell W H p + pdir W H p) K ∧ RC (bsS W H κ (4 * pcell W H p + pdir W H p) K) r.1 r.2.1 r.2.2.1 r.2.2.2.1 ∧ RF (faS W H κ (4 * pcell W H p + pdir W H p) K) r.2.2.2.2 ∧ Val (4 * (W * H)) (bsS W H κ (4 * pcell W H p + pdir W H p) K) := by
  have hN := hd.le
  obtain ⟨-, -, -, q1, q2⟩ := pt hd hp
  obtain ⟨a1, ha1, hb1⟩ := fill_x (na := 80) (by decide) wt 0
  obtain ⟨a2, ha2, hb2⟩ := fill_x (na := 18) (by decide) wp 0
  have hV0 : Val (4 * (W * H)) (0, fun _ => 0, fun _ => 0) := ⟨fun i hi => absurd hi (Nat.not_lt_zero i), fun i j _ hj => absurd hj (Nat.not_lt_zero j), fun s => Nat.le_refl _⟩
  obtain ⟨r1, hr1, hC1⟩ := x_enter (v := 1) (ww := 0) (wl := 0) (wq := wq) hd hV0 ⟨rfl, rfl, fun i hi => absurd hi (Nat.not_lt_zero i), hb1⟩ q1 q2
  have hr1 : f_X4_enter 0 0 wq a1 (nI (pcell W H p)) (nI (pdir W H p)) 1 = some r1 := hr1
  rw [f_X4_goFrom, ha1, bind_s, ha2, bind_s, x_pcell hX hd hp, bind_s, x_pdir hX hd hp, bind_s, hr1, bind_s]
  generalize hs0 : 4 * pcell W H p + pdir W H p = s0 at hC1 ⊢
  have hs0l : s0 < 4 * (W * H) := by omega
  obtain ⟨t, ht, K, hK, hRC, hRF, hVK⟩ := lpf_run (f := fun s : Int32 × Int32 × Int32 × (Nat → Int32) × (Nat → Int32) × (Nat → Int32) => f_X4_goFrom_43 co ro kd s.1 s.2.1 s.2.2.1 s.2.2.2.1 s.2.2.2.2.1 s.2.2.2.2.2)
    (fun s => ∃ k, s.1 = nI k ∧ k ≤ (bsS W H κ s0 k).1 ∧ (∀ j, j < k → j < (bsS W H κ s0 j).1) ∧ RC (bsS W H κ s0 k) s.2.1 s.2.2.1 s.2.2.2.1 s.2.2.2.2.1 ∧ RF (faS W H κ s0 k) s.2.2.2.2.2 ∧ Val (4 * (W * H)) (bsS W H κ s0 k))
    (fun t => ∃ K, Fst W H κ s0 K ∧ RC (bsS W H κ s0 K) t.1 t.2.1 t.2.2.1 t.2.2.2.1 ∧ RF (faS W H κ s0 K) t.2.2.2.2 ∧ Val (4 * (W * H)) (bsS W H κ s0 K))
    (fun s => 500 - s.1.toNatClampNeg) (by
      rintro ⟨x, ww, wl, wq, wt, wp⟩ ⟨k, rfl, hkm, hall, hRC, hRF, hV⟩
      have hm := hV.le
      have hm' : (bsS W H κ s0 k).1 ≤ 80 := by omega
      dsimp only at hRC hRF ⊢
      rw [f_X4_goFrom_43]
      by_cases he : (bsS W H κ s0 k).1 ≤ k
      · refine Or.inr ⟨(ww, wl, wq, wt, wp), ?_, k, ⟨by omega, hall⟩, hRC, hRF, hV⟩
        by_cases h8 : (80 : Int32) ≤ nI k
        · rw [if_pos h8]
        · rw [if_neg h8, hRC.1, if_pos ((n_le (by omega) (by omega)).mpr he)]
      · have hlt : k < (bsS W H κ s0 k).1 := by omega
        have hq := (hV.1 k hlt).1
        obtain ⟨r, hr, h1, h2⟩ := x_spread hX hd hk hV hRC hRF hq
        refine Or.inl ⟨(nI (k + 1), r.1, r.2.1, r.2.2.1, r.2.2.2.1, r.2.2.2.2), ?_, ⟨k + 1, rfl, ?_, ?_, h1, h2, bs_val hd hk hV hlt⟩, ?_⟩
        · rw [if_neg (by rw [show (80 : Int32) = nI 80 from rfl, n_le (by omega) (by omega)]; omega), hRC.1, if_neg (by rw [n_le (by omega) (by omega)]; omega), chk_t (aix_n (by omega) (by decide)), nI_c _ (by omega), hRC.2.2.1 k hlt, show (4 : Int32) = nI 4 from rfl, pk_rem (by omega) (by omega) (by omega), pk_div (by omega) (by omega) (by omega), ← hRC.1, hr, bind_s, nI_1]
        · have := (bs_ext (W := W) (H := H) (κ := κ) (s0 := s0) (k := k)).1
          omega
        · intro j hj
          by_cases e : j = k
          · subst e; exact hlt
          · exact hall j (by omega)
        · show 500 - (nI (k + 1)).toNatClampNeg < 500 - (nI k).toNatClampNeg
          rw [nI_c _ (by omega), nI_c _ (by omega)]
          omega) 1000 ((0 : Int32), r1.1, r1.2.1, r1.2.2.1, r1.2.2.2, a2) ⟨0, rfl, Nat.zero_le _, fun j hj => absurd hj (Nat.not_lt_zero j), hC1, fun p hp => ⟨hb2 p hp, Nat.zero_le _⟩, bs0_val hs0l⟩ (by dsimp only; omega)
  rw [ht, bind_s]
  exact ⟨_, K, rfl, hK, hRC, hRF, hVK⟩
end BF
