/-! ===== the beam's rows: an array of ten arrays ===== -/
def gr_r (M : Nat → Nat → Int64) (i : Nat) (g : Nat → Int64) : Nat → Nat → Int64 := fun a => if a = i then g else M a
theorem gr_lt {i : Int32} {n : Nat} (h : aix i n) : i.toNatClampNeg < n := Nat.not_le.mp (fun q => h (Or.inr q))
theorem gr_at {X : va_W} {cJ : ClassId} {r : Nat → Nat} {M : Nat → Nat → Int64} {I : Nat} (hI : I < 10) : (X ++ gr_c cJ r M)[X.length + I]? = some (r I, .inl (cJ, 11, .inr (.inl (M I)))) := by
  rw [List.getElem?_append_right (Nat.le_add_right _ _), Nat.add_sub_cancel_left, List.getElem?_map, List.getElem?_range hI]
  rfl
theorem gr_ix {X : va_W} {cJ : ClassId} {r : Nat → Nat} {M : Nat → Nat → Int64} {k : Nat} {q : Nat × va_E} (h : (X ++ gr_c cJ r M)[k]? = some q) : (k < X.length ∧ X[k]? = some q) ∨ ∃ I, I < 10 ∧ k = X.length + I ∧ q = (r I, .inl (cJ, 11, .inr (.inl (M I)))) := by
  by_cases hk : k < X.length
  · rw [List.getElem?_append_left hk] at h
    exact Or.inl ⟨hk, h⟩
  · rw [List.getElem?_append_right (Nat.le_of_not_lt hk), List.getElem?_map] at h
    by_cases h2 : k - X.length < 10
    · rw [List.getElem?_range h2] at h
      exact Or.inr ⟨k - X.length, h2, by omega, (Option.some.inj h).symm⟩
    · rw [List.getElem?_eq_none (by rw [List.length_range]; omega)] at h
      cases h
theorem gr_set {X : va_W} {cJ : ClassId} {r : Nat → Nat} {M : Nat → Nat → Int64} {I : Nat} {g : Nat → Int64} (hI : I < 10) : (X ++ gr_c cJ r M).set (X.length + I) (r I, .inl (cJ, 11, .inr (.inl g))) = X ++ gr_c cJ r (gr_r M I g) := by
  apply List.ext_getElem?
  intro k
  by_cases hk : k < X.length
  · rw [List.getElem?_set_ne (by omega), List.getElem?_append_left hk, List.getElem?_append_left hk]
  · by_cases h2 : k - X.length < 10
    · obtain ⟨a, rfl⟩ : ∃ a, k = X.length + a := ⟨k - X.length, by omega⟩
      have ha : a < 10 := by omega
      rw [gr_at ha]
      by_cases e : a = I
      · subst e
        rw [List.getElem?_set_self (by rw [List.length_append, List.length_map, List.length_range]; omega)]
        simp [gr_r]
      · rw [List.getElem?_set_ne (by omega), gr_at ha]
        simp [gr_r, e]
    · rw [List.getElem?_eq_none (by rw [List.length_set, List.length_append, List.length_map, List.length_range]; omega), List.getElem?_eq_none (by rw [List.length_append, List.length_map, List.length_range]; omega)]
section GR
variable {p : Program} {l : Launch} {e : Env} {R : Room} {s : State} {m : MethodId} {args : Array Value} {below : List Frame} {meth : Method} {c : Code} {H : Heap} {locs : List Loc} {cells slots : Nat} {Q : State → Prop}
variable {cc : ByteArray} {pc : Nat} {ls : Array Slot} {rest st0 : List Value} {D : va_G} {A : Nat → Prop} {tys : List (ClassId × FieldType)} {X : va_W} {H0 : Heap} {cJ cQ : ClassId} {r : Nat → Nat} {M : Nat → Nat → Int64} {I K : Nat}
theorem gr_aald {ws : va_W} {a : Nat} (hexec : p.tables.exec = Jvm.exec) (hb : c.code = cc) (hK : va_K D vwCl tys s) (hP : va_P D vwCl ws H) (q0 t0 : Nat) (ha : ws[q0]? = some (a, .inl (cQ, 10, .inr (.inr (.inr (.inr (gr_o r))))))) (ht : tys[t0]? = some (cQ, .array .long)) {i : Int32} (hin : aix i 10) (hdg : decode cc pc = .ok (.aaload, 1))
    (kk : W p l e R s m args below meth c H locs cells slots Q (F0 m (pc + 1) ls (.ref (r i.toNatClampNeg) :: rest))) : W p l e R s m args below meth c H locs cells slots Q (F0 m pc ls (.int i :: .ref a :: rest)) := by
  have hlt : i.toNatClampNeg < 10 := gr_lt hin
  have e1 : va_rf (gr_o r i.toNatClampNeg) = .ref (r i.toNatClampNeg) := by rw [gr_o, if_pos hlt]; rfl
  refine W.aald (v := va_rf (gr_o r i.toNatClampNeg)) (ty := .array .long) hexec hb (hP q0 _ ha) ((hK.2 t0 _ ht).1 10 (fun j => va_rf (gr_o r j))) rfl (fun q => by cases q) (by show ¬ (i < 0 ∨ (arrV _ _ _).slots.size ≤ _); rw [arrV_size]; exact hin) (by show (arrV _ _ _).slots[_]? = _; rw [arrV_read _ _ hlt]) rfl rfl hdg ?_
  rw [e1]
  exact kk
theorem gr_lald (hexec : p.tables.exec = Jvm.exec) (hb : c.code = cc) (hK : va_K D vwCl tys s) (hP : va_P D vwCl (X ++ gr_c cJ r M) H) (t0 : Nat) (ht : tys[t0]? = some (cJ, .long)) (hI : I < 10) {j : Int32} (hin : aix j 11) (hdg : decode cc pc = .ok (.laload, 1))
    (kk : W p l e R s m args below meth c H locs cells slots Q (F0 m (pc + 1) ls (.long (M I j.toNatClampNeg) :: rest))) : W p l e R s m args below meth c H locs cells slots Q (F0 m pc ls (.int j :: .ref (r I) :: rest)) :=
  va_lald hexec hb hK hP (X.length + I) t0 (gr_at hI) ht hin hdg kk
theorem gr_last (hexec : p.tables.exec = Jvm.exec) (hb : c.code = cc) (hK : va_K D vwCl tys s) (hP : va_P D vwCl (X ++ gr_c cJ r M) H) (hD : va_D A (X ++ gr_c cJ r M)) (hS : va_S A H0 H locs) (t0 : Nat) (ht : tys[t0]? = some (cJ, .long)) (hI : I < 10) {j : Int32} {x : Int64} (hin : aix j 11) (hdg : decode cc pc = .ok (.lastore, 1))
    (kk : ∀ (H1 : Heap) (locs1 : List Loc), va_P D vwCl (X ++ gr_c cJ r (gr_r M I (vp_updL (M I) j.toNatClampNeg x))) H1 → va_D A (X ++ gr_c cJ r (gr_r M I (vp_updL (M I) j.toNatClampNeg x))) → va_S A H0 H1 locs1 → W p l e R s m args below meth c H1 locs1 cells slots Q (F0 m (pc + 1) ls rest)) : W p l e R s m args below meth c H locs cells slots Q (F0 m pc ls (.long x :: .int j :: .ref (r I) :: rest)) :=
  va_last hexec hb hK hP hD hS (X.length + I) t0 (gr_at hI) ht hin hdg (fun H1 locs1 h1 h2 h3 => kk H1 locs1 (by rw [← gr_set hI]; exact h1) (by rw [← gr_set hI]; exact h2) h3)
/-! calls on rows -/
theorem gr_hs1 (hI : I < 10) : [X.length + I].map (fun i => (X ++ gr_c cJ r M)[i]?) = ([(r I, .inl (cJ, 11, .inr (.inl (M I))))] : va_W).map some := by
  rw [List.map_singleton, gr_at hI]
  rfl
theorem gr_hs3 {x0 : Nat × va_E} {X' : va_W} (hI : I < 10) (hKl : K < 10) : [0, (x0 :: X').length + I, (x0 :: X').length + K].map (fun i => ((x0 :: X') ++ gr_c cJ r M)[i]?) = ([x0, (r I, .inl (cJ, 11, .inr (.inl (M I)))), (r K, .inl (cJ, 11, .inr (.inl (M K))))] : va_W).map some := by
  rw [List.map_cons, List.map_cons, List.map_singleton, gr_at hI, gr_at hKl]
  rfl
theorem gr_nd3 {n : Nat} (h : ¬ I = K) : va_nd [0, (n + 1) + I, (n + 1) + K] = true := by
  have h1 : 0 ≠ n + 1 + I := by omega
  have h2 : 0 ≠ n + 1 + K := by omega
  have h3 : n + 1 + I ≠ n + 1 + K := by omega
  simp only [va_nd, List.mem_cons, List.not_mem_nil, or_false, not_or, Bool.and_true, Bool.and_eq_true, decide_eq_true_eq, not_false_eq_true, decide_true]
  exact ⟨⟨h1, h2⟩, h3⟩
theorem kc_in {w0 w1 wf w2 : va_W} {H1 : Heap} (hP : va_P D vwCl wf H) (hD : va_D A wf) (hk : ∀ q : Nat, q < H.size → ¬ va_A w0 H.size q → H1[q]? = H[q]?) (hP1 : va_P D vwCl w1 H1) (ha : ∀ (k : Nat) (q : Nat × va_E), w2[k]? = some q → ∃ q', wf[k]? = some q' ∧ q'.1 = q.1)
    (hc : ∀ (k : Nat) (q : Nat × va_E), w2[k]? = some q → (wf[k]? = some q ∧ ∀ (j : Nat) (x : Nat × va_E), w0[j]? = some x → x.1 ≠ q.1) ∨ ∃ j : Nat, w1[j]? = some q) : va_P D vwCl w2 H1 ∧ va_D A w2 := by
  refine ⟨fun k q hq => ?_, fun i j x y hx hy hxy => ?_, fun k q hq => ?_⟩
  · rcases hc k q hq with ⟨h1, h2⟩ | ⟨j, hj⟩
    · have hl := (hP k q h1).lt
      refine (hP k q h1).kept (hk q.1 hl ?_)
      rintro (⟨j, e9, h9⟩ | h9)
      · exact h2 j _ h9 rfl
      · omega
    · exact hP1 j q hj
  · obtain ⟨x', h1, h2⟩ := ha i x hx
    obtain ⟨y', h3, h4⟩ := ha j y hy
    exact hD.1 i j x' y' h1 h3 (by rw [h2, h4, hxy])
  · obtain ⟨x', h1, h2⟩ := ha k q hq
    rw [← h2]
    exact hD.2 k x' h1
theorem gr_fst {X1 X2 : va_W} {M1 M2 : Nat → Nat → Int64} (hX : X1.map Prod.fst = X2.map Prod.fst) (k : Nat) (q : Nat × va_E) (hq : (X1 ++ gr_c cJ r M1)[k]? = some q) : ∃ q', (X2 ++ gr_c cJ r M2)[k]? = some q' ∧ q'.1 = q.1 := by
  have hl : X1.length = X2.length := by have := congrArg List.length hX; simpa using this
  rcases gr_ix hq with ⟨h1, h2⟩ | ⟨a, ha, hk, rfl⟩
  · have h3 : (X1.map Prod.fst)[k]? = some q.1 := by rw [List.getElem?_map, h2]; rfl
    rw [hX, List.getElem?_map] at h3
    cases h4 : X2[k]? with
    | none => rw [h4] at h3; cases h3
    | some q' =>
      rw [h4] at h3
      exact ⟨q', by rw [List.getElem?_append_left (by omega)]; exact h4, Option.some.inj h3⟩
  · rw [hk, hl]
    exact ⟨_, gr_at ha, rfl⟩
theorem gr_rwV1 {a : Array Value} {g : Nat → Int64} (hr : va_Run p l e R s m args below meth c H locs cells slots 0 0 (F0 m pc ls st0) rest (va_Qv (fun (_ : Unit) => True) (rwB D [(r I, .inl (cJ, 11, .inr (.inl (M I))))] [(r I, .inl (cJ, 11, .inr (.inl g)))] H.size) (va_A [(r I, .inl (cJ, 11, .inr (.inl (M I))))] H.size) a) (va_A [(r I, .inl (cJ, 11, .inr (.inl (M I))))] H.size)) (hP : va_P D vwCl (X ++ gr_c cJ r M) H) (hD : va_D A (X ++ gr_c cJ r M)) (hS : va_S A H0 H locs) (hA : ∀ q : Nat, H0.size ≤ q → A q) (hI : I < 10)
    (kk : ∀ (H1 : Heap) (locs1 : List Loc), va_P D vwCl (X ++ gr_c cJ r (gr_r M I g)) H1 → va_D A (X ++ gr_c cJ r (gr_r M I g)) → va_S A H0 H1 locs1 → W p l e R s m args below meth c H1 locs1 cells slots Q (F0 m (pc + 3) ls rest)) : W p l e R s m args below meth c H locs cells slots Q (F0 m pc ls st0) := by
  have hF := va_free hD hS hA [X.length + I] (gr_hs1 hI)
  refine va_callv hr hS (fun q _ h => hF q h) hF (fun u t H1 locs1 ht hvm hw hB hz1 hk1 hS1 => ?_)
  obtain ⟨hP1, hD1⟩ := hB
  rw [ht] at hP1
  obtain ⟨g1, g2⟩ := kc_in (w2 := X ++ gr_c cJ r (gr_r M I g)) hP hD hk1 hP1 (fun k q hq => gr_fst rfl k q hq) (fun k q hq => by
    rcases gr_ix hq with ⟨h1, h2⟩ | ⟨b, hb, hk, rfl⟩
    · refine Or.inl ⟨by rw [List.getElem?_append_left h1]; exact h2, fun j x hx e9 => ?_⟩
      have h3 : j < 1 := (List.getElem?_eq_some_iff.mp hx).1
      rw [show j = 0 by omega] at hx
      cases hx
      have := hD.1 (X.length + I) k _ q (gr_at hI) (by rw [List.getElem?_append_left h1]; exact h2) e9
      omega
    · by_cases e9 : b = I
      · subst e9
        exact Or.inr ⟨0, by simp [gr_r]⟩
      · refine Or.inl ⟨by rw [hk, gr_at hb]; simp [gr_r, e9], fun j x hx e8 => ?_⟩
        have h3 : j < 1 := (List.getElem?_eq_some_iff.mp hx).1
        rw [show j = 0 by omega] at hx
        cases hx
        have := hD.1 (X.length + I) (X.length + b) _ _ (gr_at hI) (gr_at hb) e8
        omega)
  exact kk H1 locs1 g1 g2 hS1
theorem gr_rwV3 {a : Array Value} {g : Nat → Int64} {x0 : Nat × va_E} {X' : va_W} (hr : va_Run p l e R s m args below meth c H locs cells slots 0 0 (F0 m pc ls st0) rest (va_Qv (fun (_ : Unit) => True) (rwB D [x0, (r I, .inl (cJ, 11, .inr (.inl (M I)))), (r K, .inl (cJ, 11, .inr (.inl (M K))))] [x0, (r I, .inl (cJ, 11, .inr (.inl g))), (r K, .inl (cJ, 11, .inr (.inl (M K))))] H.size) (va_A [x0, (r I, .inl (cJ, 11, .inr (.inl (M I)))), (r K, .inl (cJ, 11, .inr (.inl (M K))))] H.size) a) (va_A [x0, (r I, .inl (cJ, 11, .inr (.inl (M I)))), (r K, .inl (cJ, 11, .inr (.inl (M K))))] H.size)) (hP : va_P D vwCl ((x0 :: X') ++ gr_c cJ r M) H) (hD : va_D A ((x0 :: X') ++ gr_c cJ r M)) (hS : va_S A H0 H locs) (hA : ∀ q : Nat, H0.size ≤ q → A q) (hI : I < 10) (hKl : K < 10)
    (kk : ∀ (H1 : Heap) (locs1 : List Loc), va_P D vwCl ((x0 :: X') ++ gr_c cJ r (gr_r M I g)) H1 → va_D A ((x0 :: X') ++ gr_c cJ r (gr_r M I g)) → va_S A H0 H1 locs1 → W p l e R s m args below meth c H1 locs1 cells slots Q (F0 m (pc + 3) ls rest)) : W p l e R s m args below meth c H locs cells slots Q (F0 m pc ls st0) := by
  have hs := gr_hs3 (x0 := x0) (X' := X') (cJ := cJ) (r := r) (M := M) hI hKl
  have hF := va_free hD hS hA _ hs
  refine va_callv hr hS (fun q _ h => hF q h) hF (fun u t H1 locs1 ht hvm hw hB hz1 hk1 hS1 => ?_)
  obtain ⟨hP1, hD1⟩ := hB
  rw [ht] at hP1
  have key : ∀ (k : Nat) (q : Nat × va_E), ((x0 :: X') ++ gr_c cJ r M)[k]? = some q → k ≠ 0 → k ≠ (x0 :: X').length + I → k ≠ (x0 :: X').length + K → ∀ (j : Nat) (x : Nat × va_E), ([x0, (r I, .inl (cJ, 11, .inr (.inl (M I)))), (r K, .inl (cJ, 11, .inr (.inl (M K))))] : va_W)[j]? = some x → x.1 ≠ q.1 := by
    intro k q hq n0 n1 n2 j x hx e9
    have h3 : j < 3 := (List.getElem?_eq_some_iff.mp hx).1
    rcases (show j = 0 ∨ j = 1 ∨ j = 2 by omega) with rfl | rfl | rfl
    · cases hx
      exact n0 (hD.1 0 k _ q rfl hq e9).symm
    · cases hx
      exact n1 (hD.1 _ k _ q (gr_at hI) hq e9).symm
    · cases hx
      exact n2 (hD.1 _ k _ q (gr_at hKl) hq e9).symm
  obtain ⟨g1, g2⟩ := kc_in (w2 := (x0 :: X') ++ gr_c cJ r (gr_r M I g)) hP hD hk1 hP1 (fun k q hq => gr_fst rfl k q hq) (fun k q hq => by
    rcases gr_ix hq with ⟨h1, h2⟩ | ⟨b, hb, hk, rfl⟩
    · by_cases h0 : k = 0
      · subst h0
        exact Or.inr ⟨0, h2⟩
      · have hq' : ((x0 :: X') ++ gr_c cJ r M)[k]? = some q := by rw [List.getElem?_append_left h1]; exact h2
        exact Or.inl ⟨hq', key k q hq' h0 (by omega) (by omega)⟩
    · by_cases e9 : b = I
      · subst e9
        exact Or.inr ⟨1, by simp [gr_r]⟩
      · by_cases e8 : b = K
        · subst e8
          exact Or.inr ⟨2, by simp [gr_r, e9]⟩
        · have hq' : ((x0 :: X') ++ gr_c cJ r M)[k]? = some (r b, .inl (cJ, 11, .inr (.inl (gr_r M I g b)))) := by rw [hk, gr_at hb]; simp [gr_r, e9]
          exact Or.inl ⟨hq', key k _ hq' (by simp at hk; omega) (by omega) (by omega)⟩)
  exact kk H1 locs1 g1 g2 hS1
end GR
