/-! ===== my own ground: programs with checks, contracts, calls ===== -/
-- a program's words: what comes next, a check, a loop with fuel
theorem fp_b {α β : Type} {o : Option α} {k : α → Option β} {x : β} (h : o.bind k = some x) : ∃ r, o = some r ∧ k r = some x := by
  cases o with
  | none => cases h
  | some r => exact ⟨r, rfl, h⟩
abbrev aix (i : Int32) (n : Nat) : Prop := ¬ (i < 0 ∨ n ≤ i.toNatClampNeg)
def chk {β : Type} (c : Prop) [Decidable c] (k : Option β) : Option β := if c then k else none
theorem fp_c {β : Type} {c : Prop} [Decidable c] {k : Option β} {x : β} (h : chk c k = some x) : c ∧ k = some x := by
  unfold chk at h
  by_cases hc : c
  · rw [if_pos hc] at h; exact ⟨hc, h⟩
  · rw [if_neg hc] at h; cases h
theorem fp_t {β : Type} {c : Prop} [Decidable c] {a b : Option β} {x : β} (h : (if c then a else b) = some x) (hc : c) : a = some x := by
  rw [if_pos hc] at h; exact h
theorem fp_f {β : Type} {c : Prop} [Decidable c] {a b : Option β} {x : β} (h : (if c then a else b) = some x) (hc : ¬ c) : b = some x := by
  rw [if_neg hc] at h; exact h
def lpf {σ τ : Type} (f : σ → Option (σ ⊕ τ)) : Nat → σ → Option τ
  | 0, _ => none
  | n + 1, s => (f s).bind (fun o => Sum.elim (lpf f n) some o)
theorem fp_l {σ τ : Type} {f : σ → Option (σ ⊕ τ)} {n : Nat} {s : σ} {t : τ} (h : lpf f (n + 1) s = some t) : ∃ o, f s = some o ∧ Sum.elim (lpf f n) some o = some t := fp_b h
theorem fp_l0 {σ τ : Type} {f : σ → Option (σ ⊕ τ)} {s : σ} {t : τ} (h : lpf f 0 s = some t) : False := by cases h
theorem fp_inl {α β γ : Type} {f : α → Option γ} {g : β → Option γ} {x : α} {t : γ} (h : Sum.elim f g (Sum.inl x) = some t) : f x = some t := h
theorem fp_inr {α β γ : Type} {f : α → Option γ} {g : β → Option γ} {x : β} {t : γ} (h : Sum.elim f g (Sum.inr x) = some t) : g x = some t := h
-- the tables' words beside va_K: links to private members of nest mates
def nw_F : List (String × Nat × String × String × String × String) := [("MirrorShares", 195, "MirrorShares$Told", "length", "I", "MirrorShares"), ("MirrorShares$Room", 22, "MirrorShares", "FIRST_KINDS", "[I", "MirrorShares"), ("MirrorShares", 99, "MirrorShares$Room", "columns", "I", "MirrorShares"), ("MirrorShares", 59, "MirrorShares$Room", "rows", "I", "MirrorShares"), ("MirrorShares", 108, "MirrorShares$Past", "size", "I", "MirrorShares"), ("MirrorShares", 171, "MirrorShares$Walk", "litCells", "I", "MirrorShares"), ("MirrorShares", 150, "MirrorShares$Beam", "whole", "J", "MirrorShares")]
def nw_M : List (String × Nat × MethodName × String) := [(RX5, 11, yX3_init, RX5), (RX5, 28, yX1_init, RX5), (RX5, 35, yX4_init, RX5), (RX5, 42, yX0_init, RX5), (RX0, 95, yX5_isHalf, RX5), (RX0, 88, yX5_turnedBy, RX5), (RX0, 99, yX5_letsOn, RX5), (RX0, 102, yX5_turnsBeam, RX5), (RX4, 54, yX5_letsOn, RX5), (RX4, 62, yX5_turnsBeam, RX5), (RX4, 65, yX5_turnedBy, RX5)]
def nw_ok (U : State) : Prop := (∀ q ∈ nw_F, va_Nw (.fieldLinkNest q.1 q.2.1 q.2.2.1 q.2.2.2.1 q.2.2.2.2.1 q.2.2.2.2.2) U) ∧ ∀ q ∈ nw_M, va_Nw (.methodLinkNest q.1 q.2.1 q.2.2.1 q.2.2.2) U
theorem nw_warm {s U : State} (hW : s.WarmedH U.vm) (h : nw_ok s) : nw_ok U := ⟨fun q hq => va_Nw.warmF hW (h.1 q hq), fun q hq => va_Nw.warmM hW (h.2 q hq)⟩
theorem nw_same {s U : State} (hv : s.vm = U.vm) (h : nw_ok s) : nw_ok U := ⟨fun q hq => va_Nw.same rfl hv (h.1 q hq), fun q hq => va_Nw.same rfl hv (h.2 q hq)⟩
def kG (D : va_G) (T : List (ClassId × FieldType)) (U : State) : Prop := va_K D vwCl T U ∧ nw_ok U
theorem kG.warm {D : va_G} {T : List (ClassId × FieldType)} {s U : State} (h : kG D T s) (hW : s.WarmedH U.vm) : kG D T U := ⟨va_K.moved hW.alike h.1, nw_warm hW h.2⟩
theorem kG.calling {D : va_G} {T : List (ClassId × FieldType)} {U : State} (h : kG D T U) (a : Array Value) (g : JFrame) (mk : MethodId) : kG D T (U.calling g mk a) := ⟨va_K.moved (u := U) (U := U.calling g mk a) (Vm.Alike.refl U.vm) h.1, nw_same (U := U.calling g mk a) rfl h.2⟩
-- what stays in the old heap: the one String constant, String.COMPACT_STRINGS, the table FIRST_KINDS
def fk_f : Nat → Int32 := fun j => ([0, 3, 1, 0, 4, 0, 7, 3, 2, 3, 0, 2] : List Int32).getD j 0
def kE (qs : Nat × Nat × Nat) (A : Nat → Prop) (U : State) (H : Heap) : Prop := vk_R "MirrorShares$Told" 43 "./\\fb#ox" qs.1 U ∧ vk_S 1 [8] [[46, 47, 92, 102, 98, 35, 111, 120]] (fun _ => qs.1) (fun _ => qs.2.1) A U H ∧ va_Z "java/lang/String" "COMPACT_STRINGS" "Z" (.int 1) A U H ∧ va_Z "MirrorShares" "FIRST_KINDS" "[I" (.ref qs.2.2) A U H ∧ va_T .int qs.2.2 12 (fun j => .int (fk_f j)) A U H
theorem kE.warm {qs : Nat × Nat × Nat} {A : Nat → Prop} {s U : State} {H : Heap} (h : kE qs A s H) (hW : s.WarmedH U.vm) : kE qs A U H := ⟨vk_R.warm hW h.1, vk_S.moved hW.alike h.2.1, va_Z.moved hW.alike h.2.2.1, va_Z.moved hW.alike h.2.2.2.1, va_T.moved hW.alike h.2.2.2.2⟩
theorem kE.kept {qs : Nat × Nat × Nat} {A : Nat → Prop} {U : State} {H H1 : Heap} (h : kE qs A U H) (hq : ∀ a : Nat, a < H.size → ¬ A a → H1[a]? = H[a]?) : kE qs A U H1 := ⟨h.1, vk_S.kept h.2.1 hq, va_Z.kept h.2.2.1 hq, va_Z.kept h.2.2.2.1 hq, va_T.kept h.2.2.2.2 hq⟩
theorem kE.narrow {qs : Nat × Nat × Nat} {A B : Nat → Prop} {U : State} {H : Heap} (h : kE qs A U H) (hAB : ∀ q, B q → A q) : kE qs B U H := ⟨h.1, vk_S.narrow h.2.1 hAB, va_Z.narrow h.2.2.1 hAB, va_Z.narrow h.2.2.2.1 hAB, va_T.narrow h.2.2.2.2 hAB⟩
theorem kE.calling {qs : Nat × Nat × Nat} {A : Nat → Prop} {U : State} {H : Heap} (h : kE qs A U H) (a : Array Value) (g : JFrame) (mk : MethodId) : kE qs A (U.calling g mk a) H := ⟨vk_R.same (u := U) rfl h.1, vk_S.moved (U := U.calling g mk a) (Vm.Alike.refl U.vm) h.2.1, va_Z.moved (U := U.calling g mk a) (Vm.Alike.refl U.vm) h.2.2.1, va_Z.moved (U := U.calling g mk a) (Vm.Alike.refl U.vm) h.2.2.2.1, va_T.moved (U := U.calling g mk a) (Vm.Alike.refl U.vm) h.2.2.2.2⟩
def kR (D : va_G) (T : List (ClassId × FieldType)) (qs : Nat × Nat × Nat) (U : State) (H : Heap) : Prop := kG D T U ∧ kE qs (fun _ => False) U H
def kW (D : va_G) (T : List (ClassId × FieldType)) (qs : Nat × Nat × Nat) (A : Nat → Prop) (U : State) (H0 : Heap) : Prop := kG D T U ∧ kE qs A U H0
theorem kW.r {D : va_G} {T : List (ClassId × FieldType)} {qs : Nat × Nat × Nat} {A : Nat → Prop} {U : State} {H0 H : Heap} {locs : List Loc} (h : kW D T qs A U H0) (hS : va_S A H0 H locs) : kR D T qs U H := ⟨h.1, (h.2.kept hS.2.1).narrow (fun _ h => h.elim)⟩
abbrev ty4 (cI cJ cZ cQ : ClassId) : List (ClassId × FieldType) := [(cI, .int), (cJ, .long), (cZ, .boolean), (cQ, .array .long)]
-- contracts that leave the heap as it is
def RoI (l : Launch) (y : MethodName) (ws : List Cond) (rm : Room) (D : va_G) (T : List (ClassId × FieldType)) (qs : Nat × Nat × Nat) (av : List Value) (w0 : va_W) (r0 : Int32) : Prop := Met l y ws rm (va_Pc av (fun U => va_P D vwCl w0 U.heap ∧ kR D T qs U U.heap)) (vp_Si (fun r => r = r0)) 0 0 (fun _ => False)
def RoL (l : Launch) (y : MethodName) (ws : List Cond) (rm : Room) (D : va_G) (T : List (ClassId × FieldType)) (qs : Nat × Nat × Nat) (av : List Value) (w0 : va_W) (r0 : Int64) : Prop := Met l y ws rm (va_Pc av (fun U => va_P D vwCl w0 U.heap ∧ kR D T qs U U.heap)) (vp_Sl (fun r => r = r0)) 0 0 (fun _ => False)
-- contracts that write
abbrev rwP (D : va_G) (T : List (ClassId × FieldType)) (qs : Nat × Nat × Nat) (w0 : va_W) (sz : Nat) (U : State) : Prop := U.heap.size = sz ∧ va_P D vwCl w0 U.heap ∧ kW D T qs (va_A w0 sz) U U.heap ∧ va_D (fun _ => True) w0
abbrev rwB (D : va_G) (w0 w1 : va_W) (sz : Nat) : Unit → State → Prop := fun _ t => va_P D vwCl w1 t.heap ∧ va_D (va_A w0 sz) w1
def RwI (l : Launch) (y : MethodName) (ws : List Cond) (rm : Room) (D : va_G) (T : List (ClassId × FieldType)) (qs : Nat × Nat × Nat) (av : List Value) (w0 w1 : va_W) (r0 : Int32) : Prop := ∀ sz : Nat, Met l y ws rm (va_Pc av (rwP D T qs w0 sz)) (va_Qi (fun r (_ : Unit) => r = r0) (rwB D w0 w1 sz) (va_A w0 sz)) 0 0 (va_A w0 sz)
def RwL (l : Launch) (y : MethodName) (ws : List Cond) (rm : Room) (D : va_G) (T : List (ClassId × FieldType)) (qs : Nat × Nat × Nat) (av : List Value) (w0 w1 : va_W) (r0 : Int64) : Prop := ∀ sz : Nat, Met l y ws rm (va_Pc av (rwP D T qs w0 sz)) (va_Ql (fun r (_ : Unit) => r = r0) (rwB D w0 w1 sz) (va_A w0 sz)) 0 0 (va_A w0 sz)
def RwV (l : Launch) (y : MethodName) (ws : List Cond) (rm : Room) (D : va_G) (T : List (ClassId × FieldType)) (qs : Nat × Nat × Nat) (av : List Value) (w0 w1 : va_W) : Prop := ∀ sz : Nat, Met l y ws rm (va_Pc av (rwP D T qs w0 sz)) (va_Qv (fun (_ : Unit) => True) (rwB D w0 w1 sz) (va_A w0 sz)) 0 0 (va_A w0 sz)
theorem kP_sub {D : va_G} {ws w0 : va_W} {H : Heap} (h : va_P D vwCl ws H) (is : List Nat) (hs : is.map (fun i => ws[i]?) = w0.map some) : va_P D vwCl w0 H := by
  intro k q hk
  have h1 : (is.map (fun i => ws[i]?))[k]? = some (some q) := by rw [hs, List.getElem?_map, hk]; rfl
  rw [List.getElem?_map] at h1
  cases hi : is[k]? with
  | none => rw [hi] at h1; cases h1
  | some i =>
    rw [hi] at h1
    exact h i q (Option.some.inj h1)
theorem nwf_0 {D : va_G} {T : List (ClassId × FieldType)} {U : State} (h : kG D T U) {A : Array Value} : (Cond.fieldLinkNest "MirrorShares" 195 "MirrorShares$Told" "length" "I" "MirrorShares").before A U = true := va_Nw.use rfl (h.2.1 _ (List.mem_of_getElem? (i := 0) rfl))
theorem nwf_1 {D : va_G} {T : List (ClassId × FieldType)} {U : State} (h : kG D T U) {A : Array Value} : (Cond.fieldLinkNest "MirrorShares$Room" 22 "MirrorShares" "FIRST_KINDS" "[I" "MirrorShares").before A U = true := va_Nw.use rfl (h.2.1 _ (List.mem_of_getElem? (i := 1) rfl))
theorem nwf_2 {D : va_G} {T : List (ClassId × FieldType)} {U : State} (h : kG D T U) {A : Array Value} : (Cond.fieldLinkNest "MirrorShares" 99 "MirrorShares$Room" "columns" "I" "MirrorShares").before A U = true := va_Nw.use rfl (h.2.1 _ (List.mem_of_getElem? (i := 2) rfl))
theorem nwf_3 {D : va_G} {T : List (ClassId × FieldType)} {U : State} (h : kG D T U) {A : Array Value} : (Cond.fieldLinkNest "MirrorShares" 59 "MirrorShares$Room" "rows" "I" "MirrorShares").before A U = true := va_Nw.use rfl (h.2.1 _ (List.mem_of_getElem? (i := 3) rfl))
theorem nwf_4 {D : va_G} {T : List (ClassId × FieldType)} {U : State} (h : kG D T U) {A : Array Value} : (Cond.fieldLinkNest "MirrorShares" 108 "MirrorShares$Past" "size" "I" "MirrorShares").before A U = true := va_Nw.use rfl (h.2.1 _ (List.mem_of_getElem? (i := 4) rfl))
theorem nwf_5 {D : va_G} {T : List (ClassId × FieldType)} {U : State} (h : kG D T U) {A : Array Value} : (Cond.fieldLinkNest "MirrorShares" 171 "MirrorShares$Walk" "litCells" "I" "MirrorShares").before A U = true := va_Nw.use rfl (h.2.1 _ (List.mem_of_getElem? (i := 5) rfl))
theorem nwf_6 {D : va_G} {T : List (ClassId × FieldType)} {U : State} (h : kG D T U) {A : Array Value} : (Cond.fieldLinkNest "MirrorShares" 150 "MirrorShares$Beam" "whole" "J" "MirrorShares").before A U = true := va_Nw.use rfl (h.2.1 _ (List.mem_of_getElem? (i := 6) rfl))
theorem nwm_0 {D : va_G} {T : List (ClassId × FieldType)} {U : State} (h : kG D T U) : va_Nw (.methodLinkNest RX5 11 yX3_init RX5) U := h.2.2 _ (List.mem_of_getElem? (i := 0) rfl)
theorem nwm_1 {D : va_G} {T : List (ClassId × FieldType)} {U : State} (h : kG D T U) : va_Nw (.methodLinkNest RX5 28 yX1_init RX5) U := h.2.2 _ (List.mem_of_getElem? (i := 1) rfl)
theorem nwm_2 {D : va_G} {T : List (ClassId × FieldType)} {U : State} (h : kG D T U) : va_Nw (.methodLinkNest RX5 35 yX4_init RX5) U := h.2.2 _ (List.mem_of_getElem? (i := 2) rfl)
theorem nwm_3 {D : va_G} {T : List (ClassId × FieldType)} {U : State} (h : kG D T U) : va_Nw (.methodLinkNest RX5 42 yX0_init RX5) U := h.2.2 _ (List.mem_of_getElem? (i := 3) rfl)
theorem nwm_4 {D : va_G} {T : List (ClassId × FieldType)} {U : State} (h : kG D T U) : va_Nw (.methodLinkNest RX0 95 yX5_isHalf RX5) U := h.2.2 _ (List.mem_of_getElem? (i := 4) rfl)
theorem nwm_5 {D : va_G} {T : List (ClassId × FieldType)} {U : State} (h : kG D T U) : va_Nw (.methodLinkNest RX0 88 yX5_turnedBy RX5) U := h.2.2 _ (List.mem_of_getElem? (i := 5) rfl)
theorem nwm_6 {D : va_G} {T : List (ClassId × FieldType)} {U : State} (h : kG D T U) : va_Nw (.methodLinkNest RX0 99 yX5_letsOn RX5) U := h.2.2 _ (List.mem_of_getElem? (i := 6) rfl)
theorem nwm_7 {D : va_G} {T : List (ClassId × FieldType)} {U : State} (h : kG D T U) : va_Nw (.methodLinkNest RX0 102 yX5_turnsBeam RX5) U := h.2.2 _ (List.mem_of_getElem? (i := 7) rfl)
theorem nwm_8 {D : va_G} {T : List (ClassId × FieldType)} {U : State} (h : kG D T U) : va_Nw (.methodLinkNest RX4 54 yX5_letsOn RX5) U := h.2.2 _ (List.mem_of_getElem? (i := 8) rfl)
theorem nwm_9 {D : va_G} {T : List (ClassId × FieldType)} {U : State} (h : kG D T U) : va_Nw (.methodLinkNest RX4 62 yX5_turnsBeam RX5) U := h.2.2 _ (List.mem_of_getElem? (i := 9) rfl)
theorem nwm_10 {D : va_G} {T : List (ClassId × FieldType)} {U : State} (h : kG D T U) : va_Nw (.methodLinkNest RX4 65 yX5_turnedBy RX5) U := h.2.2 _ (List.mem_of_getElem? (i := 10) rfl)
theorem nar_b0 : narrow .boolean (.int 0) = .int 0 := by decide +kernel
theorem nar_b1 : narrow .boolean (.int 1) = .int 1 := by decide +kernel
theorem nar_b {x : Int32} (h : x = 0 ∨ x = 1) : narrow .boolean (.int x) = .int x := by
  rcases h with h | h <;> rw [h]
  · exact nar_b0
  · exact nar_b1
theorem nar_y0 : narrow .byte (.int 0) = .int 0 := by decide +kernel
abbrev ks_b (j : Nat) : Int32 := (([[46, 47, 92, 102, 98, 35, 111, 120]] : List (List Int32)).getD 0 []).getD j 0
theorem sw_ne {x k : Int32} (h : ¬ x = k) : x.toInt ≠ k.toInt := fun e => h (Int32.toInt_inj.mp e)
theorem sw_out_0_9 {x : Int32} (h0 : ¬ x = 0) (h1 : ¬ x = 1) (h2 : ¬ x = 2) (h3 : ¬ x = 3) (h4 : ¬ x = 4) (h5 : ¬ x = 5) (h6 : ¬ x = 6) (h7 : ¬ x = 7) (h8 : ¬ x = 8) (h9 : ¬ x = 9) : x.toInt < 0 ∨ 9 < x.toInt := by
  have g0 : x.toInt ≠ 0 := sw_ne h0
  have g1 : x.toInt ≠ 1 := sw_ne h1
  have g2 : x.toInt ≠ 2 := sw_ne h2
  have g3 : x.toInt ≠ 3 := sw_ne h3
  have g4 : x.toInt ≠ 4 := sw_ne h4
  have g5 : x.toInt ≠ 5 := sw_ne h5
  have g6 : x.toInt ≠ 6 := sw_ne h6
  have g7 : x.toInt ≠ 7 := sw_ne h7
  have g8 : x.toInt ≠ 8 := sw_ne h8
  have g9 : x.toInt ≠ 9 := sw_ne h9
  omega
theorem sw_out_0_3 {x : Int32} (h0 : ¬ x = 0) (h1 : ¬ x = 1) (h2 : ¬ x = 2) (h3 : ¬ x = 3) : x.toInt < 0 ∨ 3 < x.toInt := by
  have g0 : x.toInt ≠ 0 := sw_ne h0
  have g1 : x.toInt ≠ 1 := sw_ne h1
  have g2 : x.toInt ≠ 2 := sw_ne h2
  have g3 : x.toInt ≠ 3 := sw_ne h3
  omega
theorem sw_out_0_2 {x : Int32} (h0 : ¬ x = 0) (h1 : ¬ x = 1) (h2 : ¬ x = 2) : x.toInt < 0 ∨ 2 < x.toInt := by
  have g0 : x.toInt ≠ 0 := sw_ne h0
  have g1 : x.toInt ≠ 1 := sw_ne h1
  have g2 : x.toInt ≠ 2 := sw_ne h2
  omega
theorem sw_out_1_4 {x : Int32} (h1 : ¬ x = 1) (h2 : ¬ x = 2) (h3 : ¬ x = 3) (h4 : ¬ x = 4) : x.toInt < 1 ∨ 4 < x.toInt := by
  have g1 : x.toInt ≠ 1 := sw_ne h1
  have g2 : x.toInt ≠ 2 := sw_ne h2
  have g3 : x.toInt ≠ 3 := sw_ne h3
  have g4 : x.toInt ≠ 4 := sw_ne h4
  omega
theorem sw_out_0_19 {x : Int32} (h0 : ¬ x = 0) (h1 : ¬ x = 1) (h2 : ¬ x = 2) (h3 : ¬ x = 3) (h4 : ¬ x = 4) (h5 : ¬ x = 5) (h6 : ¬ x = 6) (h7 : ¬ x = 7) (h8 : ¬ x = 8) (h9 : ¬ x = 9) (h10 : ¬ x = 10) (h11 : ¬ x = 11) (h12 : ¬ x = 12) (h13 : ¬ x = 13) (h14 : ¬ x = 14) (h15 : ¬ x = 15) (h16 : ¬ x = 16) (h17 : ¬ x = 17) (h18 : ¬ x = 18) (h19 : ¬ x = 19) : x.toInt < 0 ∨ 19 < x.toInt := by
  have g0 : x.toInt ≠ 0 := sw_ne h0
  have g1 : x.toInt ≠ 1 := sw_ne h1
  have g2 : x.toInt ≠ 2 := sw_ne h2
  have g3 : x.toInt ≠ 3 := sw_ne h3
  have g4 : x.toInt ≠ 4 := sw_ne h4
  have g5 : x.toInt ≠ 5 := sw_ne h5
  have g6 : x.toInt ≠ 6 := sw_ne h6
  have g7 : x.toInt ≠ 7 := sw_ne h7
  have g8 : x.toInt ≠ 8 := sw_ne h8
  have g9 : x.toInt ≠ 9 := sw_ne h9
  have g10 : x.toInt ≠ 10 := sw_ne h10
  have g11 : x.toInt ≠ 11 := sw_ne h11
  have g12 : x.toInt ≠ 12 := sw_ne h12
  have g13 : x.toInt ≠ 13 := sw_ne h13
  have g14 : x.toInt ≠ 14 := sw_ne h14
  have g15 : x.toInt ≠ 15 := sw_ne h15
  have g16 : x.toInt ≠ 16 := sw_ne h16
  have g17 : x.toInt ≠ 17 := sw_ne h17
  have g18 : x.toInt ≠ 18 := sw_ne h18
  have g19 : x.toInt ≠ 19 := sw_ne h19
  omega
def gr_o (r : Nat → Nat) : Nat → Option Nat := fun i => if i < 10 then some (r i) else none
abbrev gr_c (cJ : ClassId) (r : Nat → Nat) (M : Nat → Nat → Int64) : va_W := (List.range 10).map (fun i => (r i, .inl (cJ, 11, .inr (.inl (M i)))))
def gr_u (M : Nat → Nat → Int64) (i j : Nat) (x : Int64) : Nat → Nat → Int64 := fun a => if a = i then vp_updL (M i) j x else M a
/-! a method's own walk gives its contract -/
theorem RoI.of {l : Launch} {y : MethodName} {ws ws' : List Cond} {rm : Room} {D : va_G} {T : List (ClassId × FieldType)} {qs : Nat × Nat × Nat} {av : List Value} {w0 : va_W} {r0 : Int32} {cc : ByteArray} {maxL : Nat} {ty : FieldType} {own : String} (hy : plainName y.cls = true) (ho : y.cls = own) (hw : ws = Cond.code y cc maxL (some ty) :: ws') (hn : (lg_sl av).length ≤ maxL)
    (body : ∀ {p : Program} {e : Env} {s : State} {m : MethodId} {args : Array Value} {below : List Frame} {meth : Method} {c : Code} {Q : State → Prop}, CallFix p m c cc maxL s args ws own → kR D T qs s s.heap → va_P D vwCl w0 s.heap → (∀ (pc : Nat) (ls : Array Slot), decode cc pc = .ok (.ireturn, 1) → narrow ty (.int r0) = .int r0 → W p l e rm s m args below meth c s.heap [] 0 0 Q (F0 m pc ls [.int r0])) → ∀ ls : Array Slot, lv_has ls maxL (lv_args 0 av) → W p l e rm s m args below meth c s.heap [] 0 0 Q (F0 m 0 ls [])) : RoI l y ws rm D T qs av w0 r0 := by
  refine Met.ofW (cc := cc) (maxL := maxL) (ret := some ty) hy hw ?_
  intro p e s m args below meth c s₁ B hml hv
  obtain ⟨rfl, hP, hG⟩ := hv
  have hown : s.vm.findClass own = some m.cls := by rw [← ho]; exact findClass_of_methodNamed B.named
  have hl := lv_entry av (n := maxL) hn
  rw [lg_entry_eq]
  generalize (lg_sl av ++ List.replicate (maxL - (lg_sl av).length) Slot.unset).toArray = ls at hl ⊢
  refine body ⟨B.exec, B.bytes, hml, hown, atoms_spec (ws := ws) B.pre⟩ hG hP (fun pc ls hd hnar => ?_) ls hl
  exact W.zret B.exec B.bytes B.returns hnar (fun t ht hW => ⟨r0, rfl, rfl, ht⟩) (fun q hq => by cases hq) hd B.notSynchronized
theorem RoL.of {l : Launch} {y : MethodName} {ws ws' : List Cond} {rm : Room} {D : va_G} {T : List (ClassId × FieldType)} {qs : Nat × Nat × Nat} {av : List Value} {w0 : va_W} {r0 : Int64} {cc : ByteArray} {maxL : Nat} {own : String} (hy : plainName y.cls = true) (ho : y.cls = own) (hw : ws = Cond.code y cc maxL (some .long) :: ws') (hn : (lg_sl av).length ≤ maxL)
    (body : ∀ {p : Program} {e : Env} {s : State} {m : MethodId} {args : Array Value} {below : List Frame} {meth : Method} {c : Code} {Q : State → Prop}, CallFix p m c cc maxL s args ws own → kR D T qs s s.heap → va_P D vwCl w0 s.heap → (∀ (pc : Nat) (ls : Array Slot), decode cc pc = .ok (.lreturn, 1) → W p l e rm s m args below meth c s.heap [] 0 0 Q (F0 m pc ls [.long r0])) → ∀ ls : Array Slot, lv_has ls maxL (lv_args 0 av) → W p l e rm s m args below meth c s.heap [] 0 0 Q (F0 m 0 ls [])) : RoL l y ws rm D T qs av w0 r0 := by
  refine Met.ofW (cc := cc) (maxL := maxL) (ret := some .long) hy hw ?_
  intro p e s m args below meth c s₁ B hml hv
  obtain ⟨rfl, hP, hG⟩ := hv
  have hown : s.vm.findClass own = some m.cls := by rw [← ho]; exact findClass_of_methodNamed B.named
  have hl := lv_entry av (n := maxL) hn
  rw [lg_entry_eq]
  generalize (lg_sl av ++ List.replicate (maxL - (lg_sl av).length) Slot.unset).toArray = ls at hl ⊢
  refine body ⟨B.exec, B.bytes, hml, hown, atoms_spec (ws := ws) B.pre⟩ hG hP (fun pc ls hd => ?_) ls hl
  exact W.lret B.exec B.bytes B.returns (fun t ht hW => ⟨r0, rfl, rfl, ht⟩) (fun q hq => by cases hq) hd B.notSynchronized
theorem RwI.of {l : Launch} {y : MethodName} {ws ws' : List Cond} {rm : Room} {D : va_G} {T : List (ClassId × FieldType)} {qs : Nat × Nat × Nat} {av : List Value} {w0 w1 : va_W} {r0 : Int32} {cc : ByteArray} {maxL : Nat} {ty : FieldType} {own : String} (hy : plainName y.cls = true) (ho : y.cls = own) (hw : ws = Cond.code y cc maxL (some ty) :: ws') (hn : (lg_sl av).length ≤ maxL)
    (body : ∀ {p : Program} {e : Env} {s : State} {m : MethodId} {args : Array Value} {below : List Frame} {meth : Method} {c : Code} {Q : State → Prop} {A : Nat → Prop}, CallFix p m c cc maxL s args ws own → kW D T qs A s s.heap → (∀ q : Nat, s.heap.size ≤ q → A q) → va_P D vwCl w0 s.heap → va_D A w0 → va_S A s.heap s.heap [] → (∀ (pc : Nat) (H : Heap) (locs : List Loc) (ls : Array Slot), decode cc pc = .ok (.ireturn, 1) → narrow ty (.int r0) = .int r0 → va_P D vwCl w1 H → va_D A w1 → va_S A s.heap H locs → W p l e rm s m args below meth c H locs 0 0 Q (F0 m pc ls [.int r0])) → ∀ ls : Array Slot, lv_has ls maxL (lv_args 0 av) → W p l e rm s m args below meth c s.heap [] 0 0 Q (F0 m 0 ls [])) : RwI l y ws rm D T qs av w0 w1 r0 := by
  intro sz
  refine Met.ofW (cc := cc) (maxL := maxL) (ret := some ty) hy hw ?_
  intro p e s m args below meth c s₁ B hml hv
  obtain ⟨rfl, hsz, hP, hG, hD0⟩ := hv
  subst hsz
  have hown : s.vm.findClass own = some m.cls := by rw [← ho]; exact findClass_of_methodNamed B.named
  have hD := hD0.self (sz := s.heap.size)
  have hl := lv_entry av (n := maxL) hn
  rw [lg_entry_eq]
  generalize (lg_sl av ++ List.replicate (maxL - (lg_sl av).length) Slot.unset).toArray = ls at hl ⊢
  refine body (A := va_A w0 s.heap.size) ⟨B.exec, B.bytes, hml, hown, atoms_spec (ws := ws) B.pre⟩ hG (fun q h => Or.inr h) hP hD va_S.rf (fun pc H locs ls hd hnar hP hD hS => ?_) ls hl
  exact W.zret B.exec B.bytes B.returns hnar (fun t ht hW => ⟨⟨r0, (), rfl, rfl, by rw [ht]; exact hP, hD⟩, hS.F ht⟩) hS.2.2 hd B.notSynchronized
theorem RwL.of {l : Launch} {y : MethodName} {ws ws' : List Cond} {rm : Room} {D : va_G} {T : List (ClassId × FieldType)} {qs : Nat × Nat × Nat} {av : List Value} {w0 w1 : va_W} {r0 : Int64} {cc : ByteArray} {maxL : Nat} {own : String} (hy : plainName y.cls = true) (ho : y.cls = own) (hw : ws = Cond.code y cc maxL (some .long) :: ws') (hn : (lg_sl av).length ≤ maxL)
    (body : ∀ {p : Program} {e : Env} {s : State} {m : MethodId} {args : Array Value} {below : List Frame} {meth : Method} {c : Code} {Q : State → Prop} {A : Nat → Prop}, CallFix p m c cc maxL s args ws own → kW D T qs A s s.heap → (∀ q : Nat, s.heap.size ≤ q → A q) → va_P D vwCl w0 s.heap → va_D A w0 → va_S A s.heap s.heap [] → (∀ (pc : Nat) (H : Heap) (locs : List Loc) (ls : Array Slot), decode cc pc = .ok (.lreturn, 1) → va_P D vwCl w1 H → va_D A w1 → va_S A s.heap H locs → W p l e rm s m args below meth c H locs 0 0 Q (F0 m pc ls [.long r0])) → ∀ ls : Array Slot, lv_has ls maxL (lv_args 0 av) → W p l e rm s m args below meth c s.heap [] 0 0 Q (F0 m 0 ls [])) : RwL l y ws rm D T qs av w0 w1 r0 := by
  intro sz
  refine Met.ofW (cc := cc) (maxL := maxL) (ret := some .long) hy hw ?_
  intro p e s m args below meth c s₁ B hml hv
  obtain ⟨rfl, hsz, hP, hG, hD0⟩ := hv
  subst hsz
  have hown : s.vm.findClass own = some m.cls := by rw [← ho]; exact findClass_of_methodNamed B.named
  have hD := hD0.self (sz := s.heap.size)
  have hl := lv_entry av (n := maxL) hn
  rw [lg_entry_eq]
  generalize (lg_sl av ++ List.replicate (maxL - (lg_sl av).length) Slot.unset).toArray = ls at hl ⊢
  refine body (A := va_A w0 s.heap.size) ⟨B.exec, B.bytes, hml, hown, atoms_spec (ws := ws) B.pre⟩ hG (fun q h => Or.inr h) hP hD va_S.rf (fun pc H locs ls hd hP hD hS => ?_) ls hl
  exact W.lret B.exec B.bytes B.returns (fun t ht hW => ⟨⟨r0, (), rfl, rfl, by rw [ht]; exact hP, hD⟩, hS.F ht⟩) hS.2.2 hd B.notSynchronized
theorem RwV.of {l : Launch} {y : MethodName} {ws ws' : List Cond} {rm : Room} {D : va_G} {T : List (ClassId × FieldType)} {qs : Nat × Nat × Nat} {av : List Value} {w0 w1 : va_W} {cc : ByteArray} {maxL : Nat} {own : String} (hy : plainName y.cls = true) (ho : y.cls = own) (hw : ws = Cond.code y cc maxL none :: ws') (hn : (lg_sl av).length ≤ maxL)
    (body : ∀ {p : Program} {e : Env} {s : State} {m : MethodId} {args : Array Value} {below : List Frame} {meth : Method} {c : Code} {Q : State → Prop} {A : Nat → Prop}, CallFix p m c cc maxL s args ws own → kW D T qs A s s.heap → (∀ q : Nat, s.heap.size ≤ q → A q) → va_P D vwCl w0 s.heap → va_D A w0 → va_S A s.heap s.heap [] → (∀ (pc : Nat) (H : Heap) (locs : List Loc) (ls : Array Slot), decode cc pc = .ok (.return_, 1) → va_P D vwCl w1 H → va_D A w1 → va_S A s.heap H locs → W p l e rm s m args below meth c H locs 0 0 Q (F0 m pc ls [])) → ∀ ls : Array Slot, lv_has ls maxL (lv_args 0 av) → W p l e rm s m args below meth c s.heap [] 0 0 Q (F0 m 0 ls [])) : RwV l y ws rm D T qs av w0 w1 := by
  intro sz
  refine Met.ofW (cc := cc) (maxL := maxL) (ret := none) hy hw ?_
  intro p e s m args below meth c s₁ B hml hv
  obtain ⟨rfl, hsz, hP, hG, hD0⟩ := hv
  subst hsz
  have hown : s.vm.findClass own = some m.cls := by rw [← ho]; exact findClass_of_methodNamed B.named
  have hD := hD0.self (sz := s.heap.size)
  have hl := lv_entry av (n := maxL) hn
  rw [lg_entry_eq]
  generalize (lg_sl av ++ List.replicate (maxL - (lg_sl av).length) Slot.unset).toArray = ls at hl ⊢
  refine body (A := va_A w0 s.heap.size) ⟨B.exec, B.bytes, hml, hown, atoms_spec (ws := ws) B.pre⟩ hG (fun q h => Or.inr h) hP hD va_S.rf (fun pc H locs ls hd hP hD hS => ?_) ls hl
  exact W.vret B.exec B.bytes B.returns (fun t ht hW => ⟨⟨(), rfl, trivial, by rw [ht]; exact hP, hD⟩, hS.F ht⟩) hS.2.2 hd B.notSynchronized
section KC
variable {p : Program} {l : Launch} {e : Env} {R : Room} {s : State} {m : MethodId} {args : Array Value} {below : List Frame} {meth : Method} {c : Code} {H : Heap} {locs : List Loc} {cells slots : Nat} {Q : State → Prop}
variable {cc bytes : ByteArray} {pc nL maxL n index : Nat} {ls : Array Slot} {rest st0 As : List Value} {Ts ws : List Cond} {own C host : String} {y : MethodName} {ret : Option FieldType} {rm : Room} {D : va_G} {T : List (ClassId × FieldType)} {qs : Nat × Nat × Nat} {w0 w1 wf wr w2 : va_W} {b : Addr} {A : Nat → Prop} {H0 : Heap}
/-! what a call needs of the caller's world -/
theorem kc_preRo (hG : kR D T qs s H) (hP : va_P D vwCl w0 H) : FrameBlind (va_Pc As (fun U => va_P D vwCl w0 U.heap ∧ kR D T qs U U.heap)) ∧ ∀ U : State, U.heap = H → s.WarmedH U.vm → va_Pc As (fun U => va_P D vwCl w0 U.heap ∧ kR D T qs U U.heap) As.toArray U :=
  ⟨fun a U g mk q => ⟨q.1, q.2.1, kG.calling q.2.2.1 a g mk, kE.calling q.2.2.2 a g mk⟩, fun U hU hW => ⟨rfl, by rw [hU]; exact hP, hG.1.warm hW, by rw [hU]; exact hG.2.warm hW⟩⟩
theorem kc_preRw (hG : kW D T qs A s H0) (hP : va_P D vwCl w0 H) (hD : va_D A w0) (hS : va_S A H0 H locs) (hF : ∀ q, va_A w0 H.size q → A q) : FrameBlind (va_Pc As (rwP D T qs w0 H.size)) ∧ ∀ U : State, U.heap = H → s.WarmedH U.vm → va_Pc As (rwP D T qs w0 H.size) As.toArray U :=
  ⟨fun a U g mk q => ⟨q.1, q.2.1, q.2.2.1, ⟨kG.calling q.2.2.2.1.1 a g mk, kE.calling q.2.2.2.1.2 a g mk⟩, q.2.2.2.2⟩, fun U hU hW => ⟨rfl, by rw [hU], by rw [hU]; exact hP, ⟨hG.1.warm hW, by rw [hU]; exact ((hG.2.kept hS.2.1).narrow hF).warm hW⟩, hD.weaken (fun _ _ _ _ => trivial)⟩⟩
abbrev RunRoI (p : Program) (l : Launch) (e : Env) (R : Room) (s : State) (m : MethodId) (args : Array Value) (below : List Frame) (meth : Method) (c : Code) (H : Heap) (locs : List Loc) (cells slots : Nat) (g : JFrame) (rest : List Value) (a : Array Value) (r0 : Int32) : Prop := va_Run p l e R s m args below meth c H locs cells slots 0 0 g rest (vp_Si (fun r => r = r0) a) (fun _ => False)
abbrev RunRoL (p : Program) (l : Launch) (e : Env) (R : Room) (s : State) (m : MethodId) (args : Array Value) (below : List Frame) (meth : Method) (c : Code) (H : Heap) (locs : List Loc) (cells slots : Nat) (g : JFrame) (rest : List Value) (a : Array Value) (r0 : Int64) : Prop := va_Run p l e R s m args below meth c H locs cells slots 0 0 g rest (vp_Sl (fun r => r = r0) a) (fun _ => False)
theorem kc_roI {a : Array Value} {r0 : Int32} (hr : RunRoI p l e R s m args below meth c H locs cells slots (F0 m pc ls st0) rest a r0) (kk : W p l e R s m args below meth c H locs cells slots Q (F0 m (pc + 3) ls (.int r0 :: rest))) : W p l e R s m args below meth c H locs cells slots Q (F0 m pc ls st0) := vp_callSi hr.run (fun r h => by rw [h]; exact kk)
theorem kc_roL {a : Array Value} {r0 : Int64} (hr : RunRoL p l e R s m args below meth c H locs cells slots (F0 m pc ls st0) rest a r0) (kk : W p l e R s m args below meth c H locs cells slots Q (F0 m (pc + 3) ls (.long r0 :: rest))) : W p l e R s m args below meth c H locs cells slots Q (F0 m pc ls st0) := vp_callSl hr.run (fun r h => by rw [h]; exact kk)
/-! a call that leaves the heap as it is: V (by a receiver), S (static), N (static, a nest mate's) -/
theorem RoI.callV {r0 : Int32} (hM : RoI l y ws rm D T qs (.ref b :: As) w0 r0) (F : CallFix p m c cc nL s args Ts own) (cw : CallW R s args own C index y bytes maxL ret ws rm 0 0 n) (hG : kR D T qs s H) (hP : va_P D vwCl wf H) (is : List Nat) (hs : is.map (fun i => wf[i]?) = w0.map some) (ci : Nat) {q : u_T × Nat} {fs : List Value} (hc : vwCl[ci]? = some (C, q)) (he : w0[0]? = some (b, .inr (ci, fs))) (hn : As.length = n) (hsz : ls.size = nL) (hst : st0 = As.reverse ++ .ref b :: rest) (hW : (rest.map fun v => v.category).sum ≤ 8) (hdg : decode cc pc = .ok (.invokevirtual index, 3)) (hf : cells ≤ R.cells ∧ slots ≤ R.slots)
    (kk : W p l e R s m args below meth c H locs cells slots Q (F0 m (pc + 3) ls (.int r0 :: rest))) : W p l e R s m args below meth c H locs cells slots Q (F0 m pc ls st0) := by
  have hPc := kP_sub hP is hs
  have h := kc_preRo (As := .ref b :: As) hG hPc
  exact kc_roI (va_runV (As := As) (rest := rest) F hM cw ⟨h.1, va_recv hG.1.1 hPc hc he, h.2⟩ rfl hn hsz hst (lv_room hW) hdg hf) kk
theorem RoL.callV {r0 : Int64} (hM : RoL l y ws rm D T qs (.ref b :: As) w0 r0) (F : CallFix p m c cc nL s args Ts own) (cw : CallW R s args own C index y bytes maxL ret ws rm 0 0 n) (hG : kR D T qs s H) (hP : va_P D vwCl wf H) (is : List Nat) (hs : is.map (fun i => wf[i]?) = w0.map some) (ci : Nat) {q : u_T × Nat} {fs : List Value} (hc : vwCl[ci]? = some (C, q)) (he : w0[0]? = some (b, .inr (ci, fs))) (hn : As.length = n) (hsz : ls.size = nL) (hst : st0 = As.reverse ++ .ref b :: rest) (hW : (rest.map fun v => v.category).sum ≤ 8) (hdg : decode cc pc = .ok (.invokevirtual index, 3)) (hf : cells ≤ R.cells ∧ slots ≤ R.slots)
    (kk : W p l e R s m args below meth c H locs cells slots Q (F0 m (pc + 3) ls (.long r0 :: rest))) : W p l e R s m args below meth c H locs cells slots Q (F0 m pc ls st0) := by
  have hPc := kP_sub hP is hs
  have h := kc_preRo (As := .ref b :: As) hG hPc
  exact kc_roL (va_runV (As := As) (rest := rest) F hM cw ⟨h.1, va_recv hG.1.1 hPc hc he, h.2⟩ rfl hn hsz hst (lv_room hW) hdg hf) kk
theorem RoI.callS {r0 : Int32} (hM : RoI l y ws rm D T qs As w0 r0) (F : CallFix p m c cc nL s args Ts own) (cw : CallB R s args own index y bytes maxL ret ws rm 0 0 n ∧ (Cond.static y).before args s = true) (hG : kR D T qs s H) (hP : va_P D vwCl wf H) (is : List Nat) (hs : is.map (fun i => wf[i]?) = w0.map some) (hn : As.length = n) (hsz : ls.size = nL) (hst : st0 = As.reverse ++ rest) (hW : (rest.map fun v => v.category).sum ≤ 8) (hdg : decode cc pc = .ok (.invokestatic index, 3)) (hf : cells ≤ R.cells ∧ slots ≤ R.slots)
    (kk : W p l e R s m args below meth c H locs cells slots Q (F0 m (pc + 3) ls (.int r0 :: rest))) : W p l e R s m args below meth c H locs cells slots Q (F0 m pc ls st0) :=
  kc_roI (va_runS (As := As) (rest := rest) F hM cw (kc_preRo hG (kP_sub hP is hs)) rfl hn hsz hst (lv_room hW) hdg hf) kk
theorem RoI.callK {r0 : Int32} (hM : RoI l y ws rm D T qs (.ref qs.1 :: As) w0 r0) (F : CallFix p m c cc nL s args Ts own) (cw : CallW R s args own "java/lang/String" index y bytes maxL ret ws rm 0 0 n) (hG : kR D T qs s H) (hP : va_P D vwCl wf H) (is : List Nat) (hs : is.map (fun i => wf[i]?) = w0.map some) (hn : As.length = n) (hsz : ls.size = nL) (hst : st0 = As.reverse ++ .ref qs.1 :: rest) (hW : (rest.map fun v => v.category).sum ≤ 8) (hdg : decode cc pc = .ok (.invokevirtual index, 3)) (hf : cells ≤ R.cells ∧ slots ≤ R.slots)
    (kk : W p l e R s m args below meth c H locs cells slots Q (F0 m (pc + 3) ls (.int r0 :: rest))) : W p l e R s m args below meth c H locs cells slots Q (F0 m pc ls st0) := by
  have hPc := kP_sub hP is hs
  have h := kc_preRo (As := .ref qs.1 :: As) hG hPc
  exact kc_roI (va_runV (As := As) (rest := rest) F hM cw ⟨h.1, (by obtain ⟨cell, h1, h2, h3, -⟩ := (hG.2.2.1.1 0 (by decide)).1; exact ⟨cell, h1, h2, h3⟩), h.2⟩ rfl hn hsz hst (lv_room hW) hdg hf) kk
theorem RoL.callS {r0 : Int64} (hM : RoL l y ws rm D T qs As w0 r0) (F : CallFix p m c cc nL s args Ts own) (cw : CallB R s args own index y bytes maxL ret ws rm 0 0 n ∧ (Cond.static y).before args s = true) (hG : kR D T qs s H) (hP : va_P D vwCl wf H) (is : List Nat) (hs : is.map (fun i => wf[i]?) = w0.map some) (hn : As.length = n) (hsz : ls.size = nL) (hst : st0 = As.reverse ++ rest) (hW : (rest.map fun v => v.category).sum ≤ 8) (hdg : decode cc pc = .ok (.invokestatic index, 3)) (hf : cells ≤ R.cells ∧ slots ≤ R.slots)
    (kk : W p l e R s m args below meth c H locs cells slots Q (F0 m (pc + 3) ls (.long r0 :: rest))) : W p l e R s m args below meth c H locs cells slots Q (F0 m pc ls st0) :=
  kc_roL (va_runS (As := As) (rest := rest) F hM cw (kc_preRo hG (kP_sub hP is hs)) rfl hn hsz hst (lv_room hW) hdg hf) kk
theorem RoI.callN {r0 : Int32} (hM : RoI l y ws rm D T qs As w0 r0) (F : CallFix p m c cc nL s args Ts own) (cw : va_CN R s args own index y host bytes maxL ret ws rm 0 0 n ∧ (Cond.static y).before args s = true ∧ True) (hG : kR D T qs s H) (hP : va_P D vwCl wf H) (is : List Nat) (hs : is.map (fun i => wf[i]?) = w0.map some) (hn : As.length = n) (hsz : ls.size = nL) (hst : st0 = As.reverse ++ rest) (hW : (rest.map fun v => v.category).sum ≤ 8) (hdg : decode cc pc = .ok (.invokestatic index, 3)) (hf : cells ≤ R.cells ∧ slots ≤ R.slots)
    (kk : W p l e R s m args below meth c H locs cells slots Q (F0 m (pc + 3) ls (.int r0 :: rest))) : W p l e R s m args below meth c H locs cells slots Q (F0 m pc ls st0) :=
  kc_roI (va_runSN (As := As) (rest := rest) F hM cw (kc_preRo hG (kP_sub hP is hs)) rfl hn hsz hst (lv_room hW) hdg hf) kk
/-! a call that writes: the caller's world is put together again -/
theorem kc_back {H1 : Heap} (hP : va_P D vwCl wf H) (hD : va_D A wf) (is ir pm : List Nat) (hs : is.map (fun i => wf[i]?) = w0.map some) (hr : ir.map (fun i => wf[i]?) = wr.map some) (hn : va_nd ir = true) (hdis : ∀ i ∈ ir, i ∉ is) (hpm : pm.map (fun i => (wr ++ w1)[i]?) = w2.map some) (hpn : va_nd pm = true) (hk : ∀ q : Nat, q < H.size → ¬ va_A w0 H.size q → H1[q]? = H[q]?) (hF : ∀ q, va_A w0 H.size q → A q) (hP1 : va_P D vwCl w1 H1) (hD1 : va_D (va_A w0 H.size) w1) : va_P D vwCl w2 H1 ∧ va_D A w2 := by
  obtain ⟨h1, h2⟩ := va_join hP hD is ir hs hr hn hdis hk hF hP1 hD1
  exact ⟨kP_sub h1 pm hpm, h2.sub pm hpn hpm⟩
theorem kc_rwI {a : Array Value} {r0 : Int32} (hr : va_Run p l e R s m args below meth c H locs cells slots 0 0 (F0 m pc ls st0) rest (va_Qi (fun r (_ : Unit) => r = r0) (rwB D w0 w1 H.size) (va_A w0 H.size) a) (va_A w0 H.size)) (hP : va_P D vwCl wf H) (hD : va_D A wf) (hS : va_S A H0 H locs) (hA : ∀ q : Nat, H0.size ≤ q → A q) (is ir pm : List Nat) (hs : is.map (fun i => wf[i]?) = w0.map some) (hir : ir.map (fun i => wf[i]?) = wr.map some) (hn : va_nd ir = true) (hdis : ∀ i ∈ ir, i ∉ is) (hpm : pm.map (fun i => (wr ++ w1)[i]?) = w2.map some) (hpn : va_nd pm = true)
    (kk : ∀ (H1 : Heap) (locs1 : List Loc), va_P D vwCl w2 H1 → va_D A w2 → va_S A H0 H1 locs1 → W p l e R s m args below meth c H1 locs1 cells slots Q (F0 m (pc + 3) ls (.int r0 :: rest))) : W p l e R s m args below meth c H locs cells slots Q (F0 m pc ls st0) := by
  have hF := va_free hD hS hA is hs
  refine va_calli hr hS (fun q _ h => hF q h) hF (fun r u t H1 locs1 ht hvm hw hB hz1 hk1 hS1 => ?_)
  obtain ⟨hP1, hD1⟩ := hB
  rw [ht] at hP1
  obtain ⟨g1, g2⟩ := kc_back hP hD is ir pm hs hir hn hdis hpm hpn hk1 hF hP1 hD1
  rw [hw]
  exact kk H1 locs1 g1 g2 hS1
theorem kc_rwL {a : Array Value} {r0 : Int64} (hr : va_Run p l e R s m args below meth c H locs cells slots 0 0 (F0 m pc ls st0) rest (va_Ql (fun r (_ : Unit) => r = r0) (rwB D w0 w1 H.size) (va_A w0 H.size) a) (va_A w0 H.size)) (hP : va_P D vwCl wf H) (hD : va_D A wf) (hS : va_S A H0 H locs) (hA : ∀ q : Nat, H0.size ≤ q → A q) (is ir pm : List Nat) (hs : is.map (fun i => wf[i]?) = w0.map some) (hir : ir.map (fun i => wf[i]?) = wr.map some) (hn : va_nd ir = true) (hdis : ∀ i ∈ ir, i ∉ is) (hpm : pm.map (fun i => (wr ++ w1)[i]?) = w2.map some) (hpn : va_nd pm = true)
    (kk : ∀ (H1 : Heap) (locs1 : List Loc), va_P D vwCl w2 H1 → va_D A w2 → va_S A H0 H1 locs1 → W p l e R s m args below meth c H1 locs1 cells slots Q (F0 m (pc + 3) ls (.long r0 :: rest))) : W p l e R s m args below meth c H locs cells slots Q (F0 m pc ls st0) := by
  have hF := va_free hD hS hA is hs
  refine va_calll hr hS (fun q _ h => hF q h) hF (fun r u t H1 locs1 ht hvm hw hB hz1 hk1 hS1 => ?_)
  obtain ⟨hP1, hD1⟩ := hB
  rw [ht] at hP1
  obtain ⟨g1, g2⟩ := kc_back hP hD is ir pm hs hir hn hdis hpm hpn hk1 hF hP1 hD1
  rw [hw]
  exact kk H1 locs1 g1 g2 hS1
theorem kc_rwV {a : Array Value} (hr : va_Run p l e R s m args below meth c H locs cells slots 0 0 (F0 m pc ls st0) rest (va_Qv (fun (_ : Unit) => True) (rwB D w0 w1 H.size) (va_A w0 H.size) a) (va_A w0 H.size)) (hP : va_P D vwCl wf H) (hD : va_D A wf) (hS : va_S A H0 H locs) (hA : ∀ q : Nat, H0.size ≤ q → A q) (is ir pm : List Nat) (hs : is.map (fun i => wf[i]?) = w0.map some) (hir : ir.map (fun i => wf[i]?) = wr.map some) (hn : va_nd ir = true) (hdis : ∀ i ∈ ir, i ∉ is) (hpm : pm.map (fun i => (wr ++ w1)[i]?) = w2.map some) (hpn : va_nd pm = true)
    (kk : ∀ (H1 : Heap) (locs1 : List Loc), va_P D vwCl w2 H1 → va_D A w2 → va_S A H0 H1 locs1 → W p l e R s m args below meth c H1 locs1 cells slots Q (F0 m (pc + 3) ls rest)) : W p l e R s m args below meth c H locs cells slots Q (F0 m pc ls st0) := by
  have hF := va_free hD hS hA is hs
  refine va_callv hr hS (fun q _ h => hF q h) hF (fun u t H1 locs1 ht hvm hw hB hz1 hk1 hS1 => ?_)
  obtain ⟨hP1, hD1⟩ := hB
  rw [ht] at hP1
  obtain ⟨g1, g2⟩ := kc_back hP hD is ir pm hs hir hn hdis hpm hpn hk1 hF hP1 hD1
  exact kk H1 locs1 g1 g2 hS1
theorem RwI.runV {r0 : Int32} (hM : RwI l y ws rm D T qs (.ref b :: As) w0 w1 r0) (F : CallFix p m c cc nL s args Ts own) (cw : CallW R s args own C index y bytes maxL ret ws rm 0 0 n) (hG : kW D T qs A s H0) (hP : va_P D vwCl wf H) (hD : va_D A wf) (hS : va_S A H0 H locs) (hA : ∀ q : Nat, H0.size ≤ q → A q) (is : List Nat) (hnd : va_nd is = true) (hs : is.map (fun i => wf[i]?) = w0.map some) (ci : Nat) {q : u_T × Nat} {fs : List Value} (hc : vwCl[ci]? = some (C, q)) (he : w0[0]? = some (b, .inr (ci, fs))) (hn : As.length = n) (hsz : ls.size = nL) (hst : st0 = As.reverse ++ .ref b :: rest) (hW : (rest.map fun v => v.category).sum ≤ 8) (hdg : decode cc pc = .ok (.invokevirtual index, 3)) (hf : cells ≤ R.cells ∧ slots ≤ R.slots) :
    va_Run p l e R s m args below meth c H locs cells slots 0 0 (F0 m pc ls st0) rest (va_Qi (fun r (_ : Unit) => r = r0) (rwB D w0 w1 H.size) (va_A w0 H.size) (Value.ref b :: As).toArray) (va_A w0 H.size) := by
  have hPc := kP_sub hP is hs
  have h := kc_preRw (As := .ref b :: As) hG hPc (hD.sub is hnd hs) hS (va_free hD hS hA is hs)
  exact va_runV (As := As) (rest := rest) F (hM H.size) cw ⟨h.1, va_recv hG.1.1 hPc hc he, h.2⟩ rfl hn hsz hst (lv_room hW) hdg hf
theorem RwL.runV {r0 : Int64} (hM : RwL l y ws rm D T qs (.ref b :: As) w0 w1 r0) (F : CallFix p m c cc nL s args Ts own) (cw : CallW R s args own C index y bytes maxL ret ws rm 0 0 n) (hG : kW D T qs A s H0) (hP : va_P D vwCl wf H) (hD : va_D A wf) (hS : va_S A H0 H locs) (hA : ∀ q : Nat, H0.size ≤ q → A q) (is : List Nat) (hnd : va_nd is = true) (hs : is.map (fun i => wf[i]?) = w0.map some) (ci : Nat) {q : u_T × Nat} {fs : List Value} (hc : vwCl[ci]? = some (C, q)) (he : w0[0]? = some (b, .inr (ci, fs))) (hn : As.length = n) (hsz : ls.size = nL) (hst : st0 = As.reverse ++ .ref b :: rest) (hW : (rest.map fun v => v.category).sum ≤ 8) (hdg : decode cc pc = .ok (.invokevirtual index, 3)) (hf : cells ≤ R.cells ∧ slots ≤ R.slots) :
    va_Run p l e R s m args below meth c H locs cells slots 0 0 (F0 m pc ls st0) rest (va_Ql (fun r (_ : Unit) => r = r0) (rwB D w0 w1 H.size) (va_A w0 H.size) (Value.ref b :: As).toArray) (va_A w0 H.size) := by
  have hPc := kP_sub hP is hs
  have h := kc_preRw (As := .ref b :: As) hG hPc (hD.sub is hnd hs) hS (va_free hD hS hA is hs)
  exact va_runV (As := As) (rest := rest) F (hM H.size) cw ⟨h.1, va_recv hG.1.1 hPc hc he, h.2⟩ rfl hn hsz hst (lv_room hW) hdg hf
theorem RwV.runV (hM : RwV l y ws rm D T qs (.ref b :: As) w0 w1) (F : CallFix p m c cc nL s args Ts own) (cw : CallW R s args own C index y bytes maxL ret ws rm 0 0 n) (hG : kW D T qs A s H0) (hP : va_P D vwCl wf H) (hD : va_D A wf) (hS : va_S A H0 H locs) (hA : ∀ q : Nat, H0.size ≤ q → A q) (is : List Nat) (hnd : va_nd is = true) (hs : is.map (fun i => wf[i]?) = w0.map some) (ci : Nat) {q : u_T × Nat} {fs : List Value} (hc : vwCl[ci]? = some (C, q)) (he : w0[0]? = some (b, .inr (ci, fs))) (hn : As.length = n) (hsz : ls.size = nL) (hst : st0 = As.reverse ++ .ref b :: rest) (hW : (rest.map fun v => v.category).sum ≤ 8) (hdg : decode cc pc = .ok (.invokevirtual index, 3)) (hf : cells ≤ R.cells ∧ slots ≤ R.slots) :
    va_Run p l e R s m args below meth c H locs cells slots 0 0 (F0 m pc ls st0) rest (va_Qv (fun (_ : Unit) => True) (rwB D w0 w1 H.size) (va_A w0 H.size) (Value.ref b :: As).toArray) (va_A w0 H.size) := by
  have hPc := kP_sub hP is hs
  have h := kc_preRw (As := .ref b :: As) hG hPc (hD.sub is hnd hs) hS (va_free hD hS hA is hs)
  exact va_runV (As := As) (rest := rest) F (hM H.size) cw ⟨h.1, va_recv hG.1.1 hPc hc he, h.2⟩ rfl hn hsz hst (lv_room hW) hdg hf
theorem RwV.runS (hM : RwV l y ws rm D T qs As w0 w1) (F : CallFix p m c cc nL s args Ts own) (cw : CallB R s args own index y bytes maxL ret ws rm 0 0 n ∧ (Cond.static y).before args s = true) (hG : kW D T qs A s H0) (hP : va_P D vwCl wf H) (hD : va_D A wf) (hS : va_S A H0 H locs) (hA : ∀ q : Nat, H0.size ≤ q → A q) (is : List Nat) (hnd : va_nd is = true) (hs : is.map (fun i => wf[i]?) = w0.map some) (hn : As.length = n) (hsz : ls.size = nL) (hst : st0 = As.reverse ++ rest) (hW : (rest.map fun v => v.category).sum ≤ 8) (hdg : decode cc pc = .ok (.invokestatic index, 3)) (hf : cells ≤ R.cells ∧ slots ≤ R.slots) :
    va_Run p l e R s m args below meth c H locs cells slots 0 0 (F0 m pc ls st0) rest (va_Qv (fun (_ : Unit) => True) (rwB D w0 w1 H.size) (va_A w0 H.size) As.toArray) (va_A w0 H.size) :=
  va_runS (As := As) (rest := rest) F (hM H.size) cw (kc_preRw hG (kP_sub hP is hs) (hD.sub is hnd hs) hS (va_free hD hS hA is hs)) rfl hn hsz hst (lv_room hW) hdg hf
end KC
