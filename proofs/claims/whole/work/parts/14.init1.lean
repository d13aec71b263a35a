/-! ===== the constructors ===== -/
def va_AOA (ty : FieldType) (U : State) : Prop := (Cond.arrayOver (.array ty)).before #[] U = true
theorem va_AOA.use {ty : FieldType} {U : State} {A : Array Value} (h : va_AOA ty U) : (Cond.arrayOver (.array ty)).before A U = true := Jvm.Stand.arrayOver_alikeB (Vm.Alike.refl U.vm) h
theorem va_AOA.same {ty : FieldType} {u U : State} (hv : u.vm = U.vm) (h : va_AOA ty u) : va_AOA ty U := Jvm.Stand.arrayOver_alikeB (hv ▸ Vm.Alike.refl u.vm) h
theorem va_AOA.warm {ty : FieldType} {u U : State} (hW : u.WarmedH U.vm) (h : va_AOA ty u) : va_AOA ty U := Jvm.Stand.arrayOver_alikeB hW.alike h
section VGM
variable {p : Program} {l : Launch} {e : Env} {R : Room} {s : State} {m : MethodId} {args : Array Value} {below : List Frame} {meth : Method} {c : Code} {H : Heap} {locs : List Loc} {cells slots : Nat} {Q : State → Prop}
variable {cc : ByteArray} {pc : Nat} {ls : Array Slot} {rest : List Value} {D : va_G} {cl : List vw_C} {A : Nat → Prop} {a : Nat} {tys : List (ClassId × FieldType)} {ws : va_W} {H0 : Heap}
theorem va_mna {X : va_W} {L : List Nat} {f : Nat → va_E} {cc : ByteArray} (hexec : p.tables.exec = Jvm.exec) (hb : c.code = cc) {own : String} {index : Nat} {ty : FieldType} {cy : ClassId} (hown : s.vm.findClass own = some m.cls) (hclink : (Cond.classLink own index ("[" ++ (FieldType.array ty).toString)).before args s = true) (hover : va_AOA ty s) (harr : (Cond.arrayClass ty).before args s = true) (hcy : s.vm.findClass (FieldType.array ty).toString = some cy)
    (hK : va_K D cl tys s) (hP : va_P D cl (X ++ va_pl L f) H) (hD : va_D A (X ++ va_pl L f)) (hS : va_S A H0 H locs) (hA : ∀ q, H0.size ≤ q → A q) {n k : Int32} {N' K' : Nat} {z : vp_A} (hn : ¬ n < 0) (hk : ¬ k < 0) (hN : n.toNatClampNeg = N') (hM : k.toNatClampNeg = K')
    (hb1 : N' * 4 ≤ 536870912) (hb2 : K' * componentBytes ty ≤ 536870912) (hb3 : K' ≤ 536870912) (hdf : fits ty (defaultValue ty) = true) (hdd : (defaultValue ty).isDefault = true) (hcells : cells + (1 + N') ≤ R.cells) (hslots : slots + (N' + N' * K') ≤ R.slots) (hz : ∀ c : ClassId, Jvm.Free.Multi.innerC c K' (defaultValue ty) = vp_cell c z) (hdg : decode cc pc = .ok (.multianewarray index 2, 4))
    (kk : ∀ (q : Nat) (r : Nat → Nat) (cA : ClassId) (H1 : Heap), (∀ i j : Nat, i < N' → j < N' → r i = r j → i = j) → (∀ i : Nat, i < N' → r i ∉ L) → va_K D cl (tys ++ [(cA, .array ty)]) s →
      va_P D cl ((X ++ [(q, .inl (cA, N', .inr (.inr (.inr (.inr (fun i => if i < N' then some (r i) else none))))))]) ++ va_pl (L ++ (List.range N').map r) (vr_up f ((List.range N').map r) (.inl (cy, z)))) H1 → va_D A ((X ++ [(q, .inl (cA, N', .inr (.inr (.inr (.inr (fun i => if i < N' then some (r i) else none))))))]) ++ va_pl (L ++ (List.range N').map r) (vr_up f ((List.range N').map r) (.inl (cy, z)))) → va_S A H0 H1 locs →
      W p l e R s m args below meth c H1 locs (cells + 1 + N') (slots + N' + N' * K') Q (F0 m (pc + 4) ls (.ref q :: rest))) : W p l e R s m args below meth c H locs cells slots Q (F0 m pc ls (.int k :: .int n :: rest)) := by
  subst hN
  subst hM
  intro T hT Xs
  obtain ⟨vm₁, cA, comp, -, fA, fC, hO, -, X', step⟩ := Xs.multianewarray2F hexec hown hclink (va_AOA.use hover) harr (g := F0 m pc ls (.int k :: .int n :: rest)) rfl (by rw [hb]; exact hdg) rfl hn hk hb1 hb2 hb3 hdf hdd hcells hslots
  have ec : some cy = some comp := hcy.symm.trans fC
  cases ec
  generalize hF : Jvm.Free.Multi.fill (T.setVm vm₁) cA cy n.toNatClampNeg k.toNatClampNeg (defaultValue ty) n.toNatClampNeg = F at X' step
  have hTh : (T.setVm vm₁).heap = H := hT
  obtain ⟨f1, f2, -, -⟩ := Jvm.Free.Multi.fill_facts (T.setVm vm₁) cA cy n.toNatClampNeg k.toNatClampNeg (defaultValue ty) n.toNatClampNeg
  rw [hF, hTh] at f1 f2
  have hold : ∀ x : Nat, x < H.size → F.heap[x]? = H[x]? := fun x hx => by
    have := Jvm.Free.Multi.fill_old (T.setVm vm₁) cA cy n.toNatClampNeg k.toNatClampNeg (defaultValue ty) (a := x) (by rw [hTh]; exact hx) n.toNatClampNeg
    rw [hF, hTh] at this
    exact this
  have hrow : ∀ j : Nat, j < n.toNatClampNeg → F.heap[H.size + 1 + j]? = some (vp_cell cy z) := fun j hj => by
    have := Jvm.Free.Multi.fill_inner (T.setVm vm₁) cA cy n.toNatClampNeg k.toNatClampNeg (defaultValue ty) n.toNatClampNeg j hj
    rw [hF, hTh, hz] at this
    exact this
  have hout : Jvm.Free.Multi.outerC cA n.toNatClampNeg H.size n.toNatClampNeg = vp_cell cA (n.toNatClampNeg, .inr (.inr (.inr (.inr (fun i => if i < n.toNatClampNeg then some (H.size + 1 + i) else none))))) := by
    rw [vp_cell_q]
    exact vr_outer cA n.toNatClampNeg H.size n.toNatClampNeg
  rw [hout] at f2
  have hlt : ∀ a, a ∈ L → a < H.size := fun a ha => by
    obtain ⟨k9, hk9⟩ := va_pl_get (X := X) (f := f) ha
    exact (hP k9 _ hk9).lt
  have hnl : ∀ i : Nat, i < n.toNatClampNeg → H.size + 1 + i ∉ L := fun i _ h => by
    have := hlt _ h
    omega
  have hnm : ∀ a, a ∈ (List.range n.toNatClampNeg).map (fun i => H.size + 1 + i) → a ∉ L := fun a ha h => by
    obtain ⟨i, -, rfl⟩ := List.mem_map.mp ha
    have := hlt _ h
    omega
  have hP0 : va_P D cl (X ++ va_pl L f) F.heap := hP.kept (fun k9 x hx => hold x.1 ((hP k9 x hx).lt))
  have hP1 : va_P D cl ((X ++ va_pl L f) ++ [(H.size, .inl (cA, n.toNatClampNeg, .inr (.inr (.inr (.inr (fun i => if i < n.toNatClampNeg then some (H.size + 1 + i) else none))))))]) F.heap := hP0.app (fun k9 x hx => by
    have h0 : k9 < 1 := (List.getElem?_eq_some_iff.mp hx).1
    rw [show k9 = 0 by omega] at hx
    cases hx
    exact f2)
  have hP2 : va_P D cl (((X ++ va_pl L f) ++ [(H.size, .inl (cA, n.toNatClampNeg, .inr (.inr (.inr (.inr (fun i => if i < n.toNatClampNeg then some (H.size + 1 + i) else none))))))]) ++ ((List.range n.toNatClampNeg).map (fun i => H.size + 1 + i)).map (fun a => (a, .inl (cy, z)))) F.heap := hP1.app (fun k9 x hx => by
    obtain ⟨a, ha, rfl⟩ := List.mem_map.mp (List.mem_of_getElem? hx)
    obtain ⟨i, hi, rfl⟩ := List.mem_map.mp ha
    exact hrow i (List.mem_range.mp hi))
  have hD2 : va_D A (((X ++ va_pl L f) ++ [(H.size, .inl (cA, n.toNatClampNeg, .inr (.inr (.inr (.inr (fun i => if i < n.toNatClampNeg then some (H.size + 1 + i) else none))))))]) ++ ((List.range n.toNatClampNeg).map (fun i => H.size + 1 + i)).map (fun a => (a, .inl (cy, z)))) := by
    have hD1 := hD.push (e := .inl (cA, n.toNatClampNeg, .inr (.inr (.inr (.inr (fun i => if i < n.toNatClampNeg then some (H.size + 1 + i) else none)))))) hP rfl (hA _ hS.1)
    generalize hW1 : (X ++ va_pl L f) ++ [(H.size, .inl (cA, n.toNatClampNeg, .inr (.inr (.inr (.inr (fun i => if i < n.toNatClampNeg then some (H.size + 1 + i) else none))))))] = W1 at hD1 hP1 ⊢
    have hle : ∀ (k9 : Nat) (x : Nat × va_E), W1[k9]? = some x → x.1 ≤ H.size := fun k9 x hx => by
      rw [← hW1] at hx
      by_cases hl : k9 < (X ++ va_pl L f).length
      · rw [List.getElem?_append_left hl] at hx
        exact Nat.le_of_lt ((hP k9 x hx).lt)
      · rw [List.getElem?_append_right (by omega)] at hx
        have h0 : k9 - (X ++ va_pl L f).length < 1 := (List.getElem?_eq_some_iff.mp hx).1
        rw [show k9 - (X ++ va_pl L f).length = 0 by omega] at hx
        cases hx
        exact Nat.le_refl _
    have hr : ∀ (k9 : Nat) (x : Nat × va_E), (((List.range n.toNatClampNeg).map (fun i => H.size + 1 + i)).map (fun a => ((a, .inl (cy, z)) : Nat × va_E)))[k9]? = some x → x.1 = H.size + 1 + k9 := fun k9 x hx => by
      rw [List.getElem?_map, List.getElem?_map] at hx
      by_cases h9 : k9 < n.toNatClampNeg
      · rw [List.getElem?_range h9] at hx
        cases hx
        rfl
      · have hn0 : (List.range n.toNatClampNeg)[k9]? = none := List.getElem?_eq_none (by rw [List.length_range]; omega)
        rw [hn0] at hx
        cases hx
    refine ⟨fun i j x y hi hj hxy => ?_, fun k9 x hx => ?_⟩
    · by_cases h1 : i < W1.length <;> by_cases h2 : j < W1.length
      · rw [List.getElem?_append_left h1] at hi
        rw [List.getElem?_append_left h2] at hj
        exact hD1.1 i j x y hi hj hxy
      · rw [List.getElem?_append_left h1] at hi
        rw [List.getElem?_append_right (by omega)] at hj
        have := hle _ _ hi
        have := hr _ _ hj
        omega
      · rw [List.getElem?_append_right (by omega)] at hi
        rw [List.getElem?_append_left h2] at hj
        have := hle _ _ hj
        have := hr _ _ hi
        omega
      · rw [List.getElem?_append_right (by omega)] at hi hj
        have := hr _ _ hi
        have := hr _ _ hj
        omega
    · by_cases h1 : k9 < W1.length
      · rw [List.getElem?_append_left h1] at hx
        exact hD1.2 k9 x hx
      · rw [List.getElem?_append_right (by omega)] at hx
        have := hr _ _ hx
        exact hA _ (by have := hS.1; omega)
  have hAr : ArrOfT s cA (.array ty) := fun N9 z9 => by
    obtain ⟨-, k9, hk9, cm9, hkk9⟩ := (hO 0 0 0).1
    exact ⟨(fun q hq => by cases hq), k9, hk9, cm9, hkk9⟩
  have hK2 : va_K D cl (tys ++ [(cA, .array ty)]) s := ⟨hK.1, fun k9 x hx => by
    by_cases hl : k9 < tys.length
    · rw [List.getElem?_append_left hl] at hx
      exact hK.2 k9 x hx
    · rw [List.getElem?_append_right (by omega)] at hx
      have h0 : k9 - tys.length < 1 := (List.getElem?_eq_some_iff.mp hx).1
      rw [show k9 - tys.length = 0 by omega] at hx
      cases hx
      exact ⟨hAr, fA⟩⟩
  obtain ⟨t, a1, b1⟩ := kk H.size (fun i => H.size + 1 + i) cA F.heap (fun i j _ _ h => by have h9 : H.size + 1 + i = H.size + 1 + j := h; omega) hnl hK2 (by rw [← vr_rows hnm]; exact vr_lay hP2) (by rw [← vr_rows hnm]; exact vr_layD hD2) ⟨by rw [f1]; have := hS.1; omega, fun x h1 h2 => (hold x (Nat.lt_of_lt_of_le h1 hS.1)).trans (hS.2.1 x h1 h2), hS.2.2⟩ F rfl X'
  refine ⟨t, step t ?_, b1⟩
  have e : T.heap.size = H.size := by rw [hT]
  rw [e]
  exact a1
end VGM
def NwV (l : Launch) (y : MethodName) (ws : List Cond) (rm : Room) (D : va_G) (T : List (ClassId × FieldType)) (qs : Nat × Nat × Nat) (av : List Value) (w0 : va_W) (mc ms : Nat) (w1 : (Nat → Nat) × (Nat → Nat) → va_W) : Prop := ∀ sz : Nat, Met l y ws rm (va_Pc av (fun U => rwP D T qs w0 sz U ∧ va_AOA .long U)) (va_Qv (fun (_ : (Nat → Nat) × (Nat → Nat)) => True) (fun u t => va_P D vwCl (w1 u) t.heap ∧ va_D (va_A w0 sz) (w1 u)) (va_A w0 sz)) mc ms (va_A w0 sz)
theorem NwV.of {l : Launch} {y : MethodName} {ws ws' : List Cond} {rm : Room} {D : va_G} {T : List (ClassId × FieldType)} {qs : Nat × Nat × Nat} {av : List Value} {w0 : va_W} {mc ms : Nat} {w1 : (Nat → Nat) × (Nat → Nat) → va_W} {cc : ByteArray} {maxL : Nat} {own : String} (hy : plainName y.cls = true) (hi : y.name = "<init>") (ho : y.cls = own) (hw : ws = Cond.code y cc maxL none :: ws') (hn : (lg_sl av).length ≤ maxL)
    (body : ∀ {p : Program} {e : Env} {s : State} {m : MethodId} {args : Array Value} {below : List Frame} {meth : Method} {c : Code} {Q : State → Prop} {A : Nat → Prop}, CallFix p m c cc maxL s args ws own → meth.name = "<init>" → kW D T qs A s s.heap → va_AOA .long s → (∀ q : Nat, s.heap.size ≤ q → A q) → va_P D vwCl w0 s.heap → va_D A w0 → va_S A s.heap s.heap [] → (∀ (u : (Nat → Nat) × (Nat → Nat)) (pc : Nat) (H : Heap) (locs : List Loc) (ls : Array Slot), decode cc pc = .ok (.return_, 1) → va_P D vwCl (w1 u) H → va_D A (w1 u) → va_S A s.heap H locs → W p l e rm s m args below meth c H locs mc ms Q (F0 m pc ls [])) → ∀ ls : Array Slot, lv_has ls maxL (lv_args 0 av) → W p l e rm s m args below meth c s.heap [] 0 0 Q (F0 m 0 ls [])) : NwV l y ws rm D T qs av w0 mc ms w1 := by
  intro sz
  refine Met.ofW (cc := cc) (maxL := maxL) (ret := none) hy hw ?_
  intro p e s m args below meth c s₁ B hml hv
  obtain ⟨rfl, ⟨hsz, hP, hG, hD0⟩, hAO⟩ := hv
  subst hsz
  have hown : s.vm.findClass own = some m.cls := by rw [← ho]; exact findClass_of_methodNamed B.named
  have hin : meth.name = "<init>" := by rw [← hi]; exact (name_of_methodNamed B.named B.method).1
  have hD := hD0.self (sz := s.heap.size)
  have hl := lv_entry av (n := maxL) hn
  rw [lg_entry_eq]
  generalize (lg_sl av ++ List.replicate (maxL - (lg_sl av).length) Slot.unset).toArray = ls at hl ⊢
  refine body (A := va_A w0 s.heap.size) ⟨B.exec, B.bytes, hml, hown, atoms_spec (ws := ws) B.pre⟩ hin hG hAO (fun q h => Or.inr h) hP hD va_S.rf (fun u pc H locs ls hd hP hD hS => ?_) ls hl
  exact W.vret B.exec B.bytes B.returns (fun t ht hW => ⟨⟨u, rfl, trivial, by rw [ht]; exact hP, hD⟩, hS.F ht⟩) hS.2.2 hd B.notSynchronized
theorem kl_s {wr : va_W} {x : Nat × va_E} : [wr.length].map (fun i => (wr ++ [x])[i]?) = [x].map some := by
  rw [List.map_singleton, List.getElem?_append_right (Nat.le_refl _), Nat.sub_self]
  rfl
theorem kl_r {wr : va_W} {x : Nat × va_E} : (List.range wr.length).map (fun i => (wr ++ [x])[i]?) = wr.map some := by
  apply List.ext_getElem?
  intro i
  rw [List.getElem?_map, List.getElem?_map]
  by_cases hi : i < wr.length
  · rw [List.getElem?_range hi]
    simp [List.getElem?_append_left hi, List.getElem?_eq_getElem hi]
  · rw [List.getElem?_eq_none (by rw [List.length_range]; omega), List.getElem?_eq_none (by omega)]
    rfl
theorem kl_nd : ∀ n : Nat, va_nd (List.range n) = true := by
  intro n
  have key : ∀ l : List Nat, l.Nodup → va_nd l = true := by
    intro l
    induction l with
    | nil => intro _; rfl
    | cons a l ih =>
      intro h
      have h2 := List.nodup_cons.mp h
      simp [va_nd, h2.1, ih h2.2]
  exact key _ List.nodup_range
section NW
variable {p : Program} {l : Launch} {e : Env} {R : Room} {s : State} {m : MethodId} {args : Array Value} {below : List Frame} {meth : Method} {c : Code} {H : Heap} {locs : List Loc} {cells slots : Nat} {Q : State → Prop}
variable {cc bytes : ByteArray} {pc nL maxL n index mc ms : Nat} {ls : Array Slot} {rest st0 : List Value} {Ts ws : List Cond} {own host : String} {y : MethodName} {rm : Room} {D : va_G} {T : List (ClassId × FieldType)} {qs : Nat × Nat × Nat} {wr : va_W} {x : Nat × va_E} {w1 : (Nat → Nat) × (Nat → Nat) → va_W} {A : Nat → Prop}
theorem nw_pre (hG : kW D T qs A s s.heap) (hAO : va_AOA .long s) (hP : va_P D vwCl (wr ++ [x]) H) (hD : va_D A (wr ++ [x])) (hS : va_S A s.heap H locs) (hA : ∀ q : Nat, s.heap.size ≤ q → A q) : FrameBlind (va_Pc [.ref x.1] (fun U => rwP D T qs [x] H.size U ∧ va_AOA .long U)) ∧ ∀ U : State, U.heap = H → s.WarmedH U.vm → va_Pc [.ref x.1] (fun U => rwP D T qs [x] H.size U ∧ va_AOA .long U) #[.ref x.1] U := by
  have h := kc_preRw (As := [.ref x.1]) hG (kP_sub hP _ kl_s) (hD.sub _ rfl kl_s) hS (va_free hD hS hA _ kl_s)
  exact ⟨fun a U g mk q => ⟨q.1, (h.1 a U g mk ⟨q.1, q.2.1⟩).2, q.2.2.same rfl⟩, fun U hU hW => ⟨rfl, (h.2 U hU hW).2, hAO.warm hW⟩⟩
theorem nw_run (hr : va_Run p l e R s m args below meth c H locs cells slots mc ms (F0 m pc ls st0) rest (va_Qv (fun (_ : (Nat → Nat) × (Nat → Nat)) => True) (fun u t => va_P D vwCl (w1 u) t.heap ∧ va_D (va_A [x] H.size) (w1 u)) (va_A [x] H.size) #[.ref x.1]) (va_A [x] H.size)) (hP : va_P D vwCl (wr ++ [x]) H) (hD : va_D A (wr ++ [x])) (hS : va_S A s.heap H locs) (hA : ∀ q : Nat, s.heap.size ≤ q → A q)
    (kk : ∀ (u : (Nat → Nat) × (Nat → Nat)) (H1 : Heap) (locs1 : List Loc), va_P D vwCl (wr ++ w1 u) H1 → va_D A (wr ++ w1 u) → va_S A s.heap H1 locs1 → W p l e R s m args below meth c H1 locs1 (cells + mc) (slots + ms) Q (F0 m (pc + 3) ls rest)) : W p l e R s m args below meth c H locs cells slots Q (F0 m pc ls st0) := by
  have hF := va_free hD hS hA _ kl_s
  refine va_callv hr hS (fun q _ h => hF q h) hF (fun u t H1 locs1 ht hvm hw hB hz1 hk1 hS1 => ?_)
  obtain ⟨hP1, hD1⟩ := hB
  rw [ht] at hP1
  obtain ⟨g1, g2⟩ := va_join hP hD _ _ kl_s kl_r (kl_nd _) (fun i hi => by rw [List.mem_range] at hi; simp; omega) hk1 hF hP1 hD1
  exact kk u H1 locs1 g1 g2 hS1
theorem NwV.callN (hM : NwV l y ws rm D T qs [.ref x.1] [x] mc ms w1) (F : CallFix p m c cc nL s args Ts own) (cw : va_CN R s args own index y host bytes maxL none ws rm mc ms 0 ∧ y.name = "<init>" ∧ (Cond.instanceMethod y).before args s = true) (hG : kW D T qs A s s.heap) (hAO : va_AOA .long s) (hP : va_P D vwCl (wr ++ [x]) H) (hD : va_D A (wr ++ [x])) (hS : va_S A s.heap H locs) (hA : ∀ q : Nat, s.heap.size ≤ q → A q) (hsz : ls.size = nL) (hst : st0 = .ref x.1 :: rest) (hW : (rest.map fun v => v.category).sum ≤ 8) (hdg : decode cc pc = .ok (.invokespecial index, 3)) (hf : cells + mc ≤ R.cells ∧ slots + ms ≤ R.slots)
    (kk : ∀ (u : (Nat → Nat) × (Nat → Nat)) (H1 : Heap) (locs1 : List Loc), va_P D vwCl (wr ++ w1 u) H1 → va_D A (wr ++ w1 u) → va_S A s.heap H1 locs1 → W p l e R s m args below meth c H1 locs1 (cells + mc) (slots + ms) Q (F0 m (pc + 3) ls rest)) : W p l e R s m args below meth c H locs cells slots Q (F0 m pc ls st0) :=
  nw_run (va_runIN (As := []) (rest := rest) F (hM H.size) cw (nw_pre hG hAO hP hD hS hA) rfl rfl hsz hst (lv_room hW) hdg hf) hP hD hS hA kk
theorem NwV.callI (hM : NwV l y ws rm D T qs [.ref x.1] [x] mc ms w1) (F : CallFix p m c cc nL s args Ts own) (cw : CallB R s args own index y bytes maxL none ws rm mc ms 0 ∧ y.name = "<init>" ∧ (Cond.instanceMethod y).before args s = true) (hG : kW D T qs A s s.heap) (hAO : va_AOA .long s) (hP : va_P D vwCl (wr ++ [x]) H) (hD : va_D A (wr ++ [x])) (hS : va_S A s.heap H locs) (hA : ∀ q : Nat, s.heap.size ≤ q → A q) (hsz : ls.size = nL) (hst : st0 = .ref x.1 :: rest) (hW : (rest.map fun v => v.category).sum ≤ 8) (hdg : decode cc pc = .ok (.invokespecial index, 3)) (hf : cells + mc ≤ R.cells ∧ slots + ms ≤ R.slots)
    (kk : ∀ (u : (Nat → Nat) × (Nat → Nat)) (H1 : Heap) (locs1 : List Loc), va_P D vwCl (wr ++ w1 u) H1 → va_D A (wr ++ w1 u) → va_S A s.heap H1 locs1 → W p l e R s m args below meth c H1 locs1 (cells + mc) (slots + ms) Q (F0 m (pc + 3) ls rest)) : W p l e R s m args below meth c H locs cells slots Q (F0 m pc ls st0) :=
  nw_run (va_runI (As := []) (rest := rest) F (hM H.size) cw (nw_pre hG hAO hP hD hS hA) rfl rfl hsz hst (lv_room hW) hdg hf) hP hD hS hA kk
theorem nw_cls {cI cJ cZ cQ cA : ClassId} (k : Nat) {c0 : ClassId} {ty : FieldType} (hk : (ty4 cI cJ cZ cQ)[k]? = some (c0, ty)) (hp : ∀ C, ty ≠ .object C) (hK : va_K D vwCl (ty4 cI cJ cZ cQ) s) (hK1 : va_K D vwCl (ty4 cI cJ cZ cQ ++ [(cA, ty)]) s) : cA = c0 := by
  have h1 := (hK.2 k _ hk).2
  have h2 := (hK1.2 4 (cA, ty) rfl).2
  cases ty with
  | object C => exact absurd rfl (hp C)
  | _ => exact Option.some.inj (h2.symm.trans h1)
theorem ks_copy {ws : va_W} {a : Nat} (hexec : p.tables.exec = Jvm.exec) (hb : c.code = cc) (hml : c.maxLocals = ls.size) (hown : s.vm.findClass own = some m.cls) (hlink : (Cond.methodLink own index arraycopyName).before args s = true) (hnat : (Cond.native arraycopyName).before args s = true) (hstat : (Cond.static arraycopyName).before args s = true) (hini : (Cond.initialized "java/lang/System").before args s = true)
    (hK : va_K D vwCl T s) (hP : va_P D vwCl ws H) (hD : va_D A ws) (hS : va_S A s.heap H locs) {b0 n0 : Nat} {f : Nat → Int32} (hX : va_T .int b0 n0 (fun j => .int (f j)) A s s.heap) (q1 t1 : Nat) {c1 : ClassId} {n1 : Nat} {g : Nat → Int32} (ha1 : ws[q1]? = some (a, .inl (c1, n1, .inl g))) (ht1 : T[t1]? = some (c1, .int))
    {sp dp n : Int32} (h1 : ¬ sp < 0) (h2 : ¬ dp < 0) (h3 : ¬ n < 0) (h4 : sp.toNatClampNeg + n.toNatClampNeg ≤ n0) (h5 : dp.toNatClampNeg + n.toNatClampNeg ≤ n1)
    (hframes : 1 ≤ R.frames) (hlocals : (rest.map fun v => v.category).sum + (nativeFrameWords "java/lang/System" "arraycopy" 5 + 11) ≤ R.locals) (hdg : decode cc pc = .ok (.invokestatic index, 3))
    (kk : ∀ (H1 : Heap) (locs1 : List Loc), va_P D vwCl (ws.set q1 (a, .inl (c1, n1, .inl (va_cpy f g sp.toNatClampNeg dp.toNatClampNeg n.toNatClampNeg)))) H1 → va_D A (ws.set q1 (a, .inl (c1, n1, .inl (va_cpy f g sp.toNatClampNeg dp.toNatClampNeg n.toNatClampNeg)))) → va_S A s.heap H1 locs1 → W p l e R s m args below meth c H1 locs1 cells slots Q (F0 m (pc + 3) ls rest)) : W p l e R s m args below meth c H locs cells slots Q (F0 m pc ls (.int n :: .int dp :: .ref a :: .int sp :: .ref b0 :: rest)) := by
  have nn : ∀ z : Int32, ¬ z < 0 → z.toInt = (z.toNatClampNeg : Int) := by
    intro z hz
    have hz0 : (0 : Int) ≤ z.toInt := by
      have := Int32.not_lt.mp hz
      simpa using Int32.le_iff_toInt_le.mp this
    show z.toInt = ((z.toInt.toNat : Nat) : Int)
    omega
  intro U hU X
  obtain ⟨scr, hs1, hs2, hs3, hs4, -, hs5, hs7⟩ := hX
  have hc0 : H[b0]? = some scr := by rw [hS.2.1 b0 (Array.getElem?_eq_some_iff.mp hs1).1 hs7]; exact hs1
  have hc1 : H[a]? = some (vp_cell c1 (n1, .inl g)) := hP q1 _ ha1
  obtain ⟨hs6, k0, hk0, cm0, hkk0⟩ := hs2
  obtain ⟨-, k1, hk1, cm1, hkk1⟩ := (hK.2 t1 _ ht1).1 n1 (fun j => .int (g j))
  obtain ⟨vm', X', step⟩ := X.arraycopy hexec hown hlink hnat hstat hini (src := b0) (dst := a) (cs := scr) (cd := vp_cell c1 (n1, .inl g)) (srcPos := sp) (destPos := dp) (n := n) (by rw [hU]; exact hc0) (by rw [hU]; exact hc1)
    hs6 (fun _ h => by cases h) hs3 (fun h => by cases h) hk0 hk1 hkk0 hkk1 (by simp [refKind]) h1 h2 h3
    (by rw [nn sp h1, nn n h3]; omega)
    (by rw [nn dp h2, nn n h3]; show ¬ _ > ((arrV c1 n1 (fun j => .int (g j))).slots.size : Int); rw [arrV_size]; omega)
    (fun vm₁ _ i hi => by
      have e : scr.slots.getD (sp.toNatClampNeg + i) .null = .int (f (sp.toNatClampNeg + i)) := by
        rw [Array.getD_eq_getD_getElem?, hs5 _ (by omega)]
        rfl
      refine ⟨?_, ?_⟩
      · rw [e]
        rfl
      · rw [e]
        exact trivial)
    (g := F0 m pc ls (.int n :: .int dp :: .ref a :: .int sp :: .ref b0 :: rest)) rfl (by rw [hml]) (rest := rest) rfl (by rw [hb]; exact hdg) hframes (by show 2 * 0 + _ + _ ≤ _; omega)
  have e1 : copied scr (vp_cell c1 (n1, .inl g)) sp dp n = vp_cell c1 (n1, .inl (va_cpy f g sp.toNatClampNeg dp.toNatClampNeg n.toNatClampNeg)) := va_copiedX (fun z => .int z) scr c1 f g hs5 h4
  rw [e1] at X' step
  have hl : a < H.size := (Array.getElem?_eq_some_iff.mp hc1).1
  have hheap : ((U.setVm vm').setCell a (vp_cell c1 (n1, .inl (va_cpy f g sp.toNatClampNeg dp.toNatClampNeg n.toNatClampNeg)))).heap = H.setIfInBounds a (vp_cell c1 (n1, .inl (va_cpy f g sp.toNatClampNeg dp.toNatClampNeg n.toNatClampNeg))) := by rw [← hU]; rfl
  have oq : ∀ q : Nat, q ≠ a → (H.setIfInBounds a (vp_cell c1 (n1, .inl (va_cpy f g sp.toNatClampNeg dp.toNatClampNeg n.toNatClampNeg))))[q]? = H[q]? := fun q hq => by simp [Array.getElem?_setIfInBounds, Ne.symm hq]
  obtain ⟨t, a1, b1⟩ := kk _ _ (hP.set hD ha1 (show (H.setIfInBounds a _)[a]? = some _ by simp [Array.getElem?_setIfInBounds, hl]) oq) (hD.set ha1) ⟨by simp; exact hS.1, fun q g1 g2 => by
      rw [oq q (fun e => g2 (by rw [e]; exact hD.2 q1 _ ha1))]
      exact hS.2.1 q g1 g2, fun q hq => by
      rcases List.mem_append.mp hq with h | h
      · exact hS.2.2 q h
      · obtain ⟨z, -, hz⟩ := List.mem_map.mp h
        rw [← hz]
        exact hD.2 q1 _ ha1⟩ _ hheap X'
  exact ⟨t, step t a1, b1⟩
end NW

theorem nw_cJ {D : va_G} {cI cJ cZ cQ : ClassId} {s : State} (hK : va_K D vwCl (ty4 cI cJ cZ cQ) s) : s.vm.findClass (FieldType.array .long).toString = some cJ := (hK.2 1 _ rfl).2
theorem nw_pl {L : List Nat} {e : va_E} {f : Nat → va_E} : va_pl ([] ++ L) (vr_up f L e) = L.map (fun a => (a, e)) := by
  unfold va_pl
  rw [List.nil_append]
  apply List.map_congr_left
  intro a ha
  rw [vr_up_in ha]
theorem nw_go {r : Nat → Nat} {cJ : ClassId} : ((List.range 10).map r).map (fun a => ((a, .inl (cJ, 11, .inr (.inl (fun _ => 0)))) : Nat × va_E)) = gr_c cJ r (fun _ _ => 0) := by
  rw [List.map_map]
  rfl
theorem yd_X3_init : yX3_init.cls ≠ "java/lang/invoke/MethodHandle" ∧ yX3_init.cls ≠ "java/lang/invoke/VarHandle" ∧ (parseMethodDescriptor yX3_init.desc).map (fun d => d.parameters.length) = some 0 := by decide +kernel
theorem kw_X3_init_1 : Cond.methodLink RX3 3 objectInit ∈ wsX3_init := List.mem_of_getElem? (i := 1) rfl
theorem kw_X3_init_2 : Cond.instanceMethod objectInit ∈ wsX3_init := List.mem_of_getElem? (i := 2) rfl
theorem kw_X3_init_3 : Cond.code objectInit ⟨#[0xb1]⟩ 1 none ∈ wsX3_init := List.mem_of_getElem? (i := 3) rfl
theorem kw_X3_init_4 : Cond.arrayClass .int ∈ wsX3_init := List.mem_of_getElem? (i := 4) rfl
theorem ku_X3_init_X3 : ∀ w ∈ u_ws RX3 TX3 2, w ∈ wsX3_init := by decide +kernel
theorem kw_X3_init_5 : Cond.fieldLink RX3 9 "MirrorShares$Told" "letters" "[I" ∈ wsX3_init := List.mem_of_getElem? (i := 5) rfl
theorem kw_X3_init_6 : Cond.fieldLink RX3 15 "MirrorShares$Told" "length" "I" ∈ wsX3_init := List.mem_of_getElem? (i := 6) rfl
set_option maxHeartbeats 4000000 in
set_option maxRecDepth 100000 in
theorem c_X3_init {l : Launch} {D : va_G} {cI cJ cZ cQ : ClassId} {qs : Nat × Nat × Nat} {h0 : Nat} : NwV l yX3_init wsX3_init { frames := 1, cells := 1, slots := 60, locals := 60 } D (ty4 cI cJ cZ cQ) qs [.ref h0] [(h0, .inr (3, [.null, .int 0]))] 1 60 (fun u => [(h0, .inr (3, [.ref (u.1 0), .int 0])), ((u.1 0), .inl (cI, 60, .inl (fun _ => 0)))]) := by
  refine NwV.of (own := RX3) (by decide +kernel) rfl rfl rfl (Nat.le_of_ble_eq_true rfl) ?_
  intro p e s m args below meth c Q A F hin hG hAO hA hP hD hS hret ls hl
  have hx := F.1
  have hb := F.2.1
  have hown := F.2.2.2.1
  have hts := F.2.2.2.2
  have hK := hG.1.1
  have hl : lv_has ls 1 [(0, .ref h0)] := hl
  refine lv_aload_n hx hb dX3_init_0 rfl (lv_at hl 0 rfl) ?_
  refine W.objInit hx hb hown (hts _ kw_X3_init_1) (hts _ kw_X3_init_2) (hts _ kw_X3_init_3) rfl (by rw [F.2.2.1]; exact hl.1) rfl dX3_init_1 (Nat.le_of_ble_eq_true rfl) (Nat.le_of_ble_eq_true rfl) ?_
  refine W.eq (g2 := F0 m 4 ls []) rfl ?_
  refine lv_aload_n hx hb dX3_init_4 rfl (lv_at hl 0 rfl) ?_
  refine lv_bipush (v := (60 : Int32)) hx hb dX3_init_5 (by decide) ?_
  refine va_newa (atype := .int) (ty := .int) (a0 := (60, .inl (fun _ => 0))) hx hb (hts _ kw_X3_init_4) rfl hK hP hD hS hA (fun _ => rfl) (by decide) rfl (Nat.le_of_ble_eq_true rfl) (Nat.le_of_ble_eq_true rfl) (Nat.le_of_ble_eq_true rfl) dX3_init_7 (fun q7 cA9 H hK9 hP hD hS => ?_)
  obtain rfl := (nw_cls 0 rfl (fun _ h9 => by cases h9) hK hK9).symm
  have hP : va_P D vwCl [(h0, .inr (3, [.null, .int 0])), (q7, .inl (cI, 60, .inl (fun _ => 0)))] H := hP
  have hD : va_D A [(h0, .inr (3, [.null, .int 0])), (q7, .inl (cI, 60, .inl (fun _ => 0)))] := hD
  refine va_putF (D := D) (ci := 3) (v := .ref q7) (ty := .array .int) (C := RX3) (T := TX3) (N := 2) hx hb hts ku_X3_init_X3 tyX3 tyX3_ok nmX3 hown hK hP hD hS 0 rfl rfl 0 (by decide) (hts _ kw_X3_init_5) (fun _ h9 => h9) rfl hin rfl (by decide +kernel) rfl rfl (Nat.le_of_ble_eq_true rfl) dX3_init_9 (fun H locs hP hD hS => ?_)
  have hP : va_P D vwCl [(h0, .inr (3, [.ref q7, .int 0])), (q7, .inl (cI, 60, .inl (fun _ => 0)))] H := hP
  have hD : va_D A [(h0, .inr (3, [.ref q7, .int 0])), (q7, .inl (cI, 60, .inl (fun _ => 0)))] := hD
  refine lv_aload_n hx hb dX3_init_12 rfl (lv_at hl 0 rfl) ?_
  refine lv_iconst (v := (0 : Int32)) hx hb dX3_init_13 (by decide) ?_
  refine va_put (D := D) (ci := 3) (v := .int (0 : Int32)) (ty := .int) (C := RX3) (T := TX3) (N := 2) hx hb hts ku_X3_init_X3 tyX3 tyX3_ok nmX3 hown hK hP hD hS 0 rfl rfl 1 (by decide) (hts _ kw_X3_init_6) (fun _ h9 => h9) rfl (by decide +kernel) rfl rfl (Nat.le_of_ble_eq_true rfl) dX3_init_14 (fun H locs hP hD hS => ?_)
  have hP : va_P D vwCl [(h0, .inr (3, [.ref q7, .int (0 : Int32)])), (q7, .inl (cI, 60, .inl (fun _ => 0)))] H := hP
  have hD : va_D A [(h0, .inr (3, [.ref q7, .int (0 : Int32)])), (q7, .inl (cI, 60, .inl (fun _ => 0)))] := hD
  refine W.widen (k := 1) (n := 60) (Nat.le_of_ble_eq_true rfl) (Nat.le_of_ble_eq_true rfl) ?_
  exact hret ((fun k => ([q7] : List Nat).getD k 0), (fun _ => 0)) _ _ _ _ dX3_init_17 hP hD hS
theorem yd_X1_init : yX1_init.cls ≠ "java/lang/invoke/MethodHandle" ∧ yX1_init.cls ≠ "java/lang/invoke/VarHandle" ∧ (parseMethodDescriptor yX1_init.desc).map (fun d => d.parameters.length) = some 0 := by decide +kernel
theorem kw_X1_init_1 : Cond.methodLink RX1 3 objectInit ∈ wsX1_init := List.mem_of_getElem? (i := 1) rfl
theorem kw_X1_init_2 : Cond.instanceMethod objectInit ∈ wsX1_init := List.mem_of_getElem? (i := 2) rfl
theorem kw_X1_init_3 : Cond.code objectInit ⟨#[0xb1]⟩ 1 none ∈ wsX1_init := List.mem_of_getElem? (i := 3) rfl
theorem kw_X1_init_4 : Cond.arrayClass .int ∈ wsX1_init := List.mem_of_getElem? (i := 4) rfl
theorem ku_X1_init_X1 : ∀ w ∈ u_ws RX1 TX1 2, w ∈ wsX1_init := by decide +kernel
theorem kw_X1_init_5 : Cond.fieldLink RX1 9 "MirrorShares$Past" "changes" "[I" ∈ wsX1_init := List.mem_of_getElem? (i := 5) rfl
theorem kw_X1_init_6 : Cond.fieldLink RX1 15 "MirrorShares$Past" "size" "I" ∈ wsX1_init := List.mem_of_getElem? (i := 6) rfl
set_option maxHeartbeats 4000000 in
set_option maxRecDepth 100000 in
theorem c_X1_init {l : Launch} {D : va_G} {cI cJ cZ cQ : ClassId} {qs : Nat × Nat × Nat} {h0 : Nat} : NwV l yX1_init wsX1_init { frames := 1, cells := 1, slots := 4, locals := 60 } D (ty4 cI cJ cZ cQ) qs [.ref h0] [(h0, .inr (1, [.null, .int 0]))] 1 4 (fun u => [(h0, .inr (1, [.ref (u.1 0), .int 0])), ((u.1 0), .inl (cI, 4, .inl (fun _ => 0)))]) := by
  refine NwV.of (own := RX1) (by decide +kernel) rfl rfl rfl (Nat.le_of_ble_eq_true rfl) ?_
  intro p e s m args below meth c Q A F hin hG hAO hA hP hD hS hret ls hl
  have hx := F.1
  have hb := F.2.1
  have hown := F.2.2.2.1
  have hts := F.2.2.2.2
  have hK := hG.1.1
  have hl : lv_has ls 1 [(0, .ref h0)] := hl
  refine lv_aload_n hx hb dX1_init_0 rfl (lv_at hl 0 rfl) ?_
  refine W.objInit hx hb hown (hts _ kw_X1_init_1) (hts _ kw_X1_init_2) (hts _ kw_X1_init_3) rfl (by rw [F.2.2.1]; exact hl.1) rfl dX1_init_1 (Nat.le_of_ble_eq_true rfl) (Nat.le_of_ble_eq_true rfl) ?_
  refine W.eq (g2 := F0 m 4 ls []) rfl ?_
  refine lv_aload_n hx hb dX1_init_4 rfl (lv_at hl 0 rfl) ?_
  refine lv_iconst (v := (4 : Int32)) hx hb dX1_init_5 (by decide) ?_
  refine va_newa (atype := .int) (ty := .int) (a0 := (4, .inl (fun _ => 0))) hx hb (hts _ kw_X1_init_4) rfl hK hP hD hS hA (fun _ => rfl) (by decide) rfl (Nat.le_of_ble_eq_true rfl) (Nat.le_of_ble_eq_true rfl) (Nat.le_of_ble_eq_true rfl) dX1_init_6 (fun q6 cA9 H hK9 hP hD hS => ?_)
  obtain rfl := (nw_cls 0 rfl (fun _ h9 => by cases h9) hK hK9).symm
  have hP : va_P D vwCl [(h0, .inr (1, [.null, .int 0])), (q6, .inl (cI, 4, .inl (fun _ => 0)))] H := hP
  have hD : va_D A [(h0, .inr (1, [.null, .int 0])), (q6, .inl (cI, 4, .inl (fun _ => 0)))] := hD
  refine va_putF (D := D) (ci := 1) (v := .ref q6) (ty := .array .int) (C := RX1) (T := TX1) (N := 2) hx hb hts ku_X1_init_X1 tyX1 tyX1_ok nmX1 hown hK hP hD hS 0 rfl rfl 0 (by decide) (hts _ kw_X1_init_5) (fun _ h9 => h9) rfl hin rfl (by decide +kernel) rfl rfl (Nat.le_of_ble_eq_true rfl) dX1_init_8 (fun H locs hP hD hS => ?_)
  have hP : va_P D vwCl [(h0, .inr (1, [.ref q6, .int 0])), (q6, .inl (cI, 4, .inl (fun _ => 0)))] H := hP
  have hD : va_D A [(h0, .inr (1, [.ref q6, .int 0])), (q6, .inl (cI, 4, .inl (fun _ => 0)))] := hD
  refine lv_aload_n hx hb dX1_init_11 rfl (lv_at hl 0 rfl) ?_
  refine lv_iconst (v := (0 : Int32)) hx hb dX1_init_12 (by decide) ?_
  refine va_put (D := D) (ci := 1) (v := .int (0 : Int32)) (ty := .int) (C := RX1) (T := TX1) (N := 2) hx hb hts ku_X1_init_X1 tyX1 tyX1_ok nmX1 hown hK hP hD hS 0 rfl rfl 1 (by decide) (hts _ kw_X1_init_6) (fun _ h9 => h9) rfl (by decide +kernel) rfl rfl (Nat.le_of_ble_eq_true rfl) dX1_init_13 (fun H locs hP hD hS => ?_)
  have hP : va_P D vwCl [(h0, .inr (1, [.ref q6, .int (0 : Int32)])), (q6, .inl (cI, 4, .inl (fun _ => 0)))] H := hP
  have hD : va_D A [(h0, .inr (1, [.ref q6, .int (0 : Int32)])), (q6, .inl (cI, 4, .inl (fun _ => 0)))] := hD
  refine W.widen (k := 1) (n := 4) (Nat.le_of_ble_eq_true rfl) (Nat.le_of_ble_eq_true rfl) ?_
  exact hret ((fun k => ([q6] : List Nat).getD k 0), (fun _ => 0)) _ _ _ _ dX1_init_16 hP hD hS
theorem yd_X2_init : yX2_init.cls ≠ "java/lang/invoke/MethodHandle" ∧ yX2_init.cls ≠ "java/lang/invoke/VarHandle" ∧ (parseMethodDescriptor yX2_init.desc).map (fun d => d.parameters.length) = some 0 := by decide +kernel
theorem kw_X2_init_1 : Cond.methodLink RX2 3 objectInit ∈ wsX2_init := List.mem_of_getElem? (i := 1) rfl
theorem kw_X2_init_2 : Cond.instanceMethod objectInit ∈ wsX2_init := List.mem_of_getElem? (i := 2) rfl
theorem kw_X2_init_3 : Cond.code objectInit ⟨#[0xb1]⟩ 1 none ∈ wsX2_init := List.mem_of_getElem? (i := 3) rfl
theorem kw_X2_init_4 : Cond.arrayClass .int ∈ wsX2_init := List.mem_of_getElem? (i := 4) rfl
theorem ku_X2_init_X2 : ∀ w ∈ u_ws RX2 TX2 3, w ∈ wsX2_init := by decide +kernel
theorem kw_X2_init_5 : Cond.fieldLink RX2 9 "MirrorShares$Room" "kinds" "[I" ∈ wsX2_init := List.mem_of_getElem? (i := 5) rfl
theorem kw_X2_init_6 : Cond.fieldLink RX2 15 "MirrorShares$Room" "columns" "I" ∈ wsX2_init := List.mem_of_getElem? (i := 6) rfl
theorem kw_X2_init_7 : Cond.fieldLink RX2 19 "MirrorShares$Room" "rows" "I" ∈ wsX2_init := List.mem_of_getElem? (i := 7) rfl
theorem kw_X2_init_8 : Cond.methodLink RX2 25 arraycopyName ∈ wsX2_init := List.mem_of_getElem? (i := 8) rfl
theorem kw_X2_init_9 : Cond.native arraycopyName ∈ wsX2_init := List.mem_of_getElem? (i := 9) rfl
theorem kw_X2_init_10 : Cond.static arraycopyName ∈ wsX2_init := List.mem_of_getElem? (i := 10) rfl
theorem kw_X2_init_11 : Cond.initialized "java/lang/System" ∈ wsX2_init := List.mem_of_getElem? (i := 11) rfl
set_option maxHeartbeats 4000000 in
set_option maxRecDepth 100000 in
theorem c_X2_init {l : Launch} {D : va_G} {cI cJ cZ cQ : ClassId} {qs : Nat × Nat × Nat} {h0 : Nat} : NwV l yX2_init wsX2_init { frames := 1, cells := 1, slots := 20, locals := 60 } D (ty4 cI cJ cZ cQ) qs [.ref h0] [(h0, .inr (2, [.null, .int 0, .int 0]))] 1 20 (fun u => [(h0, .inr (2, [.ref (u.1 0), .int 4, .int 3])), ((u.1 0), .inl (cI, 20, .inl (va_cpy fk_f (fun _ => 0) (Int32.toNatClampNeg 0) (Int32.toNatClampNeg 0) (Int32.toNatClampNeg 12))))]) := by
  refine NwV.of (own := RX2) (by decide +kernel) rfl rfl rfl (Nat.le_of_ble_eq_true rfl) ?_
  intro p e s m args below meth c Q A F hin hG hAO hA hP hD hS hret ls hl
  have hx := F.1
  have hb := F.2.1
  have hown := F.2.2.2.1
  have hts := F.2.2.2.2
  have hK := hG.1.1
  have hl : lv_has ls 1 [(0, .ref h0)] := hl
  refine lv_aload_n hx hb dX2_init_0 rfl (lv_at hl 0 rfl) ?_
  refine W.objInit hx hb hown (hts _ kw_X2_init_1) (hts _ kw_X2_init_2) (hts _ kw_X2_init_3) rfl (by rw [F.2.2.1]; exact hl.1) rfl dX2_init_1 (Nat.le_of_ble_eq_true rfl) (Nat.le_of_ble_eq_true rfl) ?_
  refine W.eq (g2 := F0 m 4 ls []) rfl ?_
  refine lv_aload_n hx hb dX2_init_4 rfl (lv_at hl 0 rfl) ?_
  refine lv_bipush (v := (20 : Int32)) hx hb dX2_init_5 (by decide) ?_
  refine va_newa (atype := .int) (ty := .int) (a0 := (20, .inl (fun _ => 0))) hx hb (hts _ kw_X2_init_4) rfl hK hP hD hS hA (fun _ => rfl) (by decide) rfl (Nat.le_of_ble_eq_true rfl) (Nat.le_of_ble_eq_true rfl) (Nat.le_of_ble_eq_true rfl) dX2_init_7 (fun q7 cA9 H hK9 hP hD hS => ?_)
  obtain rfl := (nw_cls 0 rfl (fun _ h9 => by cases h9) hK hK9).symm
  have hP : va_P D vwCl [(h0, .inr (2, [.null, .int 0, .int 0])), (q7, .inl (cI, 20, .inl (fun _ => 0)))] H := hP
  have hD : va_D A [(h0, .inr (2, [.null, .int 0, .int 0])), (q7, .inl (cI, 20, .inl (fun _ => 0)))] := hD
  refine va_putF (D := D) (ci := 2) (v := .ref q7) (ty := .array .int) (C := RX2) (T := TX2) (N := 3) hx hb hts ku_X2_init_X2 tyX2 tyX2_ok nmX2 hown hK hP hD hS 0 rfl rfl 0 (by decide) (hts _ kw_X2_init_5) (fun _ h9 => h9) rfl hin rfl (by decide +kernel) rfl rfl (Nat.le_of_ble_eq_true rfl) dX2_init_9 (fun H locs hP hD hS => ?_)
  have hP : va_P D vwCl [(h0, .inr (2, [.ref q7, .int 0, .int 0])), (q7, .inl (cI, 20, .inl (fun _ => 0)))] H := hP
  have hD : va_D A [(h0, .inr (2, [.ref q7, .int 0, .int 0])), (q7, .inl (cI, 20, .inl (fun _ => 0)))] := hD
  refine lv_aload_n hx hb dX2_init_12 rfl (lv_at hl 0 rfl) ?_
  refine lv_iconst (v := (4 : Int32)) hx hb dX2_init_13 (by decide) ?_
  refine va_put (D := D) (ci := 2) (v := .int (4 : Int32)) (ty := .int) (C := RX2) (T := TX2) (N := 3) hx hb hts ku_X2_init_X2 tyX2 tyX2_ok nmX2 hown hK hP hD hS 0 rfl rfl 1 (by decide) (hts _ kw_X2_init_6) (fun _ h9 => h9) rfl (by decide +kernel) rfl rfl (Nat.le_of_ble_eq_true rfl) dX2_init_14 (fun H locs hP hD hS => ?_)
  have hP : va_P D vwCl [(h0, .inr (2, [.ref q7, .int (4 : Int32), .int 0])), (q7, .inl (cI, 20, .inl (fun _ => 0)))] H := hP
  have hD : va_D A [(h0, .inr (2, [.ref q7, .int (4 : Int32), .int 0])), (q7, .inl (cI, 20, .inl (fun _ => 0)))] := hD
  refine lv_aload_n hx hb dX2_init_17 rfl (lv_at hl 0 rfl) ?_
  refine lv_iconst (v := (3 : Int32)) hx hb dX2_init_18 (by decide) ?_
  refine va_put (D := D) (ci := 2) (v := .int (3 : Int32)) (ty := .int) (C := RX2) (T := TX2) (N := 3) hx hb hts ku_X2_init_X2 tyX2 tyX2_ok nmX2 hown hK hP hD hS 0 rfl rfl 2 (by decide) (hts _ kw_X2_init_7) (fun _ h9 => h9) rfl (by decide +kernel) rfl rfl (Nat.le_of_ble_eq_true rfl) dX2_init_19 (fun H locs hP hD hS => ?_)
  have hP : va_P D vwCl [(h0, .inr (2, [.ref q7, .int (4 : Int32), .int (3 : Int32)])), (q7, .inl (cI, 20, .inl (fun _ => 0)))] H := hP
  have hD : va_D A [(h0, .inr (2, [.ref q7, .int (4 : Int32), .int (3 : Int32)])), (q7, .inl (cI, 20, .inl (fun _ => 0)))] := hD
  refine va_getsN (host := "MirrorShares") hx hb hG.2.2.2.2.1 hS hown (nwf_1 hG.1) (fun _ h9 => h9) dX2_init_22 ?_
  refine lv_iconst (v := (0 : Int32)) hx hb dX2_init_25 (by decide) ?_
  refine lv_aload_n hx hb dX2_init_26 rfl (lv_at hl 0 rfl) ?_
  refine va_get (D := D) (ci := 2) (v := .ref q7) (C := RX2) (T := TX2) (N := 3) hx hb hts ku_X2_init_X2 hown hK hP 0 rfl rfl 0 (by decide) (hts _ kw_X2_init_5) (fun _ h9 => h9) rfl dX2_init_27 ?_
  refine lv_iconst (v := (0 : Int32)) hx hb dX2_init_30 (by decide) ?_
  refine va_getsN (host := "MirrorShares") hx hb hG.2.2.2.2.1 hS hown (nwf_1 hG.1) (fun _ h9 => h9) dX2_init_31 ?_
  refine va_tlen (v := (12 : Int32)) hx hb hG.2.2.2.2.2 hS rfl dX2_init_34 ?_
  refine ks_copy hx hb (by rw [F.2.2.1]; exact hl.1.symm) hown (hts _ kw_X2_init_8) (hts _ kw_X2_init_9) (hts _ kw_X2_init_10) (hts _ kw_X2_init_11) hK hP hD hS hG.2.2.2.2.2 1 0 rfl rfl (by decide) (by decide) (by decide) (by decide) (by decide) (Nat.le_of_ble_eq_true rfl) (Nat.le_of_ble_eq_true rfl) dX2_init_35 (fun H locs hP hD hS => ?_)
  have hP : va_P D vwCl [(h0, .inr (2, [.ref q7, .int (4 : Int32), .int (3 : Int32)])), (q7, .inl (cI, 20, .inl (va_cpy fk_f (fun _ => 0) (Int32.toNatClampNeg 0) (Int32.toNatClampNeg 0) (Int32.toNatClampNeg 12))))] H := hP
  have hD : va_D A [(h0, .inr (2, [.ref q7, .int (4 : Int32), .int (3 : Int32)])), (q7, .inl (cI, 20, .inl (va_cpy fk_f (fun _ => 0) (Int32.toNatClampNeg 0) (Int32.toNatClampNeg 0) (Int32.toNatClampNeg 12))))] := hD
  refine W.widen (k := 1) (n := 20) (Nat.le_of_ble_eq_true rfl) (Nat.le_of_ble_eq_true rfl) ?_
  exact hret ((fun k => ([q7] : List Nat).getD k 0), (fun _ => 0)) _ _ _ _ dX2_init_38 hP hD hS
theorem yd_X4_init : yX4_init.cls ≠ "java/lang/invoke/MethodHandle" ∧ yX4_init.cls ≠ "java/lang/invoke/VarHandle" ∧ (parseMethodDescriptor yX4_init.desc).map (fun d => d.parameters.length) = some 0 := by decide +kernel
theorem kw_X4_init_1 : Cond.methodLink RX4 3 objectInit ∈ wsX4_init := List.mem_of_getElem? (i := 1) rfl
theorem kw_X4_init_2 : Cond.instanceMethod objectInit ∈ wsX4_init := List.mem_of_getElem? (i := 2) rfl
theorem kw_X4_init_3 : Cond.code objectInit ⟨#[0xb1]⟩ 1 none ∈ wsX4_init := List.mem_of_getElem? (i := 3) rfl
theorem kw_X4_init_4 : Cond.arrayClass .int ∈ wsX4_init := List.mem_of_getElem? (i := 4) rfl
theorem ku_X4_init_X4 : ∀ w ∈ u_ws RX4 TX4 5, w ∈ wsX4_init := by decide +kernel
theorem kw_X4_init_5 : Cond.fieldLink RX4 11 "MirrorShares$Walk" "queue" "[I" ∈ wsX4_init := List.mem_of_getElem? (i := 5) rfl
theorem kw_X4_init_6 : Cond.fieldLink RX4 15 "MirrorShares$Walk" "cellsTo" "[I" ∈ wsX4_init := List.mem_of_getElem? (i := 6) rfl
theorem kw_X4_init_7 : Cond.fieldLink RX4 18 "MirrorShares$Walk" "cellsToPort" "[I" ∈ wsX4_init := List.mem_of_getElem? (i := 7) rfl
theorem kw_X4_init_8 : Cond.fieldLink RX4 21 "MirrorShares$Walk" "waiting" "I" ∈ wsX4_init := List.mem_of_getElem? (i := 8) rfl
theorem kw_X4_init_9 : Cond.fieldLink RX4 25 "MirrorShares$Walk" "litCells" "I" ∈ wsX4_init := List.mem_of_getElem? (i := 9) rfl
set_option maxHeartbeats 4000000 in
set_option maxRecDepth 100000 in
theorem c_X4_init {l : Launch} {D : va_G} {cI cJ cZ cQ : ClassId} {qs : Nat × Nat × Nat} {h0 : Nat} : NwV l yX4_init wsX4_init { frames := 1, cells := 3, slots := 178, locals := 60 } D (ty4 cI cJ cZ cQ) qs [.ref h0] [(h0, .inr (4, [.null, .null, .null, .int 0, .int 0]))] 3 178 (fun u => [(h0, .inr (4, [.ref (u.1 0), .ref (u.1 1), .ref (u.1 2), .int 0, .int 0])), ((u.1 0), .inl (cI, 80, .inl (fun _ => 0))), ((u.1 1), .inl (cI, 80, .inl (fun _ => 0))), ((u.1 2), .inl (cI, 18, .inl (fun _ => 0)))]) := by
  refine NwV.of (own := RX4) (by decide +kernel) rfl rfl rfl (Nat.le_of_ble_eq_true rfl) ?_
  intro p e s m args below meth c Q A F hin hG hAO hA hP hD hS hret ls hl
  have hx := F.1
  have hb := F.2.1
  have hown := F.2.2.2.1
  have hts := F.2.2.2.2
  have hK := hG.1.1
  have hl : lv_has ls 1 [(0, .ref h0)] := hl
  refine lv_aload_n hx hb dX4_init_0 rfl (lv_at hl 0 rfl) ?_
  refine W.objInit hx hb hown (hts _ kw_X4_init_1) (hts _ kw_X4_init_2) (hts _ kw_X4_init_3) rfl (by rw [F.2.2.1]; exact hl.1) rfl dX4_init_1 (Nat.le_of_ble_eq_true rfl) (Nat.le_of_ble_eq_true rfl) ?_
  refine W.eq (g2 := F0 m 4 ls []) rfl ?_
  refine lv_aload_n hx hb dX4_init_4 rfl (lv_at hl 0 rfl) ?_
  refine lv_bipush (v := (80 : Int32)) hx hb dX4_init_5 (by decide) ?_
  refine va_newa (atype := .int) (ty := .int) (a0 := (80, .inl (fun _ => 0))) hx hb (hts _ kw_X4_init_4) rfl hK hP hD hS hA (fun _ => rfl) (by decide) rfl (Nat.le_of_ble_eq_true rfl) (Nat.le_of_ble_eq_true rfl) (Nat.le_of_ble_eq_true rfl) dX4_init_7 (fun q7 cA9 H hK9 hP hD hS => ?_)
  obtain rfl := (nw_cls 0 rfl (fun _ h9 => by cases h9) hK hK9).symm
  have hP : va_P D vwCl [(h0, .inr (4, [.null, .null, .null, .int 0, .int 0])), (q7, .inl (cI, 80, .inl (fun _ => 0)))] H := hP
  have hD : va_D A [(h0, .inr (4, [.null, .null, .null, .int 0, .int 0])), (q7, .inl (cI, 80, .inl (fun _ => 0)))] := hD
  refine va_putF (D := D) (ci := 4) (v := .ref q7) (ty := .array .int) (C := RX4) (T := TX4) (N := 5) hx hb hts ku_X4_init_X4 tyX4 tyX4_ok nmX4 hown hK hP hD hS 0 rfl rfl 0 (by decide) (hts _ kw_X4_init_5) (fun _ h9 => h9) rfl hin rfl (by decide +kernel) rfl rfl (Nat.le_of_ble_eq_true rfl) dX4_init_9 (fun H locs hP hD hS => ?_)
  have hP : va_P D vwCl [(h0, .inr (4, [.ref q7, .null, .null, .int 0, .int 0])), (q7, .inl (cI, 80, .inl (fun _ => 0)))] H := hP
  have hD : va_D A [(h0, .inr (4, [.ref q7, .null, .null, .int 0, .int 0])), (q7, .inl (cI, 80, .inl (fun _ => 0)))] := hD
  refine lv_aload_n hx hb dX4_init_12 rfl (lv_at hl 0 rfl) ?_
  refine lv_bipush (v := (80 : Int32)) hx hb dX4_init_13 (by decide) ?_
  refine va_newa (atype := .int) (ty := .int) (a0 := (80, .inl (fun _ => 0))) hx hb (hts _ kw_X4_init_4) rfl hK hP hD hS hA (fun _ => rfl) (by decide) rfl (Nat.le_of_ble_eq_true rfl) (Nat.le_of_ble_eq_true rfl) (Nat.le_of_ble_eq_true rfl) dX4_init_15 (fun q15 cA9 H hK9 hP hD hS => ?_)
  obtain rfl := (nw_cls 0 rfl (fun _ h9 => by cases h9) hK hK9).symm
  have hP : va_P D vwCl [(h0, .inr (4, [.ref q7, .null, .null, .int 0, .int 0])), (q7, .inl (cI, 80, .inl (fun _ => 0))), (q15, .inl (cI, 80, .inl (fun _ => 0)))] H := hP
  have hD : va_D A [(h0, .inr (4, [.ref q7, .null, .null, .int 0, .int 0])), (q7, .inl (cI, 80, .inl (fun _ => 0))), (q15, .inl (cI, 80, .inl (fun _ => 0)))] := hD
  refine va_putF (D := D) (ci := 4) (v := .ref q15) (ty := .array .int) (C := RX4) (T := TX4) (N := 5) hx hb hts ku_X4_init_X4 tyX4 tyX4_ok nmX4 hown hK hP hD hS 0 rfl rfl 1 (by decide) (hts _ kw_X4_init_6) (fun _ h9 => h9) rfl hin rfl (by decide +kernel) rfl rfl (Nat.le_of_ble_eq_true rfl) dX4_init_17 (fun H locs hP hD hS => ?_)
  have hP : va_P D vwCl [(h0, .inr (4, [.ref q7, .ref q15, .null, .int 0, .int 0])), (q7, .inl (cI, 80, .inl (fun _ => 0))), (q15, .inl (cI, 80, .inl (fun _ => 0)))] H := hP
  have hD : va_D A [(h0, .inr (4, [.ref q7, .ref q15, .null, .int 0, .int 0])), (q7, .inl (cI, 80, .inl (fun _ => 0))), (q15, .inl (cI, 80, .inl (fun _ => 0)))] := hD
  refine lv_aload_n hx hb dX4_init_20 rfl (lv_at hl 0 rfl) ?_
  refine lv_bipush (v := (18 : Int32)) hx hb dX4_init_21 (by decide) ?_
  refine va_newa (atype := .int) (ty := .int) (a0 := (18, .inl (fun _ => 0))) hx hb (hts _ kw_X4_init_4) rfl hK hP hD hS hA (fun _ => rfl) (by decide) rfl (Nat.le_of_ble_eq_true rfl) (Nat.le_of_ble_eq_true rfl) (Nat.le_of_ble_eq_true rfl) dX4_init_23 (fun q23 cA9 H hK9 hP hD hS => ?_)
  obtain rfl := (nw_cls 0 rfl (fun _ h9 => by cases h9) hK hK9).symm
  have hP : va_P D vwCl [(h0, .inr (4, [.ref q7, .ref q15, .null, .int 0, .int 0])), (q7, .inl (cI, 80, .inl (fun _ => 0))), (q15, .inl (cI, 80, .inl (fun _ => 0))), (q23, .inl (cI, 18, .inl (fun _ => 0)))] H := hP
  have hD : va_D A [(h0, .inr (4, [.ref q7, .ref q15, .null, .int 0, .int 0])), (q7, .inl (cI, 80, .inl (fun _ => 0))), (q15, .inl (cI, 80, .inl (fun _ => 0))), (q23, .inl (cI, 18, .inl (fun _ => 0)))] := hD
  refine va_putF (D := D) (ci := 4) (v := .ref q23) (ty := .array .int) (C := RX4) (T := TX4) (N := 5) hx hb hts ku_X4_init_X4 tyX4 tyX4_ok nmX4 hown hK hP hD hS 0 rfl rfl 2 (by decide) (hts _ kw_X4_init_7) (fun _ h9 => h9) rfl hin rfl (by decide +kernel) rfl rfl (Nat.le_of_ble_eq_true rfl) dX4_init_25 (fun H locs hP hD hS => ?_)
  have hP : va_P D vwCl [(h0, .inr (4, [.ref q7, .ref q15, .ref q23, .int 0, .int 0])), (q7, .inl (cI, 80, .inl (fun _ => 0))), (q15, .inl (cI, 80, .inl (fun _ => 0))), (q23, .inl (cI, 18, .inl (fun _ => 0)))] H := hP
  have hD : va_D A [(h0, .inr (4, [.ref q7, .ref q15, .ref q23, .int 0, .int 0])), (q7, .inl (cI, 80, .inl (fun _ => 0))), (q15, .inl (cI, 80, .inl (fun _ => 0))), (q23, .inl (cI, 18, .inl (fun _ => 0)))] := hD
  refine lv_aload_n hx hb dX4_init_28 rfl (lv_at hl 0 rfl) ?_
  refine lv_iconst (v := (0 : Int32)) hx hb dX4_init_29 (by decide) ?_
  refine va_put (D := D) (ci := 4) (v := .int (0 : Int32)) (ty := .int) (C := RX4) (T := TX4) (N := 5) hx hb hts ku_X4_init_X4 tyX4 tyX4_ok nmX4 hown hK hP hD hS 0 rfl rfl 3 (by decide) (hts _ kw_X4_init_8) (fun _ h9 => h9) rfl (by decide +kernel) rfl rfl (Nat.le_of_ble_eq_true rfl) dX4_init_30 (fun H locs hP hD hS => ?_)
  have hP : va_P D vwCl [(h0, .inr (4, [.ref q7, .ref q15, .ref q23, .int (0 : Int32), .int 0])), (q7, .inl (cI, 80, .inl (fun _ => 0))), (q15, .inl (cI, 80, .inl (fun _ => 0))), (q23, .inl (cI, 18, .inl (fun _ => 0)))] H := hP
  have hD : va_D A [(h0, .inr (4, [.ref q7, .ref q15, .ref q23, .int (0 : Int32), .int 0])), (q7, .inl (cI, 80, .inl (fun _ => 0))), (q15, .inl (cI, 80, .inl (fun _ => 0))), (q23, .inl (cI, 18, .inl (fun _ => 0)))] := hD
  refine lv_aload_n hx hb dX4_init_33 rfl (lv_at hl 0 rfl) ?_
  refine lv_iconst (v := (0 : Int32)) hx hb dX4_init_34 (by decide) ?_
  refine va_put (D := D) (ci := 4) (v := .int (0 : Int32)) (ty := .int) (C := RX4) (T := TX4) (N := 5) hx hb hts ku_X4_init_X4 tyX4 tyX4_ok nmX4 hown hK hP hD hS 0 rfl rfl 4 (by decide) (hts _ kw_X4_init_9) (fun _ h9 => h9) rfl (by decide +kernel) rfl rfl (Nat.le_of_ble_eq_true rfl) dX4_init_35 (fun H locs hP hD hS => ?_)
  have hP : va_P D vwCl [(h0, .inr (4, [.ref q7, .ref q15, .ref q23, .int (0 : Int32), .int (0 : Int32)])), (q7, .inl (cI, 80, .inl (fun _ => 0))), (q15, .inl (cI, 80, .inl (fun _ => 0))), (q23, .inl (cI, 18, .inl (fun _ => 0)))] H := hP
  have hD : va_D A [(h0, .inr (4, [.ref q7, .ref q15, .ref q23, .int (0 : Int32), .int (0 : Int32)])), (q7, .inl (cI, 80, .inl (fun _ => 0))), (q15, .inl (cI, 80, .inl (fun _ => 0))), (q23, .inl (cI, 18, .inl (fun _ => 0)))] := hD
  refine W.widen (k := 3) (n := 178) (Nat.le_of_ble_eq_true rfl) (Nat.le_of_ble_eq_true rfl) ?_
  exact hret ((fun k => ([q7, q15, q23] : List Nat).getD k 0), (fun _ => 0)) _ _ _ _ dX4_init_38 hP hD hS
theorem yd_X0_init : yX0_init.cls ≠ "java/lang/invoke/MethodHandle" ∧ yX0_init.cls ≠ "java/lang/invoke/VarHandle" ∧ (parseMethodDescriptor yX0_init.desc).map (fun d => d.parameters.length) = some 0 := by decide +kernel
theorem kw_X0_init_1 : Cond.methodLink RX0 5 objectInit ∈ wsX0_init := List.mem_of_getElem? (i := 1) rfl
theorem kw_X0_init_2 : Cond.instanceMethod objectInit ∈ wsX0_init := List.mem_of_getElem? (i := 2) rfl
theorem kw_X0_init_3 : Cond.code objectInit ⟨#[0xb1]⟩ 1 none ∈ wsX0_init := List.mem_of_getElem? (i := 3) rfl
theorem kw_X0_init_4 : Cond.arrayClass .int ∈ wsX0_init := List.mem_of_getElem? (i := 4) rfl
theorem ku_X0_init_X0 : ∀ w ∈ u_ws RX0 TX0 7, w ∈ wsX0_init := by decide +kernel
theorem kw_X0_init_5 : Cond.fieldLink RX0 11 "MirrorShares$Beam" "splitPlace" "[I" ∈ wsX0_init := List.mem_of_getElem? (i := 5) rfl
theorem kw_X0_init_6 : Cond.fieldLink RX0 15 "MirrorShares$Beam" "splitNumber" "[I" ∈ wsX0_init := List.mem_of_getElem? (i := 6) rfl
theorem kw_X0_init_7 : Cond.fieldLink RX0 18 "MirrorShares$Beam" "rayEnd" "[I" ∈ wsX0_init := List.mem_of_getElem? (i := 7) rfl
theorem kw_X0_init_8 : Cond.classLink RX0 21 "[[J" ∈ wsX0_init := List.mem_of_getElem? (i := 8) rfl
theorem kw_X0_init_9 : Cond.arrayClass .long ∈ wsX0_init := List.mem_of_getElem? (i := 9) rfl
theorem kw_X0_init_10 : Cond.fieldLink RX0 23 "MirrorShares$Beam" "rows" "[[J" ∈ wsX0_init := List.mem_of_getElem? (i := 10) rfl
theorem kw_X0_init_11 : Cond.fieldLink RX0 26 "MirrorShares$Beam" "parts" "[J" ∈ wsX0_init := List.mem_of_getElem? (i := 11) rfl
theorem kw_X0_init_12 : Cond.fieldLink RX0 30 "MirrorShares$Beam" "splits" "I" ∈ wsX0_init := List.mem_of_getElem? (i := 12) rfl
theorem kw_X0_init_13 : Cond.fieldLink RX0 34 "MirrorShares$Beam" "whole" "J" ∈ wsX0_init := List.mem_of_getElem? (i := 13) rfl
set_option maxHeartbeats 4000000 in
set_option maxRecDepth 100000 in
theorem c_X0_init {l : Launch} {D : va_G} {cI cJ cZ cQ : ClassId} {qs : Nat × Nat × Nat} {h0 : Nat} : NwV l yX0_init wsX0_init { frames := 1, cells := 15, slots := 270, locals := 60 } D (ty4 cI cJ cZ cQ) qs [.ref h0] [(h0, .inr (0, [.null, .null, .null, .null, .null, .int 0, .long 0]))] 15 270 (fun u => ([(h0, .inr (0, [.ref (u.1 0), .ref (u.1 1), .ref (u.1 2), .ref (u.1 3), .ref (u.1 4), .int 0, .long 1])), ((u.1 0), .inl (cI, 10, .inl (fun _ => 0))), ((u.1 1), .inl (cI, 60, .inl (fun _ => 0))), ((u.1 2), .inl (cI, 20, .inl (fun _ => 0))), ((u.1 4), .inl (cJ, 60, .inr (.inl (fun _ => 0)))), ((u.1 3), .inl (cQ, 10, .inr (.inr (.inr (.inr (gr_o u.2))))))] ++ gr_c cJ u.2 (fun _ _ => 0))) := by
  refine NwV.of (own := RX0) (by decide +kernel) rfl rfl rfl (Nat.le_of_ble_eq_true rfl) ?_
  intro p e s m args below meth c Q A F hin hG hAO hA hP hD hS hret ls hl
  have hx := F.1
  have hb := F.2.1
  have hown := F.2.2.2.1
  have hts := F.2.2.2.2
  have hK := hG.1.1
  have hl : lv_has ls 1 [(0, .ref h0)] := hl
  refine lv_aload_n hx hb dX0_init_0 rfl (lv_at hl 0 rfl) ?_
  refine W.objInit hx hb hown (hts _ kw_X0_init_1) (hts _ kw_X0_init_2) (hts _ kw_X0_init_3) rfl (by rw [F.2.2.1]; exact hl.1) rfl dX0_init_1 (Nat.le_of_ble_eq_true rfl) (Nat.le_of_ble_eq_true rfl) ?_
  refine W.eq (g2 := F0 m 4 ls []) rfl ?_
  refine lv_aload_n hx hb dX0_init_4 rfl (lv_at hl 0 rfl) ?_
  refine lv_bipush (v := (10 : Int32)) hx hb dX0_init_5 (by decide) ?_
  refine va_newa (atype := .int) (ty := .int) (a0 := (10, .inl (fun _ => 0))) hx hb (hts _ kw_X0_init_4) rfl hK hP hD hS hA (fun _ => rfl) (by decide) rfl (Nat.le_of_ble_eq_true rfl) (Nat.le_of_ble_eq_true rfl) (Nat.le_of_ble_eq_true rfl) dX0_init_7 (fun q7 cA9 H hK9 hP hD hS => ?_)
  obtain rfl := (nw_cls 0 rfl (fun _ h9 => by cases h9) hK hK9).symm
  have hP : va_P D vwCl [(h0, .inr (0, [.null, .null, .null, .null, .null, .int 0, .long 0])), (q7, .inl (cI, 10, .inl (fun _ => 0)))] H := hP
  have hD : va_D A [(h0, .inr (0, [.null, .null, .null, .null, .null, .int 0, .long 0])), (q7, .inl (cI, 10, .inl (fun _ => 0)))] := hD
  refine va_putF (D := D) (ci := 0) (v := .ref q7) (ty := .array .int) (C := RX0) (T := TX0) (N := 7) hx hb hts ku_X0_init_X0 tyX0 tyX0_ok nmX0 hown hK hP hD hS 0 rfl rfl 0 (by decide) (hts _ kw_X0_init_5) (fun _ h9 => h9) rfl hin rfl (by decide +kernel) rfl rfl (Nat.le_of_ble_eq_true rfl) dX0_init_9 (fun H locs hP hD hS => ?_)
  have hP : va_P D vwCl [(h0, .inr (0, [.ref q7, .null, .null, .null, .null, .int 0, .long 0])), (q7, .inl (cI, 10, .inl (fun _ => 0)))] H := hP
  have hD : va_D A [(h0, .inr (0, [.ref q7, .null, .null, .null, .null, .int 0, .long 0])), (q7, .inl (cI, 10, .inl (fun _ => 0)))] := hD
  refine lv_aload_n hx hb dX0_init_12 rfl (lv_at hl 0 rfl) ?_
  refine lv_bipush (v := (60 : Int32)) hx hb dX0_init_13 (by decide) ?_
  refine va_newa (atype := .int) (ty := .int) (a0 := (60, .inl (fun _ => 0))) hx hb (hts _ kw_X0_init_4) rfl hK hP hD hS hA (fun _ => rfl) (by decide) rfl (Nat.le_of_ble_eq_true rfl) (Nat.le_of_ble_eq_true rfl) (Nat.le_of_ble_eq_true rfl) dX0_init_15 (fun q15 cA9 H hK9 hP hD hS => ?_)
  obtain rfl := (nw_cls 0 rfl (fun _ h9 => by cases h9) hK hK9).symm
  have hP : va_P D vwCl [(h0, .inr (0, [.ref q7, .null, .null, .null, .null, .int 0, .long 0])), (q7, .inl (cI, 10, .inl (fun _ => 0))), (q15, .inl (cI, 60, .inl (fun _ => 0)))] H := hP
  have hD : va_D A [(h0, .inr (0, [.ref q7, .null, .null, .null, .null, .int 0, .long 0])), (q7, .inl (cI, 10, .inl (fun _ => 0))), (q15, .inl (cI, 60, .inl (fun _ => 0)))] := hD
  refine va_putF (D := D) (ci := 0) (v := .ref q15) (ty := .array .int) (C := RX0) (T := TX0) (N := 7) hx hb hts ku_X0_init_X0 tyX0 tyX0_ok nmX0 hown hK hP hD hS 0 rfl rfl 1 (by decide) (hts _ kw_X0_init_6) (fun _ h9 => h9) rfl hin rfl (by decide +kernel) rfl rfl (Nat.le_of_ble_eq_true rfl) dX0_init_17 (fun H locs hP hD hS => ?_)
  have hP : va_P D vwCl [(h0, .inr (0, [.ref q7, .ref q15, .null, .null, .null, .int 0, .long 0])), (q7, .inl (cI, 10, .inl (fun _ => 0))), (q15, .inl (cI, 60, .inl (fun _ => 0)))] H := hP
  have hD : va_D A [(h0, .inr (0, [.ref q7, .ref q15, .null, .null, .null, .int 0, .long 0])), (q7, .inl (cI, 10, .inl (fun _ => 0))), (q15, .inl (cI, 60, .inl (fun _ => 0)))] := hD
  refine lv_aload_n hx hb dX0_init_20 rfl (lv_at hl 0 rfl) ?_
  refine lv_bipush (v := (20 : Int32)) hx hb dX0_init_21 (by decide) ?_
  refine va_newa (atype := .int) (ty := .int) (a0 := (20, .inl (fun _ => 0))) hx hb (hts _ kw_X0_init_4) rfl hK hP hD hS hA (fun _ => rfl) (by decide) rfl (Nat.le_of_ble_eq_true rfl) (Nat.le_of_ble_eq_true rfl) (Nat.le_of_ble_eq_true rfl) dX0_init_23 (fun q23 cA9 H hK9 hP hD hS => ?_)
  obtain rfl := (nw_cls 0 rfl (fun _ h9 => by cases h9) hK hK9).symm
  have hP : va_P D vwCl [(h0, .inr (0, [.ref q7, .ref q15, .null, .null, .null, .int 0, .long 0])), (q7, .inl (cI, 10, .inl (fun _ => 0))), (q15, .inl (cI, 60, .inl (fun _ => 0))), (q23, .inl (cI, 20, .inl (fun _ => 0)))] H := hP
  have hD : va_D A [(h0, .inr (0, [.ref q7, .ref q15, .null, .null, .null, .int 0, .long 0])), (q7, .inl (cI, 10, .inl (fun _ => 0))), (q15, .inl (cI, 60, .inl (fun _ => 0))), (q23, .inl (cI, 20, .inl (fun _ => 0)))] := hD
  refine va_putF (D := D) (ci := 0) (v := .ref q23) (ty := .array .int) (C := RX0) (T := TX0) (N := 7) hx hb hts ku_X0_init_X0 tyX0 tyX0_ok nmX0 hown hK hP hD hS 0 rfl rfl 2 (by decide) (hts _ kw_X0_init_7) (fun _ h9 => h9) rfl hin rfl (by decide +kernel) rfl rfl (Nat.le_of_ble_eq_true rfl) dX0_init_25 (fun H locs hP hD hS => ?_)
  have hP : va_P D vwCl [(h0, .inr (0, [.ref q7, .ref q15, .ref q23, .null, .null, .int 0, .long 0])), (q7, .inl (cI, 10, .inl (fun _ => 0))), (q15, .inl (cI, 60, .inl (fun _ => 0))), (q23, .inl (cI, 20, .inl (fun _ => 0)))] H := hP
  have hD : va_D A [(h0, .inr (0, [.ref q7, .ref q15, .ref q23, .null, .null, .int 0, .long 0])), (q7, .inl (cI, 10, .inl (fun _ => 0))), (q15, .inl (cI, 60, .inl (fun _ => 0))), (q23, .inl (cI, 20, .inl (fun _ => 0)))] := hD
  refine lv_aload_n hx hb dX0_init_28 rfl (lv_at hl 0 rfl) ?_
  refine lv_bipush (v := (10 : Int32)) hx hb dX0_init_29 (by decide) ?_
  refine lv_bipush (v := (11 : Int32)) hx hb dX0_init_31 (by decide) ?_
  refine va_mna (X := [(h0, .inr (0, [.ref q7, .ref q15, .ref q23, .null, .null, .int 0, .long 0])), (q7, .inl (cI, 10, .inl (fun _ => 0))), (q15, .inl (cI, 60, .inl (fun _ => 0))), (q23, .inl (cI, 20, .inl (fun _ => 0)))]) (L := []) (f := fun _ => .inr (0, [])) (N' := 10) (K' := 11) (z := (11, .inr (.inl (fun _ => 0)))) (ty := .long) (cy := cJ) hx hb hown (hts _ kw_X0_init_8) hAO (hts _ kw_X0_init_9) (nw_cJ hK) hK hP hD hS hA (by decide) (by decide) rfl rfl (Nat.le_of_ble_eq_true rfl) (Nat.le_of_ble_eq_true rfl) (Nat.le_of_ble_eq_true rfl) rfl rfl (Nat.le_of_ble_eq_true rfl) (Nat.le_of_ble_eq_true rfl) (fun c9 => arrV_new c9 11 _) dX0_init_33 (fun q33 r cA9 H hr1 hr2 hK9 hP hD hS => ?_)
  obtain rfl := (nw_cls 3 rfl (fun _ h9 => by cases h9) hK hK9).symm
  rw [nw_pl, nw_go] at hP hD
  have hP : va_P D vwCl ([(h0, .inr (0, [.ref q7, .ref q15, .ref q23, .null, .null, .int 0, .long 0])), (q7, .inl (cI, 10, .inl (fun _ => 0))), (q15, .inl (cI, 60, .inl (fun _ => 0))), (q23, .inl (cI, 20, .inl (fun _ => 0))), (q33, .inl (cQ, 10, .inr (.inr (.inr (.inr (gr_o r))))))] ++ gr_c cJ r (fun _ _ => 0)) H := hP
  have hD : va_D A ([(h0, .inr (0, [.ref q7, .ref q15, .ref q23, .null, .null, .int 0, .long 0])), (q7, .inl (cI, 10, .inl (fun _ => 0))), (q15, .inl (cI, 60, .inl (fun _ => 0))), (q23, .inl (cI, 20, .inl (fun _ => 0))), (q33, .inl (cQ, 10, .inr (.inr (.inr (.inr (gr_o r))))))] ++ gr_c cJ r (fun _ _ => 0)) := hD
  refine va_putF (D := D) (ci := 0) (v := .ref q33) (ty := .array (.array .long)) (C := RX0) (T := TX0) (N := 7) hx hb hts ku_X0_init_X0 tyX0 tyX0_ok nmX0 hown hK hP hD hS 0 rfl rfl 3 (by decide) (hts _ kw_X0_init_10) (fun _ h9 => h9) rfl hin rfl (by decide +kernel) rfl rfl (Nat.le_of_ble_eq_true rfl) dX0_init_37 (fun H locs hP hD hS => ?_)
  have hP : va_P D vwCl ([(h0, .inr (0, [.ref q7, .ref q15, .ref q23, .ref q33, .null, .int 0, .long 0])), (q7, .inl (cI, 10, .inl (fun _ => 0))), (q15, .inl (cI, 60, .inl (fun _ => 0))), (q23, .inl (cI, 20, .inl (fun _ => 0))), (q33, .inl (cQ, 10, .inr (.inr (.inr (.inr (gr_o r))))))] ++ gr_c cJ r (fun _ _ => 0)) H := hP
  have hD : va_D A ([(h0, .inr (0, [.ref q7, .ref q15, .ref q23, .ref q33, .null, .int 0, .long 0])), (q7, .inl (cI, 10, .inl (fun _ => 0))), (q15, .inl (cI, 60, .inl (fun _ => 0))), (q23, .inl (cI, 20, .inl (fun _ => 0))), (q33, .inl (cQ, 10, .inr (.inr (.inr (.inr (gr_o r))))))] ++ gr_c cJ r (fun _ _ => 0)) := hD
  refine lv_aload_n hx hb dX0_init_40 rfl (lv_at hl 0 rfl) ?_
  refine lv_bipush (v := (60 : Int32)) hx hb dX0_init_41 (by decide) ?_
  refine va_newa (atype := .long) (ty := .long) (a0 := (60, .inr (.inl (fun _ => 0)))) hx hb (hts _ kw_X0_init_9) rfl hK hP hD hS hA (fun _ => rfl) (by decide) rfl (Nat.le_of_ble_eq_true rfl) (Nat.le_of_ble_eq_true rfl) (Nat.le_of_ble_eq_true rfl) dX0_init_43 (fun q43 cA9 H hK9 hP hD hS => ?_)
  obtain rfl := (nw_cls 1 rfl (fun _ h9 => by cases h9) hK hK9).symm
  have hP : va_P D vwCl (([(h0, .inr (0, [.ref q7, .ref q15, .ref q23, .ref q33, .null, .int 0, .long 0])), (q7, .inl (cI, 10, .inl (fun _ => 0))), (q15, .inl (cI, 60, .inl (fun _ => 0))), (q23, .inl (cI, 20, .inl (fun _ => 0))), (q33, .inl (cQ, 10, .inr (.inr (.inr (.inr (gr_o r))))))] ++ gr_c cJ r (fun _ _ => 0)) ++ [(q43, .inl (cJ, 60, .inr (.inl (fun _ => 0))))]) H := hP
  have hD : va_D A (([(h0, .inr (0, [.ref q7, .ref q15, .ref q23, .ref q33, .null, .int 0, .long 0])), (q7, .inl (cI, 10, .inl (fun _ => 0))), (q15, .inl (cI, 60, .inl (fun _ => 0))), (q23, .inl (cI, 20, .inl (fun _ => 0))), (q33, .inl (cQ, 10, .inr (.inr (.inr (.inr (gr_o r))))))] ++ gr_c cJ r (fun _ _ => 0)) ++ [(q43, .inl (cJ, 60, .inr (.inl (fun _ => 0))))]) := hD
  refine va_putF (D := D) (ci := 0) (v := .ref q43) (ty := .array .long) (C := RX0) (T := TX0) (N := 7) hx hb hts ku_X0_init_X0 tyX0 tyX0_ok nmX0 hown hK hP hD hS 0 rfl rfl 4 (by decide) (hts _ kw_X0_init_11) (fun _ h9 => h9) rfl hin rfl (by decide +kernel) rfl rfl (Nat.le_of_ble_eq_true rfl) dX0_init_45 (fun H locs hP hD hS => ?_)
  have hP : va_P D vwCl (([(h0, .inr (0, [.ref q7, .ref q15, .ref q23, .ref q33, .ref q43, .int 0, .long 0])), (q7, .inl (cI, 10, .inl (fun _ => 0))), (q15, .inl (cI, 60, .inl (fun _ => 0))), (q23, .inl (cI, 20, .inl (fun _ => 0))), (q33, .inl (cQ, 10, .inr (.inr (.inr (.inr (gr_o r))))))] ++ gr_c cJ r (fun _ _ => 0)) ++ [(q43, .inl (cJ, 60, .inr (.inl (fun _ => 0))))]) H := hP
  have hD : va_D A (([(h0, .inr (0, [.ref q7, .ref q15, .ref q23, .ref q33, .ref q43, .int 0, .long 0])), (q7, .inl (cI, 10, .inl (fun _ => 0))), (q15, .inl (cI, 60, .inl (fun _ => 0))), (q23, .inl (cI, 20, .inl (fun _ => 0))), (q33, .inl (cQ, 10, .inr (.inr (.inr (.inr (gr_o r))))))] ++ gr_c cJ r (fun _ _ => 0)) ++ [(q43, .inl (cJ, 60, .inr (.inl (fun _ => 0))))]) := hD
  refine lv_aload_n hx hb dX0_init_48 rfl (lv_at hl 0 rfl) ?_
  refine lv_iconst (v := (0 : Int32)) hx hb dX0_init_49 (by decide) ?_
  refine va_put (D := D) (ci := 0) (v := .int (0 : Int32)) (ty := .int) (C := RX0) (T := TX0) (N := 7) hx hb hts ku_X0_init_X0 tyX0 tyX0_ok nmX0 hown hK hP hD hS 0 rfl rfl 5 (by decide) (hts _ kw_X0_init_12) (fun _ h9 => h9) rfl (by decide +kernel) rfl rfl (Nat.le_of_ble_eq_true rfl) dX0_init_50 (fun H locs hP hD hS => ?_)
  have hP : va_P D vwCl (([(h0, .inr (0, [.ref q7, .ref q15, .ref q23, .ref q33, .ref q43, .int (0 : Int32), .long 0])), (q7, .inl (cI, 10, .inl (fun _ => 0))), (q15, .inl (cI, 60, .inl (fun _ => 0))), (q23, .inl (cI, 20, .inl (fun _ => 0))), (q33, .inl (cQ, 10, .inr (.inr (.inr (.inr (gr_o r))))))] ++ gr_c cJ r (fun _ _ => 0)) ++ [(q43, .inl (cJ, 60, .inr (.inl (fun _ => 0))))]) H := hP
  have hD : va_D A (([(h0, .inr (0, [.ref q7, .ref q15, .ref q23, .ref q33, .ref q43, .int (0 : Int32), .long 0])), (q7, .inl (cI, 10, .inl (fun _ => 0))), (q15, .inl (cI, 60, .inl (fun _ => 0))), (q23, .inl (cI, 20, .inl (fun _ => 0))), (q33, .inl (cQ, 10, .inr (.inr (.inr (.inr (gr_o r))))))] ++ gr_c cJ r (fun _ _ => 0)) ++ [(q43, .inl (cJ, 60, .inr (.inl (fun _ => 0))))]) := hD
  refine lv_aload_n hx hb dX0_init_53 rfl (lv_at hl 0 rfl) ?_
  refine lv_lconst (v := 1) hx hb dX0_init_54 (by decide) ?_
  refine va_put (D := D) (ci := 0) (v := .long (1 : Int64)) (ty := .long) (C := RX0) (T := TX0) (N := 7) hx hb hts ku_X0_init_X0 tyX0 tyX0_ok nmX0 hown hK hP hD hS 0 rfl rfl 6 (by decide) (hts _ kw_X0_init_13) (fun _ h9 => h9) rfl (by decide +kernel) rfl rfl (Nat.le_of_ble_eq_true rfl) dX0_init_55 (fun H locs hP hD hS => ?_)
  have hP : va_P D vwCl (([(h0, .inr (0, [.ref q7, .ref q15, .ref q23, .ref q33, .ref q43, .int (0 : Int32), .long (1 : Int64)])), (q7, .inl (cI, 10, .inl (fun _ => 0))), (q15, .inl (cI, 60, .inl (fun _ => 0))), (q23, .inl (cI, 20, .inl (fun _ => 0))), (q33, .inl (cQ, 10, .inr (.inr (.inr (.inr (gr_o r))))))] ++ gr_c cJ r (fun _ _ => 0)) ++ [(q43, .inl (cJ, 60, .inr (.inl (fun _ => 0))))]) H := hP
  have hD : va_D A (([(h0, .inr (0, [.ref q7, .ref q15, .ref q23, .ref q33, .ref q43, .int (0 : Int32), .long (1 : Int64)])), (q7, .inl (cI, 10, .inl (fun _ => 0))), (q15, .inl (cI, 60, .inl (fun _ => 0))), (q23, .inl (cI, 20, .inl (fun _ => 0))), (q33, .inl (cQ, 10, .inr (.inr (.inr (.inr (gr_o r))))))] ++ gr_c cJ r (fun _ _ => 0)) ++ [(q43, .inl (cJ, 60, .inr (.inl (fun _ => 0))))]) := hD
  have hP := kP_sub (w0 := ([(h0, .inr (0, [.ref q7, .ref q15, .ref q23, .ref q33, .ref q43, .int 0, .long 1])), (q7, .inl (cI, 10, .inl (fun _ => 0))), (q15, .inl (cI, 60, .inl (fun _ => 0))), (q23, .inl (cI, 20, .inl (fun _ => 0))), (q43, .inl (cJ, 60, .inr (.inl (fun _ => 0)))), (q33, .inl (cQ, 10, .inr (.inr (.inr (.inr (gr_o r))))))] ++ gr_c cJ r (fun _ _ => 0))) hP [0, 1, 2, 3, 15, 4, 5, 6, 7, 8, 9, 10, 11, 12, 13, 14] rfl
  have hD := hD.sub (ws' := ([(h0, .inr (0, [.ref q7, .ref q15, .ref q23, .ref q33, .ref q43, .int 0, .long 1])), (q7, .inl (cI, 10, .inl (fun _ => 0))), (q15, .inl (cI, 60, .inl (fun _ => 0))), (q23, .inl (cI, 20, .inl (fun _ => 0))), (q43, .inl (cJ, 60, .inr (.inl (fun _ => 0)))), (q33, .inl (cQ, 10, .inr (.inr (.inr (.inr (gr_o r))))))] ++ gr_c cJ r (fun _ _ => 0))) [0, 1, 2, 3, 15, 4, 5, 6, 7, 8, 9, 10, 11, 12, 13, 14] (by decide) rfl
  refine W.widen (k := 15) (n := 270) (Nat.le_of_ble_eq_true rfl) (Nat.le_of_ble_eq_true rfl) ?_
  exact hret ((fun k => ([q7, q15, q23, q33, q43] : List Nat).getD k 0), r) _ _ _ _ dX0_init_58 hP hD hS
